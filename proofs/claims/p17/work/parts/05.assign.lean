section
theorem as_dm {c d q : Nat} (h : d < c) : (d + q * c) / c = q ∧ (d + q * c) % c = d := by
  have hc : 0 < c := by omega
  refine ⟨?_, ?_⟩
  · rw [Nat.add_mul_div_right d q hc, Nat.div_eq_of_lt h]; omega
  · rw [Nat.add_mul_mod_self_right, Nat.mod_eq_of_lt h]
def as_V (c0 c1 c2 x : Nat) : Prop := x < 512 ∧ x / 64 < c0 ∧ x / 8 % 8 < c1 ∧ x % 8 < c2
def as_f (c1 c2 e : Nat) : Nat := e / c2 / c1 * 64 + e / c2 % c1 * 8 + e % c2
theorem as_pos {c0 c1 c2 e : Nat} (h : e < c0 * c1 * c2) : 0 < c1 ∧ 0 < c2 := by
  refine ⟨?_, ?_⟩
  · rcases Nat.eq_zero_or_pos c1 with z | z
    · rw [z, Nat.mul_zero, Nat.zero_mul] at h; omega
    · exact z
  · rcases Nat.eq_zero_or_pos c2 with z | z
    · rw [z, Nat.mul_zero] at h; omega
    · exact z
theorem as_dig {c0 c1 c2 e : Nat} (h : e < c0 * c1 * c2) : e / c2 / c1 < c0 ∧ e / c2 % c1 < c1 ∧ e % c2 < c2 := by
  obtain ⟨p1, p2⟩ := as_pos h
  have h1 : e / c2 < c0 * c1 := Nat.div_lt_of_lt_mul (by rw [Nat.mul_comm]; exact h)
  have h2 : e / c2 / c1 < c0 := Nat.div_lt_of_lt_mul (by rw [Nat.mul_comm]; exact h1)
  exact ⟨h2, Nat.mod_lt _ p1, Nat.mod_lt _ p2⟩
theorem as_f_dig {c0 c1 c2 e : Nat} (h0 : c0 ≤ 8) (h1 : c1 ≤ 8) (h2 : c2 ≤ 8) (h : e < c0 * c1 * c2) : as_f c1 c2 e / 64 = e / c2 / c1 ∧ as_f c1 c2 e / 8 % 8 = e / c2 % c1 ∧ as_f c1 c2 e % 8 = e % c2 ∧ as_f c1 c2 e < 512 := by
  obtain ⟨d0, d1, d2⟩ := as_dig h
  unfold as_f
  generalize e / c2 / c1 = x at d0 ⊢
  generalize e / c2 % c1 = y at d1 ⊢
  generalize e % c2 = z at d2 ⊢
  refine ⟨?_, ?_, ?_, ?_⟩
  · omega
  · omega
  · omega
  · omega
theorem as_f_V {c0 c1 c2 e : Nat} (h0 : c0 ≤ 8) (h1 : c1 ≤ 8) (h2 : c2 ≤ 8) (h : e < c0 * c1 * c2) : as_V c0 c1 c2 (as_f c1 c2 e) := by
  obtain ⟨d0, d1, d2⟩ := as_dig h
  obtain ⟨f0, f1, f2, f3⟩ := as_f_dig h0 h1 h2 h
  exact ⟨f3, by rw [f0]; exact d0, by rw [f1]; exact d1, by rw [f2]; exact d2⟩
theorem as_f_mono {c0 c1 c2 e e' : Nat} (h1 : c1 ≤ 8) (h2 : c2 ≤ 8) (h : e < c0 * c1 * c2) (l : e' < e) : as_f c1 c2 e' < as_f c1 c2 e := by
  obtain ⟨d0, d1, d2⟩ := as_dig h
  obtain ⟨d0', d1', d2'⟩ := as_dig (Nat.lt_trans l h)
  have q2 : e' / c2 ≤ e / c2 := Nat.div_le_div_right (Nat.le_of_lt l)
  have q1 : e' / c2 / c1 ≤ e / c2 / c1 := Nat.div_le_div_right q2
  have m1 := Nat.div_add_mod (e / c2) c1
  have m1' := Nat.div_add_mod (e' / c2) c1
  have m2 := Nat.div_add_mod e c2
  have m2' := Nat.div_add_mod e' c2
  unfold as_f
  by_cases a : e' / c2 / c1 = e / c2 / c1
  · rw [a] at m1'
    by_cases b : e' / c2 % c1 = e / c2 % c1
    · have r : e' / c2 = e / c2 := by omega
      rw [r] at m2'
      rw [a, b]
      omega
    · rw [a]
      omega
  · omega
theorem as_f_sur {c0 c1 c2 x : Nat} (v : as_V c0 c1 c2 x) : ∃ e, e < c0 * c1 * c2 ∧ as_f c1 c2 e = x := by
  obtain ⟨v0, v1, v2, v3⟩ := v
  refine ⟨x % 8 + (x / 8 % 8 + x / 64 * c1) * c2, ?_, ?_⟩
  · have h1 : (x / 64 + 1) * c1 ≤ c0 * c1 := Nat.mul_le_mul_right c1 v1
    rw [Nat.add_mul, Nat.one_mul] at h1
    have h2 : (x / 8 % 8 + x / 64 * c1 + 1) * c2 ≤ c0 * c1 * c2 := Nat.mul_le_mul_right c2 (by omega)
    rw [Nat.add_mul (x / 8 % 8 + x / 64 * c1) 1 c2, Nat.one_mul] at h2
    omega
  · obtain ⟨a1, a2⟩ := as_dm (q := x / 8 % 8 + x / 64 * c1) v3
    obtain ⟨b1, b2⟩ := as_dm (q := x / 64) v2
    unfold as_f
    rw [a1, a2, b1, b2]
    omega
variable (At : Nat → Nat → Prop)
def as_I (P : Nat → Prop) (B a : Nat) : Prop :=
  (B = 10000 ∧ ∀ x, P x → ∀ k, ¬ At x k) ∨
  (B < 10000 ∧ P a ∧ At a B ∧ ∀ x, P x → ∀ k, At x k → B < k ∨ (B = k ∧ a ≤ x))
def as_S (c B B' : Nat) : Prop :=
  (B' = B ∧ ∀ k, At c k → B ≤ k) ∨ (At c B' ∧ B' < B ∧ ∀ k, At c k → B' ≤ k)
variable {At}
theorem as_0 {P : Nat → Prop} (h : ∀ x, ¬ P x) (a : Nat) : as_I At P 10000 a := Or.inl ⟨rfl, fun x hx => absurd hx (h x)⟩
theorem as_cg {P P' : Nat → Prop} (h : ∀ x, P x ↔ P' x) {B a : Nat} (i : as_I At P B a) : as_I At P' B a := by
  rcases i with ⟨e, f⟩ | ⟨e, p, t, f⟩
  · exact Or.inl ⟨e, fun x hx => f x ((h x).mpr hx)⟩
  · exact Or.inr ⟨e, (h a).mp p, t, fun x hx => f x ((h x).mpr hx)⟩
theorem as_step {P P' : Nat → Prop} {c B B' a a' : Nat} (hk : ∀ k, At c k → k < 10000) (i : as_I At P B a) (lt : ∀ x, P x → x < c) (hP : ∀ x, P' x ↔ P x ∨ x = c) (s : as_S At c B B') (e1 : B' = B → a' = a) (e2 : B' < B → a' = c) : as_I At P' B' a' := by
  rcases s with ⟨eB, f⟩ | ⟨t, l, f⟩
  · subst eB
    have ea := e1 rfl
    subst ea
    rcases i with ⟨e, g⟩ | ⟨e, p, t, g⟩
    · refine Or.inl ⟨e, fun x hx k w => ?_⟩
      rcases (hP x).mp hx with q | q
      · exact g x q k w
      · subst q
        have h1 := hk k w
        have h2 := f k w
        omega
    · refine Or.inr ⟨e, (hP _).mpr (Or.inl p), t, fun x hx k w => ?_⟩
      rcases (hP x).mp hx with q | q
      · exact g x q k w
      · subst q
        have h2 := f k w
        have h3 := lt _ p
        omega
  · have ea := e2 l
    subst ea
    refine Or.inr ⟨hk _ t, (hP _).mpr (Or.inr rfl), t, fun x hx k w => ?_⟩
    rcases (hP x).mp hx with q | q
    · rcases i with ⟨e, g⟩ | ⟨e, p, t', g⟩
      · exact absurd w (g x q k)
      · have h2 := g x q k w
        omega
    · subst q
      have h2 := f k w
      omega
theorem as_un {P : Nat → Prop} {B B' a a' : Nat} (i : as_I At P B a) (i' : as_I At P B' a') : B = B' ∧ (B < 10000 → a = a') := by
  rcases i with ⟨e, f⟩ | ⟨e, p, t, f⟩
  · rcases i' with ⟨e', f'⟩ | ⟨e', p', t', f'⟩
    · exact ⟨by omega, fun h => by omega⟩
    · exact absurd t' (f _ p' _)
  · rcases i' with ⟨e', f'⟩ | ⟨e', p', t', f'⟩
    · exact absurd t (f' _ p _)
    · have h1 := f _ p' _ t'
      have h2 := f' _ p _ t
      exact ⟨by omega, fun _ => by omega⟩
end
