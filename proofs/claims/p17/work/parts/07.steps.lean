section
def sr_c (T : Nat → Nat) (j g : Nat) : Nat := pu_cn (fun i => T i == j) g
theorem sr_c_t {T : Nat → Nat} {j g : Nat} (h : T g = j) : sr_c T j (g + 1) = sr_c T j g + 1 := pu_cn_t (p := fun i => T i == j) (by simp [h])
theorem sr_c_f {T : Nat → Nat} {j g : Nat} (h : T g ≠ j) : sr_c T j (g + 1) = sr_c T j g := pu_cn_f (p := fun i => T i == j) (by simp [h])
theorem sr_c_le (T : Nat → Nat) (j g : Nat) : sr_c T j g ≤ g := pu_cn_le _ g
theorem sr_c_cg {T T' : Nat → Nat} {j g : Nat} (h : ∀ i, i < g → T i = T' i) : sr_c T j g = sr_c T' j g := by
  refine pu_cn_cg g (fun i hi => ?_)
  show (T i == j) = (T' i == j)
  rw [h i hi]
theorem sr_c_up (T : Nat → Nat) (j : Nat) {a b : Nat} (h : a ≤ b) : sr_c T j a ≤ sr_c T j b := pu_cn_up _ h
theorem sr_c_lt {T : Nat → Nat} {j g n : Nat} (h : g < n) (e : T g = j) : sr_c T j g < sr_c T j n := pu_cn_lt2 (p := fun i => T i == j) h (by simp [e])
theorem sr_c_ex {T : Nat → Nat} {j n k : Nat} (h : k < sr_c T j n) : ∃ g, g < n ∧ T g = j ∧ sr_c T j g = k := by
  obtain ⟨g, h1, h2, h3⟩ := pu_cn_ex (p := fun i => T i == j) n k h
  exact ⟨g, h1, by simpa using h2, h3⟩
theorem sr_sum {T : Nat → Nat} : ∀ g, (∀ i, i < g → T i < 3) → sr_c T 0 g + sr_c T 1 g + sr_c T 2 g = g := by
  intro g
  induction g with
  | zero => intro _; rfl
  | succ g ih =>
    intro h
    have h1 := ih (fun i hi => h i (by omega))
    have h2 := h g (by omega)
    rcases sk_3 h2 with e | e | e
    · rw [sr_c_t e, sr_c_f (by omega), sr_c_f (by omega)]; omega
    · rw [sr_c_t e, sr_c_f (j := 0) (by omega), sr_c_f (j := 2) (by omega)]; omega
    · rw [sr_c_t e, sr_c_f (j := 0) (by omega), sr_c_f (j := 1) (by omega)]; omega
def sr_I (n : Nat) (T S R : Nat → Nat) (ns : Nat) (xc xt xs : Nat → Nat) : Prop :=
  ns ≤ 6 ∧
  (∀ g, g < ns → T g < 3 ∧ S g ≤ 1 ∧ R g < n ∧ xt (T g * 6 + sr_c T (T g) g) = R g ∧ xs (T g * 6 + sr_c T (T g) g) = S g) ∧
  (∀ j, j < 3 → xc j = sr_c T j ns)
theorem sr_0 (n : Nat) (T S R xt xs : Nat → Nat) : sr_I n T S R 0 gw_0 xt xs := ⟨by omega, fun g h => by omega, fun j h => rfl⟩
theorem sr_up {n n' : Nat} {T S R : Nat → Nat} {ns : Nat} {xc xt xs : Nat → Nat} (h : n ≤ n') (I : sr_I n T S R ns xc xt xs) : sr_I n' T S R ns xc xt xs := by
  refine ⟨I.1, fun g hg => ?_, I.2.2⟩
  obtain ⟨h1, h2, h3, h4⟩ := I.2.1 g hg
  exact ⟨h1, h2, by omega, h4⟩
theorem sr_add {n : Nat} {T S R : Nat → Nat} {ns : Nat} {xc xt xs : Nat → Nat} (I : sr_I n T S R ns xc xt xs) (hs : ns < 6) {j s r : Nat} (hj : j < 3) (h1 : s ≤ 1) (hr : r < n) :
    sr_I n (pu_upd T ns j) (pu_upd S ns s) (pu_upd R ns r) (ns + 1) (pu_upd xc j (xc j + 1)) (pu_upd xt (j * 6 + xc j) r) (pu_upd xs (j * 6 + xc j) s) := by
  have cg : ∀ i g, g ≤ ns → sr_c (pu_upd T ns j) i g = sr_c T i g := fun i g hg => sr_c_cg (fun a ha => pu_un (by omega))
  have ec := I.2.2 j hj
  refine ⟨by omega, fun g hg => ?_, fun i hi => ?_⟩
  · by_cases e : g = ns
    · subst e
      rw [pu_us, pu_us, pu_us, cg j g (Nat.le_refl g), ← ec, pu_us, pu_us]
      exact ⟨hj, h1, hr, rfl, rfl⟩
    · have hg' : g < ns := by omega
      obtain ⟨a1, a2, a3, a4, a5⟩ := I.2.1 g hg'
      rw [pu_un e, pu_un e, pu_un e, cg _ g (by omega)]
      have ne : T g * 6 + sr_c T (T g) g ≠ j * 6 + xc j := by
        have l1 := sr_c_le T (T g) g
        have l2 := sr_c_le T j ns
        by_cases q : T g = j
        · have l3 := sr_c_lt hg' q
          rw [q]; omega
        · rw [ec]; omega
      rw [pu_un ne, pu_un ne]
      exact ⟨a1, a2, a3, a4, a5⟩
  · by_cases q : i = j
    · subst q
      rw [pu_us, sr_c_t pu_us, cg i ns (Nat.le_refl ns), ← ec]
    · rw [pu_un q, sr_c_f (by rw [pu_us]; omega), cg i ns (Nat.le_refl ns)]
      exact I.2.2 i hi
theorem sr_find {n : Nat} {T S R : Nat → Nat} {ns : Nat} {xc xt xs : Nat → Nat} (I : sr_I n T S R ns xc xt xs) {j k : Nat} (hj : j < 3) (hk : k < xc j) : ∃ g, g < ns ∧ T g = j ∧ sr_c T j g = k ∧ R g = xt (j * 6 + k) ∧ S g = xs (j * 6 + k) ∧ S g ≤ 1 ∧ R g < n := by
  rw [I.2.2 j hj] at hk
  obtain ⟨g, h1, h2, h3⟩ := sr_c_ex hk
  obtain ⟨a1, a2, a3, a4, a5⟩ := I.2.1 g h1
  rw [h2, h3] at a4 a5
  exact ⟨g, h1, h2, h3, a4.symm, a5.symm, a2, a3⟩
theorem sr_tot {n : Nat} {T S R : Nat → Nat} {ns : Nat} {xc xt xs : Nat → Nat} (I : sr_I n T S R ns xc xt xs) : xc 0 + xc 1 + xc 2 = ns := by
  rw [I.2.2 0 (by omega), I.2.2 1 (by omega), I.2.2 2 (by omega)]
  exact sr_sum ns (fun i hi => (I.2.1 i hi).1)
def sr_K (kl : Nat → Nat) (nk : Nat) (xt xs : Nat → Nat) (p u : Nat) : Prop :=
  (∃ i, i < nk ∧ kl i = u) ∨ ∃ j k, j < 3 ∧ k < sk_dg p j ∧ xs (j * 6 + k) = 1 ∧ xt (j * 6 + k) = u
theorem sr_K0 {kl : Nat → Nat} {nk : Nat} {xt xs : Nat → Nat} {u : Nat} : sr_K kl nk xt xs 0 u ↔ ∃ i, i < nk ∧ kl i = u := by
  constructor
  · intro h
    rcases h with h | ⟨j, k, h1, h2, _⟩
    · exact h
    · rcases sk_3 h1 with e | e | e
      · subst e; rw [sk_dg0] at h2; omega
      · subst e; rw [sk_dg1] at h2; omega
      · subst e; rw [sk_dg2] at h2; omega
  · intro h; exact Or.inl h
theorem sr_Ks {kl : Nat → Nat} {nk : Nat} {xt xs : Nat → Nat} {p j u : Nat} (hj : j < 3) (h6 : sk_dg p j < 6) : sr_K kl nk xt xs (p + sk_w j) u ↔ sr_K kl nk xt xs p u ∨ (xs (j * 6 + sk_dg p j) = 1 ∧ xt (j * 6 + sk_dg p j) = u) := by
  constructor
  · intro h
    rcases h with h | ⟨i, k, h1, h2, h3, h4⟩
    · exact Or.inl (Or.inl h)
    · by_cases e : i = j
      · subst e
        rw [sk_up_s h1 h6] at h2
        by_cases q : k = sk_dg p i
        · subst q; exact Or.inr ⟨h3, h4⟩
        · exact Or.inl (Or.inr ⟨i, k, h1, by omega, h3, h4⟩)
      · rw [sk_up_o hj h1 e h6] at h2
        exact Or.inl (Or.inr ⟨i, k, h1, h2, h3, h4⟩)
  · intro h
    rcases h with (h | ⟨i, k, h1, h2, h3, h4⟩) | ⟨h3, h4⟩
    · exact Or.inl h
    · refine Or.inr ⟨i, k, h1, ?_, h3, h4⟩
      by_cases e : i = j
      · subst e; rw [sk_up_s h1 h6]; omega
      · rw [sk_up_o hj h1 e h6]; exact h2
    · exact Or.inr ⟨j, sk_dg p j, hj, by rw [sk_up_s hj h6]; omega, h3, h4⟩
end
