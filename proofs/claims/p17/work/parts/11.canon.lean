section
variable {kd fs sc sz gr : Nat → Nat} {n na : Nat} {ac : Nat → Nat} {vc : Nat → Int32}
theorem cn_ex (I : ci_I kd fs sc sz gr n na ac vc) (ch : Nat → Nat) : ∀ i, i ≤ n → ∃ tw, ∀ t, t < i → ci_X kd fs sc ac ch tw t := by
  intro i
  induction i with
  | zero => intro _; exact ⟨fun t => t, fun t h => by omega⟩
  | succ i ih =>
    intro hi
    obtain ⟨tw, X⟩ := ih (by omega)
    have put : ∀ x, ci_X kd fs sc ac ch (pu_upd tw i x) i → ∃ tw, ∀ t, t < i + 1 → ci_X kd fs sc ac ch tw t := by
      intro x h
      refine ⟨pu_upd tw i x, fun t ht => ?_⟩
      by_cases e : t = i
      · rw [e]; exact h
      · exact ci_Xup I (by omega) X t (by omega)
    have kk := ci_kd I (by omega : i < n)
    by_cases k1 : kd i = 1
    · exact put i ⟨fun _ => pu_us, fun k => by omega, fun k => by omega⟩
    · by_cases k2 : kd i = 2
      · exact put (ac (ch (fs i))) ⟨fun k => by omega, fun _ => pu_us, fun k => by omega⟩
      · have k3 : 3 ≤ kd i := by omega
        obtain ⟨t1, t2, t3, _⟩ := ci_k3 I (by omega : i < n) k3
        have R : ∀ x a, a ≤ i → (ci_R kd fs sc (pu_upd tw i x) a i ↔ ci_R kd fs sc tw a i) := by
          intro x a ha
          unfold ci_R
          by_cases q : kd a = kd i
          · obtain ⟨a1, a2, a3, _⟩ := ci_k3 I (by omega : a < n) (by omega)
            rw [pu_un (by omega : fs a ≠ i), pu_un (by omega : fs i ≠ i), pu_un (by omega : sc a ≠ i), pu_un (by omega : sc i ≠ i)]
          · constructor
            · intro w; exact absurd w.1 q
            · intro w; exact absurd w.1 q
        have least : ∀ m, m ≤ i → (∀ a, a < m → ¬ ci_R kd fs sc tw a i) ∨ ∃ a, a < m ∧ ci_R kd fs sc tw a i ∧ ∀ b, b < a → ¬ ci_R kd fs sc tw b i := by
          intro m
          induction m with
          | zero => intro _; exact Or.inl (fun a h => by omega)
          | succ m ihm =>
            intro hm
            rcases ihm (by omega) with h | ⟨a, h1, h2⟩
            · by_cases r : ci_R kd fs sc tw m i
              · exact Or.inr ⟨m, by omega, r, h⟩
              · refine Or.inl (fun a ha => ?_)
                by_cases e : a = m
                · rw [e]; exact r
                · exact h a (by omega)
            · exact Or.inr ⟨a, by omega, h2⟩
        rcases least i (Nat.le_refl i) with h | ⟨a, h1, h2, h3⟩
        · refine put i ⟨fun k => by omega, fun k => by omega, fun _ => ?_⟩
          rw [pu_us]
          exact ⟨Nat.le_refl i, ⟨rfl, rfl, rfl⟩, fun a ha w => h a ha ((R i a (by omega)).mp w)⟩
        · refine put a ⟨fun k => by omega, fun k => by omega, fun _ => ?_⟩
          rw [pu_us]
          exact ⟨by omega, (R a a (by omega)).mpr h2, fun b hb w => h3 b hb ((R a b (by omega)).mp w)⟩
theorem cn_un (I : ci_I kd fs sc sz gr n na ac vc) {ch tw tw' : Nat → Nat} (X : ∀ t, t < n → ci_X kd fs sc ac ch tw t) (X' : ∀ t, t < n → ci_X kd fs sc ac ch tw' t) : ∀ i, i ≤ n → ∀ t, t < i → tw t = tw' t := by
  intro i
  induction i with
  | zero => intro _ t h; omega
  | succ i ih =>
    intro hi t ht
    by_cases e : t = i
    · subst e
      have hq := ih (by omega)
      have hx := X t (by omega)
      have hx' := X' t (by omega)
      have kk := ci_kd I (by omega : t < n)
      by_cases k1 : kd t = 1
      · rw [hx.1 k1, hx'.1 k1]
      · by_cases k2 : kd t = 2
        · rw [hx.2.1 k2, hx'.2.1 k2]
        · have k3 : 3 ≤ kd t := by omega
          obtain ⟨t1, t2, t3, _⟩ := ci_k3 I (by omega : t < n) k3
          have R : ∀ a, a ≤ t → (ci_R kd fs sc tw a t ↔ ci_R kd fs sc tw' a t) := by
            intro a ha
            unfold ci_R
            by_cases q : kd a = kd t
            · obtain ⟨a1, a2, a3, _⟩ := ci_k3 I (by omega : a < n) (by omega)
              rw [hq (fs a) (by omega), hq (fs t) (by omega), hq (sc a) (by omega), hq (sc t) (by omega)]
            · constructor
              · intro w; exact absurd w.1 q
              · intro w; exact absurd w.1 q
          obtain ⟨h1, h2, h3⟩ := hx.2.2 k3
          obtain ⟨h1', h2', h3'⟩ := hx'.2.2 k3
          have n1 : ¬ tw t < tw' t := fun l => h3' _ l ((R _ h1).mp h2)
          have n2 : ¬ tw' t < tw t := fun l => h3 _ l ((R _ h1').mpr h2')
          omega
    · exact ih (by omega) t (by omega)
variable (kd fs sc n ac)
noncomputable def cn_tw (ch : Nat → Nat) : Nat → Nat := Classical.epsilon (fun tw : Nat → Nat => ∀ t, t < n → ci_X kd fs sc ac ch tw t)
variable {kd fs sc n ac}
theorem cn_X (I : ci_I kd fs sc sz gr n na ac vc) (ch : Nat → Nat) : ∀ t, t < n → ci_X kd fs sc ac ch (cn_tw kd fs sc n ac ch) t :=
  Classical.epsilon_spec (cn_ex I ch n (Nat.le_refl n))
theorem cn_e (I : ci_I kd fs sc sz gr n na ac vc) {ch tw : Nat → Nat} (X : ∀ t, t < n → ci_X kd fs sc ac ch tw t) : ∀ t, t < n → tw t = cn_tw kd fs sc n ac ch t :=
  fun t ht => cn_un I X (cn_X I ch) n (Nat.le_refl n) t ht
theorem cn_ch (I : ci_I kd fs sc sz gr n na ac vc) {ch ch' tw : Nat → Nat} (e : ∀ t, t < n → kd t = 2 → ch (fs t) = ch' (fs t)) (X : ∀ t, t < n → ci_X kd fs sc ac ch tw t) : ∀ t, t < n → ci_X kd fs sc ac ch' tw t := by
  intro t ht
  obtain ⟨h1, h2, h3⟩ := X t ht
  exact ⟨h1, fun k => by rw [← e t ht k]; exact h2 k, h3⟩
theorem cn_Cl {tw tw' : Nat → Nat} (e : ∀ t, t < n → tw t = tw' t) (p : ∀ t, t < n → 3 ≤ kd t → sc t < n) {S : Nat → Prop} (c : tc_Cl kd fs sc n tw S) : tc_Cl kd fs sc n tw' S := by
  refine ⟨fun t u ht hu w => c.1 t u ht hu (by rw [e t ht, e u hu]; exact w), c.2.1, c.2.2.1, c.2.2.2.1, fun t ht k s e1 e2 => ?_⟩
  have q := e _ (p t ht (by omega))
  exact c.2.2.2.2 t ht k s (by rw [q]; exact e1) (by rw [q]; exact e2)
theorem cn_L {tw tw' : Nat → Nat} (e : ∀ t, t < n → tw t = tw' t) (p : ∀ t, t < n → 3 ≤ kd t → sc t < n) (K : Nat → Prop) (t : Nat) : tc_L kd fs sc n tw K t ↔ tc_L kd fs sc n tw' K t :=
  ⟨fun h S c hK => h S (cn_Cl (fun u hu => (e u hu).symm) p c) hK, fun h S c hK => h S (cn_Cl e p c) hK⟩
variable (kd fs sc n ac)
variable (kl : Nat → Nat) (nk : Nat) (xt xs xc : Nat → Nat) (sec : Nat)
def cn_d (a v : Nat) : Nat := if v = 0 then a / 64 else if v = 1 then a / 8 % 8 else a % 8
def cn_en (tw : Nat → Nat) (p j : Nat) : Prop :=
  sk_dg p j < xc j ∧ (xs (j * 6 + sk_dg p j) = 1 ∨ tc_L kd fs sc n tw (sr_K kl nk xt xs p) (xt (j * 6 + sk_dg p j)))
def cn_fn (tw : Nat → Nat) (p : Nat) : Prop := tc_L kd fs sc n tw (sr_K kl nk xt xs p) sec
def cn_ok (p : Nat) : Prop := ∀ j, j < 3 → sk_dg p j ≤ xc j
def cn_At (a k : Nat) : Prop :=
  ∃ s, sk_att (cn_en kd fs sc n kl nk xt xs xc (cn_tw kd fs sc n ac (cn_d a))) (cn_fn kd fs sc n kl nk xt xs sec (cn_tw kd fs sc n ac (cn_d a))) s 0 ∧ k = sk_ky s 1
variable {kd fs sc n ac kl nk xt xs xc sec}
theorem cn_ok0 : cn_ok xc 0 := by
  intro j hj
  rcases sk_3 hj with e | e | e
  · subst e; rw [sk_dg0]; omega
  · subst e; rw [sk_dg1]; omega
  · subst e; rw [sk_dg2]; omega
theorem cn_hs (h6 : ∀ j, j < 3 → xc j ≤ 6) {tw : Nat → Nat} : ∀ p j, cn_ok xc p → j < 3 → cn_en kd fs sc n kl nk xt xs xc tw p j → cn_ok xc (p + sk_w j) ∧ sk_dg p j < 6 := by
  intro p j o hj e
  have l := h6 j hj
  have d6 : sk_dg p j < 6 := by have h := e.1; omega
  refine ⟨fun i hi => ?_, d6⟩
  by_cases q : i = j
  · subst q; rw [sk_up_s hj d6]; have h := e.1; omega
  · rw [sk_up_o hj hi q d6]; exact o i hi
theorem cn_dep {ns p : Nat} (ht : xc 0 + xc 1 + xc 2 = ns) (o : cn_ok xc p) : sk_dep p ≤ ns := by
  have h0 := o 0 (by omega)
  have h1 := o 1 (by omega)
  have h2 := o 2 (by omega)
  rw [sk_dep_e]; omega
theorem cn_hn {ns : Nat} (ht : xc 0 + xc 1 + xc 2 = ns) {tw : Nat → Nat} : ∀ p, cn_ok xc p → ns ≤ sk_dep p → ∀ j, j < 3 → ¬ cn_en kd fs sc n kl nk xt xs xc tw p j := by
  intro p o hd j hj e
  have h0 := o 0 (by omega)
  have h1 := o 1 (by omega)
  have h2 := o 2 (by omega)
  rw [sk_dep_e] at hd
  have h := e.1
  rcases sk_3 hj with q | q | q
  · subst q; omega
  · subst q; omega
  · subst q; omega
theorem cn_lt {p : Nat} (h6 : ∀ j, j < 3 → xc j ≤ 6) (o : cn_ok xc p) : p < 343 := by
  have h := o 0 (by omega)
  have h2 := h6 0 (by omega)
  rw [sk_dg0] at h
  exact sk_lt343 (by omega)
theorem cn_len {ns : Nat} (h6 : ∀ j, j < 3 → xc j ≤ 6) (ht : xc 0 + xc 1 + xc 2 = ns) (n6 : ns ≤ 6) {tw : Nat → Nat} {fn : Nat → Prop} : ∀ (s : List Nat) (p : Nat), cn_ok xc p → sk_att (cn_en kd fs sc n kl nk xt xs xc tw) fn s p → s.length + sk_dep p ≤ 6 :=
  sk_len (ok := cn_ok xc) (fun p j o hj e => ⟨(cn_hs h6 p j o hj e).1, sk_dep_up hj (cn_hs h6 p j o hj e).2⟩) (fun p o => Nat.le_trans (cn_dep ht o) n6)
theorem cn_big : ∀ (s : List Nat) (k : Nat), (∀ j, j ∈ s → j < 3) → sk_ky s k + 1 ≤ (k + 1) * 3 ^ s.length := by
  intro s
  induction s with
  | nil => intro k _; rw [sk_ky_n]; simp
  | cons j s ih =>
    intro k hd
    rw [sk_ky_c]
    have h := ih (3 * k + j) (fun i hi => hd i (by simp [hi]))
    have hj : j < 3 := hd j (by simp)
    rw [List.length_cons, Nat.pow_succ]
    have h2 : (3 * k + j + 1) * 3 ^ s.length ≤ (3 * k + 3) * 3 ^ s.length := Nat.mul_le_mul_right _ (by omega)
    have h3 : (3 * k + 3) * 3 ^ s.length = (k + 1) * (3 ^ s.length * 3) := by
      rw [show 3 * k + 3 = (k + 1) * 3 by omega, Nat.mul_assoc, Nat.mul_comm 3]
    omega
theorem cn_Atk {ns : Nat} (h6 : ∀ j, j < 3 → xc j ≤ 6) (ht : xc 0 + xc 1 + xc 2 = ns) (n6 : ns ≤ 6) {a k : Nat} (h : cn_At kd fs sc n ac kl nk xt xs xc sec a k) : k < 10000 := by
  obtain ⟨s, h1, h2⟩ := h
  have l := cn_len h6 ht n6 s 0 cn_ok0 h1
  have d0 : sk_dep 0 = 0 := rfl
  have b := cn_big s 1 (sk_att_d s _ h1)
  have p : 3 ^ s.length ≤ 3 ^ 6 := Nat.pow_le_pow_right (by omega) (by omega)
  have q : (3 : Nat) ^ 6 = 729 := rfl
  rw [h2]; omega
theorem cn_rootS {a B ow B1 ow1 B2 ow2 : Nat}
    (c : df_con (cn_fn kd fs sc n kl nk xt xs sec (cn_tw kd fs sc n ac (cn_d a))) 0 1 B ow B1 ow1)
    (r : df_res (cn_en kd fs sc n kl nk xt xs xc (cn_tw kd fs sc n ac (cn_d a))) (cn_fn kd fs sc n kl nk xt xs sec (cn_tw kd fs sc n ac (cn_d a))) 0 1 0 B1 ow1 B2 ow2) :
    as_S (cn_At kd fs sc n ac kl nk xt xs xc sec) a B B2 ∧ (B2 = B → ow2 = ow) ∧ (B2 < B → ow2 = 1) := by
  have E : ∀ k, df_E (cn_en kd fs sc n kl nk xt xs xc (cn_tw kd fs sc n ac (cn_d a))) (cn_fn kd fs sc n kl nk xt xs sec (cn_tw kd fs sc n ac (cn_d a))) 0 1 0 k → cn_At kd fs sc n ac kl nk xt xs xc sec a k := by
    intro k h
    obtain ⟨i, s, _, h2, h3, h4, h5⟩ := h
    exact ⟨i :: s, ⟨h2, h3, h4⟩, h5⟩
  have lo : ∀ k, cn_At kd fs sc n ac kl nk xt xs xc sec a k → B2 ≤ k := by
    intro k h
    obtain ⟨s, h1, h2⟩ := h
    cases s with
    | nil =>
      have f : cn_fn kd fs sc n kl nk xt xs sec (cn_tw kd fs sc n ac (cn_d a)) 0 := h1
      have k1 : k = 1 := h2
      have l2 : B2 ≤ B1 := by rcases r.1 with ⟨_, _⟩ | ⟨_, _, _⟩ <;> omega
      rcases c with ⟨c1, c2, c3, c4⟩ | ⟨c1, c2, c3⟩
      · omega
      · by_cases l : 1 < B
        · exact absurd ⟨f, l⟩ c1
        · omega
    | cons i s =>
      have h1' : i < 3 ∧ cn_en kd fs sc n kl nk xt xs xc (cn_tw kd fs sc n ac (cn_d a)) 0 i ∧ sk_att (cn_en kd fs sc n kl nk xt xs xc (cn_tw kd fs sc n ac (cn_d a))) (cn_fn kd fs sc n kl nk xt xs sec (cn_tw kd fs sc n ac (cn_d a))) s (0 + sk_w i) := h1
      exact r.2 k ⟨i, s, by omega, h1'.1, h1'.2.1, h1'.2.2, h2⟩
  rcases r.1 with ⟨e2, o2⟩ | ⟨a2, b2, o2⟩
  · rcases c with ⟨c1, c2, c3, c4⟩ | ⟨c1, c2, c3⟩
    · refine ⟨Or.inr ⟨⟨[], c1, by rw [e2, c3]; rfl⟩, by omega, lo⟩, fun h => by omega, fun _ => by omega⟩
    · exact ⟨Or.inl ⟨by omega, fun k h => by have h2 := lo k h; omega⟩, fun _ => by omega, fun h => by omega⟩
  · have l1 : B1 ≤ B := by rcases c with ⟨_, _, _, _⟩ | ⟨_, _, _⟩ <;> omega
    exact ⟨Or.inr ⟨E _ a2, by omega, lo⟩, fun h => by omega, fun _ => o2⟩
end
