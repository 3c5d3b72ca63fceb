section
def sk_w (j : Nat) : Nat := if j = 0 then 49 else if j = 1 then 7 else 1
def sk_dg (p j : Nat) : Nat := if j = 0 then p / 49 else if j = 1 then p / 7 % 7 else p % 7
def sk_dep (p : Nat) : Nat := p / 49 + p / 7 % 7 + p % 7
theorem sk_w_pos (j : Nat) : 1 ≤ sk_w j := by
  unfold sk_w
  by_cases h : j = 0
  · rw [if_pos h]; omega
  · rw [if_neg h]
    by_cases h1 : j = 1
    · rw [if_pos h1]; omega
    · rw [if_neg h1]; omega
theorem sk_w0 : sk_w 0 = 49 := rfl
theorem sk_w1 : sk_w 1 = 7 := rfl
theorem sk_w2 : sk_w 2 = 1 := rfl
theorem sk_dg0 (p : Nat) : sk_dg p 0 = p / 49 := rfl
theorem sk_dg1 (p : Nat) : sk_dg p 1 = p / 7 % 7 := rfl
theorem sk_dg2 (p : Nat) : sk_dg p 2 = p % 7 := rfl
theorem sk_3 {j : Nat} (h : j < 3) : j = 0 ∨ j = 1 ∨ j = 2 := by omega
theorem sk_up_s {p j : Nat} (hj : j < 3) (h : sk_dg p j < 6) : sk_dg (p + sk_w j) j = sk_dg p j + 1 := by
  rcases sk_3 hj with e | e | e
  · subst e; rw [sk_dg0, sk_dg0, sk_w0]; omega
  · subst e; rw [sk_dg1] at h; rw [sk_dg1, sk_dg1, sk_w1]; omega
  · subst e; rw [sk_dg2] at h; rw [sk_dg2, sk_dg2, sk_w2]; omega
theorem sk_up_o {p j i : Nat} (hj : j < 3) (hi : i < 3) (hij : i ≠ j) (h : sk_dg p j < 6) : sk_dg (p + sk_w j) i = sk_dg p i := by
  rcases sk_3 hj with e | e | e
  · subst e
    rcases sk_3 hi with e | e | e
    · omega
    · subst e; rw [sk_dg1, sk_dg1, sk_w0]; omega
    · subst e; rw [sk_dg2, sk_dg2, sk_w0]; omega
  · subst e
    rw [sk_dg1] at h
    rcases sk_3 hi with e | e | e
    · subst e; rw [sk_dg0, sk_dg0, sk_w1]; omega
    · omega
    · subst e; rw [sk_dg2, sk_dg2, sk_w1]; omega
  · subst e
    rw [sk_dg2] at h
    rcases sk_3 hi with e | e | e
    · subst e; rw [sk_dg0, sk_dg0, sk_w2]; omega
    · subst e; rw [sk_dg1, sk_dg1, sk_w2]; omega
    · omega
theorem sk_dep_e (p : Nat) : sk_dep p = sk_dg p 0 + sk_dg p 1 + sk_dg p 2 := rfl
theorem sk_dep_up {p j : Nat} (hj : j < 3) (h : sk_dg p j < 6) : sk_dep (p + sk_w j) = sk_dep p + 1 := by
  rw [sk_dep_e, sk_dep_e]
  rcases sk_3 hj with e | e | e
  · subst e
    rw [sk_up_s (by omega) h, sk_up_o (i := 1) (by omega) (by omega) (by omega) h, sk_up_o (i := 2) (by omega) (by omega) (by omega) h]; omega
  · subst e
    rw [sk_up_s (by omega) h, sk_up_o (i := 0) (by omega) (by omega) (by omega) h, sk_up_o (i := 2) (by omega) (by omega) (by omega) h]; omega
  · subst e
    rw [sk_up_s (by omega) h, sk_up_o (i := 0) (by omega) (by omega) (by omega) h, sk_up_o (i := 1) (by omega) (by omega) (by omega) h]; omega
theorem sk_lt343 {p : Nat} (h : p / 49 ≤ 6) : p < 343 := by omega
def sk_ky : List Nat → Nat → Nat
  | [], k => k
  | j :: s, k => sk_ky s (3 * k + j)
theorem sk_ky_n (k : Nat) : sk_ky [] k = k := rfl
theorem sk_ky_c (j : Nat) (s : List Nat) (k : Nat) : sk_ky (j :: s) k = sk_ky s (3 * k + j) := rfl
theorem sk_ky_ge : ∀ (s : List Nat) (k : Nat), k ≤ sk_ky s k := by
  intro s
  induction s with
  | nil => intro k; exact Nat.le_refl k
  | cons j s ih => intro k; rw [sk_ky_c]; have h := ih (3 * k + j); omega
theorem sk_ky_l1 : ∀ (s s' : List Nat) (k k' : Nat), (∀ j, j ∈ s → j < 3) → s.length = s'.length → k < k' → sk_ky s k < sk_ky s' k' := by
  intro s
  induction s with
  | nil =>
    intro s' k k' _ hl h
    cases s' with
    | nil => exact h
    | cons j r => simp at hl
  | cons j s ih =>
    intro s' k k' hd hl h
    cases s' with
    | nil => simp at hl
    | cons j' r =>
      rw [sk_ky_c, sk_ky_c]
      have h3 : j < 3 := hd j (by simp)
      exact ih r _ _ (fun i hi => hd i (by simp [hi])) (by simpa using hl) (by omega)
theorem sk_ky_l2 : ∀ (s s' : List Nat) (k k' : Nat), (∀ j, j ∈ s → j < 3) → s.length < s'.length → k + 1 ≤ 3 * k' → sk_ky s k < sk_ky s' k' := by
  intro s
  induction s with
  | nil =>
    intro s' k k' _ hl h
    cases s' with
    | nil => simp at hl
    | cons j r =>
      rw [sk_ky_c, sk_ky_n]
      have h2 := sk_ky_ge r (3 * k' + j)
      omega
  | cons j s ih =>
    intro s' k k' hd hl h
    cases s' with
    | nil => simp at hl
    | cons j' r =>
      rw [sk_ky_c, sk_ky_c]
      have h3 : j < 3 := hd j (by simp)
      exact ih r _ _ (fun i hi => hd i (by simp [hi])) (by simpa using hl) (by omega)
def sk_kA (Q : Nat → Nat) : Nat → Nat
  | 0 => 1
  | L + 1 => 3 * sk_kA Q L + Q L
theorem sk_kA_s (Q : Nat → Nat) (L : Nat) : sk_kA Q (L + 1) = 3 * sk_kA Q L + Q L := rfl
theorem sk_kA_1 (Q : Nat → Nat) : ∀ L, 1 ≤ sk_kA Q L := by
  intro L
  induction L with
  | zero => exact Nat.le_refl 1
  | succ L ih => rw [sk_kA_s]; omega
theorem sk_kA_cg {Q Q' : Nat → Nat} : ∀ L, (∀ i, i < L → Q i = Q' i) → sk_kA Q L = sk_kA Q' L := by
  intro L
  induction L with
  | zero => intro _; rfl
  | succ L ih => intro h; rw [sk_kA_s, sk_kA_s, ih (fun i hi => h i (by omega)), h L (by omega)]
theorem sk_kA_inj {Q Q' : Nat → Nat} : ∀ L L', (∀ i, i < L → Q i < 3) → (∀ i, i < L' → Q' i < 3) → sk_kA Q L = sk_kA Q' L' → L = L' ∧ ∀ i, i < L → Q i = Q' i := by
  intro L
  induction L with
  | zero =>
    intro L' _ _ h
    cases L' with
    | zero => exact ⟨rfl, fun i hi => absurd hi (Nat.not_lt_zero i)⟩
    | succ L' =>
      rw [sk_kA_s] at h
      have h1 := sk_kA_1 Q' L'
      have h2 : sk_kA Q 0 = 1 := rfl
      omega
  | succ L ih =>
    intro L' hd hd' h
    cases L' with
    | zero =>
      rw [sk_kA_s] at h
      have h1 := sk_kA_1 Q L
      have h2 : sk_kA Q' 0 = 1 := rfl
      omega
    | succ L' =>
      rw [sk_kA_s, sk_kA_s] at h
      have d1 := hd L (by omega)
      have d2 := hd' L' (by omega)
      obtain ⟨e, f⟩ := ih L' (fun i hi => hd i (by omega)) (fun i hi => hd' i (by omega)) (by omega)
      subst e
      refine ⟨rfl, fun i hi => ?_⟩
      by_cases q : i = L
      · subst q; omega
      · exact f i (by omega)
theorem sk_kA_lt {Q Q' : Nat → Nat} {i : Nat} (h : sk_kA Q i < sk_kA Q' i) : ∀ L, i ≤ L → (∀ a, a < L → Q a < 3) → sk_kA Q L < sk_kA Q' L := by
  intro L
  induction L with
  | zero => intro hl _; have e : i = 0 := by omega
            subst e; exact h
  | succ L ih =>
    intro hl hd
    by_cases e : i = L + 1
    · subst e; exact h
    · have h1 := ih (by omega) (fun a ha => hd a (by omega))
      have h2 := hd L (by omega)
      rw [sk_kA_s, sk_kA_s]; omega
theorem sk_kA_hi {Q : Nat → Nat} : ∀ L, (∀ a, a < L → Q a < 3) → sk_kA Q L + 1 ≤ 2 * 3 ^ L := by
  intro L
  induction L with
  | zero => intro _; exact Nat.le_refl 2
  | succ L ih =>
    intro hd
    have h1 := ih (fun a ha => hd a (by omega))
    have h2 := hd L (by omega)
    rw [sk_kA_s, Nat.pow_succ]; omega
theorem sk_kA_lo {Q : Nat → Nat} : ∀ L, 3 ^ L ≤ sk_kA Q L := by
  intro L
  induction L with
  | zero => exact Nat.le_refl 1
  | succ L ih => rw [sk_kA_s, Nat.pow_succ]; omega
theorem sk_kA_len {Q Q' : Nat → Nat} {L L' : Nat} (h : L < L') (hd : ∀ a, a < L → Q a < 3) : sk_kA Q L < sk_kA Q' L' := by
  have h1 := sk_kA_hi L hd
  have h2 := sk_kA_lo (Q := Q') L'
  have h3 : 3 ^ (L + 1) ≤ 3 ^ L' := Nat.pow_le_pow_right (by omega) h
  rw [Nat.pow_succ] at h3
  omega
theorem sk_kA_big {Q : Nat → Nat} {L : Nat} (hl : L ≤ 6) (hd : ∀ a, a < L → Q a < 3) : sk_kA Q L < 10000 := by
  have h1 := sk_kA_hi L hd
  have h3 : 3 ^ L ≤ 3 ^ 6 := Nat.pow_le_pow_right (by omega) hl
  have h4 : (3 : Nat) ^ 6 = 729 := by decide
  omega
variable (en : Nat → Nat → Prop) (fn : Nat → Prop)
def sk_att : List Nat → Nat → Prop
  | [], p => fn p
  | j :: s, p => j < 3 ∧ en p j ∧ sk_att s (p + sk_w j)
def sk_pth (nx : Nat → Nat) : List Nat → Nat → Prop
  | [], _ => True
  | j :: s, p => nx p = j ∧ sk_pth nx s (p + sk_w j)
def sk_sp (tg nx : Nat → Nat) (p : Nat) : Prop :=
  (tg p = 7 ∧ ∀ s, ¬ sk_att en fn s p) ∨
  (tg p ≤ 6 ∧ ∃ s : List Nat, s.length = tg p ∧ sk_att en fn s p ∧ sk_pth nx s p ∧ ∀ s', sk_att en fn s' p → ∀ k, 1 ≤ k → sk_ky s k ≤ sk_ky s' k)
variable {en fn}
theorem sk_att_d : ∀ (s : List Nat) (p : Nat), sk_att en fn s p → ∀ j, j ∈ s → j < 3 := by
  intro s
  induction s with
  | nil => intro p _ j hj; simp at hj
  | cons i s ih =>
    intro p h j hj
    have h' : i < 3 ∧ en p i ∧ sk_att en fn s (p + sk_w i) := h
    rcases List.mem_cons.mp hj with e | m
    · rw [e]; exact h'.1
    · exact ih _ h'.2.2 j m
theorem sk_pth_cg {nx nx' : Nat → Nat} {q : Nat} (e : ∀ p, q < p → nx' p = nx p) : ∀ (s : List Nat) (p : Nat), q < p → sk_pth nx s p → sk_pth nx' s p := by
  intro s
  induction s with
  | nil => intro p _ _; trivial
  | cons i s ih =>
    intro p hp h
    have h' : nx p = i ∧ sk_pth nx s (p + sk_w i) := h
    exact ⟨(e p hp).trans h'.1, ih _ (by omega) h'.2⟩
theorem sk_sp_cg {tg tg' nx nx' : Nat → Nat} {q : Nat} (et : ∀ p, q < p → tg' p = tg p) (e : ∀ p, q < p → nx' p = nx p) {p : Nat} (hp : q < p) (h : sk_sp en fn tg nx p) : sk_sp en fn tg' nx' p := by
  rcases h with ⟨a, b⟩ | ⟨a, s, h1, h2, h3, h4⟩
  · exact Or.inl ⟨(et p hp).trans a, b⟩
  · exact Or.inr ⟨by rw [et p hp]; exact a, s, by rw [et p hp]; exact h1, h2, sk_pth_cg e s p hp h3, h4⟩
theorem sk_len {ok : Nat → Prop} (hs : ∀ p j, ok p → j < 3 → en p j → ok (p + sk_w j) ∧ sk_dep (p + sk_w j) = sk_dep p + 1) (hd : ∀ p, ok p → sk_dep p ≤ 6) : ∀ (s : List Nat) (p : Nat), ok p → sk_att en fn s p → s.length + sk_dep p ≤ 6 := by
  intro s
  induction s with
  | nil => intro p o _; have h := hd p o; simpa using h
  | cons j s ih =>
    intro p o h
    have h' : j < 3 ∧ en p j ∧ sk_att en fn s (p + sk_w j) := h
    obtain ⟨o2, e⟩ := hs p j o h'.1 h'.2.1
    have h2 := ih _ o2 h'.2.2
    rw [List.length_cons]; omega
variable (en fn)
def sk_J (nx : Nat → Nat) (p i a b : Nat) : Prop :=
  (a = 7 ∧ ∀ j, j < i → ∀ s, en p j → ¬ sk_att en fn s (p + sk_w j)) ∨
  (a ≤ 6 ∧ b < i ∧ en p b ∧ ∃ s : List Nat, s.length + 1 = a ∧ sk_att en fn s (p + sk_w b) ∧ sk_pth nx s (p + sk_w b) ∧ ∀ j, j < i → ∀ s', en p j → sk_att en fn s' (p + sk_w j) → ∀ k, 1 ≤ k → sk_ky (b :: s) k ≤ sk_ky (j :: s') k)
variable {en fn}
theorem sk_J0 {nx : Nat → Nat} {p b : Nat} : sk_J en fn nx p 0 7 b := Or.inl ⟨rfl, fun j hj => absurd hj (Nat.not_lt_zero j)⟩
theorem sk_Jno {nx : Nat → Nat} {p i a b : Nat} (h : sk_J en fn nx p i a b) (no : ∀ s, en p i → ¬ sk_att en fn s (p + sk_w i)) : sk_J en fn nx p (i + 1) a b := by
  rcases h with ⟨e, f⟩ | ⟨e, hb, hn, s, h1, h2, h3, h4⟩
  · refine Or.inl ⟨e, fun j hj s => ?_⟩
    by_cases q : j = i
    · subst q; exact no s
    · exact f j (by omega) s
  · refine Or.inr ⟨e, by omega, hn, s, h1, h2, h3, fun j hj s' en' hat => ?_⟩
    by_cases q : j = i
    · subst q; exact absurd hat (no s' en')
    · exact h4 j (by omega) s' en' hat
theorem sk_Jkeep {tg nx : Nat → Nat} {p i a b : Nat} (hi : i < 3) (h : sk_J en fn nx p i a b) (sp : sk_sp en fn tg nx (p + sk_w i)) (l5 : ∀ s, sk_att en fn s (p + sk_w i) → s.length ≤ 5) (ge : a ≤ tg (p + sk_w i) + 1) : sk_J en fn nx p (i + 1) a b := by
  rcases sp with ⟨_, no⟩ | ⟨e6, si, g1, g2, g3, g4⟩
  · exact sk_Jno h (fun s _ => no s)
  · have l := l5 si g2
    rcases h with ⟨e, f⟩ | ⟨e, hb, hn, s, h1, h2, h3, h4⟩
    · omega
    · refine Or.inr ⟨e, by omega, hn, s, h1, h2, h3, fun j hj s' en' hat k hk => ?_⟩
      by_cases q : j = i
      · subst q
        have m := g4 s' hat (3 * k + j) (by omega)
        rw [sk_ky_c, sk_ky_c]
        have ds := sk_att_d s _ h2
        by_cases le : s.length = si.length
        · have h5 := sk_ky_l1 s si (3 * k + b) (3 * k + j) ds le (by omega)
          omega
        · have h5 := sk_ky_l2 s si (3 * k + b) (3 * k + j) ds (by omega) (by omega)
          omega
      · exact h4 j (by omega) s' en' hat k hk
theorem sk_Jtake {tg nx : Nat → Nat} {p i a b : Nat} (hi : i < 3) (h : sk_J en fn nx p i a b) (ei : en p i) (sp : sk_sp en fn tg nx (p + sk_w i)) (lt : tg (p + sk_w i) + 1 < a) : sk_J en fn nx p (i + 1) (tg (p + sk_w i) + 1) i := by
  have a7 : a ≤ 7 := by
    rcases h with ⟨e, f⟩ | ⟨e, _⟩
    · omega
    · omega
  rcases sp with ⟨e7, no⟩ | ⟨e6, si, g1, g2, g3, g4⟩
  · omega
  · refine Or.inr ⟨by omega, by omega, ei, si, by omega, g2, g3, fun j hj s' en' hat k hk => ?_⟩
    by_cases q : j = i
    · subst q
      rw [sk_ky_c, sk_ky_c]
      exact g4 s' hat (3 * k + j) (by omega)
    · rcases h with ⟨e, f⟩ | ⟨e, hb, hn, s, h1, h2, h3, h4⟩
      · exact absurd hat (f j (by omega) s' en')
      · have m := h4 j (by omega) s' en' hat k hk
        have ds := sk_att_d si _ g2
        have h5 := sk_ky_l2 si s (3 * k + i) (3 * k + b) ds (by omega) (by omega)
        rw [sk_ky_c] at m
        rw [sk_ky_c]
        omega
theorem sk_Jend {tg nx : Nat → Nat} {p a b : Nat} (h : sk_J en fn nx p 3 a b) (nf : ¬ fn p) (ht : tg p = a) (hx : a ≤ 6 → nx p = b) : sk_sp en fn tg nx p := by
  rcases h with ⟨e, f⟩ | ⟨e, hb, hn, s, h1, h2, h3, h4⟩
  · refine Or.inl ⟨by omega, fun s => ?_⟩
    intro hat
    cases s with
    | nil => exact nf hat
    | cons j s =>
      have h' : j < 3 ∧ en p j ∧ sk_att en fn s (p + sk_w j) := hat
      exact f j h'.1 s h'.2.1 h'.2.2
  · refine Or.inr ⟨by omega, b :: s, by rw [List.length_cons]; omega, ⟨hb, hn, h2⟩, ⟨hx e, h3⟩, fun s' hat k hk => ?_⟩
    cases s' with
    | nil => exact absurd hat nf
    | cons j s' =>
      have h' : j < 3 ∧ en p j ∧ sk_att en fn s' (p + sk_w j) := hat
      exact h4 j h'.1 s' h'.2.1 h'.2.2 k hk
theorem sk_fin {tg nx : Nat → Nat} {p : Nat} (f : fn p) (ht : tg p = 0) : sk_sp en fn tg nx p :=
  Or.inr ⟨by omega, [], by rw [ht]; rfl, f, trivial, fun s' _ k _ => sk_ky_ge s' k⟩
end
