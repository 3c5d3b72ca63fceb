def pu_upd (f : Nat → Nat) (k x : Nat) : Nat → Nat := fun j => if j = k then x else f j
theorem pu_us {f : Nat → Nat} {k x : Nat} : pu_upd f k x k = x := by simp [pu_upd]
theorem pu_un {f : Nat → Nat} {k x j : Nat} (h : j ≠ k) : pu_upd f k x j = f j := by simp [pu_upd, h]
def pu_A (f : Nat → Nat) : Nat → Int32 := fun i => nI (f i)
theorem pu_Au (f : Nat → Nat) (k x : Nat) : upd (pu_A f) k (nI x) = pu_A (pu_upd f k x) := by
  funext j
  unfold upd pu_A pu_upd
  by_cases h : j = k
  · simp [h]
  · simp [h]
theorem pu_Ag (f : Nat → Nat) {t : Nat} (h : t < 2 ^ 31) : pu_A f (nI t).toNatClampNeg = nI (f t) := by
  unfold pu_A
  rw [nI_clamp h]
theorem pu_php : ∀ (N k : Nat) (f : Nat → Nat), (∀ i, i < k → f i < N) → (∀ i j, i < k → j < k → f i = f j → i = j) → k ≤ N := by
  intro N
  induction N with
  | zero =>
    intro k f hb _
    cases k with
    | zero => exact Nat.le_refl 0
    | succ k => exact absurd (hb 0 (by omega)) (by omega)
  | succ N ih =>
    intro k f hb hi
    cases k with
    | zero => omega
    | succ k =>
      by_cases hx : ∃ i0, i0 < k + 1 ∧ f i0 = N
      · obtain ⟨i0, h0, e0⟩ := hx
        have h3 := ih k (fun i => if i = i0 then f k else f i) (by
          intro i hik
          show (if i = i0 then f k else f i) < N
          by_cases e : i = i0
          · rw [if_pos e]
            have h1 := hb k (by omega)
            have h2 : f k ≠ N := fun h => by
              have h4 := hi k i0 (by omega) h0 (by rw [h, e0])
              omega
            omega
          · rw [if_neg e]
            have h1 := hb i (by omega)
            have h2 : f i ≠ N := fun h => e (hi i i0 (by omega) h0 (by rw [h, e0]))
            omega) (by
          intro i j hik hjk h
          have h' : (if i = i0 then f k else f i) = (if j = i0 then f k else f j) := h
          by_cases ei : i = i0
          · by_cases ej : j = i0
            · omega
            · rw [if_pos ei, if_neg ej] at h'
              have h4 := hi k j (by omega) (by omega) h'
              omega
          · by_cases ej : j = i0
            · rw [if_neg ei, if_pos ej] at h'
              have h4 := hi i k (by omega) (by omega) h'
              omega
            · rw [if_neg ei, if_neg ej] at h'
              exact hi i j (by omega) (by omega) h')
        omega
      · have h3 := ih (k + 1) f (fun i hik => by
          have h1 := hb i hik
          have h2 : f i ≠ N := fun h => hx ⟨i, hik, h⟩
          omega) hi
        omega
def pu_cn (p : Nat → Bool) : Nat → Nat
  | 0 => 0
  | n + 1 => pu_cn p n + (if p n = true then 1 else 0)
theorem pu_cn_t {p : Nat → Bool} {n : Nat} (h : p n = true) : pu_cn p (n + 1) = pu_cn p n + 1 := by
  show pu_cn p n + (if p n = true then 1 else 0) = _
  rw [if_pos h]
theorem pu_cn_f {p : Nat → Bool} {n : Nat} (h : ¬ p n = true) : pu_cn p (n + 1) = pu_cn p n := by
  show pu_cn p n + (if p n = true then 1 else 0) = _
  rw [if_neg h, Nat.add_zero]
theorem pu_cn_le (p : Nat → Bool) : ∀ n, pu_cn p n ≤ n := by
  intro n
  induction n with
  | zero => exact Nat.le_refl 0
  | succ n ih =>
    by_cases h : p n = true
    · rw [pu_cn_t h]; omega
    · rw [pu_cn_f h]; omega
theorem pu_cn_up (p : Nat → Bool) : ∀ {a b : Nat}, a ≤ b → pu_cn p a ≤ pu_cn p b := by
  intro a b h
  induction b with
  | zero => have e : a = 0 := by omega
            rw [e]; exact Nat.le_refl _
  | succ b ih =>
    by_cases e : a = b + 1
    · rw [e]; exact Nat.le_refl _
    · have h1 := ih (by omega)
      by_cases hp : p b = true
      · rw [pu_cn_t hp]; omega
      · rw [pu_cn_f hp]; exact h1
theorem pu_cn_mono {p q : Nat → Bool} : ∀ n, (∀ i, i < n → p i = true → q i = true) → pu_cn p n ≤ pu_cn q n := by
  intro n
  induction n with
  | zero => intro _; exact Nat.le_refl 0
  | succ n ih =>
    intro h
    have h1 := ih (fun i hi => h i (by omega))
    by_cases hp : p n = true
    · rw [pu_cn_t hp, pu_cn_t (h n (by omega) hp)]; omega
    · rw [pu_cn_f hp]
      by_cases hq : q n = true
      · rw [pu_cn_t hq]; omega
      · rw [pu_cn_f hq]; exact h1
theorem pu_cn_lt {p q : Nat → Bool} : ∀ n, (∀ i, i < n → p i = true → q i = true) → (∃ i, i < n ∧ ¬ p i = true ∧ q i = true) → pu_cn p n < pu_cn q n := by
  intro n
  induction n with
  | zero => intro _ h; obtain ⟨i, hi, _⟩ := h; omega
  | succ n ih =>
    intro h hx
    obtain ⟨i, hi, hp, hq⟩ := hx
    by_cases e : i = n
    · subst e
      have h1 := pu_cn_mono i (fun j hj => h j (by omega))
      rw [pu_cn_f hp, pu_cn_t hq]; omega
    · have h1 := ih (fun j hj => h j (by omega)) ⟨i, by omega, hp, hq⟩
      by_cases hp' : p n = true
      · rw [pu_cn_t hp', pu_cn_t (h n (by omega) hp')]; omega
      · rw [pu_cn_f hp']
        by_cases hq' : q n = true
        · rw [pu_cn_t hq']; omega
        · rw [pu_cn_f hq']; exact h1
theorem pu_cn_all {p : Nat → Bool} : ∀ n, n ≤ pu_cn p n → ∀ i, i < n → p i = true := by
  intro n
  induction n with
  | zero => intro _ i hi; omega
  | succ n ih =>
    intro h i hi
    have h2 := pu_cn_le p n
    by_cases hp : p n = true
    · rw [pu_cn_t hp] at h
      by_cases e : i = n
      · rw [e]; exact hp
      · exact ih (by omega) i (by omega)
    · rw [pu_cn_f hp] at h; omega
theorem pu_cn_ex {p : Nat → Bool} : ∀ n k, k < pu_cn p n → ∃ g, g < n ∧ p g = true ∧ pu_cn p g = k := by
  intro n
  induction n with
  | zero => intro k h; exact absurd h (Nat.not_lt_zero k)
  | succ n ih =>
    intro k h
    by_cases hp : p n = true
    · rw [pu_cn_t hp] at h
      by_cases e : k = pu_cn p n
      · exact ⟨n, by omega, hp, e.symm⟩
      · obtain ⟨g, h1, h2, h3⟩ := ih k (by omega)
        exact ⟨g, by omega, h2, h3⟩
    · rw [pu_cn_f hp] at h
      obtain ⟨g, h1, h2, h3⟩ := ih k h
      exact ⟨g, by omega, h2, h3⟩
theorem pu_cn_un {p : Nat → Bool} {g g' : Nat} (h : p g = true) (h' : p g' = true) (e : pu_cn p g = pu_cn p g') : g = g' := by
  by_cases l : g < g'
  · have h1 := pu_cn_up p (a := g + 1) (b := g') l
    rw [pu_cn_t h] at h1; omega
  · by_cases l' : g' < g
    · have h1 := pu_cn_up p (a := g' + 1) (b := g) l'
      rw [pu_cn_t h'] at h1; omega
    · omega
theorem pu_cn_lt2 {p : Nat → Bool} {g n : Nat} (h : g < n) (hp : p g = true) : pu_cn p g < pu_cn p n := by
  have h1 := pu_cn_up p (a := g + 1) (b := n) h
  rw [pu_cn_t hp] at h1; omega
theorem pu_cn_cg {p q : Nat → Bool} : ∀ n, (∀ i, i < n → p i = q i) → pu_cn p n = pu_cn q n := by
  intro n
  induction n with
  | zero => intro _; rfl
  | succ n ih =>
    intro h
    show pu_cn p n + (if p n = true then 1 else 0) = pu_cn q n + (if q n = true then 1 else 0)
    rw [ih (fun i hi => h i (by omega)), h n (by omega)]
