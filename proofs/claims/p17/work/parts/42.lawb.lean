section
theorem lb_cell {post : Int32 → Prop} {L k : Nat} {xs : Nat → Int32} (hL : L ≤ 260) (hk : k < 1000) (h : ∀ r, post r) : wpL_cell post L xs () (nI k) :=
  pk_le L k (fun _ => h 0) (fun l => ⟨vp_in_nI l (by omega), h _⟩)
theorem lb_mod {post : Int32 → Prop} {x : Int32} {c : Nat} (h0 : 0 < c) (hc : c < 1000) (h : ∀ j, j < c → post (nI j)) : wpL_mod post () x (nI c) := by
  have tc : (nI c).toInt = (c : Int) := nI_toInt (by omega)
  have rt := rem_toInt x (nI c)
  rw [tc] at rt
  obtain ⟨b1, b2⟩ := tmod_bounds (a := x.toInt) (M := (c : Int)) (by omega)
  rw [← rt] at b1 b2
  have p0 : (0 : Int32) < nI c := nI_lt (a := 0) h0 (by omega)
  refine br_t p0 ⟨nI_ne0 h0 (by omega), nm_e (br_c (fun z => ?_) (fun z => ?_))⟩
  · obtain ⟨j, hj, e⟩ := nI_of (x := x - x / nI c * nI c) (Int32.not_lt.mpr z)
    rw [e] at b2 ⊢
    rw [nI_toInt hj] at b2
    exact h j (by omega)
  · have zn : (x - x / nI c * nI c).toInt < 0 := by
      have z2 := Int32.not_le.mp z
      have z3 := Int32.lt_iff_toInt_lt.mp z2
      exact z3
    have e : (x - x / nI c * nI c) + nI c = nI ((x - x / nI c * nI c).toInt + c).toNat := by
      apply Int32.toInt_inj.mp
      rw [Int32.toInt_add, tc, nI_toInt (by omega), Int.toNat_of_nonneg (by omega)]
      exact Int.bmod_eq_of_le (by omega) (by omega)
    rw [e]
    exact h _ (by omega)
def lb_mm (mp : Nat → Nat) : Nat → Nat
  | 0 => 0
  | t + 1 => lb_mm mp t + mp t * 2 ^ (6 * t)
theorem lb_mm_s (mp : Nat → Nat) (t : Nat) : lb_mm mp (t + 1) = lb_mm mp t + mp t * 2 ^ (6 * t) := rfl
theorem lb_mm_cg {mp mp' : Nat → Nat} : ∀ t, (∀ u, u < t → mp u = mp' u) → lb_mm mp t = lb_mm mp' t := by
  intro t
  induction t with
  | zero => intro _; rfl
  | succ t ih => intro h; rw [lb_mm_s, lb_mm_s, ih (fun u hu => h u (by omega)), h t (by omega)]
theorem lb_pow (t : Nat) : 2 ^ (6 * (t + 1)) = 2 ^ (6 * t) * 64 := by
  rw [show 6 * (t + 1) = 6 * t + 6 by omega, Nat.pow_add]
theorem lb_mm_lt {mp : Nat → Nat} : ∀ t, (∀ u, u < t → mp u < 64) → lb_mm mp t < 2 ^ (6 * t) := by
  intro t
  induction t with
  | zero => intro _; exact Nat.one_pos
  | succ t ih =>
    intro h
    have h1 := ih (fun u hu => h u (by omega))
    have h2 := h t (by omega)
    rw [lb_mm_s, lb_pow]
    have h3 : mp t * 2 ^ (6 * t) ≤ 63 * 2 ^ (6 * t) := Nat.mul_le_mul_right _ (by omega)
    omega
theorem lb_mm_get {mp : Nat → Nat} : ∀ t, (∀ u, u < t → mp u < 64) → ∀ u, u < t → lb_mm mp t / 2 ^ (6 * u) % 64 = mp u := by
  intro t
  induction t with
  | zero => intro _ u hu; omega
  | succ t ih =>
    intro h u hu
    have hm := lb_mm_lt t (fun v hv => h v (by omega))
    have hp : 0 < 2 ^ (6 * t) := Nat.two_pow_pos _
    rw [lb_mm_s]
    by_cases e : u = t
    · rw [e, Nat.add_mul_div_right _ _ hp, Nat.div_eq_of_lt hm, Nat.zero_add]
      exact Nat.mod_eq_of_lt (h t (by omega))
    · obtain ⟨r, hr⟩ : ∃ r, t = u + 1 + r := ⟨t - u - 1, by omega⟩
      have hq : 0 < 2 ^ (6 * u) := Nat.two_pow_pos _
      have ep : 2 ^ (6 * t) = 2 ^ (6 * r) * 64 * 2 ^ (6 * u) := by
        rw [show 6 * t = 6 * r + 6 + 6 * u by omega, Nat.pow_add, Nat.pow_add]
      rw [ep, ← Nat.mul_assoc, Nat.add_mul_div_right _ _ hq, ← Nat.mul_assoc, Nat.add_mul_mod_self_right]
      exact ih (fun v hv => h v (by omega)) u (by omega)
theorem lb_60 {t : Nat} (h : t ≤ 10) : 2 ^ (6 * t) ≤ 2 ^ 60 := Nat.pow_le_pow_right (by omega) (by omega)
theorem lb_get {post : Int32 → Prop} {mp : Nat → Nat} {t u : Nat} (ht : t ≤ 10) (h6 : ∀ v, v < t → mp v < 64) (hu : u < t) (h : post (nI (mp u))) : wpL_get post () (lN (lb_mm mp t)) (nI u) := by
  have hm := lb_mm_lt t h6
  have h60 := lb_60 ht
  have e1 : (6 : Int32) * nI u = nI (6 * u) := pk_mul 6 u
  have e2 : (63 : Int64) = lN (2 ^ 6 - 1) := rfl
  show post ((((lN (lb_mm mp t)).toUInt64 >>> ((6 * nI u).toInt64.toUInt64 &&& Int64.toUInt64 63)).toInt64 &&& 63).toInt32)
  rw [e1, wb_shr (by omega) (by omega), e2, wb_mask (Nat.lt_of_le_of_lt (Nat.div_le_self _ _) (by omega)) (by omega), lN_i]
  have g := lb_mm_get t h6 u hu
  have e3 : (2 : Nat) ^ 6 = 64 := rfl
  rw [e3, g]
  exact h
theorem lb_or {mp : Nat → Nat} {t id : Nat} (ht : t < 10) (h6 : ∀ v, v < t → mp v < 64) (hid : id < 64) : lN (lb_mm mp t) ||| ((nI id).toInt64 <<< ((6 * nI t).toInt64 &&& 63)) = lN (lb_mm (pu_upd mp t id) (t + 1)) := by
  have hm := lb_mm_lt t h6
  have h60 := lb_60 (by omega : t + 1 ≤ 10)
  have e1 : (6 : Int32) * nI t = nI (6 * t) := pk_mul 6 t
  rw [e1, nI_l (by omega), wb_shl id (by omega)]
  have b : id * 2 ^ (6 * t) ≤ 63 * 2 ^ (6 * t) := Nat.mul_le_mul_right _ (by omega)
  rw [lb_pow] at h60
  rw [g_or' (k := 6 * t) rfl hm (by omega), lb_mm_s, pu_us, lb_mm_cg (mp' := mp) t (fun u hu => pu_un (by omega))]
def lb_dl (Q : Nat → Nat) (i : Nat) : Nat → List Nat
  | 0 => []
  | d + 1 => Q i :: lb_dl Q (i + 1) d
theorem lb_dl_ky (Q : Nat → Nat) : ∀ d i, sk_ky (lb_dl Q i d) (sk_kA Q i) = sk_kA Q (i + d) := by
  intro d
  induction d with
  | zero => intro i; rfl
  | succ d ih =>
    intro i
    have e : sk_ky (lb_dl Q i (d + 1)) (sk_kA Q i) = sk_ky (lb_dl Q (i + 1) d) (sk_kA Q (i + 1)) := rfl
    rw [e, ih (i + 1)]
    congr 1
    omega
theorem lb_dl_d {Q : Nat → Nat} : ∀ d i, (∀ a, a < i + d → Q a < 3) → ∀ j, j ∈ lb_dl Q i d → j < 3 := by
  intro d
  induction d with
  | zero => intro i _ j hj; simp [lb_dl] at hj
  | succ d ih =>
    intro i h j hj
    have e : lb_dl Q i (d + 1) = Q i :: lb_dl Q (i + 1) d := rfl
    rw [e] at hj
    rcases List.mem_cons.mp hj with q | q
    · rw [q]; exact h i (by omega)
    · exact ih (i + 1) (fun a ha => h a (by omega)) j q
theorem lb_inj : ∀ (s s' : List Nat) (k : Nat), 1 ≤ k → (∀ j, j ∈ s → j < 3) → (∀ j, j ∈ s' → j < 3) → sk_ky s k = sk_ky s' k → s = s' := by
  intro s
  induction s with
  | nil =>
    intro s' k hk h h' e
    cases s' with
    | nil => rfl
    | cons j r =>
      have l := sk_ky_l2 [] (j :: r) k k h (by simp) (by omega)
      omega
  | cons j s ih =>
    intro s' k hk h h' e
    cases s' with
    | nil =>
      have l := sk_ky_l2 [] (j :: s) k k (fun i hi => by simp at hi) (by simp) (by omega)
      omega
    | cons j' r =>
      have hs : ∀ i, i ∈ s → i < 3 := fun i hi => h i (by simp [hi])
      have hr : ∀ i, i ∈ r → i < 3 := fun i hi => h' i (by simp [hi])
      rw [sk_ky_c, sk_ky_c] at e
      have dj : j < 3 := h j (by simp)
      have dj' : j' < 3 := h' j' (by simp)
      by_cases ll : s.length = r.length
      · by_cases q : j = j'
        · subst q
          rw [ih r (3 * k + j) (by omega) hs hr e]
        · by_cases q2 : j < j'
          · have l := sk_ky_l1 s r (3 * k + j) (3 * k + j') hs ll (by omega)
            omega
          · have l := sk_ky_l1 r s (3 * k + j') (3 * k + j) hr ll.symm (by omega)
            omega
      · by_cases q2 : s.length < r.length
        · have l := sk_ky_l2 s r (3 * k + j) (3 * k + j') hs q2 (by omega)
          omega
        · have l := sk_ky_l2 r s (3 * k + j') (3 * k + j) hr (by omega) (by omega)
          omega
end
