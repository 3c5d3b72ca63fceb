section
theorem ts_nf {x : Bool} (h : ¬ x = false) : x = true := by cases x <;> first | rfl | exact absurd rfl h
theorem ts_nt {x : Bool} (h : ¬ x = true) : x = false := by cases x <;> first | rfl | exact absurd rfl h
theorem ts_bit {w : Int64} {s : UInt64} {j : Nat} (hj : j < 64) (hs : s.toNat = j) : ((w.toUInt64 >>> s).toInt64 &&& 1) = 0 ↔ w.toBitVec.getLsbD j = false := by
  have e : (w.toUInt64 >>> s).toInt64.toBitVec = w.toBitVec >>> j := by
    apply BitVec.eq_of_toNat_eq
    show (w.toUInt64 >>> s).toNat = _
    rw [UInt64.toNat_shiftRight, hs, Nat.mod_eq_of_lt hj, BitVec.toNat_ushiftRight]
    rfl
  rw [← Int64.toBitVec_inj, Int64.toBitVec_and, e]
  show w.toBitVec >>> j &&& 1#64 = 0#64 ↔ _
  constructor
  · intro h
    have t := congrArg (fun x => x.getLsbD 0) h
    simpa using t
  · intro h
    apply BitVec.eq_of_getLsbD_eq
    intro i hi
    cases i with
    | zero => simp [h]
    | succ i => simp
theorem wb_tb (n : Nat) : (lN n).toBitVec = BitVec.ofNat 64 n := rfl
theorem wb_inj {a b : Int64} (h : a.toBitVec = b.toBitVec) : a = b := Int64.toBitVec_inj.mp h
theorem wb_tn {n : Nat} (h : n < 2 ^ 64) : (lN n).toBitVec.toNat = n := by rw [wb_tb, BitVec.toNat_ofNat, Nat.mod_eq_of_lt h]
theorem wb_c : ∀ k, k < 64 → ((nI k).toInt64 &&& 63) = lN k := by decide +kernel
theorem wb_cu : ∀ k, k < 64 → ((nI k).toInt64.toUInt64 &&& Int64.toUInt64 63) = UInt64.ofNat k := by decide +kernel
theorem wb_sm : ∀ k, k < 64 → (BitVec.ofNat 64 k).smod 64 = BitVec.ofNat 64 k := by decide +kernel
theorem wb_pw {a b : Nat} (h : a ≤ b) : 2 ^ b = 2 ^ a * 2 ^ (b - a) := by rw [← Nat.pow_add]; congr 1; omega
theorem wb_lt2 {a b : Nat} (h : a < b) : 2 ^ a < 2 ^ b := Nat.pow_lt_pow_right (by decide) h
theorem wb_mod (n : Nat) : lN n = lN (n % 2 ^ 64) := wb_inj (by rw [wb_tb, wb_tb]; apply BitVec.eq_of_toNat_eq; rw [BitVec.toNat_ofNat, BitVec.toNat_ofNat, Nat.mod_mod])
theorem wb_shr {n k : Nat} (hn : n < 2 ^ 64) (hk : k < 64) : ((lN n).toUInt64 >>> ((nI k).toInt64.toUInt64 &&& Int64.toUInt64 63)).toInt64 = lN (n / 2 ^ k) := by
  rw [wb_cu k hk]
  apply wb_inj
  apply BitVec.eq_of_toNat_eq
  show ((lN n).toUInt64 >>> UInt64.ofNat k).toNat = (BitVec.ofNat 64 _).toNat
  have h1 : (UInt64.ofNat k).toNat = k := by
    show (BitVec.ofNat 64 k).toNat = k
    rw [BitVec.toNat_ofNat, Nat.mod_eq_of_lt (by omega)]
  have h2 : (lN n).toUInt64.toNat = n := wb_tn hn
  rw [UInt64.toNat_shiftRight, h1, h2, Nat.mod_eq_of_lt hk, Nat.shiftRight_eq_div_pow, BitVec.toNat_ofNat, Nat.mod_eq_of_lt (Nat.lt_of_le_of_lt (Nat.div_le_self _ _) hn)]
theorem wb_shl (n : Nat) {k : Nat} (hk : k < 64) : lN n <<< ((nI k).toInt64 &&& 63) = lN (n * 2 ^ k) := by
  rw [wb_c k hk]
  apply wb_inj
  rw [Int64.toBitVec_shiftLeft, wb_tb, wb_tb, wb_tb, wb_sm k hk]
  apply BitVec.eq_of_toNat_eq
  rw [BitVec.shiftLeft_eq', BitVec.toNat_shiftLeft, BitVec.toNat_ofNat, BitVec.toNat_ofNat, BitVec.toNat_ofNat, Nat.mod_eq_of_lt (show k < 2 ^ 64 by omega), Nat.shiftLeft_eq, Nat.mul_mod, Nat.mod_mod, ← Nat.mul_mod]
theorem wb_and {a b : Nat} (ha : a < 2 ^ 64) (hb : b < 2 ^ 64) : lN a &&& lN b = lN (a &&& b) := by
  apply wb_inj
  rw [Int64.toBitVec_and, wb_tb, wb_tb, wb_tb]
  apply BitVec.eq_of_toNat_eq
  rw [BitVec.toNat_and, BitVec.toNat_ofNat, BitVec.toNat_ofNat, BitVec.toNat_ofNat, Nat.mod_eq_of_lt ha, Nat.mod_eq_of_lt hb, Nat.mod_eq_of_lt (Nat.and_lt_two_pow _ hb)]
theorem wb_or {a b : Nat} (ha : a < 2 ^ 64) (hb : b < 2 ^ 64) : lN a ||| lN b = lN (a ||| b) := by
  apply wb_inj
  rw [Int64.toBitVec_or, wb_tb, wb_tb, wb_tb]
  apply BitVec.eq_of_toNat_eq
  rw [BitVec.toNat_or, BitVec.toNat_ofNat, BitVec.toNat_ofNat, BitVec.toNat_ofNat, Nat.mod_eq_of_lt ha, Nat.mod_eq_of_lt hb, Nat.mod_eq_of_lt (Nat.or_lt_two_pow ha hb)]
theorem wb_mask {n k : Nat} (hn : n < 2 ^ 64) (hk : k < 64) : lN n &&& lN (2 ^ k - 1) = lN (n % 2 ^ k) := by
  rw [wb_and hn (by have := wb_lt2 hk; omega), Nat.and_two_pow_sub_one_eq_mod]
theorem u_tn {n : Nat} (h : n < 2 ^ 64) : (UInt64.ofNat n).toNat = n := Nat.mod_eq_of_lt h
theorem g_and {a b c : Nat} (ha : a < 2 ^ 64) (hb : b < 2 ^ 64) (hc : a &&& b = c) : lN a &&& lN b = lN c := by
  subst hc
  have h : UInt64.ofNat a &&& UInt64.ofNat b = UInt64.ofNat (a &&& b) := UInt64.toNat_inj.mp (by rw [UInt64.toNat_and, u_tn ha, u_tn hb, u_tn (Nat.and_lt_two_pow a hb)])
  have h2 := congrArg UInt64.toInt64 h
  exact h2
theorem g_mask {a s p : Nat} (hp : 2 ^ s = p) (hs : s < 64) (ha : a < 2 ^ 64) : lN a &&& lN (p - 1) = lN (a % p) := by
  subst hp
  have := Nat.pow_lt_pow_right (show 1 < 2 by decide) hs
  exact g_and ha (by omega) (Nat.and_two_pow_sub_one_eq_mod a s)
theorem g_or {k p a b : Nat} (hp : 2 ^ k = p) (ha : a < p) (h : b * p + a < 2 ^ 64) : lN (b * p) ||| lN a = lN (b * p + a) := by
  subst hp
  have h1 : b * 2 ^ k ||| a = b * 2 ^ k + a := by rw [← Nat.shiftLeft_eq, Nat.shiftLeft_add_eq_or_of_lt ha]
  have h3 : UInt64.ofNat (b * 2 ^ k) ||| UInt64.ofNat a = UInt64.ofNat (b * 2 ^ k + a) := UInt64.toNat_inj.mp (by rw [UInt64.toNat_or, u_tn (by omega), u_tn (by omega), u_tn h, h1])
  have h2 := congrArg UInt64.toInt64 h3
  exact h2
theorem g_or' {k p a b : Nat} (hp : 2 ^ k = p) (ha : a < p) (h : a + b * p < 2 ^ 64) : lN a ||| lN (b * p) = lN (a + b * p) := by
  rw [Int64.or_comm, g_or hp ha (by omega), Nat.add_comm]
end
section
def pu_upd (f : Nat → Nat) (k x : Nat) : Nat → Nat := fun j => if j = k then x else f j
theorem pu_us {f : Nat → Nat} {k x : Nat} : pu_upd f k x k = x := by simp [pu_upd]
theorem pu_un {f : Nat → Nat} {k x j : Nat} (h : j ≠ k) : pu_upd f k x j = f j := by simp [pu_upd, h]
def pu_A (f : Nat → Nat) : Nat → Int32 := fun i => nI (f i)
theorem pu_Au (f : Nat → Nat) (k x : Nat) : upd (pu_A f) k (nI x) = pu_A (pu_upd f k x) := by
  funext j
  unfold upd pu_A pu_upd
  by_cases h : j = k
  · simp [h]
  · simp [h]
theorem pu_Ag (f : Nat → Nat) {t : Nat} (h : t < 2 ^ 31) : pu_A f (nI t).toNatClampNeg = nI (f t) := by
  unfold pu_A
  rw [nI_clamp h]
theorem pu_php : ∀ (N k : Nat) (f : Nat → Nat), (∀ i, i < k → f i < N) → (∀ i j, i < k → j < k → f i = f j → i = j) → k ≤ N := by
  intro N
  induction N with
  | zero =>
    intro k f hb _
    cases k with
    | zero => exact Nat.le_refl 0
    | succ k => exact absurd (hb 0 (by omega)) (by omega)
  | succ N ih =>
    intro k f hb hi
    cases k with
    | zero => omega
    | succ k =>
      by_cases hx : ∃ i0, i0 < k + 1 ∧ f i0 = N
      · obtain ⟨i0, h0, e0⟩ := hx
        have h3 := ih k (fun i => if i = i0 then f k else f i) (by
          intro i hik
          show (if i = i0 then f k else f i) < N
          by_cases e : i = i0
          · rw [if_pos e]
            have h1 := hb k (by omega)
            have h2 : f k ≠ N := fun h => by
              have h4 := hi k i0 (by omega) h0 (by rw [h, e0])
              omega
            omega
          · rw [if_neg e]
            have h1 := hb i (by omega)
            have h2 : f i ≠ N := fun h => e (hi i i0 (by omega) h0 (by rw [h, e0]))
            omega) (by
          intro i j hik hjk h
          have h' : (if i = i0 then f k else f i) = (if j = i0 then f k else f j) := h
          by_cases ei : i = i0
          · by_cases ej : j = i0
            · omega
            · rw [if_pos ei, if_neg ej] at h'
              have h4 := hi k j (by omega) (by omega) h'
              omega
          · by_cases ej : j = i0
            · rw [if_neg ei, if_pos ej] at h'
              have h4 := hi i k (by omega) (by omega) h'
              omega
            · rw [if_neg ei, if_neg ej] at h'
              exact hi i j (by omega) (by omega) h')
        omega
      · have h3 := ih (k + 1) f (fun i hik => by
          have h1 := hb i hik
          have h2 : f i ≠ N := fun h => hx ⟨i, hik, h⟩
          omega) hi
        omega
def pu_cn (p : Nat → Bool) : Nat → Nat
  | 0 => 0
  | n + 1 => pu_cn p n + (if p n = true then 1 else 0)
theorem pu_cn_t {p : Nat → Bool} {n : Nat} (h : p n = true) : pu_cn p (n + 1) = pu_cn p n + 1 := by
  show pu_cn p n + (if p n = true then 1 else 0) = _
  rw [if_pos h]
theorem pu_cn_f {p : Nat → Bool} {n : Nat} (h : ¬ p n = true) : pu_cn p (n + 1) = pu_cn p n := by
  show pu_cn p n + (if p n = true then 1 else 0) = _
  rw [if_neg h, Nat.add_zero]
theorem pu_cn_le (p : Nat → Bool) : ∀ n, pu_cn p n ≤ n := by
  intro n
  induction n with
  | zero => exact Nat.le_refl 0
  | succ n ih =>
    by_cases h : p n = true
    · rw [pu_cn_t h]; omega
    · rw [pu_cn_f h]; omega
theorem pu_cn_up (p : Nat → Bool) : ∀ {a b : Nat}, a ≤ b → pu_cn p a ≤ pu_cn p b := by
  intro a b h
  induction b with
  | zero => have e : a = 0 := by omega
            rw [e]; exact Nat.le_refl _
  | succ b ih =>
    by_cases e : a = b + 1
    · rw [e]; exact Nat.le_refl _
    · have h1 := ih (by omega)
      by_cases hp : p b = true
      · rw [pu_cn_t hp]; omega
      · rw [pu_cn_f hp]; exact h1
theorem pu_cn_mono {p q : Nat → Bool} : ∀ n, (∀ i, i < n → p i = true → q i = true) → pu_cn p n ≤ pu_cn q n := by
  intro n
  induction n with
  | zero => intro _; exact Nat.le_refl 0
  | succ n ih =>
    intro h
    have h1 := ih (fun i hi => h i (by omega))
    by_cases hp : p n = true
    · rw [pu_cn_t hp, pu_cn_t (h n (by omega) hp)]; omega
    · rw [pu_cn_f hp]
      by_cases hq : q n = true
      · rw [pu_cn_t hq]; omega
      · rw [pu_cn_f hq]; exact h1
theorem pu_cn_lt {p q : Nat → Bool} : ∀ n, (∀ i, i < n → p i = true → q i = true) → (∃ i, i < n ∧ ¬ p i = true ∧ q i = true) → pu_cn p n < pu_cn q n := by
  intro n
  induction n with
  | zero => intro _ h; obtain ⟨i, hi, _⟩ := h; omega
  | succ n ih =>
    intro h hx
    obtain ⟨i, hi, hp, hq⟩ := hx
    by_cases e : i = n
    · subst e
      have h1 := pu_cn_mono i (fun j hj => h j (by omega))
      rw [pu_cn_f hp, pu_cn_t hq]; omega
    · have h1 := ih (fun j hj => h j (by omega)) ⟨i, by omega, hp, hq⟩
      by_cases hp' : p n = true
      · rw [pu_cn_t hp', pu_cn_t (h n (by omega) hp')]; omega
      · rw [pu_cn_f hp']
        by_cases hq' : q n = true
        · rw [pu_cn_t hq']; omega
        · rw [pu_cn_f hq']; exact h1
theorem pu_cn_all {p : Nat → Bool} : ∀ n, n ≤ pu_cn p n → ∀ i, i < n → p i = true := by
  intro n
  induction n with
  | zero => intro _ i hi; omega
  | succ n ih =>
    intro h i hi
    have h2 := pu_cn_le p n
    by_cases hp : p n = true
    · rw [pu_cn_t hp] at h
      by_cases e : i = n
      · rw [e]; exact hp
      · exact ih (by omega) i (by omega)
    · rw [pu_cn_f hp] at h; omega
theorem pu_cn_ex {p : Nat → Bool} : ∀ n k, k < pu_cn p n → ∃ g, g < n ∧ p g = true ∧ pu_cn p g = k := by
  intro n
  induction n with
  | zero => intro k h; exact absurd h (Nat.not_lt_zero k)
  | succ n ih =>
    intro k h
    by_cases hp : p n = true
    · rw [pu_cn_t hp] at h
      by_cases e : k = pu_cn p n
      · exact ⟨n, by omega, hp, e.symm⟩
      · obtain ⟨g, h1, h2, h3⟩ := ih k (by omega)
        exact ⟨g, by omega, h2, h3⟩
    · rw [pu_cn_f hp] at h
      obtain ⟨g, h1, h2, h3⟩ := ih k h
      exact ⟨g, by omega, h2, h3⟩
theorem pu_cn_un {p : Nat → Bool} {g g' : Nat} (h : p g = true) (h' : p g' = true) (e : pu_cn p g = pu_cn p g') : g = g' := by
  by_cases l : g < g'
  · have h1 := pu_cn_up p (a := g + 1) (b := g') l
    rw [pu_cn_t h] at h1; omega
  · by_cases l' : g' < g
    · have h1 := pu_cn_up p (a := g' + 1) (b := g) l'
      rw [pu_cn_t h'] at h1; omega
    · omega
theorem pu_cn_lt2 {p : Nat → Bool} {g n : Nat} (h : g < n) (hp : p g = true) : pu_cn p g < pu_cn p n := by
  have h1 := pu_cn_up p (a := g + 1) (b := n) h
  rw [pu_cn_t hp] at h1; omega
theorem pu_cn_cg {p q : Nat → Bool} : ∀ n, (∀ i, i < n → p i = q i) → pu_cn p n = pu_cn q n := by
  intro n
  induction n with
  | zero => intro _; rfl
  | succ n ih =>
    intro h
    show pu_cn p n + (if p n = true then 1 else 0) = pu_cn q n + (if q n = true then 1 else 0)
    rw [ih (fun i hi => h i (by omega)), h n (by omega)]
end
section
section
variable (kd fs sc : Nat → Nat) (n : Nat) (tw : Nat → Nat)
def tc_Cl (S : Nat → Prop) : Prop :=
  (∀ t u, t < n → u < n → tw t = tw u → S t → S u) ∧
  (∀ t, t < n → 3 ≤ kd t → S (fs t) → S (sc t) → S t) ∧
  (∀ t, t < n → kd t = 3 → S t → S (fs t) ∧ S (sc t)) ∧
  (∀ t, t < n → kd t = 4 → S t → S (sc t) → S (fs t)) ∧
  (∀ t, t < n → kd t = 5 → S t → kd (tw (sc t)) = 1 → sc (tw (sc t)) = 1 → S (fs t))
def tc_L (K : Nat → Prop) (t : Nat) : Prop :=
  ∀ S : Nat → Prop, tc_Cl kd fs sc n tw S → (∀ u, u < n → K u → S u) → S t
theorem tc_L_in {K : Nat → Prop} {u : Nat} (h : u < n) (k : K u) : tc_L kd fs sc n tw K u :=
  fun _ _ hK => hK u h k
theorem tc_L_le {K S : Nat → Prop} (c : tc_Cl kd fs sc n tw S) (h : ∀ u, u < n → K u → S u) {t : Nat} (ht : tc_L kd fs sc n tw K t) : S t := ht S c h
theorem tc_L_cl (K : Nat → Prop) : tc_Cl kd fs sc n tw (tc_L kd fs sc n tw K) :=
  ⟨fun t u ht hu e h S c hK => c.1 t u ht hu e (h S c hK),
   fun t ht hk a b S c hK => c.2.1 t ht hk (a S c hK) (b S c hK),
   fun t ht hk a => ⟨fun S c hK => (c.2.2.1 t ht hk (a S c hK)).1, fun S c hK => (c.2.2.1 t ht hk (a S c hK)).2⟩,
   fun t ht hk a b S c hK => c.2.2.2.1 t ht hk (a S c hK) (b S c hK),
   fun t ht hk a e1 e2 S c hK => c.2.2.2.2 t ht hk (a S c hK) e1 e2⟩
theorem tc_L_cg {K K' : Nat → Prop} (h : ∀ u, u < n → (K u ↔ K' u)) (t : Nat) : tc_L kd fs sc n tw K t ↔ tc_L kd fs sc n tw K' t :=
  ⟨fun a S c hK => a S c (fun u hu k => hK u hu ((h u hu).mp k)), fun a S c hK => a S c (fun u hu k => hK u hu ((h u hu).mpr k))⟩
variable (sz rs : Nat → Nat) (G : Nat → Prop)
def tc_Y : Prop :=
  (∀ t, t < n → G t → rs t < n ∧ G (rs t) ∧ tw (rs t) = tw t ∧ (kd (rs t) = 1 ∨ 3 ≤ kd (rs t)) ∧ sz (rs t) ≤ sz t ∧ kd (tw t) = kd (rs t)) ∧
  (∀ t, t < n → 3 ≤ kd t → fs t < n ∧ sc t < n ∧ (G t ↔ G (fs t) ∧ G (sc t)) ∧ sz t = 1 + sz (fs t) + sz (sc t)) ∧
  (∀ t u, t < n → u < n → tw t = tw u → G t → G u) ∧
  (∀ t, t < n → G t → kd t = 1 → tw t = t) ∧
  (∀ t u, t < n → u < n → G t → G u → 3 ≤ kd t → kd t = kd u → (tw t = tw u ↔ tw (fs t) = tw (fs u) ∧ tw (sc t) = tw (sc u))) ∧
  (∀ t, t < n → 1 ≤ sz t ∧ sz t ≤ 32 ∧ tw t < 64) ∧
  (∀ t, t < n → kd t ≠ 2 → rs t = t)
variable {kd fs sc n tw sz rs G}
theorem tc_Y_kd (Y : tc_Y kd fs sc n tw sz rs G) {t u : Nat} (ht : t < n) (hu : u < n) (gt : G t) (gu : G u) (e : tw t = tw u) : kd (rs t) = kd (rs u) := by
  have h1 := (Y.1 t ht gt).2.2.2.2.2
  have h2 := (Y.1 u hu gu).2.2.2.2.2
  rw [e] at h1
  rw [← h1, h2]
theorem tc_Y_part (Y : tc_Y kd fs sc n tw sz rs G) {t u : Nat} (ht : t < n) (hu : u < n) (gt : G t) (gu : G u) (kt : 3 ≤ kd t) (ku : kd u ≠ 2) (e : tw t = tw u) : kd t = kd u ∧ tw (fs t) = tw (fs u) ∧ tw (sc t) = tw (sc u) := by
  have h := tc_Y_kd Y ht hu gt gu e
  rw [Y.2.2.2.2.2.2 t ht (by omega), Y.2.2.2.2.2.2 u hu ku] at h
  exact ⟨h, (Y.2.2.2.2.1 t u ht hu gt gu kt h).mp e⟩
theorem tc_eq1 (Y : tc_Y kd fs sc n tw sz rs G) {a b : Nat} (ha : a < n) (hb : b < n) (ga : G a) (gb : G b) (e : rs a = rs b) : tw a = tw b := by
  rw [← (Y.1 a ha ga).2.2.1, ← (Y.1 b hb gb).2.2.1, e]
theorem tc_eq2 (Y : tc_Y kd fs sc n tw sz rs G) {a b : Nat} (ha : a < n) (hb : b < n) (ga : G a) (gb : G b) (e : rs a ≠ rs b) (h : kd (rs a) ≠ kd (rs b) ∨ kd (rs a) < 3) : tw a ≠ tw b := by
  intro w
  have hk := tc_Y_kd Y ha hb ga gb w
  obtain ⟨a1, a2, a3, a4, a5, a6⟩ := Y.1 a ha ga
  obtain ⟨b1, b2, b3, b4, b5, b6⟩ := Y.1 b hb gb
  have k1 : kd (rs a) = 1 := by omega
  have k2 : kd (rs b) = 1 := by omega
  have e1 := Y.2.2.2.1 (rs a) a1 a2 k1
  have e2 := Y.2.2.2.1 (rs b) b1 b2 k2
  exact e (by rw [← e1, ← e2, a3, b3, w])
theorem tc_eq3 (Y : tc_Y kd fs sc n tw sz rs G) {a b : Nat} (ha : a < n) (hb : b < n) (ga : G a) (gb : G b) (hk : kd (rs a) = kd (rs b)) (h3 : 3 ≤ kd (rs a)) : tw a = tw b ↔ tw (fs (rs a)) = tw (fs (rs b)) ∧ tw (sc (rs a)) = tw (sc (rs b)) := by
  obtain ⟨a1, a2, a3, a4, a5, a6⟩ := Y.1 a ha ga
  obtain ⟨b1, b2, b3, b4, b5, b6⟩ := Y.1 b hb gb
  rw [← a3, ← b3]
  exact Y.2.2.2.2.1 (rs a) (rs b) a1 b1 a2 b2 h3 hk
variable (kd fs sc n tw G)
def tc_SC (M S : Nat → Prop) : Prop :=
  (∀ x, x < n → G x → M x → S x) ∧
  (∀ t u, t < n → u < n → G t → tw t = tw u → S t → S u) ∧
  (∀ t, t < n → G t → 3 ≤ kd t → S (fs t) → S (sc t) → S t)
def tc_S (M : Nat → Prop) (x : Nat) : Prop := ∀ S : Nat → Prop, tc_SC kd fs sc n tw G M S → S x
variable {kd fs sc n tw G}
theorem tc_S_cl (M : Nat → Prop) : tc_SC kd fs sc n tw G M (tc_S kd fs sc n tw G M) :=
  ⟨fun x hx g m S c => c.1 x hx g m, fun t u ht hu g e h S c => c.2.1 t u ht hu g e (h S c), fun t ht g k a b S c => c.2.2 t ht g k (a S c) (b S c)⟩
theorem tc_S_inv (Y : tc_Y kd fs sc n tw sz rs G) {M : Nat → Prop} (sat : ∀ t u, t < n → u < n → G t → tw t = tw u → M t → M u) {x : Nat} (hx : x < n) (gx : G x) (h : tc_S kd fs sc n tw G M x) : M x ∨ ∃ t, t < n ∧ G t ∧ 3 ≤ kd t ∧ tw t = tw x ∧ tc_S kd fs sc n tw G M (fs t) ∧ tc_S kd fs sc n tw G M (sc t) := by
  have c := tc_S_cl (kd := kd) (fs := fs) (sc := sc) (n := n) (tw := tw) (G := G) M
  have bk : ∀ y, y < n → G y → (M y ∨ ∃ t, t < n ∧ G t ∧ 3 ≤ kd t ∧ tw t = tw y ∧ tc_S kd fs sc n tw G M (fs t) ∧ tc_S kd fs sc n tw G M (sc t)) → tc_S kd fs sc n tw G M y := by
    intro y hy gy o
    rcases o with m | ⟨t, ht, gt, kt, e, a, b⟩
    · exact c.1 y hy gy m
    · exact c.2.1 t y ht hy gt e (c.2.2 t ht gt kt a b)
  refine h (fun y => y < n → G y → (M y ∨ ∃ t, t < n ∧ G t ∧ 3 ≤ kd t ∧ tw t = tw y ∧ tc_S kd fs sc n tw G M (fs t) ∧ tc_S kd fs sc n tw G M (sc t))) ⟨?_, ?_, ?_⟩ hx gx
  · intro y hy gy m _ _
    exact Or.inl m
  · intro t u ht hu gt e o hu' gu
    rcases o ht gt with m | ⟨t', ht', gt', kt', e', a, b⟩
    · exact Or.inl (sat t u ht hu gt e m)
    · exact Or.inr ⟨t', ht', gt', kt', e'.trans e, a, b⟩
  · intro t ht gt kt a b _ _
    obtain ⟨h1, h2, h3, h4⟩ := Y.2.1 t ht kt
    have g := h3.mp gt
    exact Or.inr ⟨t, ht, gt, kt, rfl, bk _ h1 g.1 (a h1 g.1), bk _ h2 g.2 (b h2 g.2)⟩
theorem tc_S_comp (Y : tc_Y kd fs sc n tw sz rs G) {M : Nat → Prop} (sat : ∀ t u, t < n → u < n → G t → tw t = tw u → M t → M u) {x : Nat} (hx : x < n) (gx : G x) (kx : 3 ≤ kd x) (nm : ¬ M x) : tc_S kd fs sc n tw G M x ↔ tc_S kd fs sc n tw G M (fs x) ∧ tc_S kd fs sc n tw G M (sc x) := by
  have c := tc_S_cl (kd := kd) (fs := fs) (sc := sc) (n := n) (tw := tw) (G := G) M
  constructor
  · intro h
    rcases tc_S_inv Y sat hx gx h with m | ⟨t, ht, gt, kt, e, a, b⟩
    · exact absurd m nm
    · obtain ⟨h1, h2, h3, h4⟩ := Y.2.1 t ht kt
      obtain ⟨x1, x2, x3, x4⟩ := Y.2.1 x hx kx
      have g := h3.mp gt
      obtain ⟨p1, p2, p3⟩ := tc_Y_part Y ht hx gt gx kt (by omega) e
      exact ⟨c.2.1 _ _ h1 x1 g.1 p2 a, c.2.1 _ _ h2 x2 g.2 p3 b⟩
  · intro h
    exact c.2.2 x hx gx kx h.1 h.2
theorem tc_S_atom (Y : tc_Y kd fs sc n tw sz rs G) {M : Nat → Prop} (sat : ∀ t u, t < n → u < n → G t → tw t = tw u → M t → M u) {x : Nat} (hx : x < n) (gx : G x) (kx : kd (rs x) < 3) (nm : ¬ M x) : ¬ tc_S kd fs sc n tw G M x := by
  intro h
  rcases tc_S_inv Y sat hx gx h with m | ⟨t, ht, gt, kt, e, a, b⟩
  · exact nm m
  · have h1 := tc_Y_kd Y ht hx gt gx e
    rw [Y.2.2.2.2.2.2 t ht (by omega)] at h1
    omega
theorem tc_S_rs (Y : tc_Y kd fs sc n tw sz rs G) {M : Nat → Prop} {x : Nat} (hx : x < n) (gx : G x) : tc_S kd fs sc n tw G M x ↔ tc_S kd fs sc n tw G M (rs x) := by
  have c := tc_S_cl (kd := kd) (fs := fs) (sc := sc) (n := n) (tw := tw) (G := G) M
  obtain ⟨a1, a2, a3, a4, a5, a6⟩ := Y.1 x hx gx
  exact ⟨c.2.1 x (rs x) hx a1 gx a3.symm, c.2.1 (rs x) x a1 hx a2 a3⟩
theorem tc_main (Y : tc_Y kd fs sc n tw sz rs G) {K M : Nat → Prop}
    (sat : ∀ t u, t < n → u < n → G t → tw t = tw u → M t → M u)
    (hK : ∀ x, x < n → K x → G x ∧ M x)
    (hM : ∀ x, x < n → G x → M x → tc_L kd fs sc n tw K x)
    (fin : ∀ x, x < n → G x → M x → ∃ y, y < n ∧ G y ∧ kd y ≠ 2 ∧ tw y = tw x ∧ (kd y = 3 → M (fs y) ∧ M (sc y)) ∧ (kd y = 4 → tc_S kd fs sc n tw G M (sc y) → M (fs y)) ∧ (kd y = 5 → kd (tw (sc y)) = 1 → sc (tw (sc y)) = 1 → M (fs y)))
    {g : Nat} (hg : g < n) (gg : G g) : tc_S kd fs sc n tw G M g ↔ tc_L kd fs sc n tw K g := by
  have c := tc_S_cl (kd := kd) (fs := fs) (sc := sc) (n := n) (tw := tw) (G := G) M
  have cl := tc_L_cl kd fs sc n tw K
  constructor
  · intro h
    exact h (tc_L kd fs sc n tw K) ⟨hM, fun t u ht hu _ e a => cl.1 t u ht hu e a, fun t ht _ k a b => cl.2.1 t ht k a b⟩
  · intro h
    have key : ∀ t, t < n → 3 ≤ kd t → G t → tc_S kd fs sc n tw G M t → (tc_S kd fs sc n tw G M (fs t) ∧ tc_S kd fs sc n tw G M (sc t)) ∨ ∃ y, y < n ∧ G y ∧ kd y = kd t ∧ fs y < n ∧ sc y < n ∧ G (fs y) ∧ G (sc y) ∧ tw (fs y) = tw (fs t) ∧ tw (sc y) = tw (sc t) ∧ (kd y = 3 → M (fs y) ∧ M (sc y)) ∧ (kd y = 4 → tc_S kd fs sc n tw G M (sc y) → M (fs y)) ∧ (kd y = 5 → kd (tw (sc y)) = 1 → sc (tw (sc y)) = 1 → M (fs y)) := by
      intro t ht kt gt st
      by_cases m : M t
      · obtain ⟨y, hy, gy, ky, e, f1, f2, f3⟩ := fin t ht gt m
        obtain ⟨p1, p2, p3⟩ := tc_Y_part Y ht hy gt gy kt ky e.symm
        obtain ⟨y1, y2, y3, y4⟩ := Y.2.1 y hy (by omega)
        have g := y3.mp gy
        exact Or.inr ⟨y, hy, gy, p1.symm, y1, y2, g.1, g.2, p2.symm, p3.symm, f1, f2, f3⟩
      · exact Or.inl ((tc_S_comp Y sat ht gt kt m).mp st)
    refine (h (fun x => G x ∧ tc_S kd fs sc n tw G M x) ⟨?_, ?_, ?_, ?_, ?_⟩ ?_).2
    · intro t u ht hu e a
      exact ⟨Y.2.2.1 t u ht hu e a.1, c.2.1 t u ht hu a.1 e a.2⟩
    · intro t ht k a b
      have gt := (Y.2.1 t ht k).2.2.1.mpr ⟨a.1, b.1⟩
      exact ⟨gt, c.2.2 t ht gt k a.2 b.2⟩
    · intro t ht k a
      obtain ⟨t1, t2, t3, t4⟩ := Y.2.1 t ht (by omega)
      have g := t3.mp a.1
      rcases key t ht (by omega) a.1 a.2 with ⟨s1, s2⟩ | ⟨y, hy, gy, ky, y1, y2, g1, g2, w1, w2, f1, f2, f3⟩
      · exact ⟨⟨g.1, s1⟩, ⟨g.2, s2⟩⟩
      · have m := f1 (by omega)
        exact ⟨⟨g.1, c.2.1 _ _ y1 t1 g1 w1 (c.1 _ y1 g1 m.1)⟩, ⟨g.2, c.2.1 _ _ y2 t2 g2 w2 (c.1 _ y2 g2 m.2)⟩⟩
    · intro t ht k a b
      obtain ⟨t1, t2, t3, t4⟩ := Y.2.1 t ht (by omega)
      have g := t3.mp a.1
      rcases key t ht (by omega) a.1 a.2 with ⟨s1, s2⟩ | ⟨y, hy, gy, ky, y1, y2, g1, g2, w1, w2, f1, f2, f3⟩
      · exact ⟨g.1, s1⟩
      · have m := f2 (by omega) (c.2.1 _ _ t2 y2 g.2 w2.symm b.2)
        exact ⟨g.1, c.2.1 _ _ y1 t1 g1 w1 (c.1 _ y1 g1 m)⟩
    · intro t ht k a e1 e2
      obtain ⟨t1, t2, t3, t4⟩ := Y.2.1 t ht (by omega)
      have g := t3.mp a.1
      rcases key t ht (by omega) a.1 a.2 with ⟨s1, s2⟩ | ⟨y, hy, gy, ky, y1, y2, g1, g2, w1, w2, f1, f2, f3⟩
      · exact ⟨g.1, s1⟩
      · have m := f3 (by omega) (by rw [w2]; exact e1) (by rw [w2]; exact e2)
        exact ⟨g.1, c.2.1 _ _ y1 t1 g1 w1 (c.1 _ y1 g1 m)⟩
    · intro u hu k
      obtain ⟨g1, m⟩ := hK u hu k
      exact ⟨g1, c.1 u hu g1 m⟩
variable (tw)
def tc_M (f : Nat → Nat) (m x : Nat) : Prop := ∃ i, i < m ∧ tw (f i) = tw x
variable {tw}
theorem tc_M_sat {f : Nat → Nat} {m : Nat} : ∀ t u, t < n → u < n → G t → tw t = tw u → tc_M tw f m t → tc_M tw f m u := by
  intro t u _ _ _ e h
  obtain ⟨i, hi, w⟩ := h
  exact ⟨i, hi, w.trans e⟩
theorem tc_M_up {f : Nat → Nat} {m c x : Nat} : tc_M tw (pu_upd f m c) (m + 1) x ↔ tc_M tw f m x ∨ tw c = tw x := by
  constructor
  · intro h
    obtain ⟨i, hi, w⟩ := h
    by_cases e : i = m
    · rw [e, pu_us] at w; exact Or.inr w
    · rw [pu_un e] at w; exact Or.inl ⟨i, by omega, w⟩
  · intro h
    rcases h with ⟨i, hi, w⟩ | w
    · exact ⟨i, by omega, by rw [pu_un (by omega)]; exact w⟩
    · exact ⟨m, by omega, by rw [pu_us]; exact w⟩
theorem tc_M_room {f : Nat → Nat} {m c : Nat} (hf : ∀ i, i < m → tw (f i) < 64) (hc : tw c < 64) (inj : ∀ i j, i < m → j < m → tw (f i) = tw (f j) → i = j) (nm : ¬ tc_M tw f m c) : m < 64 := by
  have h := pu_php 64 (m + 1) (fun i => tw (pu_upd f m c i)) (by
    intro i hi
    show tw (pu_upd f m c i) < 64
    by_cases e : i = m
    · rw [e, pu_us]; exact hc
    · rw [pu_un e]; exact hf i (by omega)) (by
    intro i j hi hj w
    have w' : tw (pu_upd f m c i) = tw (pu_upd f m c j) := w
    by_cases ei : i = m
    · by_cases ej : j = m
      · omega
      · rw [ei, pu_us, pu_un ej] at w'
        exact absurd ⟨j, by omega, w'.symm⟩ nm
    · by_cases ej : j = m
      · rw [ej, pu_us, pu_un ei] at w'
        exact absurd ⟨i, by omega, w'⟩ nm
      · rw [pu_un ei, pu_un ej] at w'
        exact inj i j (by omega) (by omega) w')
  omega
end
end
section
section
def ci_C (kd fs sc sz gr : Nat → Nat) (na : Nat) (ac : Nat → Nat) (vc : Nat → Int32) (t : Nat) : Prop :=
  (kd t = 1 ∧ fs t < na ∧ ac (fs t) = t ∧ sc t ≤ 1 ∧ sz t = 1 ∧ gr t = 1) ∨
  (kd t = 2 ∧ fs t < 3 ∧ vc (fs t) = nI t ∧ sc t = 0 ∧ sz t = 1 ∧ gr t = 0) ∨
  (3 ≤ kd t ∧ kd t ≤ 5 ∧ fs t < t ∧ sc t < t ∧ sz t = 1 + sz (fs t) + sz (sc t) ∧ sz t ≤ 32 ∧ (gr t = 1 ↔ gr (fs t) = 1 ∧ gr (sc t) = 1) ∧ gr t ≤ 1)
def ci_I (kd fs sc sz gr : Nat → Nat) (n na : Nat) (ac : Nat → Nat) (vc : Nat → Int32) : Prop :=
  n ≤ 64 ∧ na ≤ 8 ∧
  (∀ t, t < n → ci_C kd fs sc sz gr na ac vc t) ∧
  (∀ i, i < na → ac i < n ∧ kd (ac i) = 1 ∧ fs (ac i) = i) ∧
  (∀ v, v < 3 → vc v = -1 ∨ ∃ t, t < n ∧ vc v = nI t ∧ kd t = 2 ∧ fs t = v) ∧
  (∀ t u, t < n → u < n → 3 ≤ kd t → kd t = kd u → fs t = fs u → sc t = sc u → t = u)
variable {kd fs sc sz gr : Nat → Nat} {n na : Nat} {ac : Nat → Nat} {vc : Nat → Int32}
theorem ci_sz (I : ci_I kd fs sc sz gr n na ac vc) : ∀ t, t < n → 1 ≤ sz t ∧ sz t ≤ 32 := by
  intro t ht
  rcases I.2.2.1 t ht with ⟨_, _, _, _, h, _⟩ | ⟨_, _, _, _, h, _⟩ | ⟨_, _, _, _, h, h2, _⟩
  · omega
  · omega
  · omega
theorem ci_kd (I : ci_I kd fs sc sz gr n na ac vc) {t : Nat} (ht : t < n) : 1 ≤ kd t ∧ kd t ≤ 5 := by
  rcases I.2.2.1 t ht with ⟨h, _⟩ | ⟨h, _⟩ | ⟨h, h2, _⟩
  · omega
  · omega
  · omega
theorem ci_gr (I : ci_I kd fs sc sz gr n na ac vc) {t : Nat} (ht : t < n) : gr t ≤ 1 := by
  rcases I.2.2.1 t ht with ⟨_, _, _, _, _, h⟩ | ⟨_, _, _, _, _, h⟩ | ⟨_, _, _, _, _, _, _, h⟩
  · omega
  · omega
  · omega
theorem ci_k1 (I : ci_I kd fs sc sz gr n na ac vc) {t : Nat} (ht : t < n) (k : kd t = 1) : fs t < na ∧ ac (fs t) = t ∧ sc t ≤ 1 ∧ sz t = 1 ∧ gr t = 1 := by
  rcases I.2.2.1 t ht with ⟨_, h⟩ | ⟨h, _⟩ | ⟨h, h2, _⟩
  · exact h
  · omega
  · omega
theorem ci_k2 (I : ci_I kd fs sc sz gr n na ac vc) {t : Nat} (ht : t < n) (k : kd t = 2) : fs t < 3 ∧ vc (fs t) = nI t ∧ sc t = 0 ∧ sz t = 1 ∧ gr t = 0 := by
  rcases I.2.2.1 t ht with ⟨h, _⟩ | ⟨_, h⟩ | ⟨h, h2, _⟩
  · omega
  · exact h
  · omega
theorem ci_k3 (I : ci_I kd fs sc sz gr n na ac vc) {t : Nat} (ht : t < n) (k : 3 ≤ kd t) : kd t ≤ 5 ∧ fs t < t ∧ sc t < t ∧ sz t = 1 + sz (fs t) + sz (sc t) ∧ sz t ≤ 32 ∧ (gr t = 1 ↔ gr (fs t) = 1 ∧ gr (sc t) = 1) ∧ gr t ≤ 1 := by
  rcases I.2.2.1 t ht with ⟨h, _⟩ | ⟨h, _⟩ | ⟨_, h⟩
  · omega
  · omega
  · exact h
theorem ci_b (I : ci_I kd fs sc sz gr n na ac vc) {t : Nat} (ht : t < n) : fs t < 64 ∧ sc t < 64 := by
  have hn := I.1
  have ha := I.2.1
  rcases I.2.2.1 t ht with ⟨_, h, _, h2, _⟩ | ⟨_, h, _, h2, _⟩ | ⟨_, _, h, h2, _⟩
  · omega
  · omega
  · omega
variable (kd fs sc)
def ci_R (tw : Nat → Nat) (a t : Nat) : Prop := kd a = kd t ∧ tw (fs a) = tw (fs t) ∧ tw (sc a) = tw (sc t)
def ci_X (ac ch tw : Nat → Nat) (t : Nat) : Prop :=
  (kd t = 1 → tw t = t) ∧ (kd t = 2 → tw t = ac (ch (fs t))) ∧
  (3 ≤ kd t → tw t ≤ t ∧ ci_R kd fs sc tw (tw t) t ∧ ∀ a, a < tw t → ¬ ci_R kd fs sc tw a t)
variable {kd fs sc}
theorem ci_twY (I : ci_I kd fs sc sz gr n na ac vc) {ch tw : Nat → Nat} (hc : ∀ t, t < n → kd t = 2 → ch (fs t) < na) (X : ∀ t, t < n → ci_X kd fs sc ac ch tw t) :
    tc_Y kd fs sc n tw sz (fun t => if kd t = 2 then ac (ch (fs t)) else t) (fun _ => True) := by
  have at1 : ∀ t, t < n → kd t = 2 → ac (ch (fs t)) < n ∧ kd (ac (ch (fs t))) = 1 ∧ tw (ac (ch (fs t))) = ac (ch (fs t)) := by
    intro t ht k
    obtain ⟨a1, a2, a3⟩ := I.2.2.2.1 _ (hc t ht k)
    exact ⟨a1, a2, (X _ a1).1 a2⟩
  have hn := I.1
  refine ⟨?_, ?_, ?_, ?_, ?_, ?_, ?_⟩
  · intro t ht _
    show (if kd t = 2 then ac (ch (fs t)) else t) < n ∧ True ∧ tw (if kd t = 2 then ac (ch (fs t)) else t) = tw t ∧ (kd (if kd t = 2 then ac (ch (fs t)) else t) = 1 ∨ 3 ≤ kd (if kd t = 2 then ac (ch (fs t)) else t)) ∧ sz (if kd t = 2 then ac (ch (fs t)) else t) ≤ sz t ∧ kd (tw t) = kd (if kd t = 2 then ac (ch (fs t)) else t)
    by_cases k : kd t = 2
    · rw [if_pos k]
      obtain ⟨a1, a2, a3⟩ := at1 t ht k
      have e := (X t ht).2.1 k
      have s1 := (ci_k1 I a1 a2).2.2.2.1
      have s2 := (ci_k2 I ht k).2.2.2.1
      exact ⟨a1, trivial, by rw [a3, e], Or.inl a2, by omega, by rw [e]⟩
    · rw [if_neg k]
      have kk := ci_kd I ht
      by_cases k1 : kd t = 1
      · exact ⟨ht, trivial, rfl, Or.inl k1, Nat.le_refl _, by rw [(X t ht).1 k1]⟩
      · have k3 : 3 ≤ kd t := by omega
        exact ⟨ht, trivial, rfl, Or.inr k3, Nat.le_refl _, ((X t ht).2.2 k3).2.1.1⟩
  · intro t ht k
    obtain ⟨h1, h2, h3, h4, h5, h6⟩ := ci_k3 I ht k
    exact ⟨by omega, by omega, ⟨fun _ => ⟨trivial, trivial⟩, fun _ => trivial⟩, h4⟩
  · intro _ _ _ _ _ _
    trivial
  · intro t ht _ k
    exact (X t ht).1 k
  · intro t u ht hu _ _ k e
    obtain ⟨t1, t2, t3⟩ := (X t ht).2.2 k
    obtain ⟨u1, u2, u3⟩ := (X u hu).2.2 (by omega)
    constructor
    · intro w
      rw [w] at t2
      exact ⟨t2.2.1.symm.trans u2.2.1, t2.2.2.symm.trans u2.2.2⟩
    · intro w
      have n1 : ¬ tw t < tw u := fun l => u3 _ l ⟨t2.1.trans e, t2.2.1.trans w.1, t2.2.2.trans w.2⟩
      have n2 : ¬ tw u < tw t := fun l => t3 _ l ⟨u2.1.trans e.symm, u2.2.1.trans w.1.symm, u2.2.2.trans w.2.symm⟩
      omega
  · intro t ht
    have s := ci_sz I t ht
    refine ⟨s.1, s.2, ?_⟩
    have kk := ci_kd I ht
    by_cases k1 : kd t = 1
    · rw [(X t ht).1 k1]; omega
    · by_cases k2 : kd t = 2
      · obtain ⟨a1, a2, a3⟩ := at1 t ht k2
        rw [(X t ht).2.1 k2]; omega
      · have h := ((X t ht).2.2 (by omega)).1
        omega
  · intro t ht k
    show (if kd t = 2 then ac (ch (fs t)) else t) = t
    rw [if_neg k]
theorem ci_idY (I : ci_I kd fs sc sz gr n na ac vc) : tc_Y kd fs sc n (fun t => t) sz (fun t => t) (fun t => gr t = 1) := by
  have hn := I.1
  refine ⟨?_, ?_, ?_, ?_, ?_, ?_, ?_⟩
  · intro t ht g
    have g' : gr t = 1 := g
    have kk := ci_kd I ht
    refine ⟨ht, g, rfl, ?_, Nat.le_refl _, rfl⟩
    show kd t = 1 ∨ 3 ≤ kd t
    by_cases k2 : kd t = 2
    · have h := (ci_k2 I ht k2).2.2.2.2
      omega
    · omega
  · intro t ht k
    obtain ⟨h1, h2, h3, h4, h5, h6, h7⟩ := ci_k3 I ht k
    exact ⟨by omega, by omega, h6, h4⟩
  · intro t u ht hu e g
    have e' : t = u := e
    rw [← e']; exact g
  · intro t ht _ k
    rfl
  · intro t u ht hu _ _ k e
    show t = u ↔ fs t = fs u ∧ sc t = sc u
    constructor
    · intro w
      rw [w]; exact ⟨rfl, rfl⟩
    · intro w
      exact I.2.2.2.2.2 t u ht hu k e w.1 w.2
  · intro t ht
    have s := ci_sz I t ht
    exact ⟨s.1, s.2, by show t < 64; omega⟩
  · intro t ht k
    rfl
theorem ci_Xup (I : ci_I kd fs sc sz gr n na ac vc) {ch tw : Nat → Nat} {i x : Nat} (hi : i < n) (X : ∀ t, t < i → ci_X kd fs sc ac ch tw t) : ∀ t, t < i → ci_X kd fs sc ac ch (pu_upd tw i x) t := by
  intro t ht
  have e0 : pu_upd tw i x t = tw t := pu_un (by omega)
  refine ⟨?_, ?_, ?_⟩
  · intro k; rw [e0]; exact (X t ht).1 k
  · intro k; rw [e0]; exact (X t ht).2.1 k
  · intro k
    obtain ⟨h1, h2, h3⟩ := (X t ht).2.2 k
    have R : ∀ a, a ≤ t → (ci_R kd fs sc (pu_upd tw i x) a t ↔ ci_R kd fs sc tw a t) := by
      intro a ha
      obtain ⟨t1, t2, t3, _⟩ := ci_k3 I (by omega : t < n) k
      unfold ci_R
      by_cases e : kd a = kd t
      · obtain ⟨a1, a2, a3, _⟩ := ci_k3 I (by omega : a < n) (by omega)
        rw [pu_un (by omega : fs a ≠ i), pu_un (by omega : fs t ≠ i), pu_un (by omega : sc a ≠ i), pu_un (by omega : sc t ≠ i)]
      · constructor
        · intro w; exact absurd w.1 e
        · intro w; exact absurd w.1 e
    rw [e0]
    exact ⟨h1, (R _ h1).mpr h2, fun a ha w => h3 a ha ((R a (by omega)).mp w)⟩
theorem ci_Xcg (I : ci_I kd fs sc sz gr n na ac vc) {ch tw tw' : Nat → Nat} {i : Nat} (hi : i < n) (e : ∀ t, t ≤ i → tw' t = tw t) (X : ci_X kd fs sc ac ch tw i) : ci_X kd fs sc ac ch tw' i := by
  refine ⟨?_, ?_, ?_⟩
  · intro k; rw [e i (Nat.le_refl i)]; exact X.1 k
  · intro k; rw [e i (Nat.le_refl i)]; exact X.2.1 k
  · intro k
    obtain ⟨h1, h2, h3⟩ := X.2.2 k
    have R : ∀ a, a ≤ i → (ci_R kd fs sc tw' a i ↔ ci_R kd fs sc tw a i) := by
      intro a ha
      obtain ⟨t1, t2, t3, _⟩ := ci_k3 I hi k
      unfold ci_R
      by_cases q : kd a = kd i
      · obtain ⟨a1, a2, a3, _⟩ := ci_k3 I (by omega : a < n) (by omega)
        rw [e (fs a) (by omega), e (fs i) (by omega), e (sc a) (by omega), e (sc i) (by omega)]
      · constructor
        · intro w; exact absurd w.1 q
        · intro w; exact absurd w.1 q
    rw [e i (Nat.le_refl i)]
    exact ⟨h1, (R _ h1).mpr h2, fun a ha w => h3 a ha ((R a (by omega)).mp w)⟩
end
end
section
section
def sk_w (j : Nat) : Nat := if j = 0 then 49 else if j = 1 then 7 else 1
def sk_dg (p j : Nat) : Nat := if j = 0 then p / 49 else if j = 1 then p / 7 % 7 else p % 7
def sk_dep (p : Nat) : Nat := p / 49 + p / 7 % 7 + p % 7
theorem sk_w_pos (j : Nat) : 1 ≤ sk_w j := by
  unfold sk_w
  by_cases h : j = 0
  · rw [if_pos h]; omega
  · rw [if_neg h]
    by_cases h1 : j = 1
    · rw [if_pos h1]; omega
    · rw [if_neg h1]; omega
theorem sk_w0 : sk_w 0 = 49 := rfl
theorem sk_w1 : sk_w 1 = 7 := rfl
theorem sk_w2 : sk_w 2 = 1 := rfl
theorem sk_dg0 (p : Nat) : sk_dg p 0 = p / 49 := rfl
theorem sk_dg1 (p : Nat) : sk_dg p 1 = p / 7 % 7 := rfl
theorem sk_dg2 (p : Nat) : sk_dg p 2 = p % 7 := rfl
theorem sk_3 {j : Nat} (h : j < 3) : j = 0 ∨ j = 1 ∨ j = 2 := by omega
theorem sk_up_s {p j : Nat} (hj : j < 3) (h : sk_dg p j < 6) : sk_dg (p + sk_w j) j = sk_dg p j + 1 := by
  rcases sk_3 hj with e | e | e
  · subst e; rw [sk_dg0, sk_dg0, sk_w0]; omega
  · subst e; rw [sk_dg1] at h; rw [sk_dg1, sk_dg1, sk_w1]; omega
  · subst e; rw [sk_dg2] at h; rw [sk_dg2, sk_dg2, sk_w2]; omega
theorem sk_up_o {p j i : Nat} (hj : j < 3) (hi : i < 3) (hij : i ≠ j) (h : sk_dg p j < 6) : sk_dg (p + sk_w j) i = sk_dg p i := by
  rcases sk_3 hj with e | e | e
  · subst e
    rcases sk_3 hi with e | e | e
    · omega
    · subst e; rw [sk_dg1, sk_dg1, sk_w0]; omega
    · subst e; rw [sk_dg2, sk_dg2, sk_w0]; omega
  · subst e
    rw [sk_dg1] at h
    rcases sk_3 hi with e | e | e
    · subst e; rw [sk_dg0, sk_dg0, sk_w1]; omega
    · omega
    · subst e; rw [sk_dg2, sk_dg2, sk_w1]; omega
  · subst e
    rw [sk_dg2] at h
    rcases sk_3 hi with e | e | e
    · subst e; rw [sk_dg0, sk_dg0, sk_w2]; omega
    · subst e; rw [sk_dg1, sk_dg1, sk_w2]; omega
    · omega
theorem sk_dep_e (p : Nat) : sk_dep p = sk_dg p 0 + sk_dg p 1 + sk_dg p 2 := rfl
theorem sk_dep_up {p j : Nat} (hj : j < 3) (h : sk_dg p j < 6) : sk_dep (p + sk_w j) = sk_dep p + 1 := by
  rw [sk_dep_e, sk_dep_e]
  rcases sk_3 hj with e | e | e
  · subst e
    rw [sk_up_s (by omega) h, sk_up_o (i := 1) (by omega) (by omega) (by omega) h, sk_up_o (i := 2) (by omega) (by omega) (by omega) h]; omega
  · subst e
    rw [sk_up_s (by omega) h, sk_up_o (i := 0) (by omega) (by omega) (by omega) h, sk_up_o (i := 2) (by omega) (by omega) (by omega) h]; omega
  · subst e
    rw [sk_up_s (by omega) h, sk_up_o (i := 0) (by omega) (by omega) (by omega) h, sk_up_o (i := 1) (by omega) (by omega) (by omega) h]; omega
theorem sk_lt343 {p : Nat} (h : p / 49 ≤ 6) : p < 343 := by omega
def sk_ky : List Nat → Nat → Nat
  | [], k => k
  | j :: s, k => sk_ky s (3 * k + j)
theorem sk_ky_n (k : Nat) : sk_ky [] k = k := rfl
theorem sk_ky_c (j : Nat) (s : List Nat) (k : Nat) : sk_ky (j :: s) k = sk_ky s (3 * k + j) := rfl
theorem sk_ky_ge : ∀ (s : List Nat) (k : Nat), k ≤ sk_ky s k := by
  intro s
  induction s with
  | nil => intro k; exact Nat.le_refl k
  | cons j s ih => intro k; rw [sk_ky_c]; have h := ih (3 * k + j); omega
theorem sk_ky_l1 : ∀ (s s' : List Nat) (k k' : Nat), (∀ j, j ∈ s → j < 3) → s.length = s'.length → k < k' → sk_ky s k < sk_ky s' k' := by
  intro s
  induction s with
  | nil =>
    intro s' k k' _ hl h
    cases s' with
    | nil => exact h
    | cons j r => simp at hl
  | cons j s ih =>
    intro s' k k' hd hl h
    cases s' with
    | nil => simp at hl
    | cons j' r =>
      rw [sk_ky_c, sk_ky_c]
      have h3 : j < 3 := hd j (by simp)
      exact ih r _ _ (fun i hi => hd i (by simp [hi])) (by simpa using hl) (by omega)
theorem sk_ky_l2 : ∀ (s s' : List Nat) (k k' : Nat), (∀ j, j ∈ s → j < 3) → s.length < s'.length → k + 1 ≤ 3 * k' → sk_ky s k < sk_ky s' k' := by
  intro s
  induction s with
  | nil =>
    intro s' k k' _ hl h
    cases s' with
    | nil => simp at hl
    | cons j r =>
      rw [sk_ky_c, sk_ky_n]
      have h2 := sk_ky_ge r (3 * k' + j)
      omega
  | cons j s ih =>
    intro s' k k' hd hl h
    cases s' with
    | nil => simp at hl
    | cons j' r =>
      rw [sk_ky_c, sk_ky_c]
      have h3 : j < 3 := hd j (by simp)
      exact ih r _ _ (fun i hi => hd i (by simp [hi])) (by simpa using hl) (by omega)
def sk_kA (Q : Nat → Nat) : Nat → Nat
  | 0 => 1
  | L + 1 => 3 * sk_kA Q L + Q L
theorem sk_kA_s (Q : Nat → Nat) (L : Nat) : sk_kA Q (L + 1) = 3 * sk_kA Q L + Q L := rfl
theorem sk_kA_1 (Q : Nat → Nat) : ∀ L, 1 ≤ sk_kA Q L := by
  intro L
  induction L with
  | zero => exact Nat.le_refl 1
  | succ L ih => rw [sk_kA_s]; omega
theorem sk_kA_cg {Q Q' : Nat → Nat} : ∀ L, (∀ i, i < L → Q i = Q' i) → sk_kA Q L = sk_kA Q' L := by
  intro L
  induction L with
  | zero => intro _; rfl
  | succ L ih => intro h; rw [sk_kA_s, sk_kA_s, ih (fun i hi => h i (by omega)), h L (by omega)]
theorem sk_kA_inj {Q Q' : Nat → Nat} : ∀ L L', (∀ i, i < L → Q i < 3) → (∀ i, i < L' → Q' i < 3) → sk_kA Q L = sk_kA Q' L' → L = L' ∧ ∀ i, i < L → Q i = Q' i := by
  intro L
  induction L with
  | zero =>
    intro L' _ _ h
    cases L' with
    | zero => exact ⟨rfl, fun i hi => absurd hi (Nat.not_lt_zero i)⟩
    | succ L' =>
      rw [sk_kA_s] at h
      have h1 := sk_kA_1 Q' L'
      have h2 : sk_kA Q 0 = 1 := rfl
      omega
  | succ L ih =>
    intro L' hd hd' h
    cases L' with
    | zero =>
      rw [sk_kA_s] at h
      have h1 := sk_kA_1 Q L
      have h2 : sk_kA Q' 0 = 1 := rfl
      omega
    | succ L' =>
      rw [sk_kA_s, sk_kA_s] at h
      have d1 := hd L (by omega)
      have d2 := hd' L' (by omega)
      obtain ⟨e, f⟩ := ih L' (fun i hi => hd i (by omega)) (fun i hi => hd' i (by omega)) (by omega)
      subst e
      refine ⟨rfl, fun i hi => ?_⟩
      by_cases q : i = L
      · subst q; omega
      · exact f i (by omega)
theorem sk_kA_lt {Q Q' : Nat → Nat} {i : Nat} (h : sk_kA Q i < sk_kA Q' i) : ∀ L, i ≤ L → (∀ a, a < L → Q a < 3) → sk_kA Q L < sk_kA Q' L := by
  intro L
  induction L with
  | zero => intro hl _; have e : i = 0 := by omega
            subst e; exact h
  | succ L ih =>
    intro hl hd
    by_cases e : i = L + 1
    · subst e; exact h
    · have h1 := ih (by omega) (fun a ha => hd a (by omega))
      have h2 := hd L (by omega)
      rw [sk_kA_s, sk_kA_s]; omega
theorem sk_kA_hi {Q : Nat → Nat} : ∀ L, (∀ a, a < L → Q a < 3) → sk_kA Q L + 1 ≤ 2 * 3 ^ L := by
  intro L
  induction L with
  | zero => intro _; exact Nat.le_refl 2
  | succ L ih =>
    intro hd
    have h1 := ih (fun a ha => hd a (by omega))
    have h2 := hd L (by omega)
    rw [sk_kA_s, Nat.pow_succ]; omega
theorem sk_kA_lo {Q : Nat → Nat} : ∀ L, 3 ^ L ≤ sk_kA Q L := by
  intro L
  induction L with
  | zero => exact Nat.le_refl 1
  | succ L ih => rw [sk_kA_s, Nat.pow_succ]; omega
theorem sk_kA_len {Q Q' : Nat → Nat} {L L' : Nat} (h : L < L') (hd : ∀ a, a < L → Q a < 3) : sk_kA Q L < sk_kA Q' L' := by
  have h1 := sk_kA_hi L hd
  have h2 := sk_kA_lo (Q := Q') L'
  have h3 : 3 ^ (L + 1) ≤ 3 ^ L' := Nat.pow_le_pow_right (by omega) h
  rw [Nat.pow_succ] at h3
  omega
theorem sk_kA_big {Q : Nat → Nat} {L : Nat} (hl : L ≤ 6) (hd : ∀ a, a < L → Q a < 3) : sk_kA Q L < 10000 := by
  have h1 := sk_kA_hi L hd
  have h3 : 3 ^ L ≤ 3 ^ 6 := Nat.pow_le_pow_right (by omega) hl
  have h4 : (3 : Nat) ^ 6 = 729 := by decide
  omega
variable (en : Nat → Nat → Prop) (fn : Nat → Prop)
def sk_att : List Nat → Nat → Prop
  | [], p => fn p
  | j :: s, p => j < 3 ∧ en p j ∧ sk_att s (p + sk_w j)
def sk_pth (nx : Nat → Nat) : List Nat → Nat → Prop
  | [], _ => True
  | j :: s, p => nx p = j ∧ sk_pth nx s (p + sk_w j)
def sk_sp (tg nx : Nat → Nat) (p : Nat) : Prop :=
  (tg p = 7 ∧ ∀ s, ¬ sk_att en fn s p) ∨
  (tg p ≤ 6 ∧ ∃ s : List Nat, s.length = tg p ∧ sk_att en fn s p ∧ sk_pth nx s p ∧ ∀ s', sk_att en fn s' p → ∀ k, 1 ≤ k → sk_ky s k ≤ sk_ky s' k)
variable {en fn}
theorem sk_att_d : ∀ (s : List Nat) (p : Nat), sk_att en fn s p → ∀ j, j ∈ s → j < 3 := by
  intro s
  induction s with
  | nil => intro p _ j hj; simp at hj
  | cons i s ih =>
    intro p h j hj
    have h' : i < 3 ∧ en p i ∧ sk_att en fn s (p + sk_w i) := h
    rcases List.mem_cons.mp hj with e | m
    · rw [e]; exact h'.1
    · exact ih _ h'.2.2 j m
theorem sk_pth_cg {nx nx' : Nat → Nat} {q : Nat} (e : ∀ p, q < p → nx' p = nx p) : ∀ (s : List Nat) (p : Nat), q < p → sk_pth nx s p → sk_pth nx' s p := by
  intro s
  induction s with
  | nil => intro p _ _; trivial
  | cons i s ih =>
    intro p hp h
    have h' : nx p = i ∧ sk_pth nx s (p + sk_w i) := h
    exact ⟨(e p hp).trans h'.1, ih _ (by omega) h'.2⟩
theorem sk_sp_cg {tg tg' nx nx' : Nat → Nat} {q : Nat} (et : ∀ p, q < p → tg' p = tg p) (e : ∀ p, q < p → nx' p = nx p) {p : Nat} (hp : q < p) (h : sk_sp en fn tg nx p) : sk_sp en fn tg' nx' p := by
  rcases h with ⟨a, b⟩ | ⟨a, s, h1, h2, h3, h4⟩
  · exact Or.inl ⟨(et p hp).trans a, b⟩
  · exact Or.inr ⟨by rw [et p hp]; exact a, s, by rw [et p hp]; exact h1, h2, sk_pth_cg e s p hp h3, h4⟩
theorem sk_len {ok : Nat → Prop} (hs : ∀ p j, ok p → j < 3 → en p j → ok (p + sk_w j) ∧ sk_dep (p + sk_w j) = sk_dep p + 1) (hd : ∀ p, ok p → sk_dep p ≤ 6) : ∀ (s : List Nat) (p : Nat), ok p → sk_att en fn s p → s.length + sk_dep p ≤ 6 := by
  intro s
  induction s with
  | nil => intro p o _; have h := hd p o; simpa using h
  | cons j s ih =>
    intro p o h
    have h' : j < 3 ∧ en p j ∧ sk_att en fn s (p + sk_w j) := h
    obtain ⟨o2, e⟩ := hs p j o h'.1 h'.2.1
    have h2 := ih _ o2 h'.2.2
    rw [List.length_cons]; omega
variable (en fn)
def sk_J (nx : Nat → Nat) (p i a b : Nat) : Prop :=
  (a = 7 ∧ ∀ j, j < i → ∀ s, en p j → ¬ sk_att en fn s (p + sk_w j)) ∨
  (a ≤ 6 ∧ b < i ∧ en p b ∧ ∃ s : List Nat, s.length + 1 = a ∧ sk_att en fn s (p + sk_w b) ∧ sk_pth nx s (p + sk_w b) ∧ ∀ j, j < i → ∀ s', en p j → sk_att en fn s' (p + sk_w j) → ∀ k, 1 ≤ k → sk_ky (b :: s) k ≤ sk_ky (j :: s') k)
variable {en fn}
theorem sk_J0 {nx : Nat → Nat} {p b : Nat} : sk_J en fn nx p 0 7 b := Or.inl ⟨rfl, fun j hj => absurd hj (Nat.not_lt_zero j)⟩
theorem sk_Jno {nx : Nat → Nat} {p i a b : Nat} (h : sk_J en fn nx p i a b) (no : ∀ s, en p i → ¬ sk_att en fn s (p + sk_w i)) : sk_J en fn nx p (i + 1) a b := by
  rcases h with ⟨e, f⟩ | ⟨e, hb, hn, s, h1, h2, h3, h4⟩
  · refine Or.inl ⟨e, fun j hj s => ?_⟩
    by_cases q : j = i
    · subst q; exact no s
    · exact f j (by omega) s
  · refine Or.inr ⟨e, by omega, hn, s, h1, h2, h3, fun j hj s' en' hat => ?_⟩
    by_cases q : j = i
    · subst q; exact absurd hat (no s' en')
    · exact h4 j (by omega) s' en' hat
theorem sk_Jkeep {tg nx : Nat → Nat} {p i a b : Nat} (hi : i < 3) (h : sk_J en fn nx p i a b) (sp : sk_sp en fn tg nx (p + sk_w i)) (l5 : ∀ s, sk_att en fn s (p + sk_w i) → s.length ≤ 5) (ge : a ≤ tg (p + sk_w i) + 1) : sk_J en fn nx p (i + 1) a b := by
  rcases sp with ⟨_, no⟩ | ⟨e6, si, g1, g2, g3, g4⟩
  · exact sk_Jno h (fun s _ => no s)
  · have l := l5 si g2
    rcases h with ⟨e, f⟩ | ⟨e, hb, hn, s, h1, h2, h3, h4⟩
    · omega
    · refine Or.inr ⟨e, by omega, hn, s, h1, h2, h3, fun j hj s' en' hat k hk => ?_⟩
      by_cases q : j = i
      · subst q
        have m := g4 s' hat (3 * k + j) (by omega)
        rw [sk_ky_c, sk_ky_c]
        have ds := sk_att_d s _ h2
        by_cases le : s.length = si.length
        · have h5 := sk_ky_l1 s si (3 * k + b) (3 * k + j) ds le (by omega)
          omega
        · have h5 := sk_ky_l2 s si (3 * k + b) (3 * k + j) ds (by omega) (by omega)
          omega
      · exact h4 j (by omega) s' en' hat k hk
theorem sk_Jtake {tg nx : Nat → Nat} {p i a b : Nat} (hi : i < 3) (h : sk_J en fn nx p i a b) (ei : en p i) (sp : sk_sp en fn tg nx (p + sk_w i)) (lt : tg (p + sk_w i) + 1 < a) : sk_J en fn nx p (i + 1) (tg (p + sk_w i) + 1) i := by
  have a7 : a ≤ 7 := by
    rcases h with ⟨e, f⟩ | ⟨e, _⟩
    · omega
    · omega
  rcases sp with ⟨e7, no⟩ | ⟨e6, si, g1, g2, g3, g4⟩
  · omega
  · refine Or.inr ⟨by omega, by omega, ei, si, by omega, g2, g3, fun j hj s' en' hat k hk => ?_⟩
    by_cases q : j = i
    · subst q
      rw [sk_ky_c, sk_ky_c]
      exact g4 s' hat (3 * k + j) (by omega)
    · rcases h with ⟨e, f⟩ | ⟨e, hb, hn, s, h1, h2, h3, h4⟩
      · exact absurd hat (f j (by omega) s' en')
      · have m := h4 j (by omega) s' en' hat k hk
        have ds := sk_att_d si _ g2
        have h5 := sk_ky_l2 si s (3 * k + i) (3 * k + b) ds (by omega) (by omega)
        rw [sk_ky_c] at m
        rw [sk_ky_c]
        omega
theorem sk_Jend {tg nx : Nat → Nat} {p a b : Nat} (h : sk_J en fn nx p 3 a b) (nf : ¬ fn p) (ht : tg p = a) (hx : a ≤ 6 → nx p = b) : sk_sp en fn tg nx p := by
  rcases h with ⟨e, f⟩ | ⟨e, hb, hn, s, h1, h2, h3, h4⟩
  · refine Or.inl ⟨by omega, fun s => ?_⟩
    intro hat
    cases s with
    | nil => exact nf hat
    | cons j s =>
      have h' : j < 3 ∧ en p j ∧ sk_att en fn s (p + sk_w j) := hat
      exact f j h'.1 s h'.2.1 h'.2.2
  · refine Or.inr ⟨by omega, b :: s, by rw [List.length_cons]; omega, ⟨hb, hn, h2⟩, ⟨hx e, h3⟩, fun s' hat k hk => ?_⟩
    cases s' with
    | nil => exact absurd hat nf
    | cons j s' =>
      have h' : j < 3 ∧ en p j ∧ sk_att en fn s' (p + sk_w j) := hat
      exact h4 j h'.1 s' h'.2.1 h'.2.2 k hk
theorem sk_fin {tg nx : Nat → Nat} {p : Nat} (f : fn p) (ht : tg p = 0) : sk_sp en fn tg nx p :=
  Or.inr ⟨by omega, [], by rw [ht]; rfl, f, trivial, fun s' _ k _ => sk_ky_ge s' k⟩
end
end
section
section
theorem as_dm {c d q : Nat} (h : d < c) : (d + q * c) / c = q ∧ (d + q * c) % c = d := by
  have hc : 0 < c := by omega
  refine ⟨?_, ?_⟩
  · rw [Nat.add_mul_div_right d q hc, Nat.div_eq_of_lt h]; omega
  · rw [Nat.add_mul_mod_self_right, Nat.mod_eq_of_lt h]
def as_V (c0 c1 c2 x : Nat) : Prop := x < 512 ∧ x / 64 < c0 ∧ x / 8 % 8 < c1 ∧ x % 8 < c2
def as_f (c1 c2 e : Nat) : Nat := e / c2 / c1 * 64 + e / c2 % c1 * 8 + e % c2
theorem as_pos {c0 c1 c2 e : Nat} (h : e < c0 * c1 * c2) : 0 < c1 ∧ 0 < c2 := by
  refine ⟨?_, ?_⟩
  · rcases Nat.eq_zero_or_pos c1 with z | z
    · rw [z, Nat.mul_zero, Nat.zero_mul] at h; omega
    · exact z
  · rcases Nat.eq_zero_or_pos c2 with z | z
    · rw [z, Nat.mul_zero] at h; omega
    · exact z
theorem as_dig {c0 c1 c2 e : Nat} (h : e < c0 * c1 * c2) : e / c2 / c1 < c0 ∧ e / c2 % c1 < c1 ∧ e % c2 < c2 := by
  obtain ⟨p1, p2⟩ := as_pos h
  have h1 : e / c2 < c0 * c1 := Nat.div_lt_of_lt_mul (by rw [Nat.mul_comm]; exact h)
  have h2 : e / c2 / c1 < c0 := Nat.div_lt_of_lt_mul (by rw [Nat.mul_comm]; exact h1)
  exact ⟨h2, Nat.mod_lt _ p1, Nat.mod_lt _ p2⟩
theorem as_f_dig {c0 c1 c2 e : Nat} (h0 : c0 ≤ 8) (h1 : c1 ≤ 8) (h2 : c2 ≤ 8) (h : e < c0 * c1 * c2) : as_f c1 c2 e / 64 = e / c2 / c1 ∧ as_f c1 c2 e / 8 % 8 = e / c2 % c1 ∧ as_f c1 c2 e % 8 = e % c2 ∧ as_f c1 c2 e < 512 := by
  obtain ⟨d0, d1, d2⟩ := as_dig h
  unfold as_f
  generalize e / c2 / c1 = x at d0 ⊢
  generalize e / c2 % c1 = y at d1 ⊢
  generalize e % c2 = z at d2 ⊢
  refine ⟨?_, ?_, ?_, ?_⟩
  · omega
  · omega
  · omega
  · omega
theorem as_f_V {c0 c1 c2 e : Nat} (h0 : c0 ≤ 8) (h1 : c1 ≤ 8) (h2 : c2 ≤ 8) (h : e < c0 * c1 * c2) : as_V c0 c1 c2 (as_f c1 c2 e) := by
  obtain ⟨d0, d1, d2⟩ := as_dig h
  obtain ⟨f0, f1, f2, f3⟩ := as_f_dig h0 h1 h2 h
  exact ⟨f3, by rw [f0]; exact d0, by rw [f1]; exact d1, by rw [f2]; exact d2⟩
theorem as_f_mono {c0 c1 c2 e e' : Nat} (h1 : c1 ≤ 8) (h2 : c2 ≤ 8) (h : e < c0 * c1 * c2) (l : e' < e) : as_f c1 c2 e' < as_f c1 c2 e := by
  obtain ⟨d0, d1, d2⟩ := as_dig h
  obtain ⟨d0', d1', d2'⟩ := as_dig (Nat.lt_trans l h)
  have q2 : e' / c2 ≤ e / c2 := Nat.div_le_div_right (Nat.le_of_lt l)
  have q1 : e' / c2 / c1 ≤ e / c2 / c1 := Nat.div_le_div_right q2
  have m1 := Nat.div_add_mod (e / c2) c1
  have m1' := Nat.div_add_mod (e' / c2) c1
  have m2 := Nat.div_add_mod e c2
  have m2' := Nat.div_add_mod e' c2
  unfold as_f
  by_cases a : e' / c2 / c1 = e / c2 / c1
  · rw [a] at m1'
    by_cases b : e' / c2 % c1 = e / c2 % c1
    · have r : e' / c2 = e / c2 := by omega
      rw [r] at m2'
      rw [a, b]
      omega
    · rw [a]
      omega
  · omega
theorem as_f_sur {c0 c1 c2 x : Nat} (v : as_V c0 c1 c2 x) : ∃ e, e < c0 * c1 * c2 ∧ as_f c1 c2 e = x := by
  obtain ⟨v0, v1, v2, v3⟩ := v
  refine ⟨x % 8 + (x / 8 % 8 + x / 64 * c1) * c2, ?_, ?_⟩
  · have h1 : (x / 64 + 1) * c1 ≤ c0 * c1 := Nat.mul_le_mul_right c1 v1
    rw [Nat.add_mul, Nat.one_mul] at h1
    have h2 : (x / 8 % 8 + x / 64 * c1 + 1) * c2 ≤ c0 * c1 * c2 := Nat.mul_le_mul_right c2 (by omega)
    rw [Nat.add_mul (x / 8 % 8 + x / 64 * c1) 1 c2, Nat.one_mul] at h2
    omega
  · obtain ⟨a1, a2⟩ := as_dm (q := x / 8 % 8 + x / 64 * c1) v3
    obtain ⟨b1, b2⟩ := as_dm (q := x / 64) v2
    unfold as_f
    rw [a1, a2, b1, b2]
    omega
variable (At : Nat → Nat → Prop)
def as_I (P : Nat → Prop) (B a : Nat) : Prop :=
  (B = 10000 ∧ ∀ x, P x → ∀ k, ¬ At x k) ∨
  (B < 10000 ∧ P a ∧ At a B ∧ ∀ x, P x → ∀ k, At x k → B < k ∨ (B = k ∧ a ≤ x))
def as_S (c B B' : Nat) : Prop :=
  (B' = B ∧ ∀ k, At c k → B ≤ k) ∨ (At c B' ∧ B' < B ∧ ∀ k, At c k → B' ≤ k)
variable {At}
theorem as_0 {P : Nat → Prop} (h : ∀ x, ¬ P x) (a : Nat) : as_I At P 10000 a := Or.inl ⟨rfl, fun x hx => absurd hx (h x)⟩
theorem as_cg {P P' : Nat → Prop} (h : ∀ x, P x ↔ P' x) {B a : Nat} (i : as_I At P B a) : as_I At P' B a := by
  rcases i with ⟨e, f⟩ | ⟨e, p, t, f⟩
  · exact Or.inl ⟨e, fun x hx => f x ((h x).mpr hx)⟩
  · exact Or.inr ⟨e, (h a).mp p, t, fun x hx => f x ((h x).mpr hx)⟩
theorem as_step {P P' : Nat → Prop} {c B B' a a' : Nat} (hk : ∀ k, At c k → k < 10000) (i : as_I At P B a) (lt : ∀ x, P x → x < c) (hP : ∀ x, P' x ↔ P x ∨ x = c) (s : as_S At c B B') (e1 : B' = B → a' = a) (e2 : B' < B → a' = c) : as_I At P' B' a' := by
  rcases s with ⟨eB, f⟩ | ⟨t, l, f⟩
  · subst eB
    have ea := e1 rfl
    subst ea
    rcases i with ⟨e, g⟩ | ⟨e, p, t, g⟩
    · refine Or.inl ⟨e, fun x hx k w => ?_⟩
      rcases (hP x).mp hx with q | q
      · exact g x q k w
      · subst q
        have h1 := hk k w
        have h2 := f k w
        omega
    · refine Or.inr ⟨e, (hP _).mpr (Or.inl p), t, fun x hx k w => ?_⟩
      rcases (hP x).mp hx with q | q
      · exact g x q k w
      · subst q
        have h2 := f k w
        have h3 := lt _ p
        omega
  · have ea := e2 l
    subst ea
    refine Or.inr ⟨hk _ t, (hP _).mpr (Or.inr rfl), t, fun x hx k w => ?_⟩
    rcases (hP x).mp hx with q | q
    · rcases i with ⟨e, g⟩ | ⟨e, p, t', g⟩
      · exact absurd w (g x q k)
      · have h2 := g x q k w
        omega
    · subst q
      have h2 := f k w
      omega
theorem as_un {P : Nat → Prop} {B B' a a' : Nat} (i : as_I At P B a) (i' : as_I At P B' a') : B = B' ∧ (B < 10000 → a = a') := by
  rcases i with ⟨e, f⟩ | ⟨e, p, t, f⟩
  · rcases i' with ⟨e', f'⟩ | ⟨e', p', t', f'⟩
    · exact ⟨by omega, fun h => by omega⟩
    · exact absurd t' (f _ p' _)
  · rcases i' with ⟨e', f'⟩ | ⟨e', p', t', f'⟩
    · exact absurd t (f' _ p _)
    · have h1 := f _ p' _ t'
      have h2 := f' _ p _ t
      exact ⟨by omega, fun _ => by omega⟩
end
end
section
section
theorem gw_m1 {t : Nat} (h : t < 64) : ¬ nI t = -1 := by
  intro e
  have h1 := congrArg Int32.toInt e
  rw [nI_toInt (by omega)] at h1
  have h2 : (-1 : Int32).toInt = -1 := by decide
  rw [h2] at h1
  omega
variable {kd fs sc sz gr kd' fs' sc' sz' gr' : Nat → Nat} {n na na' : Nat} {ac ac' : Nat → Nat} {vc vc' : Nat → Int32}
theorem gw_up (I : ci_I kd fs sc sz gr n na ac vc) (hn : n < 64) (hna : na ≤ na') (hna8 : na' ≤ 8)
    (ek : ∀ t, t < n → kd' t = kd t) (ef : ∀ t, t < n → fs' t = fs t) (es : ∀ t, t < n → sc' t = sc t) (ez : ∀ t, t < n → sz' t = sz t) (eg : ∀ t, t < n → gr' t = gr t)
    (ea : ∀ i, i < na → ac' i = ac i) (ev : ∀ t, t < n → kd t = 2 → vc' (fs t) = nI t)
    (new : ci_C kd' fs' sc' sz' gr' na' ac' vc' n)
    (hat : ∀ i, na ≤ i → i < na' → ac' i < n + 1 ∧ kd' (ac' i) = 1 ∧ fs' (ac' i) = i)
    (va' : ∀ v, v < 3 → vc' v = -1 ∨ ∃ t, t < n + 1 ∧ vc' v = nI t ∧ kd' t = 2 ∧ fs' t = v)
    (uq : 3 ≤ kd' n → ∀ u, u < n → kd u = kd' n → fs u = fs' n → sc u = sc' n → False) :
    ci_I kd' fs' sc' sz' gr' (n + 1) na' ac' vc' := by
  refine ⟨by omega, hna8, ?_, ?_, va', ?_⟩
  · intro t ht
    by_cases e : t = n
    · rw [e]; exact new
    · have ht' : t < n := by omega
      rcases I.2.2.1 t ht' with ⟨h1, h2, h3, h4, h5, h6⟩ | ⟨h1, h2, h3, h4, h5, h6⟩ | ⟨h1, h2, h3, h4, h5, h6, h7, h8⟩
      · refine Or.inl ?_
        rw [ek t ht', ef t ht', es t ht', ez t ht', eg t ht', ea _ h2]
        exact ⟨h1, by omega, h3, h4, h5, h6⟩
      · refine Or.inr (Or.inl ?_)
        rw [ek t ht', ef t ht', es t ht', ez t ht', eg t ht', ev t ht' h1]
        exact ⟨h1, h2, rfl, h4, h5, h6⟩
      · refine Or.inr (Or.inr ?_)
        rw [ek t ht', ef t ht', es t ht', ez t ht', eg t ht', ez _ (by omega), ez _ (by omega), eg _ (by omega), eg _ (by omega)]
        exact ⟨h1, h2, h3, h4, h5, h6, h7, h8⟩
  · intro i hi
    by_cases l : i < na
    · obtain ⟨h1, h2, h3⟩ := I.2.2.2.1 i l
      rw [ea i l, ek _ h1, ef _ h1]
      exact ⟨by omega, h2, h3⟩
    · exact hat i (by omega) hi
  · intro t u ht hu k e1 e2 e3
    by_cases et : t = n
    · by_cases eu : u = n
      · omega
      · subst et
        have hu' : u < t := by omega
        rw [ek u hu'] at e1
        rw [ef u hu'] at e2
        rw [es u hu'] at e3
        exact absurd (uq k u hu' e1.symm e2.symm e3.symm) id
    · by_cases eu : u = n
      · subst eu
        have ht' : t < u := by omega
        rw [ek t ht'] at e1 k
        rw [ef t ht'] at e2
        rw [es t ht'] at e3
        exact absurd (uq (by omega) t ht' e1 e2 e3) id
      · have ht' : t < n := by omega
        have hu' : u < n := by omega
        rw [ek t ht'] at e1 k
        rw [ef t ht', ef u hu'] at e2
        rw [es t ht', es u hu'] at e3
        rw [ek u hu'] at e1
        exact I.2.2.2.2.2 t u ht' hu' k e1 e2 e3
theorem gw_atom (I : ci_I kd fs sc sz gr n na ac vc) (hn : n < 64) (ha : na < 8) {b : Nat} (hb : b ≤ 1) :
    ci_I (pu_upd kd n 1) (pu_upd fs n na) (pu_upd sc n b) (pu_upd sz n 1) (pu_upd gr n 1) (n + 1) (na + 1) (pu_upd ac na n) vc := by
  refine gw_up I hn (by omega) (by omega) (fun t h => pu_un (by omega)) (fun t h => pu_un (by omega)) (fun t h => pu_un (by omega)) (fun t h => pu_un (by omega)) (fun t h => pu_un (by omega)) (fun i h => pu_un (by omega)) (fun t h k => (ci_k2 I h k).2.1) ?_ ?_ ?_ ?_
  · refine Or.inl ?_
    rw [pu_us, pu_us, pu_us, pu_us, pu_us, pu_us]
    exact ⟨rfl, by omega, rfl, hb, rfl, rfl⟩
  · intro i h1 h2
    have e : i = na := by omega
    subst e
    rw [pu_us, pu_us, pu_us]
    exact ⟨by omega, rfl, rfl⟩
  · intro v hv
    rcases I.2.2.2.2.1 v hv with h | ⟨t, h1, h2, h3, h4⟩
    · exact Or.inl h
    · refine Or.inr ⟨t, by omega, h2, ?_, ?_⟩
      · rw [pu_un (by omega)]; exact h3
      · rw [pu_un (by omega)]; exact h4
  · intro k
    rw [pu_us] at k
    omega
theorem gw_var (I : ci_I kd fs sc sz gr n na ac vc) (hn : n < 64) {v : Nat} (hv : v < 3) (h0 : vc v = -1) :
    ci_I (pu_upd kd n 2) (pu_upd fs n v) (pu_upd sc n 0) (pu_upd sz n 1) (pu_upd gr n 0) (n + 1) na ac (upd vc v (nI n)) := by
  have us : upd vc v (nI n) v = nI n := by unfold upd; rw [if_pos rfl]
  have un : ∀ w, w ≠ v → upd vc v (nI n) w = vc w := by intro w hw; unfold upd; rw [if_neg hw]
  refine gw_up I hn (Nat.le_refl _) I.2.1 (fun t h => pu_un (by omega)) (fun t h => pu_un (by omega)) (fun t h => pu_un (by omega)) (fun t h => pu_un (by omega)) (fun t h => pu_un (by omega)) (fun i h => rfl) ?_ ?_ ?_ ?_ ?_
  · intro t h k
    have e := (ci_k2 I h k).2.1
    by_cases q : fs t = v
    · rw [q, h0] at e
      exact absurd e.symm (gw_m1 (by omega))
    · rw [un _ q]; exact e
  · refine Or.inr (Or.inl ?_)
    rw [pu_us, pu_us, pu_us, pu_us, pu_us, us]
    exact ⟨rfl, hv, rfl, rfl, rfl, rfl⟩
  · intro i h1 h2
    omega
  · intro w hw
    by_cases q : w = v
    · subst q
      refine Or.inr ⟨n, by omega, us, ?_, ?_⟩
      · rw [pu_us]
      · rw [pu_us]
    · rw [un w q]
      rcases I.2.2.2.2.1 w hw with h | ⟨t, h1, h2, h3, h4⟩
      · exact Or.inl h
      · refine Or.inr ⟨t, by omega, h2, ?_, ?_⟩
        · rw [pu_un (by omega)]; exact h3
        · rw [pu_un (by omega)]; exact h4
  · intro k
    rw [pu_us] at k
    omega
theorem gw_comp (I : ci_I kd fs sc sz gr n na ac vc) (hn : n < 64) {o a b g : Nat} (o3 : 3 ≤ o) (o5 : o ≤ 5) (ha : a < n) (hb : b < n) (hs : 1 + sz a + sz b ≤ 32) (hg : g ≤ 1) (hg' : g = 1 ↔ gr a = 1 ∧ gr b = 1)
    (no : ∀ t, t < n → ¬ (kd t = o ∧ fs t = a ∧ sc t = b)) :
    ci_I (pu_upd kd n o) (pu_upd fs n a) (pu_upd sc n b) (pu_upd sz n (1 + sz a + sz b)) (pu_upd gr n g) (n + 1) na ac vc := by
  refine gw_up I hn (Nat.le_refl _) I.2.1 (fun t h => pu_un (by omega)) (fun t h => pu_un (by omega)) (fun t h => pu_un (by omega)) (fun t h => pu_un (by omega)) (fun t h => pu_un (by omega)) (fun i h => rfl) (fun t h k => (ci_k2 I h k).2.1) ?_ ?_ ?_ ?_
  · refine Or.inr (Or.inr ?_)
    rw [pu_us, pu_us, pu_us, pu_us, pu_us, pu_un (by omega), pu_un (by omega), pu_un (by omega), pu_un (by omega)]
    exact ⟨o3, o5, ha, hb, rfl, hs, hg', hg⟩
  · intro i h1 h2
    omega
  · intro v hv
    rcases I.2.2.2.2.1 v hv with h | ⟨t, h1, h2, h3, h4⟩
    · exact Or.inl h
    · refine Or.inr ⟨t, by omega, h2, ?_, ?_⟩
      · rw [pu_un (by omega)]; exact h3
      · rw [pu_un (by omega)]; exact h4
  · intro k u hu e1 e2 e3
    rw [pu_us] at e1 e2 e3
    exact no u hu ⟨e1, e2, e3⟩
def gw_0 : Nat → Nat := fun _ => 0
theorem gw_start (h : ∀ v, v < 3 → vc v = -1) : ci_I gw_0 gw_0 gw_0 gw_0 gw_0 0 0 gw_0 vc :=
  ⟨by omega, by omega, fun t h => by omega, fun t h => by omega, fun v hv => Or.inl (h v hv), fun t u h => by omega⟩
end
end
section
section
def sr_c (T : Nat → Nat) (j g : Nat) : Nat := pu_cn (fun i => T i == j) g
theorem sr_c_t {T : Nat → Nat} {j g : Nat} (h : T g = j) : sr_c T j (g + 1) = sr_c T j g + 1 := pu_cn_t (p := fun i => T i == j) (by simp [h])
theorem sr_c_f {T : Nat → Nat} {j g : Nat} (h : T g ≠ j) : sr_c T j (g + 1) = sr_c T j g := pu_cn_f (p := fun i => T i == j) (by simp [h])
theorem sr_c_le (T : Nat → Nat) (j g : Nat) : sr_c T j g ≤ g := pu_cn_le _ g
theorem sr_c_cg {T T' : Nat → Nat} {j g : Nat} (h : ∀ i, i < g → T i = T' i) : sr_c T j g = sr_c T' j g := by
  refine pu_cn_cg g (fun i hi => ?_)
  show (T i == j) = (T' i == j)
  rw [h i hi]
theorem sr_c_up (T : Nat → Nat) (j : Nat) {a b : Nat} (h : a ≤ b) : sr_c T j a ≤ sr_c T j b := pu_cn_up _ h
theorem sr_c_lt {T : Nat → Nat} {j g n : Nat} (h : g < n) (e : T g = j) : sr_c T j g < sr_c T j n := pu_cn_lt2 (p := fun i => T i == j) h (by simp [e])
theorem sr_c_ex {T : Nat → Nat} {j n k : Nat} (h : k < sr_c T j n) : ∃ g, g < n ∧ T g = j ∧ sr_c T j g = k := by
  obtain ⟨g, h1, h2, h3⟩ := pu_cn_ex (p := fun i => T i == j) n k h
  exact ⟨g, h1, by simpa using h2, h3⟩
theorem sr_sum {T : Nat → Nat} : ∀ g, (∀ i, i < g → T i < 3) → sr_c T 0 g + sr_c T 1 g + sr_c T 2 g = g := by
  intro g
  induction g with
  | zero => intro _; rfl
  | succ g ih =>
    intro h
    have h1 := ih (fun i hi => h i (by omega))
    have h2 := h g (by omega)
    rcases sk_3 h2 with e | e | e
    · rw [sr_c_t e, sr_c_f (by omega), sr_c_f (by omega)]; omega
    · rw [sr_c_t e, sr_c_f (j := 0) (by omega), sr_c_f (j := 2) (by omega)]; omega
    · rw [sr_c_t e, sr_c_f (j := 0) (by omega), sr_c_f (j := 1) (by omega)]; omega
def sr_I (n : Nat) (T S R : Nat → Nat) (ns : Nat) (xc xt xs : Nat → Nat) : Prop :=
  ns ≤ 6 ∧
  (∀ g, g < ns → T g < 3 ∧ S g ≤ 1 ∧ R g < n ∧ xt (T g * 6 + sr_c T (T g) g) = R g ∧ xs (T g * 6 + sr_c T (T g) g) = S g) ∧
  (∀ j, j < 3 → xc j = sr_c T j ns)
theorem sr_0 (n : Nat) (T S R xt xs : Nat → Nat) : sr_I n T S R 0 gw_0 xt xs := ⟨by omega, fun g h => by omega, fun j h => rfl⟩
theorem sr_up {n n' : Nat} {T S R : Nat → Nat} {ns : Nat} {xc xt xs : Nat → Nat} (h : n ≤ n') (I : sr_I n T S R ns xc xt xs) : sr_I n' T S R ns xc xt xs := by
  refine ⟨I.1, fun g hg => ?_, I.2.2⟩
  obtain ⟨h1, h2, h3, h4⟩ := I.2.1 g hg
  exact ⟨h1, h2, by omega, h4⟩
theorem sr_add {n : Nat} {T S R : Nat → Nat} {ns : Nat} {xc xt xs : Nat → Nat} (I : sr_I n T S R ns xc xt xs) (hs : ns < 6) {j s r : Nat} (hj : j < 3) (h1 : s ≤ 1) (hr : r < n) :
    sr_I n (pu_upd T ns j) (pu_upd S ns s) (pu_upd R ns r) (ns + 1) (pu_upd xc j (xc j + 1)) (pu_upd xt (j * 6 + xc j) r) (pu_upd xs (j * 6 + xc j) s) := by
  have cg : ∀ i g, g ≤ ns → sr_c (pu_upd T ns j) i g = sr_c T i g := fun i g hg => sr_c_cg (fun a ha => pu_un (by omega))
  have ec := I.2.2 j hj
  refine ⟨by omega, fun g hg => ?_, fun i hi => ?_⟩
  · by_cases e : g = ns
    · subst e
      rw [pu_us, pu_us, pu_us, cg j g (Nat.le_refl g), ← ec, pu_us, pu_us]
      exact ⟨hj, h1, hr, rfl, rfl⟩
    · have hg' : g < ns := by omega
      obtain ⟨a1, a2, a3, a4, a5⟩ := I.2.1 g hg'
      rw [pu_un e, pu_un e, pu_un e, cg _ g (by omega)]
      have ne : T g * 6 + sr_c T (T g) g ≠ j * 6 + xc j := by
        have l1 := sr_c_le T (T g) g
        have l2 := sr_c_le T j ns
        by_cases q : T g = j
        · have l3 := sr_c_lt hg' q
          rw [q]; omega
        · rw [ec]; omega
      rw [pu_un ne, pu_un ne]
      exact ⟨a1, a2, a3, a4, a5⟩
  · by_cases q : i = j
    · subst q
      rw [pu_us, sr_c_t pu_us, cg i ns (Nat.le_refl ns), ← ec]
    · rw [pu_un q, sr_c_f (by rw [pu_us]; omega), cg i ns (Nat.le_refl ns)]
      exact I.2.2 i hi
theorem sr_find {n : Nat} {T S R : Nat → Nat} {ns : Nat} {xc xt xs : Nat → Nat} (I : sr_I n T S R ns xc xt xs) {j k : Nat} (hj : j < 3) (hk : k < xc j) : ∃ g, g < ns ∧ T g = j ∧ sr_c T j g = k ∧ R g = xt (j * 6 + k) ∧ S g = xs (j * 6 + k) ∧ S g ≤ 1 ∧ R g < n := by
  rw [I.2.2 j hj] at hk
  obtain ⟨g, h1, h2, h3⟩ := sr_c_ex hk
  obtain ⟨a1, a2, a3, a4, a5⟩ := I.2.1 g h1
  rw [h2, h3] at a4 a5
  exact ⟨g, h1, h2, h3, a4.symm, a5.symm, a2, a3⟩
theorem sr_tot {n : Nat} {T S R : Nat → Nat} {ns : Nat} {xc xt xs : Nat → Nat} (I : sr_I n T S R ns xc xt xs) : xc 0 + xc 1 + xc 2 = ns := by
  rw [I.2.2 0 (by omega), I.2.2 1 (by omega), I.2.2 2 (by omega)]
  exact sr_sum ns (fun i hi => (I.2.1 i hi).1)
def sr_K (kl : Nat → Nat) (nk : Nat) (xt xs : Nat → Nat) (p u : Nat) : Prop :=
  (∃ i, i < nk ∧ kl i = u) ∨ ∃ j k, j < 3 ∧ k < sk_dg p j ∧ xs (j * 6 + k) = 1 ∧ xt (j * 6 + k) = u
theorem sr_K0 {kl : Nat → Nat} {nk : Nat} {xt xs : Nat → Nat} {u : Nat} : sr_K kl nk xt xs 0 u ↔ ∃ i, i < nk ∧ kl i = u := by
  constructor
  · intro h
    rcases h with h | ⟨j, k, h1, h2, _⟩
    · exact h
    · rcases sk_3 h1 with e | e | e
      · subst e; rw [sk_dg0] at h2; omega
      · subst e; rw [sk_dg1] at h2; omega
      · subst e; rw [sk_dg2] at h2; omega
  · intro h; exact Or.inl h
theorem sr_Ks {kl : Nat → Nat} {nk : Nat} {xt xs : Nat → Nat} {p j u : Nat} (hj : j < 3) (h6 : sk_dg p j < 6) : sr_K kl nk xt xs (p + sk_w j) u ↔ sr_K kl nk xt xs p u ∨ (xs (j * 6 + sk_dg p j) = 1 ∧ xt (j * 6 + sk_dg p j) = u) := by
  constructor
  · intro h
    rcases h with h | ⟨i, k, h1, h2, h3, h4⟩
    · exact Or.inl (Or.inl h)
    · by_cases e : i = j
      · subst e
        rw [sk_up_s h1 h6] at h2
        by_cases q : k = sk_dg p i
        · subst q; exact Or.inr ⟨h3, h4⟩
        · exact Or.inl (Or.inr ⟨i, k, h1, by omega, h3, h4⟩)
      · rw [sk_up_o hj h1 e h6] at h2
        exact Or.inl (Or.inr ⟨i, k, h1, h2, h3, h4⟩)
  · intro h
    rcases h with (h | ⟨i, k, h1, h2, h3, h4⟩) | ⟨h3, h4⟩
    · exact Or.inl h
    · refine Or.inr ⟨i, k, h1, ?_, h3, h4⟩
      by_cases e : i = j
      · subst e; rw [sk_up_s h1 h6]; omega
      · rw [sk_up_o hj h1 e h6]; exact h2
    · exact Or.inr ⟨j, sk_dg p j, hj, by rw [sk_up_s hj h6]; omega, h3, h4⟩
end
end
section
section
def xk_b (B : Int64) (i : Nat) : Bool := B.toBitVec.getLsbD i
def xk_s (k : Nat) : Int64 := 1 <<< ((nI k).toInt64 &&& 63)
theorem xk_ext {B C : Int64} (h : ∀ i, i < 64 → xk_b B i = xk_b C i) : B = C := by
  apply Int64.toBitVec_inj.mp
  apply BitVec.eq_of_getLsbD_eq
  exact h
theorem xk_or (B C : Int64) (i : Nat) : xk_b (B ||| C) i = (xk_b B i || xk_b C i) := by
  unfold xk_b
  rw [Int64.toBitVec_or, BitVec.getLsbD_or]
theorem xk_0 (i : Nat) : xk_b 0 i = false := by
  unfold xk_b
  show (0#64).getLsbD i = false
  simp
theorem xk_tp : ∀ k, k < 64 → (xk_s k).toBitVec = BitVec.twoPow 64 k := by decide +kernel
theorem xk_one {k : Nat} (hk : k < 64) (i : Nat) : xk_b (xk_s k) i = decide (k = i) := by
  unfold xk_b
  rw [xk_tp k hk, BitVec.getLsbD_twoPow]
  simp [hk]
theorem xk_and {B : Int64} {k : Nat} (hk : k < 64) : (B &&& xk_s k) = 0 ↔ xk_b B k = false := by
  rw [← Int64.toBitVec_inj, Int64.toBitVec_and, xk_tp k hk]
  unfold xk_b
  constructor
  · intro h
    have t := congrArg (fun x => x.getLsbD k) h
    simp only [BitVec.getLsbD_and, BitVec.getLsbD_twoPow] at t
    have z : (0 : Int64).toBitVec.getLsbD k = false := xk_0 k
    rw [z] at t
    simpa [hk] using t
  · intro h
    apply BitVec.eq_of_getLsbD_eq
    intro i hi
    rw [BitVec.getLsbD_and, BitVec.getLsbD_twoPow]
    have z : (0 : Int64).toBitVec.getLsbD i = false := xk_0 i
    rw [z]
    by_cases e : k = i
    · subst e; rw [h, Bool.false_and]
    · simp [e]
theorem xk_shr {B : Int64} {k : Nat} (hk : k < 64) : ((B.toUInt64 >>> ((nI k).toInt64.toUInt64 &&& Int64.toUInt64 63)).toInt64 &&& 1) = 0 ↔ xk_b B k = false :=
  ts_bit hk (by rw [wb_cu k hk]; exact u_tn (by omega))
variable (kd fs sc : Nat → Nat) (n : Nat) (tw : Nat → Nat)
def xk_d (t : Nat) (B : Int64) : Int64 :=
  if xk_b B (tw t) = false then
    (if xk_b B (tw (fs t)) = true ∧ xk_b B (tw (sc t)) = true then xk_s (tw t) else 0)
  else if kd t = 3 then xk_s (tw (fs t)) ||| xk_s (tw (sc t))
  else if kd t = 4 then (if xk_b B (tw (sc t)) = true then xk_s (tw (fs t)) else 0)
  else (if kd (tw (sc t)) = 1 ∧ sc (tw (sc t)) = 1 then xk_s (tw (fs t)) else 0)
def xk_N (S : Nat → Prop) (B : Int64) : Prop := ∀ u, u < n → xk_b B (tw u) = true → S u
def xk_H : Prop := (∀ t, t < n → tw t < 64 ∧ kd t ≤ 5) ∧ (∀ t, t < n → 3 ≤ kd t → fs t < n ∧ sc t < n)
variable {kd fs sc n tw}
theorem xk_sub (B C : Int64) {i : Nat} (h : xk_b B i = true) : xk_b (B ||| C) i = true := by
  rw [xk_or, h, Bool.true_or]
theorem xk_N0 (S : Nat → Prop) : xk_N n tw S 0 := fun u _ h => by rw [xk_0] at h; exact absurd h (by decide)
theorem xk_Nor {S : Nat → Prop} {B C : Int64} (h : xk_N n tw S B) (h2 : xk_N n tw S C) : xk_N n tw S (B ||| C) := by
  intro u hu hb
  rw [xk_or] at hb
  by_cases e : xk_b B (tw u) = true
  · exact h u hu e
  · rw [ts_nt e, Bool.false_or] at hb
    exact h2 u hu hb
theorem xk_N1 {S : Nat → Prop} (c : tc_Cl kd fs sc n tw S) {x : Nat} (hx : x < n) (hw : tw x < 64) (s : S x) : xk_N n tw S (xk_s (tw x)) := by
  intro u hu hb
  rw [xk_one hw] at hb
  exact c.1 x u hx hu (of_decide_eq_true hb) s
theorem xk_dN (H : xk_H kd fs sc n tw) {S : Nat → Prop} (c : tc_Cl kd fs sc n tw S) {B : Int64} (hB : xk_N n tw S B) {t : Nat} (ht : t < n) (k3 : 3 ≤ kd t) : xk_N n tw S (xk_d kd fs sc tw t B) := by
  obtain ⟨f1, s1⟩ := H.2 t ht k3
  have ws := (H.1 _ s1).1
  have wf := (H.1 _ f1).1
  have wt := H.1 t ht
  unfold xk_d
  by_cases b : xk_b B (tw t) = false
  · rw [if_pos b]
    by_cases q : xk_b B (tw (fs t)) = true ∧ xk_b B (tw (sc t)) = true
    · rw [if_pos q]
      exact xk_N1 c ht wt.1 (c.2.1 t ht k3 (hB _ f1 q.1) (hB _ s1 q.2))
    · rw [if_neg q]; exact xk_N0 S
  · rw [if_neg b]
    have st : S t := hB t ht (ts_nf b)
    by_cases q3 : kd t = 3
    · rw [if_pos q3]
      have h := c.2.2.1 t ht q3 st
      exact xk_Nor (xk_N1 c f1 wf h.1) (xk_N1 c s1 ws h.2)
    · rw [if_neg q3]
      by_cases q4 : kd t = 4
      · rw [if_pos q4]
        by_cases q : xk_b B (tw (sc t)) = true
        · rw [if_pos q]
          exact xk_N1 c f1 wf (c.2.2.2.1 t ht q4 st (hB _ s1 q))
        · rw [if_neg q]; exact xk_N0 S
      · rw [if_neg q4]
        by_cases q : kd (tw (sc t)) = 1 ∧ sc (tw (sc t)) = 1
        · rw [if_pos q]
          exact xk_N1 c f1 wf (c.2.2.2.2 t ht (by omega) st q.1 q.2)
        · rw [if_neg q]; exact xk_N0 S
theorem xk_cl (H : xk_H kd fs sc n tw) {B : Int64} (h : ∀ t, t < n → 3 ≤ kd t → (B ||| xk_d kd fs sc tw t B) = B) : tc_Cl kd fs sc n tw (fun u => xk_b B (tw u) = true) := by
  have g : ∀ t, t < n → 3 ≤ kd t → ∀ i, xk_b (xk_d kd fs sc tw t B) i = true → xk_b B i = true := by
    intro t ht k i hi
    have e := h t ht k
    rw [← e, xk_or, hi, Bool.or_true]
  refine ⟨?_, ?_, ?_, ?_, ?_⟩
  · intro t u ht hu e w
    show xk_b B (tw u) = true
    rw [← e]; exact w
  · intro t ht k a b
    have a' : xk_b B (tw (fs t)) = true := a
    have b' : xk_b B (tw (sc t)) = true := b
    show xk_b B (tw t) = true
    by_cases q : xk_b B (tw t) = true
    · exact q
    · refine g t ht k _ ?_
      unfold xk_d
      rw [if_pos (ts_nt q), if_pos ⟨a', b'⟩, xk_one (H.1 t ht).1]
      exact decide_eq_true rfl
  · intro t ht k a
    have a' : xk_b B (tw t) = true := a
    obtain ⟨f1, s1⟩ := H.2 t ht (by omega)
    have e : xk_d kd fs sc tw t B = (xk_s (tw (fs t)) ||| xk_s (tw (sc t))) := by
      unfold xk_d
      rw [if_neg (by rw [a']; decide), if_pos k]
    refine ⟨g t ht (by omega) _ ?_, g t ht (by omega) _ ?_⟩
    · rw [e, xk_or, xk_one (H.1 _ f1).1, decide_eq_true rfl, Bool.true_or]
    · rw [e, xk_or, xk_one (H.1 _ s1).1, decide_eq_true rfl, Bool.or_true]
  · intro t ht k a b
    have a' : xk_b B (tw t) = true := a
    have b' : xk_b B (tw (sc t)) = true := b
    obtain ⟨f1, s1⟩ := H.2 t ht (by omega)
    refine g t ht (by omega) _ ?_
    unfold xk_d
    rw [if_neg (by rw [a']; decide), if_neg (by omega), if_pos k, if_pos b', xk_one (H.1 _ f1).1]
    exact decide_eq_true rfl
  · intro t ht k a e1 e2
    have a' : xk_b B (tw t) = true := a
    obtain ⟨f1, s1⟩ := H.2 t ht (by omega)
    refine g t ht (by omega) _ ?_
    unfold xk_d
    rw [if_neg (by rw [a']; decide), if_neg (by omega), if_neg (by omega), if_pos ⟨e1, e2⟩, xk_one (H.1 _ f1).1]
    exact decide_eq_true rfl
variable (n tw)
def xk_K (K : Nat → Prop) (B : Int64) : Prop := ∀ b, b < 64 → (xk_b B b = true ↔ ∃ x, x < n ∧ K x ∧ tw x = b)
variable {n tw}
theorem xk_main (H : xk_H kd fs sc n tw) {K : Nat → Prop} {B0 B : Int64} (h0 : xk_K n tw K B0)
    (up : ∀ i, i < 64 → xk_b B0 i = true → xk_b B i = true)
    (sd : ∀ S, tc_Cl kd fs sc n tw S → xk_N n tw S B0 → xk_N n tw S B)
    (cl : tc_Cl kd fs sc n tw (fun u => xk_b B (tw u) = true)) {t : Nat} (ht : t < n) : xk_b B (tw t) = true ↔ tc_L kd fs sc n tw K t := by
  constructor
  · intro h S c hK
    refine sd S c ?_ t ht h
    intro u hu hb
    obtain ⟨x, hx, k, e⟩ := (h0 _ (H.1 u hu).1).mp hb
    exact c.1 x u hx hu e (hK x hx k)
  · intro h
    refine h _ cl (fun u hu k => ?_)
    exact up _ (H.1 u hu).1 ((h0 _ (H.1 u hu).1).mpr ⟨u, hu, k, rfl⟩)
theorem xk_grow {B C : Int64} (h : ∀ i, i < 64 → xk_b B i = true → xk_b C i = true) (ne : ¬ C = B) : pu_cn (xk_b B) 64 < pu_cn (xk_b C) 64 := by
  refine pu_cn_lt 64 h ?_
  by_cases q : ∃ i, i < 64 ∧ ¬ xk_b B i = true ∧ xk_b C i = true
  · exact q
  · refine absurd (xk_ext (fun i hi => ?_)) ne
    by_cases b : xk_b B i = true
    · rw [b, h i hi b]
    · by_cases c : xk_b C i = true
      · exact absurd ⟨i, hi, b, c⟩ q
      · rw [ts_nt b, ts_nt c]
theorem xk_full {B : Int64} (h : 64 ≤ pu_cn (xk_b B) 64) (H : xk_H kd fs sc n tw) : tc_Cl kd fs sc n tw (fun u => xk_b B (tw u) = true) := by
  have a := pu_cn_all 64 h
  have g : ∀ u, u < n → xk_b B (tw u) = true := fun u hu => a _ (H.1 u hu).1
  refine ⟨fun t u ht hu _ _ => g u hu, fun t ht _ _ _ => g t ht, fun t ht k _ => ⟨g _ (H.2 t ht (by omega)).1, g _ (H.2 t ht (by omega)).2⟩, fun t ht k _ _ => g _ (H.2 t ht (by omega)).1, fun t ht k _ _ _ => g _ (H.2 t ht (by omega)).1⟩
end
end
section
section
def df_ln (ns B : Nat) : Nat :=
  if B = 10000 then ns else if B < 3 then 0 else if B < 9 then 1 else if B < 27 then 2 else if B < 81 then 3 else if B < 243 then 4 else if B < 729 then 5 else 6
def df_ok (B : Nat) : Prop := B = 10000 ∨ B < 2187
theorem df_ln_no (ns : Nat) : df_ln ns 10000 = ns := if_pos rfl
theorem df_ln_at {ns L a : Nat} (hl : L ≤ 6) (h1 : 3 ^ L ≤ a) (h2 : a + 1 ≤ 2 * 3 ^ L) : df_ln ns a = L := by
  have c : L = 0 ∨ L = 1 ∨ L = 2 ∨ L = 3 ∨ L = 4 ∨ L = 5 ∨ L = 6 := by omega
  have p0 : (3 : Nat) ^ 0 = 1 := rfl
  have p1 : (3 : Nat) ^ 1 = 3 := rfl
  have p2 : (3 : Nat) ^ 2 = 9 := rfl
  have p3 : (3 : Nat) ^ 3 = 27 := rfl
  have p4 : (3 : Nat) ^ 4 = 81 := rfl
  have p5 : (3 : Nat) ^ 5 = 243 := rfl
  have p6 : (3 : Nat) ^ 6 = 729 := rfl
  unfold df_ln
  rcases c with e | e | e | e | e | e | e
  · subst e
    rw [p0] at h1 h2
    rw [if_neg (by omega), if_pos (by omega)]
  · subst e
    rw [p1] at h1 h2
    rw [if_neg (by omega), if_neg (by omega), if_pos (by omega)]
  · subst e
    rw [p2] at h1 h2
    rw [if_neg (by omega), if_neg (by omega), if_neg (by omega), if_pos (by omega)]
  · subst e
    rw [p3] at h1 h2
    rw [if_neg (by omega), if_neg (by omega), if_neg (by omega), if_neg (by omega), if_pos (by omega)]
  · subst e
    rw [p4] at h1 h2
    rw [if_neg (by omega), if_neg (by omega), if_neg (by omega), if_neg (by omega), if_neg (by omega), if_pos (by omega)]
  · subst e
    rw [p5] at h1 h2
    rw [if_neg (by omega), if_neg (by omega), if_neg (by omega), if_neg (by omega), if_neg (by omega), if_neg (by omega), if_pos (by omega)]
  · subst e
    rw [p6] at h1 h2
    rw [if_neg (by omega), if_neg (by omega), if_neg (by omega), if_neg (by omega), if_neg (by omega), if_neg (by omega), if_neg (by omega)]
theorem df_ln_kA {ns L : Nat} {Q : Nat → Nat} (hl : L ≤ 6) (hd : ∀ a, a < L → Q a < 3) : df_ln ns (sk_kA Q L) = L :=
  df_ln_at hl (sk_kA_lo L) (sk_kA_hi L hd)
theorem df_ln_lt {ns B d : Nat} (hb : B < 2187) (h : df_ln ns B ≤ d) : B < 3 ^ (d + 1) := by
  have m : 3 ^ (df_ln ns B + 1) ≤ 3 ^ (d + 1) := Nat.pow_le_pow_right (by omega) (by omega)
  refine Nat.lt_of_lt_of_le ?_ m
  have p1 : (3 : Nat) ^ (0 + 1) = 3 := rfl
  have p2 : (3 : Nat) ^ (1 + 1) = 9 := rfl
  have p3 : (3 : Nat) ^ (2 + 1) = 27 := rfl
  have p4 : (3 : Nat) ^ (3 + 1) = 81 := rfl
  have p5 : (3 : Nat) ^ (4 + 1) = 243 := rfl
  have p6 : (3 : Nat) ^ (5 + 1) = 729 := rfl
  have p7 : (3 : Nat) ^ (6 + 1) = 2187 := rfl
  unfold df_ln
  rw [if_neg (by omega)]
  by_cases a1 : B < 3
  · rw [if_pos a1, p1]; exact a1
  · rw [if_neg a1]
    by_cases a2 : B < 9
    · rw [if_pos a2, p2]; exact a2
    · rw [if_neg a2]
      by_cases a3 : B < 27
      · rw [if_pos a3, p3]; exact a3
      · rw [if_neg a3]
        by_cases a4 : B < 81
        · rw [if_pos a4, p4]; exact a4
        · rw [if_neg a4]
          by_cases a5 : B < 243
          · rw [if_pos a5, p5]; exact a5
          · rw [if_neg a5]
            by_cases a6 : B < 729
            · rw [if_pos a6, p6]; exact a6
            · rw [if_neg a6, p7]; exact hb
variable (en : Nat → Nat → Prop) (fn : Nat → Prop) (ok : Nat → Prop) (Kn : Nat → Nat → Prop) (ns : Nat)
def df_N (d p kk : Nat) (kl q cnt kL : Nat → Nat) : Prop :=
  ok p ∧ sk_dep p = d ∧ (∀ j, j < 3 → cnt j = sk_dg p j) ∧ (∀ e, e < d → q e < 3) ∧ sk_kA q d = kk ∧ (∀ u, (∃ i, i < kl d ∧ kL i = u) ↔ Kn p u) ∧ kl d ≤ 8 + d
def df_E (p kk j k : Nat) : Prop := ∃ i s, j ≤ i ∧ i < 3 ∧ en p i ∧ sk_att en fn s (p + sk_w i) ∧ k = sk_ky s (3 * kk + i)
def df_res (p kk j B ow B' ow' : Nat) : Prop :=
  ((B' = B ∧ ow' = ow) ∨ (df_E en fn p kk j B' ∧ B' < B ∧ ow' = 1)) ∧ ∀ k, df_E en fn p kk j k → B' ≤ k
def df_ag (d : Nat) (ch kl q cnt kL ch' kl' q' cnt' kL' : Nat → Nat) : Prop :=
  (∀ e, e < d → ch' e = ch e ∧ q' e = q e) ∧ (∀ e, e ≤ d → kl' e = kl e) ∧ (∀ i, i < kl d → kL' i = kL i) ∧ (∀ j, j < 3 → cnt' j = cnt j)
def df_con (p' kk' B ow B' ow' : Nat) : Prop :=
  (fn p' ∧ kk' < B ∧ B' = kk' ∧ ow' = 1) ∨ (¬ (fn p' ∧ kk' < B) ∧ B' = B ∧ ow' = ow)
variable (W : Nat → Nat → (Nat → Nat) → (Nat → Nat) → (Nat → Nat) → (Nat → Nat) → (Nat → Nat) → Nat → Nat → Prop)
def df_pop : Prop := ∀ it d ch kl q cnt kL B ow, it < 8000 → d < 6 → df_ok B → ch (d + 1) ≤ 3 → (3 ≤ ch (d + 1) ∨ df_ln ns B ≤ d + 1 ∨ 6 ≤ d + 1) → q d < 3 → 1 ≤ cnt (q d) → cnt (q d) ≤ 6 →
  W (it + 1) d ch kl q (pu_upd cnt (q d) (cnt (q d) - 1)) kL B ow → W it (d + 1) ch kl q cnt kL B ow
def df_skip : Prop := ∀ it d p kk ch kl q cnt kL B ow, it < 8000 → d < 6 → df_ok B → ch d < 3 → d < df_ln ns B → df_N ok Kn d p kk kl q cnt kL → ¬ en p (ch d) →
  W (it + 1) d (pu_upd ch d (ch d + 1)) kl q cnt kL B ow → W it d ch kl q cnt kL B ow
def df_step : Prop := ∀ it d p kk ch kl q cnt kL B ow, it < 8000 → d < 6 → df_ok B → ch d < 3 → d < df_ln ns B → df_N ok Kn d p kk kl q cnt kL → en p (ch d) →
  (∀ kl' kL' B' ow', (∀ e, e ≤ d → kl' e = kl e) → kl d ≤ kl' (d + 1) → (∀ i, i < kl d → kL' i = kL i) → (∀ u, (∃ i, i < kl' (d + 1) ∧ kL' i = u) ↔ Kn (p + sk_w (ch d)) u) → kl' (d + 1) ≤ 8 + (d + 1) →
    df_con fn (p + sk_w (ch d)) (3 * kk + ch d) B ow B' ow' →
    W (it + 1) (d + 1) (pu_upd (pu_upd ch d (ch d + 1)) (d + 1) 0) kl' (pu_upd q d (ch d)) (pu_upd cnt (ch d) (cnt (ch d) + 1)) kL' B' ow') → W it d ch kl q cnt kL B ow
def df_T : Nat → Nat
  | 0 => 0
  | r + 1 => 3 * df_T r + 2
variable {en fn ok Kn ns W}
theorem df_ag_r {d : Nat} {ch kl q cnt kL : Nat → Nat} : df_ag d ch kl q cnt kL ch kl q cnt kL :=
  ⟨fun _ _ => ⟨rfl, rfl⟩, fun _ _ => rfl, fun _ _ => rfl, fun _ _ => rfl⟩
theorem df_N_ag {d p kk : Nat} {ch kl q cnt kL ch' kl' q' cnt' kL' : Nat → Nat} (N : df_N ok Kn d p kk kl q cnt kL) (a : df_ag d ch kl q cnt kL ch' kl' q' cnt' kL') : df_N ok Kn d p kk kl' q' cnt' kL' := by
  obtain ⟨n1, n2, n3, n4, n5, n6, n7⟩ := N
  obtain ⟨a1, a2, a3, a4⟩ := a
  have ek := a2 d (Nat.le_refl d)
  refine ⟨n1, n2, fun j hj => (a4 j hj).trans (n3 j hj), fun e he => by rw [(a1 e he).2]; exact n4 e he, ?_, fun u => ?_, by rw [ek]; exact n7⟩
  · rw [← n5]; exact sk_kA_cg d (fun i hi => (a1 i hi).2)
  · rw [ek, ← n6 u]
    constructor
    · intro h
      obtain ⟨i, h1, h2⟩ := h
      exact ⟨i, h1, (a3 i h1).symm.trans h2⟩
    · intro h
      obtain ⟨i, h1, h2⟩ := h
      exact ⟨i, h1, (a3 i h1).trans h2⟩
theorem df_res_r {p kk j B ow : Nat} (h : ∀ k, df_E en fn p kk j k → B ≤ k) : df_res en fn p kk j B ow B ow := ⟨Or.inl ⟨rfl, rfl⟩, h⟩
theorem df_E_s {p kk j k : Nat} (h : df_E en fn p kk (j + 1) k) : df_E en fn p kk j k := by
  obtain ⟨i, s, h1, h2⟩ := h
  exact ⟨i, s, by omega, h2⟩
theorem df_res_skip {p kk j B ow B' ow' : Nat} (no : ¬ en p j) (h : df_res en fn p kk (j + 1) B ow B' ow') : df_res en fn p kk j B ow B' ow' := by
  refine ⟨?_, fun k hk => ?_⟩
  · rcases h.1 with a | ⟨a, b⟩
    · exact Or.inl a
    · exact Or.inr ⟨df_E_s a, b⟩
  · obtain ⟨i, s, h1, h2, h3, h4⟩ := hk
    by_cases e : i = j
    · subst e; exact absurd h3 no
    · exact h.2 k ⟨i, s, by omega, h2, h3, h4⟩
theorem df_res_comp {p kk j B ow B1 ow1 B2 ow2 B3 ow3 : Nat} (hj : j < 3) (he : en p j) (c : df_con fn (p + sk_w j) (3 * kk + j) B ow B1 ow1)
    (h2 : df_res en fn (p + sk_w j) (3 * kk + j) 0 B1 ow1 B2 ow2) (h3 : df_res en fn p kk (j + 1) B2 ow2 B3 ow3) : df_res en fn p kk j B ow B3 ow3 := by
  have E0 : fn (p + sk_w j) → df_E en fn p kk j (3 * kk + j) := fun f => ⟨j, [], Nat.le_refl j, hj, he, f, rfl⟩
  have E1 : ∀ k, df_E en fn (p + sk_w j) (3 * kk + j) 0 k → df_E en fn p kk j k := by
    intro k hk
    obtain ⟨i, s, _, a2, a3, a4, a5⟩ := hk
    exact ⟨j, i :: s, Nat.le_refl j, hj, he, ⟨a2, a3, a4⟩, a5⟩
  have l1 : B1 ≤ B := by rcases c with ⟨_, _, _, _⟩ | ⟨_, _, _⟩ <;> omega
  have l2 : B2 ≤ B1 := by rcases h2.1 with ⟨_, _⟩ | ⟨_, _, _⟩ <;> omega
  have l3 : B3 ≤ B2 := by rcases h3.1 with ⟨_, _⟩ | ⟨_, _, _⟩ <;> omega
  refine ⟨?_, fun k hk => ?_⟩
  · rcases h3.1 with ⟨e3, o3⟩ | ⟨a, b, o3⟩
    · rcases h2.1 with ⟨e2, o2⟩ | ⟨a, b, o2⟩
      · rcases c with ⟨c1, c2, c3, c4⟩ | ⟨c1, c2, c3⟩
        · refine Or.inr ⟨?_, by omega, by omega⟩
          have e : B3 = 3 * kk + j := by omega
          rw [e]; exact E0 c1
        · exact Or.inl ⟨by omega, by omega⟩
      · refine Or.inr ⟨?_, by omega, by omega⟩
        rw [e3]; exact E1 _ a
    · exact Or.inr ⟨df_E_s a, by omega, o3⟩
  · obtain ⟨i, s, a1, a2, a3, a4, a5⟩ := hk
    by_cases e : i = j
    · subst e
      cases s with
      | nil =>
        have f : fn (p + sk_w i) := a4
        have a5' : k = 3 * kk + i := a5
        rcases c with ⟨c1, c2, c3, c4⟩ | ⟨c1, c2, c3⟩
        · omega
        · by_cases l : 3 * kk + i < B
          · exact absurd ⟨f, l⟩ c1
          · omega
      | cons i' s' =>
        have a4' : i' < 3 ∧ en (p + sk_w i) i' ∧ sk_att en fn s' (p + sk_w i + sk_w i') := a4
        have h := h2.2 k ⟨i', s', by omega, a4'.1, a4'.2.1, a4'.2.2, a5⟩
        omega
    · exact h3.2 k ⟨i, s, by omega, a2, a3, a4, a5⟩
theorem df_main (Rp : df_pop ns W) (Rk : df_skip en ok Kn ns W) (Rs : df_step en fn ok Kn ns W)
    (hs : ∀ p j, ok p → j < 3 → en p j → ok (p + sk_w j) ∧ sk_dg p j < 6) (hn : ∀ p, ok p → ns ≤ sk_dep p → ∀ j, j < 3 → ¬ en p j) (hn6 : ns ≤ 6) :
    ∀ r d, d + r = 6 → ∀ m j, j + m = 3 → ∀ it p kk ch kl q cnt kL B ow, ch d = j → df_N ok Kn d p kk kl q cnt kL → df_ok B → it + m * df_T r < 8000 →
    (∀ it' ch' kl' q' cnt' kL' B' ow', it' ≤ it + m * df_T r → df_ag d ch kl q cnt kL ch' kl' q' cnt' kL' → df_ok B' → df_res en fn p kk j B ow B' ow' → ch' d ≤ 3 → (3 ≤ ch' d ∨ df_ln ns B' ≤ d ∨ 6 ≤ d) → W it' d ch' kl' q' cnt' kL' B' ow') →
    W it d ch kl q cnt kL B ow := by
  intro r
  induction r with
  | zero =>
    intro d hd m j hj it p kk ch kl q cnt kL B ow e N b hit cont
    refine cont it ch kl q cnt kL B ow (by omega) df_ag_r b (df_res_r (fun k hk => ?_)) (by omega) (Or.inr (Or.inr (by omega)))
    obtain ⟨i, s, a1, a2, a3, a4, a5⟩ := hk
    have dp := N.2.1
    exact absurd a3 (hn p N.1 (by omega) i a2)
  | succ r ihr =>
    intro d hd m
    induction m with
    | zero =>
      intro j hj it p kk ch kl q cnt kL B ow e N b hit cont
      refine cont it ch kl q cnt kL B ow (by omega) df_ag_r b (df_res_r (fun k hk => ?_)) (by omega) (Or.inl (by omega))
      obtain ⟨i, s, a1, a2, _⟩ := hk
      omega
    | succ m ihm =>
      intro j hj it p kk ch kl q cnt kL B ow e N b hit cont
      have eT : df_T (r + 1) = 3 * df_T r + 2 := rfl
      have eM : (m + 1) * df_T (r + 1) = m * df_T (r + 1) + df_T (r + 1) := Nat.succ_mul m _
      by_cases fi : df_ln ns B ≤ d
      · refine cont it ch kl q cnt kL B ow (by omega) df_ag_r b (df_res_r (fun k hk => ?_)) (by omega) (Or.inr (Or.inl fi))
        obtain ⟨i, s, a1, a2, a3, a4, a5⟩ := hk
        rcases b with b | b
        · subst b
          rw [df_ln_no] at fi
          have dp := N.2.1
          exact absurd a3 (hn p N.1 (by omega) i a2)
        · have h1 := df_ln_lt b fi
          have h2 := sk_ky_ge s (3 * kk + i)
          have h3 := sk_kA_lo (Q := q) d
          have h4 := N.2.2.2.2.1
          rw [Nat.pow_succ] at h1
          omega
      · by_cases he : en p j
        · obtain ⟨o', d6⟩ := hs p j N.1 (by omega) he
          refine Rs it d p kk ch kl q cnt kL B ow (by omega) (by omega) b (by omega) (by omega) N (by rw [e]; exact he) ?_
          rw [e]
          intro kl' kL' B1 ow1 k1 k2 k3 k4 k5 con
          obtain ⟨n1, n2, n3, n4, n5, n6, n7⟩ := N
          have cj := n3 j (by omega)
          have b1 : df_ok B1 := by
            rcases con with ⟨_, c2, c3, _⟩ | ⟨_, c2, _⟩
            · have h1 := sk_kA_hi (Q := q) d n4
              have h2 : 3 ^ d ≤ 3 ^ 5 := Nat.pow_le_pow_right (by omega) (by omega)
              have h3 : (3 : Nat) ^ 5 = 243 := rfl
              exact Or.inr (by omega)
            · rw [c2]; exact b
          have N' : df_N ok Kn (d + 1) (p + sk_w j) (3 * kk + j) kl' (pu_upd q d j) (pu_upd cnt j (cnt j + 1)) kL' := by
            refine ⟨o', by rw [sk_dep_up (by omega) d6, n2], fun i hi => ?_, fun x hx => ?_, ?_, k4, k5⟩
            · by_cases q1 : i = j
              · subst q1
                rw [pu_us, sk_up_s hi d6, cj]
              · rw [pu_un q1, sk_up_o (by omega) hi q1 d6]; exact n3 i hi
            · by_cases q1 : x = d
              · subst q1; rw [pu_us]; omega
              · rw [pu_un q1]; exact n4 x (by omega)
            · rw [sk_kA_s, pu_us, sk_kA_cg (Q' := q) d (fun i hi => pu_un (by omega)), n5]
          refine ihr (d + 1) (by omega) 3 0 rfl (it + 1) (p + sk_w j) (3 * kk + j) _ kl' _ _ kL' B1 ow1 pu_us N' b1 (by omega) ?_
          intro it2 ch2 kl2 q2 cnt2 kL2 B2 ow2 hit2 ag2 b2 res2 le2 fin2
          obtain ⟨g1, g2, g3, g4⟩ := ag2
          have qd : q2 d = j := by rw [(g1 d (by omega)).2, pu_us]
          have cd : ch2 d = j + 1 := by rw [(g1 d (by omega)).1, pu_un (by omega), pu_us]
          have c2j : cnt2 j = cnt j + 1 := by rw [g4 j (by omega), pu_us]
          refine Rp it2 d ch2 kl2 q2 cnt2 kL2 B2 ow2 (by omega) (by omega) b2 le2 fin2 (by omega) (by rw [qd, c2j]; omega) (by rw [qd, c2j]; omega) ?_
          rw [qd, c2j]
          have ag3 : df_ag d ch kl q cnt kL ch2 kl2 q2 (pu_upd cnt2 j (cnt j + 1 - 1)) kL2 := by
            refine ⟨fun x hx => ⟨?_, ?_⟩, fun x hx => ?_, fun i hi => ?_, fun i hi => ?_⟩
            · rw [(g1 x (by omega)).1, pu_un (by omega), pu_un (by omega)]
            · rw [(g1 x (by omega)).2, pu_un (by omega)]
            · rw [g2 x (by omega)]; exact k1 x hx
            · rw [g3 i (by omega)]; exact k3 i hi
            · by_cases q1 : i = j
              · subst q1; rw [pu_us]; omega
              · rw [pu_un q1, g4 i hi, pu_un q1]
          refine ihm (j + 1) (by omega) (it2 + 1) p kk ch2 kl2 q2 _ kL2 B2 ow2 cd (df_N_ag ⟨n1, n2, n3, n4, n5, n6, n7⟩ ag3) b2 (by omega) ?_
          intro it3 ch3 kl3 q3 cnt3 kL3 B3 ow3 hit3 ag4 b3 res3 le3 fin3
          refine cont it3 ch3 kl3 q3 cnt3 kL3 B3 ow3 (by omega) ?_ b3 (df_res_comp (by omega) he con res2 res3) le3 fin3
          obtain ⟨a1, a2, a3, a4⟩ := ag3
          obtain ⟨c1, c2, c3, c4⟩ := ag4
          refine ⟨fun x hx => ⟨(c1 x hx).1.trans (a1 x hx).1, (c1 x hx).2.trans (a1 x hx).2⟩, fun x hx => (c2 x hx).trans (a2 x hx), fun i hi => ?_, fun i hi => (c4 i hi).trans (a4 i hi)⟩
          have h := a2 d (Nat.le_refl d)
          exact (c3 i (by omega)).trans (a3 i hi)
        · refine Rk it d p kk ch kl q cnt kL B ow (by omega) (by omega) b (by omega) (by omega) N (by rw [e]; exact he) ?_
          rw [e]
          have ag3 : df_ag d ch kl q cnt kL (pu_upd ch d (j + 1)) kl q cnt kL :=
            ⟨fun x hx => ⟨pu_un (by omega), rfl⟩, fun _ _ => rfl, fun _ _ => rfl, fun _ _ => rfl⟩
          refine ihm (j + 1) (by omega) (it + 1) p kk _ kl q cnt kL B ow pu_us N b (by omega) ?_
          intro it3 ch3 kl3 q3 cnt3 kL3 B3 ow3 hit3 ag4 b3 res3 le3 fin3
          refine cont it3 ch3 kl3 q3 cnt3 kL3 B3 ow3 (by omega) ?_ b3 (df_res_skip he res3) le3 fin3
          obtain ⟨c1, c2, c3, c4⟩ := ag4
          exact ⟨fun x hx => ⟨(c1 x hx).1.trans (pu_un (by omega)), (c1 x hx).2⟩, c2, c3, c4⟩
end
end
section
section
variable (kd fs sc : Nat → Nat) (n : Nat) (tw : Nat → Nat) (sz rs : Nat → Nat) (G : Nat → Prop)
def dv_I (K : Nat → Prop) (f : Nat → Nat) (m : Nat) : Prop :=
  m ≤ 64 ∧ (∀ i, i < m → f i < n ∧ G (f i) ∧ tc_L kd fs sc n tw K (f i)) ∧ (∀ i j, i < m → j < m → tw (f i) = tw (f j) → i = j)
def dv_F (f : Nat → Nat) (m i : Nat) : Prop :=
  (kd (rs (f i)) = 3 → tc_M tw f m (fs (rs (f i))) ∧ tc_M tw f m (sc (rs (f i)))) ∧
  (kd (rs (f i)) = 4 → tc_S kd fs sc n tw G (tc_M tw f m) (sc (rs (f i))) → tc_M tw f m (fs (rs (f i)))) ∧
  (kd (rs (f i)) = 5 → kd (rs (sc (rs (f i)))) = 1 → sc (rs (sc (rs (f i)))) = 1 → tc_M tw f m (fs (rs (f i))))
variable {kd fs sc n tw sz rs G}
theorem dv_add (Y : tc_Y kd fs sc n tw sz rs G) {K : Nat → Prop} {f : Nat → Nat} {m c : Nat} (I : dv_I kd fs sc n tw G K f m) (hc : c < n) (gc : G c) (lc : tc_L kd fs sc n tw K c) (nm : ¬ tc_M tw f m c) : m < 64 ∧ dv_I kd fs sc n tw G K (pu_upd f m c) (m + 1) := by
  have m64 : m < 64 := tc_M_room (fun i hi => (Y.2.2.2.2.2.1 _ (I.2.1 i hi).1).2.2) (Y.2.2.2.2.2.1 c hc).2.2 I.2.2 nm
  refine ⟨m64, by omega, fun i hi => ?_, fun i j hi hj w => ?_⟩
  · by_cases e : i = m
    · subst e; rw [pu_us]; exact ⟨hc, gc, lc⟩
    · rw [pu_un e]; exact I.2.1 i (by omega)
  · by_cases ei : i = m
    · by_cases ej : j = m
      · omega
      · rw [ei, pu_us, pu_un ej] at w
        exact absurd ⟨j, by omega, w.symm⟩ nm
    · by_cases ej : j = m
      · rw [ej, pu_us, pu_un ei] at w
        exact absurd ⟨i, by omega, w⟩ nm
      · rw [pu_un ei, pu_un ej] at w
        exact I.2.2 i j (by omega) (by omega) w
theorem dv_M (Y : tc_Y kd fs sc n tw sz rs G) {K : Nat → Prop} {f : Nat → Nat} {m : Nat} (I : dv_I kd fs sc n tw G K f m) : ∀ x, x < n → G x → tc_M tw f m x → tc_L kd fs sc n tw K x := by
  intro x hx _ h
  obtain ⟨i, hi, w⟩ := h
  obtain ⟨a1, a2, a3⟩ := I.2.1 i hi
  exact (tc_L_cl kd fs sc n tw K).1 (f i) x a1 hx w a3
theorem dv_S (Y : tc_Y kd fs sc n tw sz rs G) {K : Nat → Prop} {f : Nat → Nat} {m : Nat} (I : dv_I kd fs sc n tw G K f m) {x : Nat} (h : tc_S kd fs sc n tw G (tc_M tw f m) x) : tc_L kd fs sc n tw K x := by
  have cl := tc_L_cl kd fs sc n tw K
  exact h (tc_L kd fs sc n tw K) ⟨dv_M Y I, fun t u ht hu _ e a => cl.1 t u ht hu e a, fun t ht _ k a b => cl.2.1 t ht k a b⟩
theorem dv_x (Y : tc_Y kd fs sc n tw sz rs G) {K : Nat → Prop} {f : Nat → Nat} {m i : Nat} (I : dv_I kd fs sc n tw G K f m) (hi : i < m) : rs (f i) < n ∧ G (rs (f i)) ∧ tc_L kd fs sc n tw K (rs (f i)) ∧ tw (rs (f i)) = tw (f i) := by
  obtain ⟨a1, a2, a3⟩ := I.2.1 i hi
  obtain ⟨b1, b2, b3, _⟩ := Y.1 _ a1 a2
  exact ⟨b1, b2, (tc_L_cl kd fs sc n tw K).1 (f i) _ a1 b1 b3.symm a3, b3⟩
theorem dv_p (Y : tc_Y kd fs sc n tw sz rs G) {x : Nat} (hx : x < n) (gx : G x) (k : 3 ≤ kd x) : fs x < n ∧ sc x < n ∧ G (fs x) ∧ G (sc x) := by
  obtain ⟨h1, h2, h3, _⟩ := Y.2.1 x hx k
  have g := h3.mp gx
  exact ⟨h1, h2, g.1, g.2⟩
theorem dv_3 (Y : tc_Y kd fs sc n tw sz rs G) {K : Nat → Prop} {x : Nat} (hx : x < n) (k : kd x = 3) (l : tc_L kd fs sc n tw K x) : tc_L kd fs sc n tw K (fs x) ∧ tc_L kd fs sc n tw K (sc x) :=
  (tc_L_cl kd fs sc n tw K).2.2.1 x hx k l
theorem dv_4 (Y : tc_Y kd fs sc n tw sz rs G) {K : Nat → Prop} {x : Nat} (hx : x < n) (k : kd x = 4) (l : tc_L kd fs sc n tw K x) (s : tc_L kd fs sc n tw K (sc x)) : tc_L kd fs sc n tw K (fs x) :=
  (tc_L_cl kd fs sc n tw K).2.2.2.1 x hx k l s
theorem dv_cp (Y : tc_Y kd fs sc n tw sz rs G) {y : Nat} (hy : y < n) (gy : G y) : (kd (rs y) = 1 → rs y = tw y) ∧ (kd (tw y) = 1 → rs y = tw y) := by
  obtain ⟨b1, b2, b3, b4, b5, b6⟩ := Y.1 y hy gy
  have f : kd (rs y) = 1 → rs y = tw y := fun k => by
    have h := Y.2.2.2.1 (rs y) b1 b2 k
    rw [← b3, h]
  exact ⟨f, fun k => f (by rw [← b6]; exact k)⟩
theorem dv_5 (Y : tc_Y kd fs sc n tw sz rs G) {K : Nat → Prop} {x : Nat} (hx : x < n) (gx : G x) (k : kd x = 5) (l : tc_L kd fs sc n tw K x) (c1 : kd (rs (sc x)) = 1) (c2 : sc (rs (sc x)) = 1) : tc_L kd fs sc n tw K (fs x) := by
  obtain ⟨h1, h2, h3, h4⟩ := dv_p Y hx gx (by omega)
  have e := (dv_cp Y h2 h4).1 c1
  exact (tc_L_cl kd fs sc n tw K).2.2.2.2 x hx k l (by rw [← e]; exact c1) (by rw [← e]; exact c2)
theorem dv_end (Y : tc_Y kd fs sc n tw sz rs G) {K : Nat → Prop} {f : Nat → Nat} {m : Nat} (I : dv_I kd fs sc n tw G K f m) (hK : ∀ x, x < n → K x → G x ∧ tc_M tw f m x) (F : ∀ i, i < m → dv_F kd fs sc n tw rs G f m i) {g : Nat} (hg : g < n) (gg : G g) : tc_S kd fs sc n tw G (tc_M tw f m) g ↔ tc_L kd fs sc n tw K g := by
  refine tc_main Y tc_M_sat hK (dv_M Y I) (fun x hx gx mx => ?_) hg gg
  obtain ⟨i, hi, w⟩ := mx
  obtain ⟨b1, b2, b3, b4⟩ := dv_x Y I hi
  obtain ⟨a1, a2, a3⟩ := I.2.1 i hi
  obtain ⟨f3, f4, f5⟩ := F i hi
  have k2 := (Y.1 _ a1 a2).2.2.2.1
  refine ⟨rs (f i), b1, b2, by omega, b4.trans w, f3, f4, fun k e1 e2 => ?_⟩
  obtain ⟨h1, h2, h3, h4⟩ := dv_p Y b1 b2 (by omega)
  have e := (dv_cp Y h2 h4).2 e1
  exact f5 k (by rw [e]; exact e1) (by rw [e]; exact e2)
theorem dv_0 (K : Nat → Prop) (f : Nat → Nat) : dv_I kd fs sc n tw G K f 0 := ⟨by omega, fun i h => by omega, fun i j h => by omega⟩
end
end
section
section
variable {kd fs sc sz gr : Nat → Nat} {n na : Nat} {ac : Nat → Nat} {vc : Nat → Int32}
theorem cn_ex (I : ci_I kd fs sc sz gr n na ac vc) (ch : Nat → Nat) : ∀ i, i ≤ n → ∃ tw, ∀ t, t < i → ci_X kd fs sc ac ch tw t := by
  intro i
  induction i with
  | zero => intro _; exact ⟨fun t => t, fun t h => by omega⟩
  | succ i ih =>
    intro hi
    obtain ⟨tw, X⟩ := ih (by omega)
    have put : ∀ x, ci_X kd fs sc ac ch (pu_upd tw i x) i → ∃ tw, ∀ t, t < i + 1 → ci_X kd fs sc ac ch tw t := by
      intro x h
      refine ⟨pu_upd tw i x, fun t ht => ?_⟩
      by_cases e : t = i
      · rw [e]; exact h
      · exact ci_Xup I (by omega) X t (by omega)
    have kk := ci_kd I (by omega : i < n)
    by_cases k1 : kd i = 1
    · exact put i ⟨fun _ => pu_us, fun k => by omega, fun k => by omega⟩
    · by_cases k2 : kd i = 2
      · exact put (ac (ch (fs i))) ⟨fun k => by omega, fun _ => pu_us, fun k => by omega⟩
      · have k3 : 3 ≤ kd i := by omega
        obtain ⟨t1, t2, t3, _⟩ := ci_k3 I (by omega : i < n) k3
        have R : ∀ x a, a ≤ i → (ci_R kd fs sc (pu_upd tw i x) a i ↔ ci_R kd fs sc tw a i) := by
          intro x a ha
          unfold ci_R
          by_cases q : kd a = kd i
          · obtain ⟨a1, a2, a3, _⟩ := ci_k3 I (by omega : a < n) (by omega)
            rw [pu_un (by omega : fs a ≠ i), pu_un (by omega : fs i ≠ i), pu_un (by omega : sc a ≠ i), pu_un (by omega : sc i ≠ i)]
          · constructor
            · intro w; exact absurd w.1 q
            · intro w; exact absurd w.1 q
        have least : ∀ m, m ≤ i → (∀ a, a < m → ¬ ci_R kd fs sc tw a i) ∨ ∃ a, a < m ∧ ci_R kd fs sc tw a i ∧ ∀ b, b < a → ¬ ci_R kd fs sc tw b i := by
          intro m
          induction m with
          | zero => intro _; exact Or.inl (fun a h => by omega)
          | succ m ihm =>
            intro hm
            rcases ihm (by omega) with h | ⟨a, h1, h2⟩
            · by_cases r : ci_R kd fs sc tw m i
              · exact Or.inr ⟨m, by omega, r, h⟩
              · refine Or.inl (fun a ha => ?_)
                by_cases e : a = m
                · rw [e]; exact r
                · exact h a (by omega)
            · exact Or.inr ⟨a, by omega, h2⟩
        rcases least i (Nat.le_refl i) with h | ⟨a, h1, h2, h3⟩
        · refine put i ⟨fun k => by omega, fun k => by omega, fun _ => ?_⟩
          rw [pu_us]
          exact ⟨Nat.le_refl i, ⟨rfl, rfl, rfl⟩, fun a ha w => h a ha ((R i a (by omega)).mp w)⟩
        · refine put a ⟨fun k => by omega, fun k => by omega, fun _ => ?_⟩
          rw [pu_us]
          exact ⟨by omega, (R a a (by omega)).mpr h2, fun b hb w => h3 b hb ((R a b (by omega)).mp w)⟩
theorem cn_un (I : ci_I kd fs sc sz gr n na ac vc) {ch tw tw' : Nat → Nat} (X : ∀ t, t < n → ci_X kd fs sc ac ch tw t) (X' : ∀ t, t < n → ci_X kd fs sc ac ch tw' t) : ∀ i, i ≤ n → ∀ t, t < i → tw t = tw' t := by
  intro i
  induction i with
  | zero => intro _ t h; omega
  | succ i ih =>
    intro hi t ht
    by_cases e : t = i
    · subst e
      have hq := ih (by omega)
      have hx := X t (by omega)
      have hx' := X' t (by omega)
      have kk := ci_kd I (by omega : t < n)
      by_cases k1 : kd t = 1
      · rw [hx.1 k1, hx'.1 k1]
      · by_cases k2 : kd t = 2
        · rw [hx.2.1 k2, hx'.2.1 k2]
        · have k3 : 3 ≤ kd t := by omega
          obtain ⟨t1, t2, t3, _⟩ := ci_k3 I (by omega : t < n) k3
          have R : ∀ a, a ≤ t → (ci_R kd fs sc tw a t ↔ ci_R kd fs sc tw' a t) := by
            intro a ha
            unfold ci_R
            by_cases q : kd a = kd t
            · obtain ⟨a1, a2, a3, _⟩ := ci_k3 I (by omega : a < n) (by omega)
              rw [hq (fs a) (by omega), hq (fs t) (by omega), hq (sc a) (by omega), hq (sc t) (by omega)]
            · constructor
              · intro w; exact absurd w.1 q
              · intro w; exact absurd w.1 q
          obtain ⟨h1, h2, h3⟩ := hx.2.2 k3
          obtain ⟨h1', h2', h3'⟩ := hx'.2.2 k3
          have n1 : ¬ tw t < tw' t := fun l => h3' _ l ((R _ h1).mp h2)
          have n2 : ¬ tw' t < tw t := fun l => h3 _ l ((R _ h1').mpr h2')
          omega
    · exact ih (by omega) t (by omega)
variable (kd fs sc n ac)
noncomputable def cn_tw (ch : Nat → Nat) : Nat → Nat := Classical.epsilon (fun tw : Nat → Nat => ∀ t, t < n → ci_X kd fs sc ac ch tw t)
variable {kd fs sc n ac}
theorem cn_X (I : ci_I kd fs sc sz gr n na ac vc) (ch : Nat → Nat) : ∀ t, t < n → ci_X kd fs sc ac ch (cn_tw kd fs sc n ac ch) t :=
  Classical.epsilon_spec (cn_ex I ch n (Nat.le_refl n))
theorem cn_e (I : ci_I kd fs sc sz gr n na ac vc) {ch tw : Nat → Nat} (X : ∀ t, t < n → ci_X kd fs sc ac ch tw t) : ∀ t, t < n → tw t = cn_tw kd fs sc n ac ch t :=
  fun t ht => cn_un I X (cn_X I ch) n (Nat.le_refl n) t ht
theorem cn_ch (I : ci_I kd fs sc sz gr n na ac vc) {ch ch' tw : Nat → Nat} (e : ∀ t, t < n → kd t = 2 → ch (fs t) = ch' (fs t)) (X : ∀ t, t < n → ci_X kd fs sc ac ch tw t) : ∀ t, t < n → ci_X kd fs sc ac ch' tw t := by
  intro t ht
  obtain ⟨h1, h2, h3⟩ := X t ht
  exact ⟨h1, fun k => by rw [← e t ht k]; exact h2 k, h3⟩
theorem cn_Cl {tw tw' : Nat → Nat} (e : ∀ t, t < n → tw t = tw' t) (p : ∀ t, t < n → 3 ≤ kd t → sc t < n) {S : Nat → Prop} (c : tc_Cl kd fs sc n tw S) : tc_Cl kd fs sc n tw' S := by
  refine ⟨fun t u ht hu w => c.1 t u ht hu (by rw [e t ht, e u hu]; exact w), c.2.1, c.2.2.1, c.2.2.2.1, fun t ht k s e1 e2 => ?_⟩
  have q := e _ (p t ht (by omega))
  exact c.2.2.2.2 t ht k s (by rw [q]; exact e1) (by rw [q]; exact e2)
theorem cn_L {tw tw' : Nat → Nat} (e : ∀ t, t < n → tw t = tw' t) (p : ∀ t, t < n → 3 ≤ kd t → sc t < n) (K : Nat → Prop) (t : Nat) : tc_L kd fs sc n tw K t ↔ tc_L kd fs sc n tw' K t :=
  ⟨fun h S c hK => h S (cn_Cl (fun u hu => (e u hu).symm) p c) hK, fun h S c hK => h S (cn_Cl e p c) hK⟩
variable (kd fs sc n ac)
variable (kl : Nat → Nat) (nk : Nat) (xt xs xc : Nat → Nat) (sec : Nat)
def cn_d (a v : Nat) : Nat := if v = 0 then a / 64 else if v = 1 then a / 8 % 8 else a % 8
def cn_en (tw : Nat → Nat) (p j : Nat) : Prop :=
  sk_dg p j < xc j ∧ (xs (j * 6 + sk_dg p j) = 1 ∨ tc_L kd fs sc n tw (sr_K kl nk xt xs p) (xt (j * 6 + sk_dg p j)))
def cn_fn (tw : Nat → Nat) (p : Nat) : Prop := tc_L kd fs sc n tw (sr_K kl nk xt xs p) sec
def cn_ok (p : Nat) : Prop := ∀ j, j < 3 → sk_dg p j ≤ xc j
def cn_At (a k : Nat) : Prop :=
  ∃ s, sk_att (cn_en kd fs sc n kl nk xt xs xc (cn_tw kd fs sc n ac (cn_d a))) (cn_fn kd fs sc n kl nk xt xs sec (cn_tw kd fs sc n ac (cn_d a))) s 0 ∧ k = sk_ky s 1
variable {kd fs sc n ac kl nk xt xs xc sec}
theorem cn_ok0 : cn_ok xc 0 := by
  intro j hj
  rcases sk_3 hj with e | e | e
  · subst e; rw [sk_dg0]; omega
  · subst e; rw [sk_dg1]; omega
  · subst e; rw [sk_dg2]; omega
theorem cn_hs (h6 : ∀ j, j < 3 → xc j ≤ 6) {tw : Nat → Nat} : ∀ p j, cn_ok xc p → j < 3 → cn_en kd fs sc n kl nk xt xs xc tw p j → cn_ok xc (p + sk_w j) ∧ sk_dg p j < 6 := by
  intro p j o hj e
  have l := h6 j hj
  have d6 : sk_dg p j < 6 := by have h := e.1; omega
  refine ⟨fun i hi => ?_, d6⟩
  by_cases q : i = j
  · subst q; rw [sk_up_s hj d6]; have h := e.1; omega
  · rw [sk_up_o hj hi q d6]; exact o i hi
theorem cn_dep {ns p : Nat} (ht : xc 0 + xc 1 + xc 2 = ns) (o : cn_ok xc p) : sk_dep p ≤ ns := by
  have h0 := o 0 (by omega)
  have h1 := o 1 (by omega)
  have h2 := o 2 (by omega)
  rw [sk_dep_e]; omega
theorem cn_hn {ns : Nat} (ht : xc 0 + xc 1 + xc 2 = ns) {tw : Nat → Nat} : ∀ p, cn_ok xc p → ns ≤ sk_dep p → ∀ j, j < 3 → ¬ cn_en kd fs sc n kl nk xt xs xc tw p j := by
  intro p o hd j hj e
  have h0 := o 0 (by omega)
  have h1 := o 1 (by omega)
  have h2 := o 2 (by omega)
  rw [sk_dep_e] at hd
  have h := e.1
  rcases sk_3 hj with q | q | q
  · subst q; omega
  · subst q; omega
  · subst q; omega
theorem cn_lt {p : Nat} (h6 : ∀ j, j < 3 → xc j ≤ 6) (o : cn_ok xc p) : p < 343 := by
  have h := o 0 (by omega)
  have h2 := h6 0 (by omega)
  rw [sk_dg0] at h
  exact sk_lt343 (by omega)
theorem cn_len {ns : Nat} (h6 : ∀ j, j < 3 → xc j ≤ 6) (ht : xc 0 + xc 1 + xc 2 = ns) (n6 : ns ≤ 6) {tw : Nat → Nat} {fn : Nat → Prop} : ∀ (s : List Nat) (p : Nat), cn_ok xc p → sk_att (cn_en kd fs sc n kl nk xt xs xc tw) fn s p → s.length + sk_dep p ≤ 6 :=
  sk_len (ok := cn_ok xc) (fun p j o hj e => ⟨(cn_hs h6 p j o hj e).1, sk_dep_up hj (cn_hs h6 p j o hj e).2⟩) (fun p o => Nat.le_trans (cn_dep ht o) n6)
theorem cn_big : ∀ (s : List Nat) (k : Nat), (∀ j, j ∈ s → j < 3) → sk_ky s k + 1 ≤ (k + 1) * 3 ^ s.length := by
  intro s
  induction s with
  | nil => intro k _; rw [sk_ky_n]; simp
  | cons j s ih =>
    intro k hd
    rw [sk_ky_c]
    have h := ih (3 * k + j) (fun i hi => hd i (by simp [hi]))
    have hj : j < 3 := hd j (by simp)
    rw [List.length_cons, Nat.pow_succ]
    have h2 : (3 * k + j + 1) * 3 ^ s.length ≤ (3 * k + 3) * 3 ^ s.length := Nat.mul_le_mul_right _ (by omega)
    have h3 : (3 * k + 3) * 3 ^ s.length = (k + 1) * (3 ^ s.length * 3) := by
      rw [show 3 * k + 3 = (k + 1) * 3 by omega, Nat.mul_assoc, Nat.mul_comm 3]
    omega
theorem cn_Atk {ns : Nat} (h6 : ∀ j, j < 3 → xc j ≤ 6) (ht : xc 0 + xc 1 + xc 2 = ns) (n6 : ns ≤ 6) {a k : Nat} (h : cn_At kd fs sc n ac kl nk xt xs xc sec a k) : k < 10000 := by
  obtain ⟨s, h1, h2⟩ := h
  have l := cn_len h6 ht n6 s 0 cn_ok0 h1
  have d0 : sk_dep 0 = 0 := rfl
  have b := cn_big s 1 (sk_att_d s _ h1)
  have p : 3 ^ s.length ≤ 3 ^ 6 := Nat.pow_le_pow_right (by omega) (by omega)
  have q : (3 : Nat) ^ 6 = 729 := rfl
  rw [h2]; omega
theorem cn_rootS {a B ow B1 ow1 B2 ow2 : Nat}
    (c : df_con (cn_fn kd fs sc n kl nk xt xs sec (cn_tw kd fs sc n ac (cn_d a))) 0 1 B ow B1 ow1)
    (r : df_res (cn_en kd fs sc n kl nk xt xs xc (cn_tw kd fs sc n ac (cn_d a))) (cn_fn kd fs sc n kl nk xt xs sec (cn_tw kd fs sc n ac (cn_d a))) 0 1 0 B1 ow1 B2 ow2) :
    as_S (cn_At kd fs sc n ac kl nk xt xs xc sec) a B B2 ∧ (B2 = B → ow2 = ow) ∧ (B2 < B → ow2 = 1) := by
  have E : ∀ k, df_E (cn_en kd fs sc n kl nk xt xs xc (cn_tw kd fs sc n ac (cn_d a))) (cn_fn kd fs sc n kl nk xt xs sec (cn_tw kd fs sc n ac (cn_d a))) 0 1 0 k → cn_At kd fs sc n ac kl nk xt xs xc sec a k := by
    intro k h
    obtain ⟨i, s, _, h2, h3, h4, h5⟩ := h
    exact ⟨i :: s, ⟨h2, h3, h4⟩, h5⟩
  have lo : ∀ k, cn_At kd fs sc n ac kl nk xt xs xc sec a k → B2 ≤ k := by
    intro k h
    obtain ⟨s, h1, h2⟩ := h
    cases s with
    | nil =>
      have f : cn_fn kd fs sc n kl nk xt xs sec (cn_tw kd fs sc n ac (cn_d a)) 0 := h1
      have k1 : k = 1 := h2
      have l2 : B2 ≤ B1 := by rcases r.1 with ⟨_, _⟩ | ⟨_, _, _⟩ <;> omega
      rcases c with ⟨c1, c2, c3, c4⟩ | ⟨c1, c2, c3⟩
      · omega
      · by_cases l : 1 < B
        · exact absurd ⟨f, l⟩ c1
        · omega
    | cons i s =>
      have h1' : i < 3 ∧ cn_en kd fs sc n kl nk xt xs xc (cn_tw kd fs sc n ac (cn_d a)) 0 i ∧ sk_att (cn_en kd fs sc n kl nk xt xs xc (cn_tw kd fs sc n ac (cn_d a))) (cn_fn kd fs sc n kl nk xt xs sec (cn_tw kd fs sc n ac (cn_d a))) s (0 + sk_w i) := h1
      exact r.2 k ⟨i, s, by omega, h1'.1, h1'.2.1, h1'.2.2, h2⟩
  rcases r.1 with ⟨e2, o2⟩ | ⟨a2, b2, o2⟩
  · rcases c with ⟨c1, c2, c3, c4⟩ | ⟨c1, c2, c3⟩
    · refine ⟨Or.inr ⟨⟨[], c1, by rw [e2, c3]; rfl⟩, by omega, lo⟩, fun h => by omega, fun _ => by omega⟩
    · exact ⟨Or.inl ⟨by omega, fun k h => by have h2 := lo k h; omega⟩, fun _ => by omega, fun h => by omega⟩
  · have l1 : B1 ≤ B := by rcases c with ⟨_, _, _, _⟩ | ⟨_, _, _⟩ <;> omega
    exact ⟨Or.inr ⟨E _ a2, by omega, lo⟩, fun h => by omega, fun _ => o2⟩
end
end
section
section
theorem bs_lex {Q Q' : Nat → Nat} {i L : Nat} (e : ∀ a, a < i → Q a = Q' a) (hi : i < L) (ne : Q i ≠ Q' i) (d : ∀ a, a < L → Q a < 3) (d' : ∀ a, a < L → Q' a < 3) : Q i < Q' i ↔ sk_kA Q L < sk_kA Q' L := by
  have ek : sk_kA Q i = sk_kA Q' i := sk_kA_cg i e
  constructor
  · intro h
    refine sk_kA_lt (i := i + 1) ?_ L hi d
    rw [sk_kA_s, sk_kA_s, ek]; omega
  · intro h
    by_cases l : Q i < Q' i
    · exact l
    · have h2 : sk_kA Q' L < sk_kA Q L := by
        refine sk_kA_lt (i := i + 1) ?_ L hi d'
        rw [sk_kA_s, sk_kA_s, ek]; omega
      omega
def bs_R (aL : Int32) (aT : Nat → Nat) (B : Nat) : Prop :=
  (aL = -1 ∧ B = 10000) ∨ ∃ L, L ≤ 6 ∧ aL = nI L ∧ (∀ i, i < L → aT i < 3) ∧ B = sk_kA aT L
theorem bs_no {aT : Nat → Nat} : bs_R (-1) aT 10000 := Or.inl ⟨rfl, rfl⟩
theorem bs_ok {aL : Int32} {aT : Nat → Nat} {B : Nat} (h : bs_R aL aT B) : df_ok B := by
  rcases h with ⟨_, e⟩ | ⟨L, h1, h2, h3, h4⟩
  · exact Or.inl e
  · have h5 := sk_kA_hi L h3
    have h6 : 3 ^ L ≤ 3 ^ 6 := Nat.pow_le_pow_right (by omega) h1
    have h7 : (3 : Nat) ^ 6 = 729 := rfl
    exact Or.inr (by omega)
theorem bs_m1 {aT : Nat → Nat} {B : Nat} (h : bs_R (-1) aT B) : B = 10000 := by
  rcases h with ⟨_, e⟩ | ⟨L, h1, h2, _⟩
  · exact e
  · exact absurd h2.symm (gw_m1 (by omega))
theorem bs_at {aT : Nat → Nat} {B M : Nat} (hM : M < 64) (h : bs_R (nI M) aT B) : M ≤ 6 ∧ (∀ i, i < M → aT i < 3) ∧ B = sk_kA aT M ∧ B < 10000 := by
  rcases h with ⟨e, _⟩ | ⟨L, h1, h2, h3, h4⟩
  · exact absurd e (gw_m1 hM)
  · have e : M = L := (nI_eq (by omega) (by omega)).mp h2
    subst e
    exact ⟨h1, h3, h4, by rw [h4]; exact sk_kA_big h1 h3⟩
theorem bs_new {F F' : Nat → Nat} {L : Nat} (hl : L ≤ 6) (d : ∀ i, i < L → F i < 3) (e : ∀ i, i < L → F' i = F i) : bs_R (nI L) F' (sk_kA F L) :=
  Or.inr ⟨L, hl, rfl, fun i hi => by rw [e i hi]; exact d i hi, (sk_kA_cg L e).symm⟩
theorem bs_same {aL bL : Int32} {aT bT : Nat → Nat} {B : Nat} (h : bs_R aL aT B) (h2 : bs_R bL bT B) : (aL = -1 ∧ bL = -1 ∧ B = 10000) ∨ ∃ L, L ≤ 6 ∧ aL = nI L ∧ bL = nI L ∧ B < 10000 ∧ ∀ i, i < L → aT i = bT i ∧ aT i < 3 := by
  rcases h with ⟨e, f⟩ | ⟨L, h1, e, h3, h4⟩
  · rcases h2 with ⟨e', f'⟩ | ⟨L', h1', e', h3', h4'⟩
    · exact Or.inl ⟨e, e', f⟩
    · have h5 := sk_kA_big h1' h3'
      omega
  · rcases h2 with ⟨e', f'⟩ | ⟨L', h1', e', h3', h4'⟩
    · have h5 := sk_kA_big h1 h3
      omega
    · obtain ⟨q1, q2⟩ := sk_kA_inj L L' h3 h3' (by rw [← h4, ← h4'])
      subst q1
      exact Or.inr ⟨L, h1, e, e', by rw [h4]; exact sk_kA_big h1 h3, fun i hi => ⟨q2 i hi, h3 i hi⟩⟩
end
end
section
section
variable {n na nk ns : Nat} {sec st xal : Int32} {kd fs sc sz gr ac : Nat → Nat} {vc : Nat → Int32} {xl xt xs xc xat xaa xch xtw xds xtg xnx xft : Nat → Nat} {yl yT yS yR : Nat → Nat}
theorem rl_nb {e : Nat} (h : e ≤ 1) : vp_nar .boolean (nI e) = nI e := by
  have c : e = 0 ∨ e = 1 := by omega
  rcases c with q | q
  · rw [q]; rfl
  · rw [q]; rfl
theorem rl_nn {e : Nat} (h : e ≤ 1) : narrow .boolean (.int (nI e)) = .int (nI e) := by
  have c : e = 0 ∨ e = 1 := by omega
  rcases c with q | q
  · rw [q]; rfl
  · rw [q]; rfl
theorem rl_up {f : Nat → Nat} {k x : Nat} {i y : Int32} (hk : k < 2 ^ 31) (hi : i = nI k) (hy : y = nI x) : upd (pu_A f) i.toNatClampNeg y = pu_A (pu_upd f k x) := by
  rw [hi, nI_clamp hk, hy, pu_Au]
def rl_bad (n : Nat) (t : Int32) : Prop := t < 0 ∨ (¬ t < 0 ∧ nI n ≤ t)
theorem rl_split (n : Nat) (t : Int32) (h : n < 2 ^ 31) : rl_bad n t ∨ ∃ j, j < n ∧ t = nI j := by
  rcases pk_ix t h with a | b | c
  · exact Or.inl (Or.inl a)
  · by_cases q : t < 0
    · exact Or.inl (Or.inl q)
    · exact Or.inl (Or.inr ⟨q, b⟩)
  · exact Or.inr c
theorem xm_bad {post : Int32 → Prop} {t : Int32} (b : rl_bad n t) (h : post 0) : wpX_isCell post ((nI n), (nI na), (nI nk), (nI ns), sec, st, xal, (pu_A kd), (pu_A fs), (pu_A sc), (pu_A sz), (pu_A gr), (pu_A ac), vc, (pu_A xl), (pu_A xt), (pu_A xs), (pu_A xc), (pu_A xat), (pu_A xaa), (pu_A xch), (pu_A xtw), (pu_A xds), (pu_A xtg), (pu_A xnx), (pu_A xft)) t := by
  rcases b with b | b
  · exact br_t b h
  · exact br_f b.1 (br_t b.2 h)
theorem xm_in {post : Int32 → Prop} {j : Nat} (hn : n ≤ 64) (hj : j < n) (h : post 1) : wpX_isCell post ((nI n), (nI na), (nI nk), (nI ns), sec, st, xal, (pu_A kd), (pu_A fs), (pu_A sc), (pu_A sz), (pu_A gr), (pu_A ac), vc, (pu_A xl), (pu_A xt), (pu_A xs), (pu_A xc), (pu_A xat), (pu_A xaa), (pu_A xch), (pu_A xtw), (pu_A xds), (pu_A xtg), (pu_A xnx), (pu_A xft)) (nI j) :=
  br_f (nI_pos (by omega)) (br_f (nI_ge hj (by omega)) h)
theorem xm_make {post : Int32 → St1 → Prop} {a b c d e : Nat} (hn : n < 64) (he : e ≤ 1) (h : post (nI n) ((nI (n + 1)), (nI na), (nI nk), (nI ns), sec, st, xal, (pu_A (pu_upd kd n a)), (pu_A (pu_upd fs n b)), (pu_A (pu_upd sc n c)), (pu_A (pu_upd sz n d)), (pu_A (pu_upd gr n e)), (pu_A ac), vc, (pu_A xl), (pu_A xt), (pu_A xs), (pu_A xc), (pu_A xat), (pu_A xaa), (pu_A xch), (pu_A xtw), (pu_A xds), (pu_A xtg), (pu_A xnx), (pu_A xft))) : wpX_makeCell post ((nI n), (nI na), (nI nk), (nI ns), sec, st, xal, (pu_A kd), (pu_A fs), (pu_A sc), (pu_A sz), (pu_A gr), (pu_A ac), vc, (pu_A xl), (pu_A xt), (pu_A xs), (pu_A xc), (pu_A xat), (pu_A xaa), (pu_A xch), (pu_A xtw), (pu_A xds), (pu_A xtg), (pu_A xnx), (pu_A xft)) (nI a) (nI b) (nI c) (nI d) (nI e) := by
  have w : vp_in (nI n) 64 := vp_in_nI hn (by omega)
  have q : n < 2 ^ 31 := by omega
  exact ⟨w, nm_r (rl_up q rfl rfl) ⟨w, nm_r (rl_up q rfl rfl) ⟨w, nm_r (rl_up q rfl rfl) ⟨w, nm_r (rl_up q rfl rfl) ⟨w, nm_r (rl_up q rfl (rl_nb he)) (nm_r (nI_1 n) h)⟩⟩⟩⟩⟩
theorem xm_reset {post : St1 → Prop} (h : post ((nI n), (nI na), (nI nk), (nI ns), sec, 0, (-1), (pu_A kd), (pu_A fs), (pu_A sc), (pu_A sz), (pu_A gr), (pu_A ac), vc, (pu_A xl), (pu_A xt), (pu_A xs), (pu_A xc), (pu_A xat), (pu_A xaa), (pu_A xch), (pu_A xtw), (pu_A xds), (pu_A xtg), (pu_A xnx), (pu_A xft))) : wpX_reset post ((nI n), (nI na), (nI nk), (nI ns), sec, st, xal, (pu_A kd), (pu_A fs), (pu_A sc), (pu_A sz), (pu_A gr), (pu_A ac), vc, (pu_A xl), (pu_A xt), (pu_A xs), (pu_A xc), (pu_A xat), (pu_A xaa), (pu_A xch), (pu_A xtw), (pu_A xds), (pu_A xtg), (pu_A xnx), (pu_A xft)) := h
theorem xm_atom35 {post : Int32 → St1 → Prop} {b : Nat} (hn : n < 64) (ha : na < 8) (h : post (nI n) ((nI (n + 1)), (nI (na + 1)), (nI nk), (nI ns), sec, 0, (-1), (pu_A (pu_upd kd n 1)), (pu_A (pu_upd fs n na)), (pu_A (pu_upd sc n b)), (pu_A (pu_upd sz n 1)), (pu_A (pu_upd gr n 1)), (pu_A (pu_upd ac na n)), vc, (pu_A xl), (pu_A xt), (pu_A xs), (pu_A xc), (pu_A xat), (pu_A xaa), (pu_A xch), (pu_A xtw), (pu_A xds), (pu_A xtg), (pu_A xnx), (pu_A xft))) : wX_atom_35 post (nI b) (nI na) 1 (nI n) (nI na) (nI nk) (nI ns) sec st xal (pu_A kd) (pu_A fs) (pu_A sc) (pu_A sz) (pu_A gr) (pu_A ac) vc (pu_A xl) (pu_A xt) (pu_A xs) (pu_A xc) (pu_A xat) (pu_A xaa) (pu_A xch) (pu_A xtw) (pu_A xds) (pu_A xtg) (pu_A xnx) (pu_A xft) := by
  unfold wX_atom_35
  refine xm_make (a := 1) (b := na) (c := b) (d := 1) (e := 1) hn (by omega) ?_
  exact ⟨vp_in_nI ha (by omega), nm_r (rl_up (by omega) rfl rfl) (nm_r (nI_1 na) (xm_reset h))⟩
theorem rl_st0 {P : Prop} : (0 : Int32) = 2 → P := fun h => absurd h (by decide)
end
end
section
section
variable {n na nk ns : Nat} {sec st xal : Int32} {kd fs sc sz gr ac : Nat → Nat} {vc : Nat → Int32} {xl xt xs xc xat xaa xch xtw xds xtg xnx xft : Nat → Nat} {yl yT yS yR : Nat → Nat}
theorem sm_vneg (I : ci_I kd fs sc sz gr n na ac vc) {v : Nat} (hv : v < 3) : (vc v < 0 ↔ vc v = -1) ∧ (0 ≤ vc v ↔ ¬ vc v = -1) := by
  rcases I.2.2.2.2.1 v hv with h | ⟨t, h1, h2, h3, h4⟩
  · rw [h]
    exact ⟨by decide, by decide⟩
  · have hn := I.1
    rw [h2]
    have a : ¬ nI t < 0 := nI_pos (by omega)
    have b : ¬ nI t = -1 := gw_m1 (by omega)
    have c : 0 ≤ nI t := nI_pos' (by omega)
    exact ⟨⟨fun x => absurd x a, fun x => absurd x b⟩, ⟨fun _ => b, fun _ => c⟩⟩
end
end
section
section
variable {n na nk ns : Nat} {sec st xal : Int32} {kd fs sc sz gr ac : Nat → Nat} {vc : Nat → Int32} {xl xt xs xc xat xaa xch xtw xds xtg xnx xft : Nat → Nat} {yl yT yS yR : Nat → Nat}
theorem sm_first (P : Nat → Prop) : ∀ m, (∀ t, t < m → ¬ P t) ∨ ∃ t, t < m ∧ P t ∧ ∀ u, u < t → ¬ P u := by
  intro m
  induction m with
  | zero => exact Or.inl (fun t h => by omega)
  | succ m ih =>
    rcases ih with h | ⟨a, h1, h2⟩
    · by_cases r : P m
      · exact Or.inr ⟨m, by omega, r, h⟩
      · refine Or.inl (fun a ha => ?_)
        by_cases e : a = m
        · rw [e]; exact r
        · exact h a (by omega)
    · exact Or.inr ⟨a, by omega, h2⟩
theorem sm_size {a b : Nat} (ha : a < 64) (hb : b < 64) : (1 + pu_A sz (nI a).toNatClampNeg) + pu_A sz (nI b).toNatClampNeg = nI (1 + sz a + sz b) := by
  rw [pu_Ag sz (by omega), pu_Ag sz (by omega)]
  have e : (1 : Int32) + nI (sz a) = nI (1 + sz a) := nI_add 1 (sz a)
  rw [e, nI_add]
theorem xm_fc {post : Int32 → Prop} {o a b e : Nat} (I : ci_I kd fs sc sz gr n na ac vc) (ho : o ≤ 5) (ha : a < 64) (hb : b < 64) (he : e ≤ n) (no : ∀ u, u < e → ¬ (kd u = o ∧ fs u = a ∧ sc u = b)) (K : (e = n ∧ post (-1)) ∨ (e < n ∧ (kd e = o ∧ fs e = a ∧ sc e = b) ∧ post (nI e))) : ∀ d t m, t + d = e → d < m → wX_findCell_3 post (nI o) (nI a) (nI b) (nI n) (nI na) (nI nk) (nI ns) sec st xal (pu_A kd) (pu_A fs) (pu_A sc) (pu_A sz) (pu_A gr) (pu_A ac) vc (pu_A xl) (pu_A xt) (pu_A xs) (pu_A xc) (pu_A xat) (pu_A xaa) (pu_A xch) (pu_A xtw) (pu_A xds) (pu_A xtg) (pu_A xnx) (pu_A xft) m (nI t) := by
  have hn := I.1
  intro d
  induction d with
  | zero =>
    intro t m ht hm
    obtain ⟨m, rfl⟩ : ∃ m', m = m' + 1 := ⟨m - 1, by omega⟩
    have q : t = e := by omega
    subst q
    rw [wX_findCell_3]
    rcases K with ⟨k1, k2⟩ | ⟨k1, k2, k3⟩
    · exact br_t (nI_le (by omega) (by omega)) k2
    · have w : vp_in (nI t) 64 := vp_in_nI (by omega) (by omega)
      have b1 := ci_kd I k1
      have b2 := ci_b I k1
      exact br_f (nI_ge k1 (by omega)) ⟨w, pk_eq (kd t) o (fun _ => ⟨w, pk_eq (fs t) a (fun _ => ⟨w, pk_eq (sc t) b (fun _ => k3) (fun h => absurd k2.2.2 h) (pu_Ag sc (by omega))⟩) (fun h => absurd k2.2.1 h) (pu_Ag fs (by omega))⟩) (fun h => absurd k2.1 h) (pu_Ag kd (by omega))⟩
  | succ d ih =>
    intro t m ht hm
    obtain ⟨m, rfl⟩ : ∃ m', m = m' + 1 := ⟨m - 1, by omega⟩
    rw [wX_findCell_3]
    have w : vp_in (nI t) 64 := vp_in_nI (by omega) (by omega)
    have b1 := ci_kd I (by omega : t < n)
    have b2 := ci_b I (by omega : t < n)
    have nx := ih (t + 1) m (by omega) (by omega)
    exact br_f (nI_ge (by omega) (by omega)) ⟨w, pk_eq (kd t) o (fun h1 => ⟨w, pk_eq (fs t) a (fun h2 => ⟨w, pk_eq (sc t) b (fun h3 => absurd ⟨h1, h2, h3⟩ (no t (by omega))) (fun _ => nm_r (nI_1 t) nx) (pu_Ag sc (by omega))⟩) (fun _ => nm_r (nI_1 t) nx) (pu_Ag fs (by omega))⟩) (fun _ => nm_r (nI_1 t) nx) (pu_Ag kd (by omega))⟩
theorem xm_c119 {post : Int32 → St1 → Prop} {o a b s g : Nat} (hn : n < 64) (hg : g ≤ 1) (h : post (nI n) ((nI (n + 1)), (nI na), (nI nk), (nI ns), sec, st, xal, (pu_A (pu_upd kd n o)), (pu_A (pu_upd fs n a)), (pu_A (pu_upd sc n b)), (pu_A (pu_upd sz n s)), (pu_A (pu_upd gr n g)), (pu_A ac), vc, (pu_A xl), (pu_A xt), (pu_A xs), (pu_A xc), (pu_A xat), (pu_A xaa), (pu_A xch), (pu_A xtw), (pu_A xds), (pu_A xtg), (pu_A xnx), (pu_A xft))) : wX_compose_119 post (nI g) (nI s) (nI b) (nI a) (nI o) (nI n) (nI na) (nI nk) (nI ns) sec st xal (pu_A kd) (pu_A fs) (pu_A sc) (pu_A sz) (pu_A gr) (pu_A ac) vc (pu_A xl) (pu_A xt) (pu_A xs) (pu_A xc) (pu_A xat) (pu_A xaa) (pu_A xch) (pu_A xtw) (pu_A xds) (pu_A xtg) (pu_A xnx) (pu_A xft) := by
  unfold wX_compose_119
  exact xm_make hn hg h
end
end
section
section
variable {n na nk ns : Nat} {sec st xal : Int32} {kd fs sc sz gr ac : Nat → Nat} {vc : Nat → Int32} {xl xt xs xc xat xaa xch xtw xds xtg xnx xft : Nat → Nat} {yl yT yS yR : Nat → Nat}
theorem xm_tbad {post : Int32 → Prop} {t : Int32} (b : rl_bad 3 t) (h : post 0) : wpX_isThread post () t := by
  rcases b with b | b
  · exact br_t b h
  · exact br_f b.1 (br_t b.2 h)
theorem xm_tin {post : Int32 → Prop} {j : Nat} (hj : j < 3) (h : post 1) : wpX_isThread post () (nI j) :=
  br_f (nI_pos (by omega)) (br_f (nI_ge (b := 3) hj (by omega)) h)
theorem sm_slot {j c : Nat} : nI j * 6 + nI c = nI (j * 6 + c) := by
  have e : nI j * 6 = nI (j * 6) := pk_mul j 6
  rw [e, nI_add]
theorem sm_xc (R : sr_I n yT yS yR ns xc xt xs) {j : Nat} (hj : j < 3) : xc j ≤ ns := by
  rw [R.2.2 j hj]
  exact sr_c_le yT j ns
end
end
section
section
variable {n na nk ns : Nat} {sec st xal : Int32} {kd fs sc sz gr ac : Nat → Nat} {vc : Nat → Int32} {xl xt xs xc xat xaa xch xtw xds xtg xnx xft : Nat → Nat} {yl yT yS yR : Nat → Nat}
theorem xm_kca {post : St1 → Prop} (hn : n ≤ 64) (K : ∀ w, (∀ u, u < n → w u = u) → post ((nI n), (nI na), (nI nk), (nI ns), sec, st, xal, (pu_A kd), (pu_A fs), (pu_A sc), (pu_A sz), (pu_A gr), (pu_A ac), vc, (pu_A xl), (pu_A xt), (pu_A xs), (pu_A xc), (pu_A xat), (pu_A xaa), (pu_A xch), (pu_A w), (pu_A xds), (pu_A xtg), (pu_A xnx), (pu_A xft))) : ∀ d t m (w : Nat → Nat), t + d = n → d < m → (∀ u, u < t → w u = u) → wX_keepCellsApart_2 post (nI n) (nI na) (nI nk) (nI ns) sec st xal m (nI t) (pu_A kd) (pu_A fs) (pu_A sc) (pu_A sz) (pu_A gr) (pu_A ac) vc (pu_A xl) (pu_A xt) (pu_A xs) (pu_A xc) (pu_A xat) (pu_A xaa) (pu_A xch) (pu_A w) (pu_A xds) (pu_A xtg) (pu_A xnx) (pu_A xft) := by
  intro d
  induction d with
  | zero =>
    intro t m w ht hm hw
    obtain ⟨m, rfl⟩ : ∃ m', m = m' + 1 := ⟨m - 1, by omega⟩
    rw [wX_keepCellsApart_2]
    exact br_t (nI_le (by omega) (by omega)) (K w (fun u hu => hw u (by omega)))
  | succ d ih =>
    intro t m w ht hm hw
    obtain ⟨m, rfl⟩ : ∃ m', m = m' + 1 := ⟨m - 1, by omega⟩
    rw [wX_keepCellsApart_2]
    refine br_f (nI_ge (by omega) (by omega)) ⟨vp_in_nI (by omega) (by omega), nm_r (rl_up (x := t) (by omega) rfl rfl) (nm_r (nI_1 t) (ih (t + 1) m _ (by omega) (by omega) (fun u hu => ?_)))⟩
    by_cases e : u = t
    · rw [e, pu_us]
    · rw [pu_un e]; exact hw u (by omega)
def xw_W (kd fs sc : Nat → Nat) (n : Nat) (xtw : Nat → Nat) : Prop :=
  n ≤ 64 ∧ (∀ t, t < n → xtw t < n ∧ kd t ≤ 5 ∧ fs t < 64 ∧ sc t < 64) ∧ (∀ t, t < n → 3 ≤ kd t → fs t < n ∧ sc t < n)
theorem xw_H (W : xw_W kd fs sc n xtw) : xk_H kd fs sc n xtw := by
  obtain ⟨W1, W2, W3⟩ := W
  exact ⟨fun t ht => ⟨by have h := (W2 t ht).1; omega, (W2 t ht).2.1⟩, W3⟩
theorem xm_wl {post : Int64 → Prop} (W : xw_W kd fs sc n xtw) (h8 : nk ≤ 8) (hl : ∀ i, i < nk → xl i < n) (K : ∀ B, (∀ b, b < 64 → (xk_b B b = true ↔ ∃ a, a < nk ∧ xtw (xl a) = b)) → post B) : ∀ d i m B, i + d = nk → d < m → (∀ b, b < 64 → (xk_b B b = true ↔ ∃ a, a < i ∧ xtw (xl a) = b)) → wX_withLearned_4 post (nI n) (nI na) (nI nk) (nI ns) sec st xal (pu_A kd) (pu_A fs) (pu_A sc) (pu_A sz) (pu_A gr) (pu_A ac) vc (pu_A xl) (pu_A xt) (pu_A xs) (pu_A xc) (pu_A xat) (pu_A xaa) (pu_A xch) (pu_A xtw) (pu_A xds) (pu_A xtg) (pu_A xnx) (pu_A xft) m B (nI i) := by
  intro d
  induction d with
  | zero =>
    intro i m B hi hm hB
    obtain ⟨m, rfl⟩ : ∃ m', m = m' + 1 := ⟨m - 1, by omega⟩
    rw [wX_withLearned_4]
    have e : i = nk := by omega
    subst e
    exact br_t (nI_le (Nat.le_refl i) (by omega)) (K B hB)
  | succ d ih =>
    intro i m B hi hm hB
    obtain ⟨m, rfl⟩ : ∃ m', m = m' + 1 := ⟨m - 1, by omega⟩
    obtain ⟨W1, W2, W3⟩ := id W
    have l := hl i (by omega)
    have tl := (W2 _ l).1
    have e1 : pu_A xl (nI i).toNatClampNeg = nI (xl i) := pu_Ag xl (by omega)
    have e2 : pu_A xtw (nI (xl i)).toNatClampNeg = nI (xtw (xl i)) := pu_Ag xtw (by omega)
    rw [wX_withLearned_4]
    refine br_f (nI_ge (by omega) (by omega)) ⟨vp_in_nI (by omega) (by omega), by rw [e1]; exact vp_in_nI (by omega) (by omega), nm_r (e' := B ||| xk_s (xtw (xl i))) (by rw [e1, e2]; rfl) (nm_r (nI_1 i) (ih (i + 1) m _ (by omega) (by omega) (fun b hb => ?_)))⟩
    rw [xk_or, xk_one (by omega)]
    constructor
    · intro h
      by_cases q : xk_b B b = true
      · obtain ⟨a, ha, w⟩ := (hB b hb).mp q
        exact ⟨a, by omega, w⟩
      · rw [ts_nt q, Bool.false_or] at h
        exact ⟨i, by omega, of_decide_eq_true h⟩
    · intro h
      obtain ⟨a, ha, w⟩ := h
      by_cases q : a = i
      · rw [q] at w
        rw [decide_eq_true w, Bool.or_true]
      · rw [(hB b hb).mpr ⟨a, by omega, w⟩, Bool.true_or]
theorem xm_withLearned {post : Int64 → Prop} (W : xw_W kd fs sc n xtw) (h8 : nk ≤ 8) (hl : ∀ i, i < nk → xl i < n) (K : ∀ B, (∀ b, b < 64 → (xk_b B b = true ↔ ∃ a, a < nk ∧ xtw (xl a) = b)) → post B) : wpX_withLearned post ((nI n), (nI na), (nI nk), (nI ns), sec, st, xal, (pu_A kd), (pu_A fs), (pu_A sc), (pu_A sz), (pu_A gr), (pu_A ac), vc, (pu_A xl), (pu_A xt), (pu_A xs), (pu_A xc), (pu_A xat), (pu_A xaa), (pu_A xch), (pu_A xtw), (pu_A xds), (pu_A xtg), (pu_A xnx), (pu_A xft)) := by
  refine ⟨nk + 1, xm_wl W h8 hl K nk 0 (nk + 1) 0 (by omega) (by omega) (fun b hb => ?_)⟩
  rw [xk_0]
  exact ⟨fun h => absurd h (by decide), fun h => by obtain ⟨a, ha, _⟩ := h; omega⟩
theorem xm_comp {post : Int32 → Prop} {t : Nat} (W : xw_W kd fs sc n xtw) (ht : t < n) (h1 : kd t = 1 ∧ sc t = 1 → post 1) (h0 : ¬ (kd t = 1 ∧ sc t = 1) → post 0) : wpX_isCompromised post ((nI n), (nI na), (nI nk), (nI ns), sec, st, xal, (pu_A kd), (pu_A fs), (pu_A sc), (pu_A sz), (pu_A gr), (pu_A ac), vc, (pu_A xl), (pu_A xt), (pu_A xs), (pu_A xc), (pu_A xat), (pu_A xaa), (pu_A xch), (pu_A xtw), (pu_A xds), (pu_A xtg), (pu_A xnx), (pu_A xft)) (nI t) := by
  obtain ⟨W1, W2, W3⟩ := W
  obtain ⟨b1, b2, b3, b4⟩ := W2 t ht
  have w : vp_in (nI t) 64 := vp_in_nI (by omega) (by omega)
  exact ⟨w, pk_eq (kd t) 1 (fun k => ⟨w, pk_eq (sc t) 1 (fun s => h1 ⟨k, s⟩) (fun s => h0 (fun h => s h.2)) (pu_Ag sc (by omega))⟩) (fun k => h0 (fun h => k h.1)) (pu_Ag kd (by omega))⟩
theorem xm_79 {post : Int64 → Prop} {w : Int64} {a b : Nat} (h1 : a ≠ 0 ∧ b ≠ 0 → post w) (h0 : ¬ (a ≠ 0 ∧ b ≠ 0) → post 0) (ha : a ≤ 1) (hb : b ≤ 1) : wX_derivedAt_79 post w (nI a) (nI b) (nI n) (nI na) (nI nk) (nI ns) sec st xal (pu_A kd) (pu_A fs) (pu_A sc) (pu_A sz) (pu_A gr) (pu_A ac) vc (pu_A xl) (pu_A xt) (pu_A xs) (pu_A xc) (pu_A xat) (pu_A xaa) (pu_A xch) (pu_A xtw) (pu_A xds) (pu_A xtg) (pu_A xnx) (pu_A xft) :=
  pk_eq b 0 (fun e => h0 (fun h => h.2 e)) (fun e => pk_eq a 0 (fun e2 => h0 (fun h => h.1 e2)) (fun e2 => h1 ⟨e2, e⟩))
theorem xm_54 {post : Int64 → Prop} {t z : Nat} {B : Int64} (W : xw_W kd fs sc n xtw) (ht : t < n) (k3 : 3 ≤ kd t) (hz : z ≤ 1) (ez : z = 1 ↔ xk_b B (xtw (sc t)) = true) (h : post (xk_d kd fs sc xtw t B)) : wX_derivedAt_54 post (nI t) B (xk_s (xtw t)) (xk_s (xtw (fs t))) (xk_s (xtw (sc t))) (nI z) (nI n) (nI na) (nI nk) (nI ns) sec st xal (pu_A kd) (pu_A fs) (pu_A sc) (pu_A sz) (pu_A gr) (pu_A ac) vc (pu_A xl) (pu_A xt) (pu_A xs) (pu_A xc) (pu_A xat) (pu_A xaa) (pu_A xch) (pu_A xtw) (pu_A xds) (pu_A xtg) (pu_A xnx) (pu_A xft) := by
  obtain ⟨W1, W2, W3⟩ := id W
  obtain ⟨b1, b2, b3, b4⟩ := W2 t ht
  obtain ⟨c1, c2⟩ := W3 t ht k3
  have wf := (W2 _ c1).1
  have ws := (W2 _ c2).1
  have w : vp_in (nI t) 64 := vp_in_nI (by omega) (by omega)
  have xw := xk_and (B := B) (by omega : xtw t < 64)
  have xf := xk_and (B := B) (by omega : xtw (fs t) < 64)
  unfold wX_derivedAt_54
  by_cases q : xk_b B (xtw t) = false
  · refine br_t (xw.mpr q) (br_c (fun e => ?_) (fun e => ?_))
    · have hd : xk_d kd fs sc xtw t B = 0 := by
        unfold xk_d
        rw [if_pos q, if_neg (fun a => by rw [xf.mp e] at a; exact absurd a.1 (by decide))]
      rw [hd] at h
      exact xm_79 (a := z) (b := 0) (fun a => absurd rfl a.2) (fun _ => h) hz (by omega)
    · have ef : xk_b B (xtw (fs t)) = true := ts_nf (fun a => e (xf.mpr a))
      refine xm_79 (a := z) (b := 1) (fun a => ?_) (fun a => ?_) hz (by omega)
      · have hd : xk_d kd fs sc xtw t B = xk_s (xtw t) := by
          unfold xk_d
          rw [if_pos q, if_pos ⟨ef, ez.mp (by omega)⟩]
        rw [hd] at h
        exact h
      · have hd : xk_d kd fs sc xtw t B = 0 := by
          unfold xk_d
          rw [if_pos q, if_neg (fun c => a ⟨by have g := ez.mpr c.2; omega, by omega⟩)]
        rw [hd] at h
        exact h
  · refine br_f (fun a => q (xw.mp a)) ⟨w, nm_r (pu_Ag kd (by omega)) (pk_eq (kd t) 3 (fun k => ?_) (fun k => pk_eq (kd t) 4 (fun k4 => pk_eq z 0 (fun e => ?_) (fun e => ?_)) (fun k4 => ⟨w, by rw [pu_Ag sc (by omega)]; exact vp_in_nI (by omega) (by omega), ?_⟩)))⟩
    · have hd : xk_d kd fs sc xtw t B = (xk_s (xtw (fs t)) ||| xk_s (xtw (sc t))) := by
        unfold xk_d
        rw [if_neg q, if_pos k]
      rw [hd] at h
      exact h
    · have hd : xk_d kd fs sc xtw t B = 0 := by
        unfold xk_d
        rw [if_neg q, if_neg k, if_pos k4, if_neg (fun c => by have g := ez.mpr c; omega)]
      rw [hd] at h
      exact h
    · have hd : xk_d kd fs sc xtw t B = xk_s (xtw (fs t)) := by
        unfold xk_d
        rw [if_neg q, if_neg k, if_pos k4, if_pos (ez.mp (by omega))]
      rw [hd] at h
      exact h
    · rw [pu_Ag sc (by omega), pu_Ag xtw (by omega)]
      refine xm_comp W ws (fun c => ?_) (fun c => ?_)
      · have hd : xk_d kd fs sc xtw t B = xk_s (xtw (fs t)) := by
          unfold xk_d
          rw [if_neg q, if_neg k, if_neg k4, if_pos c]
        rw [hd] at h
        exact br_f (by decide) h
      · have hd : xk_d kd fs sc xtw t B = 0 := by
          unfold xk_d
          rw [if_neg q, if_neg k, if_neg k4, if_neg c]
        rw [hd] at h
        exact br_t rfl h
theorem xm_dAt {post : Int64 → Prop} {t : Nat} {B : Int64} (W : xw_W kd fs sc n xtw) (ht : t < n) (k3 : 3 ≤ kd t) (h : post (xk_d kd fs sc xtw t B)) : wpX_derivedAt post ((nI n), (nI na), (nI nk), (nI ns), sec, st, xal, (pu_A kd), (pu_A fs), (pu_A sc), (pu_A sz), (pu_A gr), (pu_A ac), vc, (pu_A xl), (pu_A xt), (pu_A xs), (pu_A xc), (pu_A xat), (pu_A xaa), (pu_A xch), (pu_A xtw), (pu_A xds), (pu_A xtg), (pu_A xnx), (pu_A xft)) (nI t) B := by
  obtain ⟨W1, W2, W3⟩ := id W
  obtain ⟨b1, b2, b3, b4⟩ := W2 t ht
  obtain ⟨c1, c2⟩ := W3 t ht k3
  have ws := (W2 _ c2).1
  have w : vp_in (nI t) 64 := vp_in_nI (by omega) (by omega)
  have ef : pu_A fs (nI t).toNatClampNeg = nI (fs t) := pu_Ag fs (by omega)
  have es : pu_A sc (nI t).toNatClampNeg = nI (sc t) := pu_Ag sc (by omega)
  have xs := xk_and (B := B) (by omega : xtw (sc t) < 64)
  refine ⟨w, nm_r (e' := xk_s (xtw t)) (by rw [pu_Ag xtw (by omega)]; rfl) ⟨w, by rw [ef]; exact vp_in_nI (by omega) (by omega), nm_r (e' := xk_s (xtw (fs t))) (by rw [ef, pu_Ag xtw (by omega)]; rfl) ⟨w, by rw [es]; exact vp_in_nI (by omega) (by omega), nm_r (e' := xk_s (xtw (sc t))) (by rw [es, pu_Ag xtw (by omega)]; rfl) (br_c (fun e => ?_) (fun e => ?_))⟩⟩⟩
  · exact xm_54 (z := 0) W ht k3 (by omega) ⟨fun a => by omega, fun a => by rw [xs.mp e] at a; exact absurd a (by decide)⟩ h
  · exact xm_54 (z := 1) W ht k3 (by omega) ⟨fun _ => ts_nf (fun a => e (xs.mpr a)), fun _ => rfl⟩ h
theorem xm_c26 {post : Int64 → Prop} {J : Int64 → Int32 → Int32 → Prop} {r : Nat} {B : Int64} (W : xw_W kd fs sc n xtw)
    (K0 : (∀ u, u < n → 3 ≤ kd u → (B ||| xk_d kd fs sc xtw u B) = B) → J B 0 (nI (r + 1)))
    (K1 : ∀ C, ¬ C = B → (∀ i, i < 64 → xk_b B i = true → xk_b C i = true) → (∀ S, tc_Cl kd fs sc n xtw S → xk_N n xtw S B → xk_N n xtw S C) → J C 1 (nI (r + 1))) :
    ∀ d t m C, t + d = n → d < m → (∀ i, i < 64 → xk_b B i = true → xk_b C i = true) → (∀ S, tc_Cl kd fs sc n xtw S → xk_N n xtw S B → xk_N n xtw S C) → (C = B → ∀ u, u < t → 3 ≤ kd u → (B ||| xk_d kd fs sc xtw u B) = B) → wX_closure_26 post J (nI r) B (nI n) (nI na) (nI nk) (nI ns) sec st xal (pu_A kd) (pu_A fs) (pu_A sc) (pu_A sz) (pu_A gr) (pu_A ac) vc (pu_A xl) (pu_A xt) (pu_A xs) (pu_A xc) (pu_A xat) (pu_A xaa) (pu_A xch) (pu_A xtw) (pu_A xds) (pu_A xtg) (pu_A xnx) (pu_A xft) m C (nI t) := by
  obtain ⟨W1, W2, W3⟩ := id W
  intro d
  induction d with
  | zero =>
    intro t m C ht hm up sd eqv
    obtain ⟨m, rfl⟩ : ∃ m', m = m' + 1 := ⟨m - 1, by omega⟩
    rw [wX_closure_26]
    refine br_t (nI_le (by omega) (by omega)) (br_c (fun e => nm_r (nI_1 r) ?_) (fun e => nm_r (nI_1 r) (K1 C e up sd)))
    have h := eqv e
    rw [e]
    exact K0 (fun u hu k => h u (by omega) k)
  | succ d ih =>
    intro t m C ht hm up sd eqv
    obtain ⟨m, rfl⟩ : ∃ m', m = m' + 1 := ⟨m - 1, by omega⟩
    have ht' : t < n := by omega
    obtain ⟨b1, b2, b3, b4⟩ := W2 t ht'
    rw [wX_closure_26]
    refine br_f (nI_ge ht' (by omega)) ⟨vp_in_nI (by omega) (by omega), pk_lt (kd t) 3 (fun k => ?_) (fun k => ?_) (pu_Ag kd (by omega))⟩
    · refine nm_r (nI_1 t) (ih (t + 1) m C (by omega) (by omega) up sd (fun e u hu ku => ?_))
      by_cases q : u = t
      · rw [q] at ku; omega
      · exact eqv e u (by omega) ku
    · refine xm_dAt W ht' k (nm_e (nm_r (nI_1 t) (ih (t + 1) m _ (by omega) (by omega) (fun i hi h => xk_sub _ _ (up i hi h)) (fun S c hB => xk_Nor (sd S c hB) (xk_dN (xw_H W) c (sd S c hB) ht' k)) (fun e u hu ku => ?_))))
      have eC : C = B := by
        refine xk_ext (fun i hi => ?_)
        by_cases q : xk_b B i = true
        · rw [q, up i hi q]
        · have hc : ¬ xk_b C i = true := fun c => by
            have h2 := xk_sub C (xk_d kd fs sc xtw t C) c
            rw [e] at h2
            exact q h2
          rw [ts_nt q, ts_nt hc]
      by_cases q : u = t
      · rw [q]
        rw [eC] at e
        exact e
      · exact eqv eC u (by omega) ku
theorem xm_c8 {post : Int64 → Prop} {B0 : Int64} (W : xw_W kd fs sc n xtw)
    (K : ∀ B, (∀ i, i < 64 → xk_b B0 i = true → xk_b B i = true) → (∀ S, tc_Cl kd fs sc n xtw S → xk_N n xtw S B0 → xk_N n xtw S B) → tc_Cl kd fs sc n xtw (fun u => xk_b B (xtw u) = true) → post B) :
    ∀ d r m B, r + d = 64 → d + 1 < m → r ≤ pu_cn (xk_b B) 64 → (∀ i, i < 64 → xk_b B0 i = true → xk_b B i = true) → (∀ S, tc_Cl kd fs sc n xtw S → xk_N n xtw S B0 → xk_N n xtw S B) → wX_closure_8 post (nI n) (nI na) (nI nk) (nI ns) sec st xal (pu_A kd) (pu_A fs) (pu_A sc) (pu_A sz) (pu_A gr) (pu_A ac) vc (pu_A xl) (pu_A xt) (pu_A xs) (pu_A xc) (pu_A xat) (pu_A xaa) (pu_A xch) (pu_A xtw) (pu_A xds) (pu_A xtg) (pu_A xnx) (pu_A xft) m B 1 (nI r) := by
  intro d
  induction d with
  | zero =>
    intro r m B hr hm hc up sd
    obtain ⟨m, rfl⟩ : ∃ m', m = m' + 1 := ⟨m - 1, by omega⟩
    rw [wX_closure_8]
    exact br_f (by decide) (br_t (nI_le (a := 64) (by omega) (by omega)) (K B up sd (xk_full (by omega) (xw_H W))))
  | succ d ih =>
    intro r m B hr hm hc up sd
    obtain ⟨m, rfl⟩ : ∃ m', m = m' + 1 := ⟨m - 1, by omega⟩
    rw [wX_closure_8]
    refine br_f (by decide) (br_f (nI_ge (b := 64) (by omega) (by omega)) ⟨n + 1, xm_c26 W (fun h => ?_) (fun C ne up2 sd2 => ?_) n 0 (n + 1) B (by omega) (by omega) (fun i _ h => h) (fun S _ h => h) (fun _ u hu => by omega)⟩)
    · obtain ⟨m, rfl⟩ : ∃ m', m = m' + 1 := ⟨m - 1, by omega⟩
      rw [wX_closure_8]
      exact br_t rfl (K B up sd (xk_cl (xw_H W) h))
    · have g := xk_grow up2 ne
      exact ih (r + 1) m C (by omega) (by omega) (by omega) (fun i hi h => up2 i hi (up i hi h)) (fun S c h => sd2 S c (sd S c h))
theorem xm_closure {post : Int64 → Prop} {B0 : Int64} {K : Nat → Prop} (W : xw_W kd fs sc n xtw) (h0 : xk_K n xtw K B0) (h : ∀ B, (∀ t, t < n → (xk_b B (xtw t) = true ↔ tc_L kd fs sc n xtw K t)) → post B) : wpX_closure post ((nI n), (nI na), (nI nk), (nI ns), sec, st, xal, (pu_A kd), (pu_A fs), (pu_A sc), (pu_A sz), (pu_A gr), (pu_A ac), vc, (pu_A xl), (pu_A xt), (pu_A xs), (pu_A xc), (pu_A xat), (pu_A xaa), (pu_A xch), (pu_A xtw), (pu_A xds), (pu_A xtg), (pu_A xnx), (pu_A xft)) B0 :=
  ⟨66, xm_c8 W (fun B up sd cl => h B (fun t ht => xk_main (xw_H W) h0 up sd cl ht)) 64 0 66 B0 (by omega) (by omega) (by omega) (fun i _ h => h) (fun S _ h => h)⟩
theorem xm_holds {post : Int32 → Prop} {B : Int64} {t : Nat} (W : xw_W kd fs sc n xtw) (ht : t < n) (h1 : xk_b B (xtw t) = true → post 1) (h0 : ¬ xk_b B (xtw t) = true → post 0) : wpX_holds post ((nI n), (nI na), (nI nk), (nI ns), sec, st, xal, (pu_A kd), (pu_A fs), (pu_A sc), (pu_A sz), (pu_A gr), (pu_A ac), vc, (pu_A xl), (pu_A xt), (pu_A xs), (pu_A xc), (pu_A xat), (pu_A xaa), (pu_A xch), (pu_A xtw), (pu_A xds), (pu_A xtg), (pu_A xnx), (pu_A xft)) B (nI t) := by
  obtain ⟨W1, W2, W3⟩ := W
  have b := (W2 t ht).1
  have q := xk_shr (B := B) (by omega : xtw t < 64)
  refine ⟨vp_in_nI (by omega) (by omega), ?_⟩
  rw [pu_Ag xtw (by omega)]
  exact br_c (fun e => h0 (fun a => by rw [q.mp e] at a; exact absurd a (by decide))) (fun e => h1 (ts_nf (fun a => e (q.mpr a))))
end
end
section
section
variable {n na nk ns : Nat} {sec st xal : Int32} {kd fs sc sz gr ac : Nat → Nat} {vc : Nat → Int32} {xl xt xs xc xat xaa xch xtw xds xtg xnx xft : Nat → Nat} {yl yT yS yR : Nat → Nat}
def ch_c (vc : Nat → Int32) (na v : Nat) : Nat := if vc v = -1 then 1 else na
theorem ch_8 (h : na ≤ 8) (v : Nat) : ch_c vc na v ≤ 8 := by
  unfold ch_c
  by_cases q : vc v = -1
  · rw [if_pos q]; omega
  · rw [if_neg q]; exact h
theorem xm_ca1 {post : Int32 → St1 → Prop} {v rest m : Nat} {w : Nat → Nat} (ha : na ≤ 8) (hv : v < 3) (hr : rest < 1000)
    (h1 : rest % 8 < ch_c vc na v → wX_chooseAtoms_4 post (nI n) (nI na) (nI nk) (nI ns) sec st xal m (nI (rest / 8)) (nI v + (-1)) (pu_A kd) (pu_A fs) (pu_A sc) (pu_A sz) (pu_A gr) (pu_A ac) vc (pu_A xl) (pu_A xt) (pu_A xs) (pu_A xc) (pu_A xat) (pu_A xaa) (pu_A (pu_upd w v (rest % 8))) (pu_A xtw) (pu_A xds) (pu_A xtg) (pu_A xnx) (pu_A xft))
    (h0 : ¬ rest % 8 < ch_c vc na v → post 0 ((nI n), (nI na), (nI nk), (nI ns), sec, st, xal, (pu_A kd), (pu_A fs), (pu_A sc), (pu_A sz), (pu_A gr), (pu_A ac), vc, (pu_A xl), (pu_A xt), (pu_A xs), (pu_A xc), (pu_A xat), (pu_A xaa), (pu_A w), (pu_A xtw), (pu_A xds), (pu_A xtg), (pu_A xnx), (pu_A xft))) : wX_chooseAtoms_4 post (nI n) (nI na) (nI nk) (nI ns) sec st xal (m + 1) (nI rest) (nI v) (pu_A kd) (pu_A fs) (pu_A sc) (pu_A sz) (pu_A gr) (pu_A ac) vc (pu_A xl) (pu_A xt) (pu_A xs) (pu_A xc) (pu_A xat) (pu_A xaa) (pu_A w) (pu_A xtw) (pu_A xds) (pu_A xtg) (pu_A xnx) (pu_A xft) := by
  have wv : vp_in (nI v) 3 := vp_in_nI hv (by omega)
  have q : (nI v).toNatClampNeg = v := nI_clamp (by omega)
  have e8 : nI rest - nI rest / 8 * 8 = nI (rest % 8) := pk_rem (d := 8) (by omega) (by omega) (by omega)
  have d8 : nI rest / 8 = nI (rest / 8) := pk_div (d := 8) (by omega) (by omega) (by omega)
  have nz : ¬ (8 : Int32) = 0 := by decide
  rw [wX_chooseAtoms_4]
  refine br_f (nI_pos (by omega)) ⟨nz, nm_r e8 ⟨nz, nm_r d8 ⟨wv, ?_⟩⟩⟩
  rw [q]
  refine br_c (fun z => ?_) (fun z => ?_)
  · have ec : ch_c vc na v = 1 := if_pos z
    rw [ec] at h1 h0
    exact pk_lt (rest % 8) 1 (fun l => ⟨wv, nm_r (rl_up (x := rest % 8) (by omega) rfl rfl) (nm_e (h1 l))⟩) (fun l => h0 (by omega))
  · have ec : ch_c vc na v = na := if_neg z
    rw [ec] at h1 h0
    exact pk_lt (rest % 8) na (fun l => ⟨wv, nm_r (rl_up (x := rest % 8) (by omega) rfl rfl) (nm_e (h1 l))⟩) (fun l => h0 (by omega))
theorem xm_choose {post : Int32 → St1 → Prop} {code : Nat} (ha : na ≤ 8) (hc : code < 512)
    (h1 : as_V (ch_c vc na 0) (ch_c vc na 1) (ch_c vc na 2) code → ∀ w : Nat → Nat, (∀ v, v < 3 → w v = cn_d code v) → post 1 ((nI n), (nI na), (nI nk), (nI ns), sec, st, xal, (pu_A kd), (pu_A fs), (pu_A sc), (pu_A sz), (pu_A gr), (pu_A ac), vc, (pu_A xl), (pu_A xt), (pu_A xs), (pu_A xc), (pu_A xat), (pu_A xaa), (pu_A w), (pu_A xtw), (pu_A xds), (pu_A xtg), (pu_A xnx), (pu_A xft)))
    (h0 : ¬ as_V (ch_c vc na 0) (ch_c vc na 1) (ch_c vc na 2) code → ∀ w : Nat → Nat, post 0 ((nI n), (nI na), (nI nk), (nI ns), sec, st, xal, (pu_A kd), (pu_A fs), (pu_A sc), (pu_A sz), (pu_A gr), (pu_A ac), vc, (pu_A xl), (pu_A xt), (pu_A xs), (pu_A xc), (pu_A xat), (pu_A xaa), (pu_A w), (pu_A xtw), (pu_A xds), (pu_A xtg), (pu_A xnx), (pu_A xft))) : wpX_chooseAtoms post ((nI n), (nI na), (nI nk), (nI ns), sec, st, xal, (pu_A kd), (pu_A fs), (pu_A sc), (pu_A sz), (pu_A gr), (pu_A ac), vc, (pu_A xl), (pu_A xt), (pu_A xs), (pu_A xc), (pu_A xat), (pu_A xaa), (pu_A xch), (pu_A xtw), (pu_A xds), (pu_A xtg), (pu_A xnx), (pu_A xft)) (nI code) := by
  have e1 : nI 2 + (-1) = nI 1 := pk_m1 1
  have e0 : nI 1 + (-1) = nI 0 := pk_m1 0
  have em : nI 0 + (-1) < 0 := by decide
  refine ⟨4, xm_ca1 (v := 2) ha (by omega) (by omega) (fun l2 => ?_) (fun l2 => ?_)⟩
  · rw [e1]
    refine xm_ca1 (v := 1) ha (by omega) (by omega) (fun l1 => ?_) (fun l1 => ?_)
    · rw [e0]
      refine xm_ca1 (v := 0) ha (by omega) (by omega) (fun l0 => ?_) (fun l0 => ?_)
      · rw [wX_chooseAtoms_4]
        refine br_t em (h1 ⟨hc, by omega, by omega, by omega⟩ _ (fun v hv => ?_))
        rcases sk_3 hv with e | e | e
        · rw [e, pu_us]
          show code / 8 / 8 % 8 = code / 64
          omega
        · rw [e, pu_un (by omega), pu_us]
          show code / 8 % 8 = code / 8 % 8
          rfl
        · rw [e, pu_un (by omega), pu_un (by omega), pu_us]
          show code % 8 = code % 8
          rfl
      · refine h0 (fun V => l0 ?_) _
        have h := V.2.1
        omega
    · exact h0 (fun V => l1 V.2.2.1) _
  · exact h0 (fun V => l2 V.2.2.2) _
theorem xm_fe {post : Int32 → Prop} {t e : Nat} (I : ci_I kd fs sc sz gr n na ac vc) (ht : t < n) (k3 : 3 ≤ kd t) (hw : ∀ u, u < t → xtw u < n) (he : e ≤ t) (no : ∀ u, u < e → ¬ ci_R kd fs sc xtw u t) (K : (e = t ∧ post (nI t)) ∨ (e < t ∧ ci_R kd fs sc xtw e t ∧ post (nI e))) : ∀ d u m, u + d = e → d < m → wX_firstEqualCell_2 post (nI t) (nI n) (nI na) (nI nk) (nI ns) sec st xal (pu_A kd) (pu_A fs) (pu_A sc) (pu_A sz) (pu_A gr) (pu_A ac) vc (pu_A xl) (pu_A xt) (pu_A xs) (pu_A xc) (pu_A xat) (pu_A xaa) (pu_A xch) (pu_A xtw) (pu_A xds) (pu_A xtg) (pu_A xnx) (pu_A xft) m (nI u) := by
  have hn := I.1
  obtain ⟨t1, t2, t3, _⟩ := ci_k3 I ht k3
  have wt : vp_in (nI t) 64 := vp_in_nI (by omega) (by omega)
  have bt := ci_kd I ht
  have ft : pu_A fs (nI t).toNatClampNeg = nI (fs t) := pu_Ag fs (by omega)
  have stt : pu_A sc (nI t).toNatClampNeg = nI (sc t) := pu_Ag sc (by omega)
  have wf : vp_in (pu_A fs (nI t).toNatClampNeg) 64 := by rw [ft]; exact vp_in_nI (by omega) (by omega)
  have ws : vp_in (pu_A sc (nI t).toNatClampNeg) 64 := by rw [stt]; exact vp_in_nI (by omega) (by omega)
  have vf := hw (fs t) t2
  have vs := hw (sc t) t3
  have gf : pu_A xtw (pu_A fs (nI t).toNatClampNeg).toNatClampNeg = nI (xtw (fs t)) := by rw [ft]; exact pu_Ag xtw (by omega)
  have gs : pu_A xtw (pu_A sc (nI t).toNatClampNeg).toNatClampNeg = nI (xtw (sc t)) := by rw [stt]; exact pu_Ag xtw (by omega)
  have body : ∀ u m, u < t → (ci_R kd fs sc xtw u t → post (nI u)) → (¬ ci_R kd fs sc xtw u t → wX_firstEqualCell_2 post (nI t) (nI n) (nI na) (nI nk) (nI ns) sec st xal (pu_A kd) (pu_A fs) (pu_A sc) (pu_A sz) (pu_A gr) (pu_A ac) vc (pu_A xl) (pu_A xt) (pu_A xs) (pu_A xc) (pu_A xat) (pu_A xaa) (pu_A xch) (pu_A xtw) (pu_A xds) (pu_A xtg) (pu_A xnx) (pu_A xft) m (nI (u + 1))) → wX_firstEqualCell_2 post (nI t) (nI n) (nI na) (nI nk) (nI ns) sec st xal (pu_A kd) (pu_A fs) (pu_A sc) (pu_A sz) (pu_A gr) (pu_A ac) vc (pu_A xl) (pu_A xt) (pu_A xs) (pu_A xc) (pu_A xat) (pu_A xaa) (pu_A xch) (pu_A xtw) (pu_A xds) (pu_A xtg) (pu_A xnx) (pu_A xft) (m + 1) (nI u) := by
    intro u m hu yes nx
    have wu : vp_in (nI u) 64 := vp_in_nI (by omega) (by omega)
    have bu := ci_kd I (by omega : u < n)
    rw [wX_firstEqualCell_2]
    refine br_f (nI_ge hu (by omega)) ⟨wu, wt, pk_eq (kd u) (kd t) (fun k => ?_) (fun k => nm_r (nI_1 u) (nx (fun r => k r.1))) (pu_Ag kd (by omega)) (pu_Ag kd (by omega))⟩
    obtain ⟨u1, u2, u3, _⟩ := ci_k3 I (by omega : u < n) (by omega)
    have fu : pu_A fs (nI u).toNatClampNeg = nI (fs u) := pu_Ag fs (by omega)
    have su : pu_A sc (nI u).toNatClampNeg = nI (sc u) := pu_Ag sc (by omega)
    have wf' : vp_in (pu_A fs (nI u).toNatClampNeg) 64 := by rw [fu]; exact vp_in_nI (by omega) (by omega)
    have ws' : vp_in (pu_A sc (nI u).toNatClampNeg) 64 := by rw [su]; exact vp_in_nI (by omega) (by omega)
    have vf' := hw (fs u) (by omega)
    have vs' := hw (sc u) (by omega)
    have gf' : pu_A xtw (pu_A fs (nI u).toNatClampNeg).toNatClampNeg = nI (xtw (fs u)) := by rw [fu]; exact pu_Ag xtw (by omega)
    have gs' : pu_A xtw (pu_A sc (nI u).toNatClampNeg).toNatClampNeg = nI (xtw (sc u)) := by rw [su]; exact pu_Ag xtw (by omega)
    exact ⟨wu, wf', wt, wf, pk_eq (xtw (fs u)) (xtw (fs t)) (fun a => ⟨wu, ws', wt, ws, pk_eq (xtw (sc u)) (xtw (sc t)) (fun b => yes ⟨k, a, b⟩) (fun b => nm_r (nI_1 u) (nx (fun r => b r.2.2))) gs' gs⟩) (fun a => nm_r (nI_1 u) (nx (fun r => a r.2.1))) gf' gf⟩
  intro d
  induction d with
  | zero =>
    intro u m hu hm
    obtain ⟨m, rfl⟩ : ∃ m', m = m' + 1 := ⟨m - 1, by omega⟩
    have q : u = e := by omega
    subst q
    rcases K with ⟨k1, k2⟩ | ⟨k1, k2, k3'⟩
    · rw [wX_firstEqualCell_2]
      exact br_t (nI_le (by omega) (by omega)) k2
    · exact body u m k1 (fun _ => k3') (fun h => absurd k2 h)
  | succ d ih =>
    intro u m hu hm
    obtain ⟨m, rfl⟩ : ∃ m', m = m' + 1 := ⟨m - 1, by omega⟩
    exact body u m (by omega) (fun h => absurd h (no u (by omega))) (fun _ => ih (u + 1) m (by omega) (by omega))
theorem xm_j2 {post : St1 → Prop} (I : ci_I kd fs sc sz gr n na ac vc) (hc : ∀ t, t < n → kd t = 2 → xch (fs t) < na) (K : ∀ w, (∀ t, t < n → ci_X kd fs sc ac xch w t) → (∀ t, t < n → w t < n) → post ((nI n), (nI na), (nI nk), (nI ns), sec, st, xal, (pu_A kd), (pu_A fs), (pu_A sc), (pu_A sz), (pu_A gr), (pu_A ac), vc, (pu_A xl), (pu_A xt), (pu_A xs), (pu_A xc), (pu_A xat), (pu_A xaa), (pu_A xch), (pu_A w), (pu_A xds), (pu_A xtg), (pu_A xnx), (pu_A xft))) : ∀ d t m (w : Nat → Nat), t + d = n → d < m → (∀ u, u < t → ci_X kd fs sc ac xch w u) → (∀ u, u < t → w u < n) → wX_joinEqualCells_2 post (nI n) (nI na) (nI nk) (nI ns) sec st xal m (nI t) (pu_A kd) (pu_A fs) (pu_A sc) (pu_A sz) (pu_A gr) (pu_A ac) vc (pu_A xl) (pu_A xt) (pu_A xs) (pu_A xc) (pu_A xat) (pu_A xaa) (pu_A xch) (pu_A w) (pu_A xds) (pu_A xtg) (pu_A xnx) (pu_A xft) := by
  have hn := I.1
  have ha := I.2.1
  intro d
  induction d with
  | zero =>
    intro t m w ht hm hX hw
    obtain ⟨m, rfl⟩ : ∃ m', m = m' + 1 := ⟨m - 1, by omega⟩
    rw [wX_joinEqualCells_2]
    exact br_t (nI_le (by omega) (by omega)) (K w (fun u hu => hX u (by omega)) (fun u hu => hw u (by omega)))
  | succ d ih =>
    intro t m w ht hm hX hw
    obtain ⟨m, rfl⟩ : ∃ m', m = m' + 1 := ⟨m - 1, by omega⟩
    have ht' : t < n := by omega
    have bt := ci_kd I ht'
    have bb := ci_b I ht'
    have wt : vp_in (nI t) 64 := vp_in_nI (by omega) (by omega)
    have go : ∀ x, x < n → ci_X kd fs sc ac xch (pu_upd w t x) t → wX_joinEqualCells_2 post (nI n) (nI na) (nI nk) (nI ns) sec st xal m (nI (t + 1)) (pu_A kd) (pu_A fs) (pu_A sc) (pu_A sz) (pu_A gr) (pu_A ac) vc (pu_A xl) (pu_A xt) (pu_A xs) (pu_A xc) (pu_A xat) (pu_A xaa) (pu_A xch) (pu_A (pu_upd w t x)) (pu_A xds) (pu_A xtg) (pu_A xnx) (pu_A xft) := by
      intro x hx h
      refine ih (t + 1) m _ (by omega) (by omega) (fun u hu => ?_) (fun u hu => ?_)
      · by_cases e : u = t
        · rw [e]; exact h
        · exact ci_Xup I ht' hX u (by omega)
      · by_cases e : u = t
        · rw [e, pu_us]; exact hx
        · rw [pu_un e]; exact hw u (by omega)
    rw [wX_joinEqualCells_2]
    refine br_f (nI_ge ht' (by omega)) ⟨wt, nm_r (pu_Ag kd (by omega)) (pk_eq (kd t) 1 (fun k1 => ?_) (fun k1 => pk_eq (kd t) 2 (fun k2 => ?_) (fun k2 => ?_)))⟩
    · exact ⟨wt, nm_r (rl_up (x := t) (by omega) rfl rfl) (nm_r (nI_1 t) (go t ht' ⟨fun _ => pu_us, fun k => by omega, fun k => by omega⟩))⟩
    · obtain ⟨f3, _⟩ := ci_k2 I ht' k2
      have c8 := hc t ht' k2
      obtain ⟨a1, a2, a3⟩ := I.2.2.2.1 _ c8
      have e1 : pu_A fs (nI t).toNatClampNeg = nI (fs t) := pu_Ag fs (by omega)
      have e2 : pu_A xch (nI (fs t)).toNatClampNeg = nI (xch (fs t)) := pu_Ag xch (by omega)
      have e3 : pu_A ac (nI (xch (fs t))).toNatClampNeg = nI (ac (xch (fs t))) := pu_Ag ac (by omega)
      refine ⟨wt, by rw [e1]; exact vp_in_nI f3 (by omega), by rw [e1, e2]; exact vp_in_nI (by omega) (by omega), wt, nm_r (rl_up (x := ac (xch (fs t))) (by omega) rfl (by rw [e1, e2, e3])) (nm_r (nI_1 t) (go _ a1 ⟨fun k => by omega, fun _ => pu_us, fun k => by omega⟩))⟩
    · have k3 : 3 ≤ kd t := by omega
      obtain ⟨t1, t2, t3, _⟩ := ci_k3 I ht' k3
      have Rc : ∀ x a, a ≤ t → (ci_R kd fs sc (pu_upd w t x) a t ↔ ci_R kd fs sc w a t) := by
        intro x a ha
        unfold ci_R
        by_cases q : kd a = kd t
        · obtain ⟨a1, a2, a3, _⟩ := ci_k3 I (by omega : a < n) (by omega)
          rw [pu_un (by omega : fs a ≠ t), pu_un (by omega : fs t ≠ t), pu_un (by omega : sc a ≠ t), pu_un (by omega : sc t ≠ t)]
        · constructor
          · intro z; exact absurd z.1 q
          · intro z; exact absurd z.1 q
      unfold wpX_firstEqualCell
      rcases sm_first (fun u => ci_R kd fs sc w u t) t with no | ⟨a, h1, h2, h3⟩
      · refine ⟨t + 1, xm_fe (e := t) I ht' k3 hw (Nat.le_refl t) no (Or.inl ⟨rfl, ⟨wt, nm_r (rl_up (x := t) (by omega) rfl rfl) (nm_r (nI_1 t) (go t ht' ⟨fun k => by omega, fun k => by omega, fun _ => ?_⟩))⟩⟩) t 0 (t + 1) (by omega) (by omega)⟩
        rw [pu_us]
        exact ⟨Nat.le_refl t, ⟨rfl, rfl, rfl⟩, fun a ha z => no a ha ((Rc t a (by omega)).mp z)⟩
      · refine ⟨t + 1, xm_fe (e := a) I ht' k3 hw (by omega) h3 (Or.inr ⟨h1, h2, ⟨wt, nm_r (rl_up (x := a) (by omega) rfl rfl) (nm_r (nI_1 t) (go a (by omega) ⟨fun k => by omega, fun k => by omega, fun _ => ?_⟩))⟩⟩) a 0 (t + 1) (by omega) (by omega)⟩
        rw [pu_us]
        exact ⟨by omega, (Rc a a (by omega)).mpr h2, fun b hb z => h3 b hb ((Rc a b (by omega)).mp z)⟩
theorem xm_join {post : St1 → Prop} (I : ci_I kd fs sc sz gr n na ac vc) (hc : ∀ t, t < n → kd t = 2 → xch (fs t) < na) (K : ∀ w, (∀ t, t < n → ci_X kd fs sc ac xch w t) → (∀ t, t < n → w t < n) → post ((nI n), (nI na), (nI nk), (nI ns), sec, st, xal, (pu_A kd), (pu_A fs), (pu_A sc), (pu_A sz), (pu_A gr), (pu_A ac), vc, (pu_A xl), (pu_A xt), (pu_A xs), (pu_A xc), (pu_A xat), (pu_A xaa), (pu_A xch), (pu_A w), (pu_A xds), (pu_A xtg), (pu_A xnx), (pu_A xft))) : wpX_joinEqualCells post ((nI n), (nI na), (nI nk), (nI ns), sec, st, xal, (pu_A kd), (pu_A fs), (pu_A sc), (pu_A sz), (pu_A gr), (pu_A ac), vc, (pu_A xl), (pu_A xt), (pu_A xs), (pu_A xc), (pu_A xat), (pu_A xaa), (pu_A xch), (pu_A xtw), (pu_A xds), (pu_A xtg), (pu_A xnx), (pu_A xft)) :=
  ⟨n + 1, xm_j2 I hc K n 0 (n + 1) xtw (by omega) (by omega) (fun u hu => by omega) (fun u hu => by omega)⟩
end
end
section
section
variable {n na nk ns : Nat} {sec st xal : Int32} {kd fs sc sz gr ac : Nat → Nat} {vc : Nat → Int32} {xl xt xs xc xat xaa xch xtw xds xtg xnx xft : Nat → Nat} {yl yT yS yR : Nat → Nat}
theorem xm_rp1 {post : Int32 → St1 → Prop} {v rest m : Nat} {w : Nat → Nat} (hc : ∀ j, j < 3 → xc j ≤ 6) (hv : v < 3) (hr : rest < 1000)
    (h1 : rest % 7 ≤ xc v → wX_readPosition_4 post (nI n) (nI na) (nI nk) (nI ns) sec st xal m (nI (rest / 7)) (nI v + (-1)) (pu_A kd) (pu_A fs) (pu_A sc) (pu_A sz) (pu_A gr) (pu_A ac) vc (pu_A xl) (pu_A xt) (pu_A xs) (pu_A xc) (pu_A xat) (pu_A xaa) (pu_A xch) (pu_A xtw) (pu_A (pu_upd w v (rest % 7))) (pu_A xtg) (pu_A xnx) (pu_A xft))
    (h0 : ¬ rest % 7 ≤ xc v → post 0 ((nI n), (nI na), (nI nk), (nI ns), sec, st, xal, (pu_A kd), (pu_A fs), (pu_A sc), (pu_A sz), (pu_A gr), (pu_A ac), vc, (pu_A xl), (pu_A xt), (pu_A xs), (pu_A xc), (pu_A xat), (pu_A xaa), (pu_A xch), (pu_A xtw), (pu_A (pu_upd w v (rest % 7))), (pu_A xtg), (pu_A xnx), (pu_A xft))) : wX_readPosition_4 post (nI n) (nI na) (nI nk) (nI ns) sec st xal (m + 1) (nI rest) (nI v) (pu_A kd) (pu_A fs) (pu_A sc) (pu_A sz) (pu_A gr) (pu_A ac) vc (pu_A xl) (pu_A xt) (pu_A xs) (pu_A xc) (pu_A xat) (pu_A xaa) (pu_A xch) (pu_A xtw) (pu_A w) (pu_A xtg) (pu_A xnx) (pu_A xft) := by
  have wv : vp_in (nI v) 3 := vp_in_nI hv (by omega)
  have e7 : nI rest - nI rest / 7 * 7 = nI (rest % 7) := pk_rem (d := 7) (by omega) (by omega) (by omega)
  have d7 : nI rest / 7 = nI (rest / 7) := pk_div (d := 7) (by omega) (by omega) (by omega)
  have nz : ¬ (7 : Int32) = 0 := by decide
  have cv := hc v hv
  rw [wX_readPosition_4]
  exact br_f (nI_pos (by omega)) ⟨nz, wv, nm_r (rl_up (x := rest % 7) (by omega) rfl e7) ⟨nz, nm_r d7 ⟨wv, wv, pk_le (rest % 7) (xc v) (fun l => nm_e (h1 l)) (fun l => h0 (by omega)) (by rw [pu_Ag _ (by omega), pu_us]) (pu_Ag xc (by omega))⟩⟩⟩
theorem xm_readPos {post : Int32 → St1 → Prop} {p : Nat} (hc : ∀ j, j < 3 → xc j ≤ 6) (hp : p < 343)
    (h1 : cn_ok xc p → ∀ w : Nat → Nat, (∀ j, j < 3 → w j = sk_dg p j) → post 1 ((nI n), (nI na), (nI nk), (nI ns), sec, st, xal, (pu_A kd), (pu_A fs), (pu_A sc), (pu_A sz), (pu_A gr), (pu_A ac), vc, (pu_A xl), (pu_A xt), (pu_A xs), (pu_A xc), (pu_A xat), (pu_A xaa), (pu_A xch), (pu_A xtw), (pu_A w), (pu_A xtg), (pu_A xnx), (pu_A xft)))
    (h0 : ¬ cn_ok xc p → ∀ w : Nat → Nat, post 0 ((nI n), (nI na), (nI nk), (nI ns), sec, st, xal, (pu_A kd), (pu_A fs), (pu_A sc), (pu_A sz), (pu_A gr), (pu_A ac), vc, (pu_A xl), (pu_A xt), (pu_A xs), (pu_A xc), (pu_A xat), (pu_A xaa), (pu_A xch), (pu_A xtw), (pu_A w), (pu_A xtg), (pu_A xnx), (pu_A xft))) : wpX_readPosition post ((nI n), (nI na), (nI nk), (nI ns), sec, st, xal, (pu_A kd), (pu_A fs), (pu_A sc), (pu_A sz), (pu_A gr), (pu_A ac), vc, (pu_A xl), (pu_A xt), (pu_A xs), (pu_A xc), (pu_A xat), (pu_A xaa), (pu_A xch), (pu_A xtw), (pu_A xds), (pu_A xtg), (pu_A xnx), (pu_A xft)) (nI p) := by
  have e1 : nI 2 + (-1) = nI 1 := pk_m1 1
  have e0 : nI 1 + (-1) = nI 0 := pk_m1 0
  have em : nI 0 + (-1) < 0 := by decide
  refine ⟨4, xm_rp1 (v := 2) hc (by omega) (by omega) (fun l2 => ?_) (fun l2 => ?_)⟩
  · rw [e1]
    refine xm_rp1 (v := 1) hc (by omega) (by omega) (fun l1 => ?_) (fun l1 => ?_)
    · rw [e0]
      refine xm_rp1 (v := 0) hc (by omega) (by omega) (fun l0 => ?_) (fun l0 => ?_)
      · rw [wX_readPosition_4]
        refine br_t em (h1 (fun j hj => ?_) _ (fun v hv => ?_))
        · rcases sk_3 hj with e | e | e
          · rw [e, sk_dg0]; omega
          · rw [e, sk_dg1]; omega
          · rw [e, sk_dg2]; omega
        · rcases sk_3 hv with e | e | e
          · rw [e, pu_us, sk_dg0]; omega
          · rw [e, pu_un (by omega), pu_us, sk_dg1]
          · rw [e, pu_un (by omega), pu_un (by omega), pu_us, sk_dg2]
      · refine h0 (fun V => l0 ?_) _
        have h := V 0 (by omega)
        rw [sk_dg0] at h
        omega
    · refine h0 (fun V => l1 ?_) _
      have h := V 1 (by omega)
      rw [sk_dg1] at h
      exact h
  · refine h0 (fun V => l2 ?_) _
    have h := V 2 (by omega)
    rw [sk_dg2] at h
    exact h
def ws_B (yl : Nat → Nat) (nk : Nat) (xt xs xds xtw : Nat → Nat) (j i b : Nat) : Prop :=
  (∃ a, a < nk ∧ xtw (yl a) = b) ∨ (∃ j' k, j' < j ∧ k < xds j' ∧ xs (j' * 6 + k) = 1 ∧ xtw (xt (j' * 6 + k)) = b) ∨ (∃ k, k < i ∧ xs (j * 6 + k) = 1 ∧ xtw (xt (j * 6 + k)) = b)
theorem ws_no {j i b : Nat} (h : xs (j * 6 + i) ≠ 1) : ws_B yl nk xt xs xds xtw j (i + 1) b ↔ ws_B yl nk xt xs xds xtw j i b := by
  constructor
  · intro w
    rcases w with w | w | ⟨k, h1, h2, h3⟩
    · exact Or.inl w
    · exact Or.inr (Or.inl w)
    · by_cases e : k = i
      · rw [e] at h2; exact absurd h2 h
      · exact Or.inr (Or.inr ⟨k, by omega, h2, h3⟩)
  · intro w
    rcases w with w | w | ⟨k, h1, h2, h3⟩
    · exact Or.inl w
    · exact Or.inr (Or.inl w)
    · exact Or.inr (Or.inr ⟨k, by omega, h2, h3⟩)
theorem ws_yes {j i b : Nat} (h : xs (j * 6 + i) = 1) : ws_B yl nk xt xs xds xtw j (i + 1) b ↔ ws_B yl nk xt xs xds xtw j i b ∨ xtw (xt (j * 6 + i)) = b := by
  constructor
  · intro w
    rcases w with w | w | ⟨k, h1, h2, h3⟩
    · exact Or.inl (Or.inl w)
    · exact Or.inl (Or.inr (Or.inl w))
    · by_cases e : k = i
      · rw [e] at h3; exact Or.inr h3
      · exact Or.inl (Or.inr (Or.inr ⟨k, by omega, h2, h3⟩))
  · intro w
    rcases w with (w | w | ⟨k, h1, h2, h3⟩) | w
    · exact Or.inl w
    · exact Or.inr (Or.inl w)
    · exact Or.inr (Or.inr ⟨k, by omega, h2, h3⟩)
    · exact Or.inr (Or.inr ⟨i, by omega, h, w⟩)
theorem ws_nx {j b : Nat} : ws_B yl nk xt xs xds xtw j (xds j) b ↔ ws_B yl nk xt xs xds xtw (j + 1) 0 b := by
  constructor
  · intro w
    rcases w with w | ⟨j', k, h1, h2⟩ | ⟨k, h1, h2⟩
    · exact Or.inl w
    · exact Or.inr (Or.inl ⟨j', k, by omega, h2⟩)
    · exact Or.inr (Or.inl ⟨j, k, by omega, h1, h2⟩)
  · intro w
    rcases w with w | ⟨j', k, h1, h2, h3⟩ | ⟨k, h1, _⟩
    · exact Or.inl w
    · by_cases e : j' = j
      · rw [e] at h2 h3; exact Or.inr (Or.inr ⟨k, h2, h3⟩)
      · exact Or.inr (Or.inl ⟨j', k, by omega, h2, h3⟩)
    · omega
theorem xm_w15 {post : Int64 → Prop} {J : Int64 → Int32 → Prop} {j : Nat} (W : xw_W kd fs sc n xtw) (hj : j < 3) (hd : xds j ≤ 6) (ht : ∀ k, k < xds j → xt (j * 6 + k) < n ∧ xs (j * 6 + k) ≤ 1) (K : ∀ B, (∀ b, b < 64 → (xk_b B b = true ↔ ws_B yl nk xt xs xds xtw (j + 1) 0 b)) → J B (nI (j + 1))) : ∀ d i m B, i + d = xds j → d < m → (∀ b, b < 64 → (xk_b B b = true ↔ ws_B yl nk xt xs xds xtw j i b)) → wX_withSent_15 post J (nI j) (nI n) (nI na) (nI nk) (nI ns) sec st xal (pu_A kd) (pu_A fs) (pu_A sc) (pu_A sz) (pu_A gr) (pu_A ac) vc (pu_A xl) (pu_A xt) (pu_A xs) (pu_A xc) (pu_A xat) (pu_A xaa) (pu_A xch) (pu_A xtw) (pu_A xds) (pu_A xtg) (pu_A xnx) (pu_A xft) m B (nI i) := by
  obtain ⟨W1, W2, W3⟩ := id W
  have wj : vp_in (nI j) 3 := vp_in_nI hj (by omega)
  intro d
  induction d with
  | zero =>
    intro i m B hi hm hB
    obtain ⟨m, rfl⟩ : ∃ m', m = m' + 1 := ⟨m - 1, by omega⟩
    rw [wX_withSent_15]
    refine ⟨wj, pk_le (xds j) i (fun l => nm_r (nI_1 j) (K B (fun b hb => ?_))) (fun l => by omega) (pu_Ag xds (by omega))⟩
    have e : i = xds j := by omega
    rw [hB b hb, e]
    exact ws_nx
  | succ d ih =>
    intro i m B hi hm hB
    obtain ⟨m, rfl⟩ : ∃ m', m = m' + 1 := ⟨m - 1, by omega⟩
    obtain ⟨t1, t2⟩ := ht i (by omega)
    have tl := (W2 _ t1).1
    have w18 : vp_in (nI (j * 6 + i)) 18 := vp_in_nI (by omega) (by omega)
    have e1 : pu_A xt (nI (j * 6 + i)).toNatClampNeg = nI (xt (j * 6 + i)) := pu_Ag xt (by omega)
    have e2 : pu_A xtw (nI (xt (j * 6 + i))).toNatClampNeg = nI (xtw (xt (j * 6 + i))) := pu_Ag xtw (by omega)
    rw [wX_withSent_15]
    refine ⟨wj, pk_le (xds j) i (fun l => by omega) (fun l => nm_r sm_slot ⟨w18, pk_eq (xs (j * 6 + i)) 0 (fun z => ?_) (fun z => ⟨w18, by rw [e1]; exact vp_in_nI (by omega) (by omega), nm_r (e' := B ||| xk_s (xtw (xt (j * 6 + i)))) (by rw [e1, e2]; rfl) ?_⟩) (pu_Ag xs (by omega))⟩) (pu_Ag xds (by omega))⟩
    · refine nm_r (nI_1 i) (ih (i + 1) m B (by omega) (by omega) (fun b hb => ?_))
      rw [hB b hb]
      exact (ws_no (by omega)).symm
    · refine nm_r (nI_1 i) (ih (i + 1) m _ (by omega) (by omega) (fun b hb => ?_))
      rw [ws_yes (by omega), ← hB b hb, xk_or, xk_one (by omega)]
      constructor
      · intro h
        by_cases q : xk_b B b = true
        · exact Or.inl q
        · rw [ts_nt q, Bool.false_or] at h
          exact Or.inr (of_decide_eq_true h)
      · intro h
        rcases h with h | h
        · rw [h, Bool.true_or]
        · rw [decide_eq_true h, Bool.or_true]
theorem xm_w7 {post : Int64 → Prop} (W : xw_W kd fs sc n xtw) (hd : ∀ j, j < 3 → xds j ≤ 6) (ht : ∀ j, j < 3 → ∀ k, k < xds j → xt (j * 6 + k) < n ∧ xs (j * 6 + k) ≤ 1) (K : ∀ B, (∀ b, b < 64 → (xk_b B b = true ↔ ws_B yl nk xt xs xds xtw 3 0 b)) → post B) : ∀ d j m B, j + d = 3 → d < m → (∀ b, b < 64 → (xk_b B b = true ↔ ws_B yl nk xt xs xds xtw j 0 b)) → wX_withSent_7 post (nI n) (nI na) (nI nk) (nI ns) sec st xal (pu_A kd) (pu_A fs) (pu_A sc) (pu_A sz) (pu_A gr) (pu_A ac) vc (pu_A xl) (pu_A xt) (pu_A xs) (pu_A xc) (pu_A xat) (pu_A xaa) (pu_A xch) (pu_A xtw) (pu_A xds) (pu_A xtg) (pu_A xnx) (pu_A xft) m B (nI j) := by
  intro d
  induction d with
  | zero =>
    intro j m B hj hm hB
    obtain ⟨m, rfl⟩ : ∃ m', m = m' + 1 := ⟨m - 1, by omega⟩
    have e : j = 3 := by omega
    subst e
    rw [wX_withSent_7]
    exact br_t (nI_le (a := 3) (by omega) (by omega)) (K B hB)
  | succ d ih =>
    intro j m B hj hm hB
    obtain ⟨m, rfl⟩ : ∃ m', m = m' + 1 := ⟨m - 1, by omega⟩
    rw [wX_withSent_7]
    exact br_f (nI_ge (b := 3) (by omega) (by omega)) ⟨xds j + 1, xm_w15 W (by omega) (hd j (by omega)) (ht j (by omega)) (fun B' hB' => ih (j + 1) m B' (by omega) (by omega) hB') (xds j) 0 (xds j + 1) B (by omega) (by omega) hB⟩
theorem xm_withSent {post : Int64 → Prop} {p : Nat} (W : xw_W kd fs sc n xtw) (h8 : nk ≤ 8) (hl : ∀ i, i < nk → xl i = yl i ∧ yl i < n) (hd : ∀ j, j < 3 → xds j = sk_dg p j) (hd6 : ∀ j, j < 3 → sk_dg p j ≤ 6) (ht : ∀ j, j < 3 → ∀ k, k < sk_dg p j → xt (j * 6 + k) < n ∧ xs (j * 6 + k) ≤ 1) (K : ∀ B, xk_K n xtw (sr_K yl nk xt xs p) B → post B) : wpX_withSent post ((nI n), (nI na), (nI nk), (nI ns), sec, st, xal, (pu_A kd), (pu_A fs), (pu_A sc), (pu_A sz), (pu_A gr), (pu_A ac), vc, (pu_A xl), (pu_A xt), (pu_A xs), (pu_A xc), (pu_A xat), (pu_A xaa), (pu_A xch), (pu_A xtw), (pu_A xds), (pu_A xtg), (pu_A xnx), (pu_A xft)) := by
  unfold wpX_withSent
  refine xm_withLearned W h8 (fun i hi => by rw [(hl i hi).1]; exact (hl i hi).2) (fun B hB => ⟨4, xm_w7 (yl := yl) (nk := nk) W (fun j hj => by rw [hd j hj]; exact hd6 j hj) (fun j hj k hk => ht j hj k (by rw [← hd j hj]; exact hk)) (fun B' hB' => K B' (fun b hb => ?_)) 3 0 4 B (by omega) (by omega) (fun b hb => ?_)⟩)
  · rw [hB' b hb]
    constructor
    · intro h
      rcases h with ⟨a, h1, h2⟩ | ⟨j, k, h1, h2, h3, h4⟩ | ⟨k, h1, _⟩
      · exact ⟨yl a, (hl a h1).2, Or.inl ⟨a, h1, rfl⟩, h2⟩
      · rw [hd j h1] at h2
        exact ⟨xt (j * 6 + k), (ht j h1 k h2).1, Or.inr ⟨j, k, h1, h2, h3, rfl⟩, h4⟩
      · omega
    · intro h
      obtain ⟨x, hx, hK, e⟩ := h
      rcases hK with ⟨a, h1, h2⟩ | ⟨j, k, h1, h2, h3, h4⟩
      · exact Or.inl ⟨a, h1, by rw [h2]; exact e⟩
      · exact Or.inr (Or.inl ⟨j, k, h1, by rw [hd j h1]; exact h2, h3, by rw [h4]; exact e⟩)
  · rw [hB b hb]
    constructor
    · intro h
      obtain ⟨a, h1, h2⟩ := h
      exact Or.inl ⟨a, h1, by rw [← (hl a h1).1]; exact h2⟩
    · intro h
      rcases h with ⟨a, h1, h2⟩ | ⟨j, k, h1, _⟩ | ⟨k, h1, _⟩
      · exact ⟨a, h1, by rw [(hl a h1).1]; exact h2⟩
      · omega
      · omega
theorem xm_can {post : Int32 → Prop} {p j : Nat} {D : Int64} (W : xw_W kd fs sc n xtw) (hj : j < 3) (hd : ∀ j, j < 3 → xds j = sk_dg p j) (hc : ∀ j, j < 3 → xc j ≤ 6) (o : cn_ok xc p) (ht : ∀ j, j < 3 → ∀ k, k < xc j → xt (j * 6 + k) < n ∧ xs (j * 6 + k) ≤ 1) (hD : ∀ t, t < n → (xk_b D (xtw t) = true ↔ tc_L kd fs sc n xtw (sr_K yl nk xt xs p) t))
    (h1 : cn_en kd fs sc n yl nk xt xs xc xtw p j → post 1) (h0 : ¬ cn_en kd fs sc n yl nk xt xs xc xtw p j → post 0) : wpX_canStep post ((nI n), (nI na), (nI nk), (nI ns), sec, st, xal, (pu_A kd), (pu_A fs), (pu_A sc), (pu_A sz), (pu_A gr), (pu_A ac), vc, (pu_A xl), (pu_A xt), (pu_A xs), (pu_A xc), (pu_A xat), (pu_A xaa), (pu_A xch), (pu_A xtw), (pu_A xds), (pu_A xtg), (pu_A xnx), (pu_A xft)) (nI j) D := by
  have wj : vp_in (nI j) 3 := vp_in_nI hj (by omega)
  have cj := hc j hj
  have oj := o j hj
  have ed : pu_A xds (nI j).toNatClampNeg = nI (sk_dg p j) := by rw [pu_Ag xds (by omega), hd j hj]
  refine ⟨wj, wj, pk_lt (sk_dg p j) (xc j) (fun l => ⟨wj, nm_r (e' := nI (j * 6 + sk_dg p j)) (by rw [ed, sm_slot]) ?_⟩) (fun l => h0 (fun e => by have h := e.1; omega)) ed (pu_Ag xc (by omega))⟩
  obtain ⟨t1, t2⟩ := ht j hj _ l
  have w18 : vp_in (nI (j * 6 + sk_dg p j)) 18 := vp_in_nI (by omega) (by omega)
  refine ⟨w18, pk_eq (xs (j * 6 + sk_dg p j)) 0 (fun z => ⟨w18, ?_⟩) (fun z => h1 ⟨l, Or.inl (by omega)⟩) (pu_Ag xs (by omega))⟩
  rw [pu_Ag xt (by omega)]
  refine xm_holds W t1 (fun h => br_f (by decide) (h1 ⟨l, Or.inr ((hD _ t1).mp h)⟩)) (fun h => br_t rfl (h0 (fun e => ?_)))
  rcases e.2 with e2 | e2
  · omega
  · exact h ((hD _ t1).mpr e2)
theorem xm_weight {post : Int32 → Prop} {j : Nat} (hj : j < 3) (h : post (nI (sk_w j))) : wpX_weight post () (nI j) := by
  rcases sk_3 hj with e | e | e
  · subst e; exact br_t rfl h
  · subst e; exact br_f (by decide) (br_t rfl h)
  · subst e; exact br_f (by decide) (br_f (by decide) h)
theorem sk_J_cg {en : Nat → Nat → Prop} {fn : Nat → Prop} {nx nx' : Nat → Nat} {p i a b : Nat} (e : ∀ q, p < q → nx' q = nx q) (h : sk_J en fn nx p i a b) : sk_J en fn nx' p i a b := by
  rcases h with h | ⟨h1, h2, h3, s, h4, h5, h6, h7⟩
  · exact Or.inl h
  · exact Or.inr ⟨h1, h2, h3, s, h4, h5, sk_pth_cg e s _ (by have h := sk_w_pos b; omega) h6, h7⟩
theorem sk_J7 {en : Nat → Nat → Prop} {fn : Nat → Prop} {nx : Nat → Nat} {p i a b : Nat} (h : sk_J en fn nx p i a b) : a ≤ 7 := by
  rcases h with ⟨h, _⟩ | ⟨h, _⟩
  · omega
  · omega
theorem xm_m53 {post : St1 → Prop} {p s0 : Nat} {D : Int64} {tg0 nx0 : Nat → Nat} (W : xw_W kd fs sc n xtw) (hp : p < 343) (hd : ∀ j, j < 3 → xds j = sk_dg p j) (hc : ∀ j, j < 3 → xc j ≤ 6) (hns : xc 0 + xc 1 + xc 2 = ns) (h6 : ns ≤ 6) (o : cn_ok xc p) (ht : ∀ j, j < 3 → ∀ k, k < xc j → xt (j * 6 + k) < n ∧ xs (j * 6 + k) ≤ 1) (hD : ∀ t, t < n → (xk_b D (xtw t) = true ↔ tc_L kd fs sc n xtw (sr_K yl nk xt xs p) t))
    (nf : ¬ cn_fn kd fs sc n yl nk xt xs s0 xtw p)
    (sp : ∀ q, p < q → q < 343 → cn_ok xc q → sk_sp (cn_en kd fs sc n yl nk xt xs xc xtw) (cn_fn kd fs sc n yl nk xt xs s0 xtw) tg0 nx0 q)
    (K : ∀ tg nx : Nat → Nat, (∀ q, q ≠ p → tg q = tg0 q ∧ nx q = nx0 q) → sk_sp (cn_en kd fs sc n yl nk xt xs xc xtw) (cn_fn kd fs sc n yl nk xt xs s0 xtw) tg nx p → post ((nI n), (nI na), (nI nk), (nI ns), sec, st, xal, (pu_A kd), (pu_A fs), (pu_A sc), (pu_A sz), (pu_A gr), (pu_A ac), vc, (pu_A xl), (pu_A xt), (pu_A xs), (pu_A xc), (pu_A xat), (pu_A xaa), (pu_A xch), (pu_A xtw), (pu_A xds), (pu_A tg), (pu_A nx), (pu_A xft))) :
    ∀ d j m (tg nx : Nat → Nat), j + d = 3 → d < m → (∀ q, q ≠ p → tg q = tg0 q ∧ nx q = nx0 q) → sk_J (cn_en kd fs sc n yl nk xt xs xc xtw) (cn_fn kd fs sc n yl nk xt xs s0 xtw) nx0 p j (tg p) (nx p) → wX_measurePosition_53 post (nI p) D (nI n) (nI na) (nI nk) (nI ns) sec st xal m (nI j) (pu_A kd) (pu_A fs) (pu_A sc) (pu_A sz) (pu_A gr) (pu_A ac) vc (pu_A xl) (pu_A xt) (pu_A xs) (pu_A xc) (pu_A xat) (pu_A xaa) (pu_A xch) (pu_A xtw) (pu_A xds) (pu_A tg) (pu_A nx) (pu_A xft) := by
  intro d
  induction d with
  | zero =>
    intro j m tg nx hj hm same hJ
    obtain ⟨m, rfl⟩ : ∃ m', m = m' + 1 := ⟨m - 1, by omega⟩
    have e : j = 3 := by omega
    subst e
    rw [wX_measurePosition_53]
    refine br_t (nI_le (a := 3) (by omega) (by omega)) (K tg nx same ?_)
    exact sk_Jend (sk_J_cg (nx' := nx) (fun q hq => (same q (by omega)).2) hJ) nf rfl (fun _ => rfl)
  | succ d ih =>
    intro j m tg nx hj hm same hJ
    obtain ⟨m, rfl⟩ : ∃ m', m = m' + 1 := ⟨m - 1, by omega⟩
    have hj3 : j < 3 := by omega
    rw [wX_measurePosition_53]
    refine br_f (nI_ge (b := 3) hj3 (by omega)) (xm_can W hj3 hd hc o ht hD (fun he => br_f (by decide) (xm_weight hj3 (nm_r (e' := nI (p + sk_w j)) (nI_add p (sk_w j)) ?_))) (fun he => br_t rfl (nm_r (nI_1 j) (ih (j + 1) m tg nx (by omega) (by omega) same (sk_Jno hJ (fun s e => absurd e he))))))
    obtain ⟨o2, d6⟩ := cn_hs hc p j o hj3 he
    have p2 := cn_lt hc o2
    have wp := sk_w_pos j
    have s2 := sp (p + sk_w j) (by omega) p2 o2
    have t2 : tg (p + sk_w j) = tg0 (p + sk_w j) := (same _ (by omega)).1
    have b7 := sk_J7 hJ
    have b2 : tg0 (p + sk_w j) ≤ 7 := by
      rcases s2 with ⟨h, _⟩ | ⟨h, _⟩
      · omega
      · omega
    have w343 : vp_in (nI (p + sk_w j)) 343 := vp_in_nI p2 (by omega)
    have wp3 : vp_in (nI p) 343 := vp_in_nI hp (by omega)
    have ea : pu_A tg (nI (p + sk_w j)).toNatClampNeg + 1 = nI (tg0 (p + sk_w j) + 1) := by rw [pu_Ag tg (by omega), t2, nI_1]
    refine ⟨w343, wp3, pk_le (tg p) (tg0 (p + sk_w j) + 1) (fun l => ?_) (fun l => ?_) (pu_Ag tg (by omega)) ea⟩
    · refine nm_r (nI_1 j) (ih (j + 1) m tg nx (by omega) (by omega) same (sk_Jkeep hj3 hJ s2 (fun s a => ?_) l))
      have h1 := cn_len hc hns h6 s _ o2 a
      rw [sk_dep_up hj3 d6] at h1
      omega
    · refine ⟨w343, wp3, nm_r (rl_up (k := p) (x := tg0 (p + sk_w j) + 1) (by omega) rfl ea) ⟨wp3, nm_r (rl_up (k := p) (x := j) (by omega) rfl rfl) (nm_r (nI_1 j) (ih (j + 1) m _ _ (by omega) (by omega) (fun q hq => ?_) ?_))⟩⟩
      · rw [pu_un hq, pu_un hq]
        exact same q hq
      · rw [pu_us, pu_us]
        exact sk_Jtake hj3 hJ he s2 l
theorem xm_measure {post : St1 → Prop} {p s0 : Nat} (W : xw_W kd fs sc n xtw) (hp : p < 343) (hc : ∀ j, j < 3 → xc j ≤ 6) (hns : xc 0 + xc 1 + xc 2 = ns) (h6 : ns ≤ 6) (ht : ∀ j, j < 3 → ∀ k, k < xc j → xt (j * 6 + k) < n ∧ xs (j * 6 + k) ≤ 1) (h8 : nk ≤ 8) (hl : ∀ i, i < nk → xl i = yl i ∧ yl i < n) (hs0 : s0 < n)
    (sp : ∀ q, p < q → q < 343 → cn_ok xc q → sk_sp (cn_en kd fs sc n yl nk xt xs xc xtw) (cn_fn kd fs sc n yl nk xt xs s0 xtw) xtg xnx q)
    (K : ∀ tg nx ds : Nat → Nat, (∀ q, q ≠ p → tg q = xtg q ∧ nx q = xnx q) → (cn_ok xc p → sk_sp (cn_en kd fs sc n yl nk xt xs xc xtw) (cn_fn kd fs sc n yl nk xt xs s0 xtw) tg nx p) → post ((nI n), (nI na), (nI nk), (nI ns), (nI s0), st, xal, (pu_A kd), (pu_A fs), (pu_A sc), (pu_A sz), (pu_A gr), (pu_A ac), vc, (pu_A xl), (pu_A xt), (pu_A xs), (pu_A xc), (pu_A xat), (pu_A xaa), (pu_A xch), (pu_A xtw), (pu_A ds), (pu_A tg), (pu_A nx), (pu_A xft))) : wpX_measurePosition post ((nI n), (nI na), (nI nk), (nI ns), (nI s0), st, xal, (pu_A kd), (pu_A fs), (pu_A sc), (pu_A sz), (pu_A gr), (pu_A ac), vc, (pu_A xl), (pu_A xt), (pu_A xs), (pu_A xc), (pu_A xat), (pu_A xaa), (pu_A xch), (pu_A xtw), (pu_A xds), (pu_A xtg), (pu_A xnx), (pu_A xft)) (nI p) := by
  have wp3 : vp_in (nI p) 343 := vp_in_nI hp (by omega)
  refine ⟨wp3, nm_r (rl_up (k := p) (x := 7) (by omega) rfl rfl) ?_⟩
  refine xm_readPos hc hp (fun o w hw => br_f (by decide) ?_) (fun o w => br_t rfl (K _ _ _ (fun q hq => ⟨pu_un hq, rfl⟩) (fun o2 => absurd o2 o)))
  have o6 : ∀ j, j < 3 → sk_dg p j ≤ 6 := fun j hj => Nat.le_trans (o j hj) (hc j hj)
  refine xm_withSent (yl := yl) (p := p) W h8 hl hw o6 (fun j hj k hk => ht j hj k (by have h := o j hj; omega)) (fun B hB => xm_closure W hB (fun D hD => xm_holds W hs0 (fun h => br_f (by decide) ?_) (fun h => br_t rfl ?_)))
  · refine ⟨wp3, nm_r (rl_up (k := p) (x := 0) (by omega) rfl rfl) (K _ _ _ (fun q hq => ⟨by rw [pu_un hq, pu_un hq], rfl⟩) (fun _ => sk_fin ((hD s0 hs0).mp h) pu_us))⟩
  · refine ⟨4, xm_m53 (yl := yl) (s0 := s0) (tg0 := xtg) (nx0 := xnx) W hp hw hc hns h6 o ht hD (fun f => h ((hD s0 hs0).mpr f)) sp (fun tg nx same s => K tg nx _ same (fun _ => s)) 3 0 4 _ _ (by omega) (by omega) (fun q hq => ⟨pu_un hq, rfl⟩) ?_⟩
    rw [pu_us]
    exact sk_J0
end
end
section
section
variable {n na nk ns : Nat} {sec st xal : Int32} {kd fs sc sz gr ac : Nat → Nat} {vc : Nat → Int32} {xl xt xs xc xat xaa xch xtw xds xtg xnx xft : Nat → Nat} {yl yT yS yR : Nat → Nat}
theorem xm_f4 {post : St1 → Prop} {key : Nat} {en : Nat → Nat → Prop} {fn : Nat → Prop} (hL : xtg 0 ≤ 6) (hc : ∀ j, j < 3 → xc j ≤ 6) (hs : ∀ p j, cn_ok xc p → j < 3 → en p j → cn_ok xc (p + sk_w j) ∧ sk_dg p j < 6)
    (K : ∀ F, (∀ i, i < xtg 0 → F i < 3) → sk_kA F (xtg 0) = key → post ((nI n), (nI na), (nI nk), (nI ns), sec, st, xal, (pu_A kd), (pu_A fs), (pu_A sc), (pu_A sz), (pu_A gr), (pu_A ac), vc, (pu_A xl), (pu_A xt), (pu_A xs), (pu_A xc), (pu_A xat), (pu_A xaa), (pu_A xch), (pu_A xtw), (pu_A xds), (pu_A xtg), (pu_A xnx), (pu_A F))) :
    ∀ (r : List Nat) i p m (F : Nat → Nat), r.length + i = xtg 0 → r.length < m → sk_pth xnx r p → sk_att en fn r p → cn_ok xc p → sk_ky r (sk_kA F i) = key → (∀ a, a < i → F a < 3) → wX_followSchedule_4 post (nI n) (nI na) (nI nk) (nI ns) sec st xal m (nI p) (nI i) (pu_A kd) (pu_A fs) (pu_A sc) (pu_A sz) (pu_A gr) (pu_A ac) vc (pu_A xl) (pu_A xt) (pu_A xs) (pu_A xc) (pu_A xat) (pu_A xaa) (pu_A xch) (pu_A xtw) (pu_A xds) (pu_A xtg) (pu_A xnx) (pu_A F) := by
  intro r
  induction r with
  | nil =>
    intro i p m F hi hm hp ha o hk hF
    obtain ⟨m, rfl⟩ : ∃ m', m = m' + 1 := ⟨m - 1, by omega⟩
    have e : i = xtg 0 := by simpa using hi
    rw [wX_followSchedule_4]
    refine br_t ?_ (K F (fun a h => hF a (by omega)) ?_)
    · show nI (xtg 0) ≤ nI i
      exact nI_le (by omega) (by omega)
    · rw [← e]; exact hk
  | cons j r ih =>
    intro i p m F hi hm hp ha o hk hF
    obtain ⟨m, rfl⟩ : ∃ m', m = m' + 1 := ⟨m - 1, by omega⟩
    rw [List.length_cons] at hi hm
    have hp' : xnx p = j ∧ sk_pth xnx r (p + sk_w j) := hp
    have ha' : j < 3 ∧ en p j ∧ sk_att en fn r (p + sk_w j) := ha
    have p343 := cn_lt hc o
    obtain ⟨o2, _⟩ := hs p j o ha'.1 ha'.2.1
    have w6 : vp_in (nI i) 6 := vp_in_nI (by omega) (by omega)
    rw [wX_followSchedule_4]
    refine br_f ?_ ⟨vp_in_nI p343 (by omega), w6, nm_r (rl_up (k := i) (x := j) (by omega) rfl (by rw [pu_Ag xnx (by omega), hp'.1])) ⟨w6, ?_⟩⟩
    · show ¬ nI (xtg 0) ≤ nI i
      exact nI_ge (by omega) (by omega)
    · rw [pu_Ag _ (by omega), pu_us]
      refine xm_weight ha'.1 (nm_r (nI_add p (sk_w j)) (nm_r (nI_1 i) (ih (i + 1) (p + sk_w j) m _ (by omega) (by omega) hp'.2 ha'.2.2 o2 ?_ (fun a h => ?_))))
      · rw [sk_kA_s, pu_us, sk_kA_cg (Q' := F) i (fun a h => pu_un (by omega))]
        exact hk
      · by_cases e : a = i
        · rw [e, pu_us]; exact ha'.1
        · rw [pu_un e]; exact hF a (by omega)
theorem xm_fc39 {post : Int32 → Prop} {L : Nat} (hL : L ≤ 6) (d1 : ∀ i, i < L → xft i < 3) (d2 : ∀ i, i < L → xat i < 3) (h1 : sk_kA xft L < sk_kA xat L → post 1) (h0 : ¬ sk_kA xft L < sk_kA xat L → post 0) : ∀ d i m, i + d = L → d < m → (∀ a, a < i → xft a = xat a) → wX_foundComesFirst_39 post (nI L) (nI n) (nI na) (nI nk) (nI ns) sec st xal (pu_A kd) (pu_A fs) (pu_A sc) (pu_A sz) (pu_A gr) (pu_A ac) vc (pu_A xl) (pu_A xt) (pu_A xs) (pu_A xc) (pu_A xat) (pu_A xaa) (pu_A xch) (pu_A xtw) (pu_A xds) (pu_A xtg) (pu_A xnx) (pu_A xft) m (nI i) := by
  intro d
  induction d with
  | zero =>
    intro i m hi hm he
    obtain ⟨m, rfl⟩ : ∃ m', m = m' + 1 := ⟨m - 1, by omega⟩
    have e : i = L := by omega
    subst e
    rw [wX_foundComesFirst_39]
    refine br_t (nI_le (Nat.le_refl i) (by omega)) (h0 ?_)
    rw [sk_kA_cg i he]
    omega
  | succ d ih =>
    intro i m hi hm he
    obtain ⟨m, rfl⟩ : ∃ m', m = m' + 1 := ⟨m - 1, by omega⟩
    have w6 : vp_in (nI i) 6 := vp_in_nI (by omega) (by omega)
    have a1 := d1 i (by omega)
    have a2 := d2 i (by omega)
    rw [wX_foundComesFirst_39]
    refine br_f (nI_ge (by omega) (by omega)) ⟨w6, w6, pk_eq (xft i) (xat i) (fun e => nm_r (nI_1 i) (ih (i + 1) m (by omega) (by omega) (fun a ha => ?_))) (fun e => ⟨w6, w6, pk_le (xat i) (xft i) (fun l => h0 ?_) (fun l => h1 ?_) (pu_Ag xat (by omega)) (pu_Ag xft (by omega))⟩) (pu_Ag xft (by omega)) (pu_Ag xat (by omega))⟩
    · by_cases q : a = i
      · rw [q]; exact e
      · exact he a (by omega)
    · have h := bs_lex he (by omega) e d1 d2
      omega
    · have h := bs_lex he (by omega) e d1 d2
      omega
theorem xm_first {post : Int32 → Prop} {L B : Nat} (eL : xtg 0 = L) (hL : L ≤ 6) (d1 : ∀ i, i < L → xft i < 3) (b : bs_R xal xat B) (h1 : sk_kA xft L < B → post 1) (h0 : ¬ sk_kA xft L < B → post 0) : wpX_foundComesFirst post ((nI n), (nI na), (nI nk), (nI ns), sec, st, xal, (pu_A kd), (pu_A fs), (pu_A sc), (pu_A sz), (pu_A gr), (pu_A ac), vc, (pu_A xl), (pu_A xt), (pu_A xs), (pu_A xc), (pu_A xat), (pu_A xaa), (pu_A xch), (pu_A xtw), (pu_A xds), (pu_A xtg), (pu_A xnx), (pu_A xft)) := by
  refine nm_r (e' := nI L) (by rw [← eL]; rfl) ?_
  rcases b with ⟨e, q⟩ | ⟨M, m1, e, m2, m3⟩
  · subst e
    refine br_f (gw_m1 (by omega)) (br_t rfl (h1 ?_))
    rw [q]
    exact sk_kA_big hL d1
  · subst e
    refine pk_eq L M (fun e => ?_) (fun e => br_f (gw_m1 (by omega)) (pk_le M L (fun l => h0 ?_) (fun l => h1 ?_)))
    · subst e
      rw [m3] at h1 h0
      exact ⟨L + 1, xm_fc39 hL d1 m2 h1 h0 L 0 (L + 1) (by omega) (by omega) (fun a ha => by omega)⟩
    · have h := sk_kA_len (Q := xat) (Q' := xft) (by omega : M < L) m2
      omega
    · have h := sk_kA_len (Q := xft) (Q' := xat) (by omega : L < M) d1
      omega
theorem xm_k40 {post : St1 → Prop} (h8 : ∀ v, v < 3 → xch v < 8) (K : ∀ A, (∀ v, v < 3 → A v = ac (xch v)) → post ((nI n), (nI na), (nI nk), (nI ns), sec, st, xal, (pu_A kd), (pu_A fs), (pu_A sc), (pu_A sz), (pu_A gr), (pu_A ac), vc, (pu_A xl), (pu_A xt), (pu_A xs), (pu_A xc), (pu_A xat), (pu_A A), (pu_A xch), (pu_A xtw), (pu_A xds), (pu_A xtg), (pu_A xnx), (pu_A xft))) : ∀ d v m (A : Nat → Nat), v + d = 3 → d < m → (∀ a, a < v → A a = ac (xch a)) → wX_keepFound_40 post (nI n) (nI na) (nI nk) (nI ns) sec st xal m (nI v) (pu_A kd) (pu_A fs) (pu_A sc) (pu_A sz) (pu_A gr) (pu_A ac) vc (pu_A xl) (pu_A xt) (pu_A xs) (pu_A xc) (pu_A xat) (pu_A A) (pu_A xch) (pu_A xtw) (pu_A xds) (pu_A xtg) (pu_A xnx) (pu_A xft) := by
  intro d
  induction d with
  | zero =>
    intro v m A hv hm hA
    obtain ⟨m, rfl⟩ : ∃ m', m = m' + 1 := ⟨m - 1, by omega⟩
    rw [wX_keepFound_40]
    exact br_t (nI_le (a := 3) (by omega) (by omega)) (K A (fun a ha => hA a (by omega)))
  | succ d ih =>
    intro v m A hv hm hA
    obtain ⟨m, rfl⟩ : ∃ m', m = m' + 1 := ⟨m - 1, by omega⟩
    have wv : vp_in (nI v) 3 := vp_in_nI (by omega) (by omega)
    have c8 := h8 v (by omega)
    have e1 : pu_A xch (nI v).toNatClampNeg = nI (xch v) := pu_Ag xch (by omega)
    rw [wX_keepFound_40]
    refine br_f (nI_ge (b := 3) (by omega) (by omega)) ⟨wv, by rw [e1]; exact vp_in_nI c8 (by omega), wv, nm_r (rl_up (k := v) (x := ac (xch v)) (by omega) rfl (by rw [e1]; exact pu_Ag ac (by omega))) (nm_r (nI_1 v) (ih (v + 1) m _ (by omega) (by omega) (fun a ha => ?_)))⟩
    by_cases e : a = v
    · rw [e, pu_us]
    · rw [pu_un e]; exact hA a (by omega)
theorem xm_k12 {post : St1 → Prop} {L : Nat} (hL : L ≤ 6) (h8 : ∀ v, v < 3 → xch v < 8) (K : ∀ T A, (∀ i, i < L → T i = xft i) → (∀ v, v < 3 → A v = ac (xch v)) → post ((nI n), (nI na), (nI nk), (nI ns), sec, st, (nI L), (pu_A kd), (pu_A fs), (pu_A sc), (pu_A sz), (pu_A gr), (pu_A ac), vc, (pu_A xl), (pu_A xt), (pu_A xs), (pu_A xc), (pu_A T), (pu_A A), (pu_A xch), (pu_A xtw), (pu_A xds), (pu_A xtg), (pu_A xnx), (pu_A xft))) : ∀ d i m (T : Nat → Nat), i + d = L → d < m → (∀ a, a < i → T a = xft a) → wX_keepFound_12 post (nI n) (nI na) (nI nk) (nI ns) sec st (nI L) m (nI i) (pu_A kd) (pu_A fs) (pu_A sc) (pu_A sz) (pu_A gr) (pu_A ac) vc (pu_A xl) (pu_A xt) (pu_A xs) (pu_A xc) (pu_A T) (pu_A xaa) (pu_A xch) (pu_A xtw) (pu_A xds) (pu_A xtg) (pu_A xnx) (pu_A xft) := by
  intro d
  induction d with
  | zero =>
    intro i m T hi hm hT
    obtain ⟨m, rfl⟩ : ∃ m', m = m' + 1 := ⟨m - 1, by omega⟩
    rw [wX_keepFound_12]
    exact br_t (nI_le (by omega) (by omega)) ⟨4, xm_k40 h8 (fun A hA => K T A (fun a ha => hT a (by omega)) hA) 3 0 4 xaa (by omega) (by omega) (fun a ha => by omega)⟩
  | succ d ih =>
    intro i m T hi hm hT
    obtain ⟨m, rfl⟩ : ∃ m', m = m' + 1 := ⟨m - 1, by omega⟩
    have w6 : vp_in (nI i) 6 := vp_in_nI (by omega) (by omega)
    rw [wX_keepFound_12]
    refine br_f (nI_ge (by omega) (by omega)) ⟨w6, w6, nm_r (rl_up (k := i) (x := xft i) (by omega) rfl (pu_Ag xft (by omega))) (nm_r (nI_1 i) (ih (i + 1) m _ (by omega) (by omega) (fun a ha => ?_)))⟩
    by_cases e : a = i
    · rw [e, pu_us]
    · rw [pu_un e]; exact hT a (by omega)
theorem xm_keep {post : St1 → Prop} {L : Nat} (eL : xtg 0 = L) (hL : L ≤ 6) (h8 : ∀ v, v < 3 → xch v < 8) (K : ∀ T A, (∀ i, i < L → T i = xft i) → (∀ v, v < 3 → A v = ac (xch v)) → post ((nI n), (nI na), (nI nk), (nI ns), sec, st, (nI L), (pu_A kd), (pu_A fs), (pu_A sc), (pu_A sz), (pu_A gr), (pu_A ac), vc, (pu_A xl), (pu_A xt), (pu_A xs), (pu_A xc), (pu_A T), (pu_A A), (pu_A xch), (pu_A xtw), (pu_A xds), (pu_A xtg), (pu_A xnx), (pu_A xft))) : wpX_keepFound post ((nI n), (nI na), (nI nk), (nI ns), sec, st, xal, (pu_A kd), (pu_A fs), (pu_A sc), (pu_A sz), (pu_A gr), (pu_A ac), vc, (pu_A xl), (pu_A xt), (pu_A xs), (pu_A xc), (pu_A xat), (pu_A xaa), (pu_A xch), (pu_A xtw), (pu_A xds), (pu_A xtg), (pu_A xnx), (pu_A xft)) :=
  nm_r (e' := nI L) (by rw [← eL]; rfl) ⟨L + 1, xm_k12 hL h8 K L 0 (L + 1) xat (by omega) (by omega) (fun a ha => by omega)⟩
theorem xm_u8 {post : St1 → Prop} {s0 B : Nat} (W : xw_W kd fs sc n xtw) (hc : ∀ j, j < 3 → xc j ≤ 6) (hns : xc 0 + xc 1 + xc 2 = ns) (h6 : ns ≤ 6) (ht : ∀ j, j < 3 → ∀ k, k < xc j → xt (j * 6 + k) < n ∧ xs (j * 6 + k) ≤ 1) (h8 : nk ≤ 8) (hl : ∀ i, i < nk → xl i = yl i ∧ yl i < n) (hs0 : s0 < n) (hch : ∀ v, v < 3 → xch v < 8) (b : bs_R xal xat B)
    (K0 : (∀ s, sk_att (cn_en kd fs sc n yl nk xt xs xc xtw) (cn_fn kd fs sc n yl nk xt xs s0 xtw) s 0 → B ≤ sk_ky s 1) → ∀ ds tg nx ft, post ((nI n), (nI na), (nI nk), (nI ns), (nI s0), st, xal, (pu_A kd), (pu_A fs), (pu_A sc), (pu_A sz), (pu_A gr), (pu_A ac), vc, (pu_A xl), (pu_A xt), (pu_A xs), (pu_A xc), (pu_A xat), (pu_A xaa), (pu_A xch), (pu_A xtw), (pu_A ds), (pu_A tg), (pu_A nx), (pu_A ft)))
    (K1 : ∀ B' L T A, bs_R (nI L) T B' → (∃ s, sk_att (cn_en kd fs sc n yl nk xt xs xc xtw) (cn_fn kd fs sc n yl nk xt xs s0 xtw) s 0 ∧ B' = sk_ky s 1) → B' < B → (∀ s, sk_att (cn_en kd fs sc n yl nk xt xs xc xtw) (cn_fn kd fs sc n yl nk xt xs s0 xtw) s 0 → B' ≤ sk_ky s 1) → (∀ v, v < 3 → A v = ac (xch v)) → ∀ ds tg nx ft, post ((nI n), (nI na), (nI nk), (nI ns), (nI s0), st, (nI L), (pu_A kd), (pu_A fs), (pu_A sc), (pu_A sz), (pu_A gr), (pu_A ac), vc, (pu_A xl), (pu_A xt), (pu_A xs), (pu_A xc), (pu_A T), (pu_A A), (pu_A xch), (pu_A xtw), (pu_A ds), (pu_A tg), (pu_A nx), (pu_A ft))) :
    ∀ c m (ds tg nx : Nat → Nat), c ≤ 343 → c < m → (∀ q, c ≤ q → q < 343 → cn_ok xc q → sk_sp (cn_en kd fs sc n yl nk xt xs xc xtw) (cn_fn kd fs sc n yl nk xt xs s0 xtw) tg nx q) → wX_searchUnderAssignment_8 post m (nI c + (-1)) (nI n) (nI na) (nI nk) (nI ns) (nI s0) st xal (pu_A kd) (pu_A fs) (pu_A sc) (pu_A sz) (pu_A gr) (pu_A ac) vc (pu_A xl) (pu_A xt) (pu_A xs) (pu_A xc) (pu_A xat) (pu_A xaa) (pu_A xch) (pu_A xtw) (pu_A ds) (pu_A tg) (pu_A nx) (pu_A xft) := by
  intro c
  induction c with
  | zero =>
    intro m ds tg nx hc2 hm sp
    obtain ⟨m, rfl⟩ : ∃ m', m = m' + 1 := ⟨m - 1, by omega⟩
    rw [wX_searchUnderAssignment_8]
    have s := sp 0 (by omega) (by omega) cn_ok0
    have b7 : tg 0 ≤ 7 := by
      rcases s with ⟨h, _⟩ | ⟨h, _⟩
      · omega
      · omega
    refine br_t (by decide) (pk_eq (tg 0) 7 (fun e => ?_) (fun e => ?_))
    · refine K0 (fun q hq => ?_) ds tg nx xft
      rcases s with ⟨_, no⟩ | ⟨l, _⟩
      · exact absurd hq (no q)
      · omega
    · rcases s with ⟨h, _⟩ | ⟨l6, q, q1, q2, q3, q4⟩
      · omega
      · refine ⟨tg 0 + 1, xm_f4 (key := sk_ky q 1) (en := cn_en kd fs sc n yl nk xt xs xc xtw) (fn := cn_fn kd fs sc n yl nk xt xs s0 xtw) l6 hc (cn_hs hc) (fun F hF hk => ?_) q 0 0 (tg 0 + 1) xft (by omega) (by omega) q3 q2 cn_ok0 rfl (fun a ha => by omega)⟩
        refine xm_first (L := tg 0) (B := B) rfl l6 hF b (fun l => br_f (by decide) ?_) (fun l => br_t rfl ?_)
        · refine xm_keep (L := tg 0) rfl l6 hch (fun T A hT hA => ?_)
          have bn := bs_new l6 hF hT
          rw [hk] at bn l
          exact K1 (sk_ky q 1) (tg 0) T A bn ⟨q, q2, rfl⟩ l (fun s' hs' => q4 s' hs' 1 (Nat.le_refl 1)) hA ds tg nx F
        · rw [hk] at l
          exact K0 (fun s' hs' => by have h := q4 s' hs' 1 (Nat.le_refl 1); omega) ds tg nx F
  | succ p ih =>
    intro m ds tg nx hc2 hm sp
    obtain ⟨m, rfl⟩ : ∃ m', m = m' + 1 := ⟨m - 1, by omega⟩
    rw [wX_searchUnderAssignment_8, pk_m1]
    refine br_f (nI_pos (by omega)) (xm_measure (p := p) (s0 := s0) (yl := yl) W (by omega) hc hns h6 ht h8 hl hs0 (fun q h1 h2 o => sp q (by omega) h2 o) (fun tg' nx' ds' same s => nm_e (ih m ds' tg' nx' (by omega) (by omega) (fun q h1 h2 o => ?_))))
    by_cases e : q = p
    · rw [e] at o ⊢; exact s o
    · exact sk_sp_cg (q := p) (fun y hy => (same y (by omega)).1) (fun y hy => (same y (by omega)).2) (by omega) (sp q (by omega) h2 o)
theorem xs_eq (I : ci_I kd fs sc sz gr n na ac vc) {w : Nat → Nat} {s0 code : Nat} (hX : ∀ t, t < n → ci_X kd fs sc ac xch w t) (hd : ∀ v, v < 3 → xch v = cn_d code v) : cn_en kd fs sc n yl nk xt xs xc w = cn_en kd fs sc n yl nk xt xs xc (cn_tw kd fs sc n ac (cn_d code)) ∧ cn_fn kd fs sc n yl nk xt xs s0 w = cn_fn kd fs sc n yl nk xt xs s0 (cn_tw kd fs sc n ac (cn_d code)) := by
  have hX2 := cn_ch (ch' := cn_d code) I (fun t ht k => hd _ (ci_k2 I ht k).1) hX
  have e := cn_e I hX2
  have hp : ∀ t, t < n → 3 ≤ kd t → sc t < n := fun t ht k => by
    obtain ⟨_, _, h, _⟩ := ci_k3 I ht k
    omega
  refine ⟨funext fun p => funext fun j => propext ?_, funext fun p => propext (cn_L e hp _ _)⟩
  unfold cn_en
  rw [cn_L e hp]
theorem xm_under {post : St1 → Prop} {s0 B code : Nat} (I : ci_I kd fs sc sz gr n na ac vc) (hc : ∀ j, j < 3 → xc j ≤ 6) (hns : xc 0 + xc 1 + xc 2 = ns) (h6 : ns ≤ 6) (ht : ∀ j, j < 3 → ∀ k, k < xc j → xt (j * 6 + k) < n ∧ xs (j * 6 + k) ≤ 1) (h8 : nk ≤ 8) (hl : ∀ i, i < nk → xl i = yl i ∧ yl i < n) (hs0 : s0 < n) (hcode : code < 512) (hd : ∀ v, v < 3 → xch v = cn_d code v) (hv : ∀ t, t < n → kd t = 2 → cn_d code (fs t) < na) (b : bs_R xal xat B)
    (K0 : (∀ k, cn_At kd fs sc n ac yl nk xt xs xc s0 code k → B ≤ k) → ∀ tw ds tg nx ft, post ((nI n), (nI na), (nI nk), (nI ns), (nI s0), st, xal, (pu_A kd), (pu_A fs), (pu_A sc), (pu_A sz), (pu_A gr), (pu_A ac), vc, (pu_A xl), (pu_A xt), (pu_A xs), (pu_A xc), (pu_A xat), (pu_A xaa), (pu_A xch), (pu_A tw), (pu_A ds), (pu_A tg), (pu_A nx), (pu_A ft)))
    (K1 : ∀ B' L T A, bs_R (nI L) T B' → cn_At kd fs sc n ac yl nk xt xs xc s0 code B' → B' < B → (∀ k, cn_At kd fs sc n ac yl nk xt xs xc s0 code k → B' ≤ k) → (∀ v, v < 3 → A v = ac (cn_d code v)) → ∀ tw ds tg nx ft, post ((nI n), (nI na), (nI nk), (nI ns), (nI s0), st, (nI L), (pu_A kd), (pu_A fs), (pu_A sc), (pu_A sz), (pu_A gr), (pu_A ac), vc, (pu_A xl), (pu_A xt), (pu_A xs), (pu_A xc), (pu_A T), (pu_A A), (pu_A xch), (pu_A tw), (pu_A ds), (pu_A tg), (pu_A nx), (pu_A ft))) :
    wpX_searchUnderAssignment post ((nI n), (nI na), (nI nk), (nI ns), (nI s0), st, xal, (pu_A kd), (pu_A fs), (pu_A sc), (pu_A sz), (pu_A gr), (pu_A ac), vc, (pu_A xl), (pu_A xt), (pu_A xs), (pu_A xc), (pu_A xat), (pu_A xaa), (pu_A xch), (pu_A xtw), (pu_A xds), (pu_A xtg), (pu_A xnx), (pu_A xft)) := by
  unfold wpX_searchUnderAssignment
  have hn := I.1
  refine xm_join I (fun t ht' k => by rw [hd _ (ci_k2 I ht' k).1]; exact hv t ht' k) (fun w hX hw => ?_)
  have W : xw_W kd fs sc n w := by
    refine ⟨hn, fun u hu => ⟨hw u hu, (ci_kd I hu).2, ci_b I hu⟩, fun u hu k3 => ?_⟩
    obtain ⟨c1, c2, c3, _⟩ := ci_k3 I hu k3
    exact ⟨by omega, by omega⟩
  obtain ⟨e1, e2⟩ := xs_eq (yl := yl) (nk := nk) (xt := xt) (xs := xs) (xc := xc) (s0 := s0) I hX hd
  have c8 : ∀ v, v < 3 → xch v < 8 := by
    intro v h
    rw [hd v h]
    rcases sk_3 h with e | e | e
    · rw [e]; show code / 64 < 8; omega
    · rw [e]; show code / 8 % 8 < 8; omega
    · rw [e]; show code % 8 < 8; omega
  refine ⟨344, xm_u8 (yl := yl) (s0 := s0) (B := B) W hc hns h6 ht h8 hl hs0 c8 b (fun no ds tg nx ft => ?_) (fun B' L T A h1 h2 h3 h4 h5 ds tg nx ft => ?_) 343 344 xds xtg xnx (by omega) (by omega) (fun q h1 h2 => by omega)⟩
  · refine K0 (fun k hk => ?_) w ds tg nx ft
    obtain ⟨s, a1, a2⟩ := hk
    rw [← e1, ← e2] at a1
    rw [a2]
    exact no s a1
  · refine K1 B' L T A h1 ?_ h3 (fun k hk => ?_) (fun v hv3 => by rw [h5 v hv3, hd v hv3]) w ds tg nx ft
    · obtain ⟨s, a1, a2⟩ := h2
      rw [e1, e2] at a1
      exact ⟨s, a1, a2⟩
    · obtain ⟨s, a1, a2⟩ := hk
      rw [← e1, ← e2] at a1
      rw [a2]
      exact h4 s a1
theorem xm_s16 {post : Int32 → St1 → Prop} {s0 : Nat} (I : ci_I kd fs sc sz gr n na ac vc) (S : sr_I n yT yS yR ns xc xt xs) (h8 : nk ≤ 8) (hl : ∀ i, i < nk → xl i = yl i ∧ yl i < n) (hs0 : s0 < n)
    (K : ∀ B a (al : Int32) (T A : Nat → Nat), bs_R al T B → as_I (cn_At kd fs sc n ac yl nk xt xs xc s0) (fun x => as_V (ch_c vc na 0) (ch_c vc na 1) (ch_c vc na 2) x) B a → (B < 10000 → ∀ v, v < 3 → A v = ac (cn_d a v)) → ∀ ch tw ds tg nx ft, (al = -1 → post 1 ((nI n), (nI na), (nI nk), (nI ns), (nI s0), 1, al, (pu_A kd), (pu_A fs), (pu_A sc), (pu_A sz), (pu_A gr), (pu_A ac), vc, (pu_A xl), (pu_A xt), (pu_A xs), (pu_A xc), (pu_A T), (pu_A A), (pu_A ch), (pu_A tw), (pu_A ds), (pu_A tg), (pu_A nx), (pu_A ft))) ∧ (¬ al = -1 → post 2 ((nI n), (nI na), (nI nk), (nI ns), (nI s0), 2, al, (pu_A kd), (pu_A fs), (pu_A sc), (pu_A sz), (pu_A gr), (pu_A ac), vc, (pu_A xl), (pu_A xt), (pu_A xs), (pu_A xc), (pu_A T), (pu_A A), (pu_A ch), (pu_A tw), (pu_A ds), (pu_A tg), (pu_A nx), (pu_A ft)))) :
    ∀ d code m B a (al : Int32) (T A ch tw ds tg nx ft : Nat → Nat), code + d = 512 → d < m → bs_R al T B → as_I (cn_At kd fs sc n ac yl nk xt xs xc s0) (fun x => x < code ∧ as_V (ch_c vc na 0) (ch_c vc na 1) (ch_c vc na 2) x) B a → (B < 10000 → ∀ v, v < 3 → A v = ac (cn_d a v)) → wX_search_16 post m (nI code) (nI n) (nI na) (nI nk) (nI ns) (nI s0) st al (pu_A kd) (pu_A fs) (pu_A sc) (pu_A sz) (pu_A gr) (pu_A ac) vc (pu_A xl) (pu_A xt) (pu_A xs) (pu_A xc) (pu_A T) (pu_A A) (pu_A ch) (pu_A tw) (pu_A ds) (pu_A tg) (pu_A nx) (pu_A ft) := by
  have ha := I.2.1
  have n6 := S.1
  have hns := sr_tot S
  have hc : ∀ j, j < 3 → xc j ≤ 6 := fun j hj => Nat.le_trans (sm_xc S hj) n6
  have hx : ∀ j, j < 3 → ∀ k, k < xc j → xt (j * 6 + k) < n ∧ xs (j * 6 + k) ≤ 1 := by
    intro j hj k hk
    obtain ⟨g, _, _, _, g4, g5, g6, g7⟩ := sr_find S hj hk
    rw [← g4, ← g5]
    exact ⟨g7, g6⟩
  intro d
  induction d with
  | zero =>
    intro code m B a al T A ch tw ds tg nx ft hcode hm hb hi ho
    obtain ⟨m, rfl⟩ : ∃ m', m = m' + 1 := ⟨m - 1, by omega⟩
    rw [wX_search_16]
    refine br_t (nI_le (a := 512) (by omega) (by omega)) (K B a al T A hb (as_cg (fun x => ?_) hi) ho ch tw ds tg nx ft)
    exact ⟨fun h => h.2, fun h => ⟨by have h2 := h.1; omega, h⟩⟩
  | succ d ih =>
    intro code m B a al T A ch tw ds tg nx ft hcode hm hb hi ho
    obtain ⟨m, rfl⟩ : ∃ m', m = m' + 1 := ⟨m - 1, by omega⟩
    rw [wX_search_16]
    refine br_f (nI_ge (b := 512) (by omega) (by omega)) (xm_choose ha (by omega) (fun V w hw => br_f (by decide) ?_) (fun V w => br_t rfl (nm_r (nI_1 code) (ih (code + 1) m B a al T A w tw ds tg nx ft (by omega) (by omega) hb (as_cg (fun x => ?_) hi) ho))))
    · have hv : ∀ t, t < n → kd t = 2 → cn_d code (fs t) < na := by
        intro t ht k
        obtain ⟨f3, fv, _⟩ := ci_k2 I ht k
        have hn := I.1
        have ne : ¬ vc (fs t) = -1 := by rw [fv]; exact gw_m1 (by omega)
        have ec : ch_c vc na (fs t) = na := if_neg ne
        obtain ⟨v0, v1, v2, v3⟩ := V
        rcases sk_3 f3 with e | e | e
        · rw [e] at ec ⊢; rw [ec] at v1; exact v1
        · rw [e] at ec ⊢; rw [ec] at v2; exact v2
        · rw [e] at ec ⊢; rw [ec] at v3; exact v3
      have up : ∀ B' a', as_S (cn_At kd fs sc n ac yl nk xt xs xc s0) code B B' → (B' = B → a' = a) → (B' < B → a' = code) → as_I (cn_At kd fs sc n ac yl nk xt xs xc s0) (fun x => x < code + 1 ∧ as_V (ch_c vc na 0) (ch_c vc na 1) (ch_c vc na 2) x) B' a' := by
        intro B' a' hS e1 e2
        refine as_step (fun k hk => cn_Atk hc hns n6 hk) hi (fun x hx => hx.1) (fun x => ?_) hS e1 e2
        constructor
        · intro h
          by_cases q : x = code
          · exact Or.inr q
          · exact Or.inl ⟨by omega, h.2⟩
        · intro h
          rcases h with h | h
          · exact ⟨by omega, h.2⟩
          · exact ⟨by omega, by rw [h]; exact V⟩
      refine xm_under (yl := yl) (B := B) (code := code) I hc hns n6 hx h8 hl hs0 (by omega) hw hv hb (fun no tw' ds' tg' nx' ft' => nm_r (nI_1 code) (ih (code + 1) m B a al T A w tw' ds' tg' nx' ft' (by omega) (by omega) hb (up B a (Or.inl ⟨rfl, no⟩) (fun _ => rfl) (fun h => by omega)) ho)) (fun B' L T' A' h1 h2 h3 h4 h5 tw' ds' tg' nx' ft' => nm_r (nI_1 code) (ih (code + 1) m B' code (nI L) T' A' w tw' ds' tg' nx' ft' (by omega) (by omega) h1 (up B' code (Or.inr ⟨h2, h3, h4⟩) (fun h => by omega) (fun _ => rfl)) (fun _ => h5)))
    · constructor
      · intro h; exact ⟨by omega, h.2⟩
      · intro h
        by_cases q : x = code
        · rw [q] at h; exact absurd h.2 V
        · exact ⟨by omega, h.2⟩
theorem xm_search {post : Int32 → St1 → Prop} {s0 : Nat} (I : ci_I kd fs sc sz gr n na ac vc) (S : sr_I n yT yS yR ns xc xt xs) (h8 : nk ≤ 8) (hl : ∀ i, i < nk → xl i = yl i ∧ yl i < n) (hs0 : s0 < n)
    (K : ∀ B a (al : Int32) (T A : Nat → Nat), bs_R al T B → as_I (cn_At kd fs sc n ac yl nk xt xs xc s0) (fun x => as_V (ch_c vc na 0) (ch_c vc na 1) (ch_c vc na 2) x) B a → (B < 10000 → ∀ v, v < 3 → A v = ac (cn_d a v)) → ∀ ch tw ds tg nx ft, (al = -1 → post 1 ((nI n), (nI na), (nI nk), (nI ns), (nI s0), 1, al, (pu_A kd), (pu_A fs), (pu_A sc), (pu_A sz), (pu_A gr), (pu_A ac), vc, (pu_A xl), (pu_A xt), (pu_A xs), (pu_A xc), (pu_A T), (pu_A A), (pu_A ch), (pu_A tw), (pu_A ds), (pu_A tg), (pu_A nx), (pu_A ft))) ∧ (¬ al = -1 → post 2 ((nI n), (nI na), (nI nk), (nI ns), (nI s0), 2, al, (pu_A kd), (pu_A fs), (pu_A sc), (pu_A sz), (pu_A gr), (pu_A ac), vc, (pu_A xl), (pu_A xt), (pu_A xs), (pu_A xc), (pu_A T), (pu_A A), (pu_A ch), (pu_A tw), (pu_A ds), (pu_A tg), (pu_A nx), (pu_A ft)))) : wpX_search post ((nI n), (nI na), (nI nk), (nI ns), (nI s0), st, xal, (pu_A kd), (pu_A fs), (pu_A sc), (pu_A sz), (pu_A gr), (pu_A ac), vc, (pu_A xl), (pu_A xt), (pu_A xs), (pu_A xc), (pu_A xat), (pu_A xaa), (pu_A xch), (pu_A xtw), (pu_A xds), (pu_A xtg), (pu_A xnx), (pu_A xft)) := by
  have hn := I.1
  refine br_f (gw_m1 (by omega)) ⟨513, xm_s16 (st := 0) I S h8 hl hs0 K 512 0 513 10000 0 (-1) xat xaa xch xtw xds xtg xnx xft (by omega) (by omega) bs_no (as_0 (fun x h => by omega) 0) (fun h => by omega)⟩
end
end
section
section
variable {kd fs sc sz gr kd' fs' sc' sz' gr' : Nat → Nat} {n na n' na' : Nat} {ac ac' : Nat → Nat} {vc vc' : Nat → Int32}
def hm_T (kd fs sc sz kd' fs' sc' sz' gr' : Nat → Nat) (n' : Nat) (ac ch mp : Nat → Nat) (t : Nat) : Prop :=
  mp t < n' ∧ sz' (mp t) = sz t ∧ gr' (mp t) = 1 ∧
  (kd t = 1 → kd' (mp t) = 1 ∧ sc' (mp t) = sc t) ∧
  (kd t = 2 → mp t = mp (ac (ch (fs t)))) ∧
  (3 ≤ kd t → kd' (mp t) = kd t ∧ fs' (mp t) = mp (fs t) ∧ sc' (mp t) = mp (sc t))
theorem hm_tw (I : ci_I kd fs sc sz gr n na ac vc) (I' : ci_I kd' fs' sc' sz' gr' n' na' ac' vc') {ch tw mp : Nat → Nat} (X : ∀ t, t < n → ci_X kd fs sc ac ch tw t) (hc : ∀ t, t < n → kd t = 2 → ch (fs t) < na) (H : ∀ t, t < n → hm_T kd fs sc sz kd' fs' sc' sz' gr' n' ac ch mp t) : ∀ i t, t < i → t < n → mp (tw t) = mp t := by
  intro i
  induction i with
  | zero => intro t h; omega
  | succ i ih =>
    intro t ht hn
    have kk := ci_kd I hn
    obtain ⟨x1, x2, x3⟩ := X t hn
    obtain ⟨h1, h2, h3, h4, h5, h6⟩ := H t hn
    by_cases k1 : kd t = 1
    · rw [x1 k1]
    · by_cases k2 : kd t = 2
      · rw [x2 k2, h5 k2]
      · have k3 : 3 ≤ kd t := by omega
        obtain ⟨a1, a2, a3⟩ := x3 k3
        obtain ⟨t1, t2, t3, _⟩ := ci_k3 I hn k3
        have an : tw t < n := by omega
        have ka : 3 ≤ kd (tw t) := by rw [a2.1]; exact k3
        obtain ⟨u1, u2, u3, _⟩ := ci_k3 I an ka
        obtain ⟨g1, g2, g3, g4, g5, g6⟩ := H (tw t) an
        obtain ⟨p1, p2, p3⟩ := h6 k3
        obtain ⟨q1, q2, q3⟩ := g6 ka
        have ef : mp (fs (tw t)) = mp (fs t) := by
          rw [← ih (fs (tw t)) (by omega) (by omega), ← ih (fs t) (by omega) (by omega), a2.2.1]
        have es : mp (sc (tw t)) = mp (sc t) := by
          rw [← ih (sc (tw t)) (by omega) (by omega), ← ih (sc t) (by omega) (by omega), a2.2.2]
        exact I'.2.2.2.2.2 _ _ g1 h1 (by omega) (by rw [q1, p1, a2.1]) (by rw [q2, p2, ef]) (by rw [q3, p3, es])
theorem hm_L (I : ci_I kd fs sc sz gr n na ac vc) (I' : ci_I kd' fs' sc' sz' gr' n' na' ac' vc') {ch tw mp : Nat → Nat} (X : ∀ t, t < n → ci_X kd fs sc ac ch tw t) (hc : ∀ t, t < n → kd t = 2 → ch (fs t) < na) (H : ∀ t, t < n → hm_T kd fs sc sz kd' fs' sc' sz' gr' n' ac ch mp t) {K K' : Nat → Prop} (hK : ∀ u, u < n → K u → K' (mp u)) {t : Nat} (h : tc_L kd fs sc n tw K t) : tc_L kd' fs' sc' n' (fun x => x) K' (mp t) := by
  have mt : ∀ u, u < n → mp (tw u) = mp u := fun u hu => hm_tw I I' X hc H (u + 1) u (by omega) hu
  intro S' c' hK'
  refine h (fun u => S' (mp u)) ⟨?_, ?_, ?_, ?_, ?_⟩ (fun u hu k => hK' _ (H u hu).1 (hK u hu k))
  · intro t u ht hu e s
    have e2 : mp t = mp u := by rw [← mt t ht, ← mt u hu, e]
    show S' (mp u)
    rw [← e2]; exact s
  · intro t ht k a b
    obtain ⟨h1, h2, h3, h4, h5, h6⟩ := H t ht
    obtain ⟨p1, p2, p3⟩ := h6 k
    refine c'.2.1 (mp t) h1 (by rw [p1]; exact k) ?_ ?_
    · rw [p2]; exact a
    · rw [p3]; exact b
  · intro t ht k a
    obtain ⟨h1, h2, h3, h4, h5, h6⟩ := H t ht
    obtain ⟨p1, p2, p3⟩ := h6 (by omega)
    have h := c'.2.2.1 (mp t) h1 (by rw [p1]; exact k) a
    rw [p2, p3] at h
    exact h
  · intro t ht k a b
    obtain ⟨h1, h2, h3, h4, h5, h6⟩ := H t ht
    obtain ⟨p1, p2, p3⟩ := h6 (by omega)
    have h := c'.2.2.2.1 (mp t) h1 (by rw [p1]; exact k) a (by rw [p3]; exact b)
    rw [p2] at h
    exact h
  · intro t ht k a e1 e2
    obtain ⟨h1, h2, h3, h4, h5, h6⟩ := H t ht
    obtain ⟨p1, p2, p3⟩ := h6 (by omega)
    obtain ⟨t1, t2, t3, _⟩ := ci_k3 I ht (by omega)
    have sn : sc t < n := by omega
    have tn : tw (sc t) < n := by
      obtain ⟨x1, x2, x3⟩ := X (sc t) sn
      have kk := ci_kd I sn
      by_cases k1 : kd (sc t) = 1
      · rw [x1 k1]; exact sn
      · by_cases k2 : kd (sc t) = 2
        · rw [x2 k2]; exact (I.2.2.2.1 _ (hc _ sn k2)).1
        · have l := (x3 (by omega)).1
          omega
    obtain ⟨g1, g2, g3, g4, g5, g6⟩ := H _ tn
    obtain ⟨w1, w2⟩ := g4 e1
    have em : mp (tw (sc t)) = mp (sc t) := mt _ sn
    rw [em] at w1 w2
    have h := c'.2.2.2.2 (mp t) h1 (by rw [p1]; exact k) a (by show kd' (sc' (mp t)) = 1; rw [p3]; exact w1) (by show sc' (sc' (mp t)) = 1; rw [p3, w2]; exact e2)
    rw [p2] at h
    exact h
end
end
section
section
variable {n na nk ns : Nat} {sec st xal : Int32} {kd fs sc sz gr ac : Nat → Nat} {vc : Nat → Int32} {xl xt xs xc xat xaa xch xtw xds xtg xnx xft : Nat → Nat} {yT yS yR : Nat → Nat}
theorem pg_atom {post : Int32 → St1 → Prop} {b : Nat} (hb : b ≤ 1) (hn : n < 64) (ha : na < 8) (h : post (nI n) ((nI (n + 1)), (nI (na + 1)), (nI nk), (nI ns), sec, 0, (-1), (pu_A (pu_upd kd n 1)), (pu_A (pu_upd fs n na)), (pu_A (pu_upd sc n b)), (pu_A (pu_upd sz n 1)), (pu_A (pu_upd gr n 1)), (pu_A (pu_upd ac na n)), vc, (pu_A xl), (pu_A xt), (pu_A xs), (pu_A xc), (pu_A xat), (pu_A xaa), (pu_A xch), (pu_A xtw), (pu_A xds), (pu_A xtg), (pu_A xnx), (pu_A xft))) : wpX_atom post ((nI n), (nI na), (nI nk), (nI ns), sec, st, xal, (pu_A kd), (pu_A fs), (pu_A sc), (pu_A sz), (pu_A gr), (pu_A ac), vc, (pu_A xl), (pu_A xt), (pu_A xs), (pu_A xc), (pu_A xat), (pu_A xaa), (pu_A xch), (pu_A xtw), (pu_A xds), (pu_A xtg), (pu_A xnx), (pu_A xft)) (nI b) := by
  refine pk_le 8 na (fun l => by omega) (fun _ => pk_lt n 64 (fun _ => pk_eq b 0 (fun e => ?_) (fun e => ?_)) (fun l => by omega))
  · subst e
    exact xm_atom35 (b := 0) hn ha h
  · have e1 : b = 1 := by omega
    subst e1
    exact xm_atom35 (b := 1) hn ha h
theorem pg_var {post : Int32 → St1 → Prop} {j : Nat} (hj : j < 3) (hn : n < 64) (z : vc j = -1) (h : post (nI n) ((nI (n + 1)), (nI na), (nI nk), (nI ns), sec, 0, (-1), (pu_A (pu_upd kd n 2)), (pu_A (pu_upd fs n j)), (pu_A (pu_upd sc n 0)), (pu_A (pu_upd sz n 1)), (pu_A (pu_upd gr n 0)), (pu_A ac), (upd vc j (nI n)), (pu_A xl), (pu_A xt), (pu_A xs), (pu_A xc), (pu_A xat), (pu_A xaa), (pu_A xch), (pu_A xtw), (pu_A xds), (pu_A xtg), (pu_A xnx), (pu_A xft))) : wpX_variable post ((nI n), (nI na), (nI nk), (nI ns), sec, st, xal, (pu_A kd), (pu_A fs), (pu_A sc), (pu_A sz), (pu_A gr), (pu_A ac), vc, (pu_A xl), (pu_A xt), (pu_A xs), (pu_A xc), (pu_A xat), (pu_A xaa), (pu_A xch), (pu_A xtw), (pu_A xds), (pu_A xtg), (pu_A xnx), (pu_A xft)) (nI j) := by
  have w : vp_in (nI j) 3 := vp_in_nI hj (by omega)
  have q : (nI j).toNatClampNeg = j := nI_clamp (by omega)
  refine br_f (nI_pos (by omega)) (pk_lt j 3 (fun _ => ⟨w, br_t (by rw [q]; exact z) (pk_lt n 64 (fun _ => ?_) (fun l => by omega))⟩) (fun l => by omega))
  exact xm_make (a := 2) (b := j) (c := 0) (d := 1) (e := 0) hn (by omega) ⟨w, nm_r (e' := upd vc j (nI n)) (by rw [q]) (xm_reset h)⟩
theorem pg_c17 {post : Int32 → St1 → Prop} {o a b : Nat} (I : ci_I kd fs sc sz gr n na ac vc) (hn : n < 64) (o5 : o ≤ 5) (ha : a < n) (hb : b < n)
    (h1 : 32 < 1 + sz a + sz b → post (-1) ((nI n), (nI na), (nI nk), (nI ns), sec, st, xal, (pu_A kd), (pu_A fs), (pu_A sc), (pu_A sz), (pu_A gr), (pu_A ac), vc, (pu_A xl), (pu_A xt), (pu_A xs), (pu_A xc), (pu_A xat), (pu_A xaa), (pu_A xch), (pu_A xtw), (pu_A xds), (pu_A xtg), (pu_A xnx), (pu_A xft)))
    (h2 : ∀ t, t < n → (kd t = o ∧ fs t = a ∧ sc t = b) → post (nI t) ((nI n), (nI na), (nI nk), (nI ns), sec, st, xal, (pu_A kd), (pu_A fs), (pu_A sc), (pu_A sz), (pu_A gr), (pu_A ac), vc, (pu_A xl), (pu_A xt), (pu_A xs), (pu_A xc), (pu_A xat), (pu_A xaa), (pu_A xch), (pu_A xtw), (pu_A xds), (pu_A xtg), (pu_A xnx), (pu_A xft)))
    (h3 : 1 + sz a + sz b ≤ 32 → (∀ t, t < n → ¬ (kd t = o ∧ fs t = a ∧ sc t = b)) → ∀ g, g ≤ 1 → (g = 1 ↔ gr a = 1 ∧ gr b = 1) → post (nI n) ((nI (n + 1)), (nI na), (nI nk), (nI ns), sec, st, xal, (pu_A (pu_upd kd n o)), (pu_A (pu_upd fs n a)), (pu_A (pu_upd sc n b)), (pu_A (pu_upd sz n (1 + sz a + sz b))), (pu_A (pu_upd gr n g)), (pu_A ac), vc, (pu_A xl), (pu_A xt), (pu_A xs), (pu_A xc), (pu_A xat), (pu_A xaa), (pu_A xch), (pu_A xtw), (pu_A xds), (pu_A xtg), (pu_A xnx), (pu_A xft))) :
    wX_compose_17 post (nI o) (nI a) (nI b) (nI n) (nI na) (nI nk) (nI ns) sec st xal (pu_A kd) (pu_A fs) (pu_A sc) (pu_A sz) (pu_A gr) (pu_A ac) vc (pu_A xl) (pu_A xt) (pu_A xs) (pu_A xc) (pu_A xat) (pu_A xaa) (pu_A xch) (pu_A xtw) (pu_A xds) (pu_A xtg) (pu_A xnx) (pu_A xft) := by
  have wa : vp_in (nI a) 64 := vp_in_nI (by omega) (by omega)
  have wb : vp_in (nI b) 64 := vp_in_nI (by omega) (by omega)
  have sa := ci_sz I a ha
  have sb := ci_sz I b hb
  have ga := ci_gr I ha
  have gb := ci_gr I hb
  have es := sm_size (sz := sz) (by omega : a < 64) (by omega : b < 64)
  unfold wX_compose_17
  refine xm_in (by omega) ha (br_f (by decide) (xm_in (by omega) hb (br_f (by decide) ⟨wa, wb, nm_r es (pk_le (1 + sz a + sz b) 32 (fun l => ?_) (fun l => h1 (by omega)))⟩)))
  unfold wpX_findCell
  rcases sm_first (fun t => kd t = o ∧ fs t = a ∧ sc t = b) n with no | ⟨t, ht, pt, nt⟩
  · refine ⟨n + 1, xm_fc (e := n) I o5 (by omega) (by omega) (Nat.le_refl n) no (Or.inl ⟨rfl, ?_⟩) n 0 (n + 1) (by omega) (by omega)⟩
    refine br_t rfl (pk_lt n 64 (fun _ => ⟨wa, ?_⟩) (fun l => by omega))
    refine pk_eq (gr a) 0 (fun g0 => ?_) (fun g1 => ⟨wb, pk_eq (gr b) 0 (fun g0 => ?_) (fun g2 => ?_) (pu_Ag gr (by omega))⟩) (pu_Ag gr (by omega))
    · exact xm_c119 (g := 0) hn (by omega) (h3 l no 0 (by omega) (by omega))
    · exact xm_c119 (g := 0) hn (by omega) (h3 l no 0 (by omega) (by omega))
    · exact xm_c119 (g := 1) hn (by omega) (h3 l no 1 (by omega) (by omega))
  · refine ⟨n + 1, xm_fc (e := t) I o5 (by omega) (by omega) (by omega) nt (Or.inr ⟨ht, pt, ?_⟩) t 0 (n + 1) (by omega) (by omega)⟩
    exact br_f (gw_m1 (by omega)) (h2 t ht pt)
theorem pg_compose {post : Int32 → St1 → Prop} {o a b : Nat} (I : ci_I kd fs sc sz gr n na ac vc) (hn : n < 64) (o3 : 3 ≤ o) (o5 : o ≤ 5) (ha : a < n) (hb : b < n)
    (h1 : 32 < 1 + sz a + sz b → post (-1) ((nI n), (nI na), (nI nk), (nI ns), sec, st, xal, (pu_A kd), (pu_A fs), (pu_A sc), (pu_A sz), (pu_A gr), (pu_A ac), vc, (pu_A xl), (pu_A xt), (pu_A xs), (pu_A xc), (pu_A xat), (pu_A xaa), (pu_A xch), (pu_A xtw), (pu_A xds), (pu_A xtg), (pu_A xnx), (pu_A xft)))
    (h2 : ∀ t, t < n → (kd t = o ∧ fs t = a ∧ sc t = b) → post (nI t) ((nI n), (nI na), (nI nk), (nI ns), sec, st, xal, (pu_A kd), (pu_A fs), (pu_A sc), (pu_A sz), (pu_A gr), (pu_A ac), vc, (pu_A xl), (pu_A xt), (pu_A xs), (pu_A xc), (pu_A xat), (pu_A xaa), (pu_A xch), (pu_A xtw), (pu_A xds), (pu_A xtg), (pu_A xnx), (pu_A xft)))
    (h3 : 1 + sz a + sz b ≤ 32 → (∀ t, t < n → ¬ (kd t = o ∧ fs t = a ∧ sc t = b)) → ∀ g, g ≤ 1 → (g = 1 ↔ gr a = 1 ∧ gr b = 1) → post (nI n) ((nI (n + 1)), (nI na), (nI nk), (nI ns), sec, st, xal, (pu_A (pu_upd kd n o)), (pu_A (pu_upd fs n a)), (pu_A (pu_upd sc n b)), (pu_A (pu_upd sz n (1 + sz a + sz b))), (pu_A (pu_upd gr n g)), (pu_A ac), vc, (pu_A xl), (pu_A xt), (pu_A xs), (pu_A xc), (pu_A xat), (pu_A xaa), (pu_A xch), (pu_A xtw), (pu_A xds), (pu_A xtg), (pu_A xnx), (pu_A xft))) :
    wpX_compose post ((nI n), (nI na), (nI nk), (nI ns), sec, st, xal, (pu_A kd), (pu_A fs), (pu_A sc), (pu_A sz), (pu_A gr), (pu_A ac), vc, (pu_A xl), (pu_A xt), (pu_A xs), (pu_A xc), (pu_A xat), (pu_A xaa), (pu_A xch), (pu_A xtw), (pu_A xds), (pu_A xtg), (pu_A xnx), (pu_A xft)) (nI o) (nI a) (nI b) := by
  have k := pg_c17 (post := post) I hn o5 ha hb h1 h2 h3
  exact pk_eq o 3 (fun _ => k) (fun e3 => pk_eq o 4 (fun _ => k) (fun e4 => pk_eq o 5 (fun _ => k) (fun e5 => by omega)))
theorem pg_cell0 {post : Int32 → Prop} {t : Nat} (hn : n ≤ 64) (ht : t < n) (h : post (nI (kd t))) : wpX_cell post ((nI n), (nI na), (nI nk), (nI ns), sec, st, xal, (pu_A kd), (pu_A fs), (pu_A sc), (pu_A sz), (pu_A gr), (pu_A ac), vc, (pu_A xl), (pu_A xt), (pu_A xs), (pu_A xc), (pu_A xat), (pu_A xaa), (pu_A xch), (pu_A xtw), (pu_A xds), (pu_A xtg), (pu_A xnx), (pu_A xft)) (nI t) 0 := by
  unfold wpX_cell
  refine xm_in hn ht (br_f (by decide) (br_f (by decide) (br_f (by decide) (br_t rfl ⟨vp_in_nI (by omega) (by omega), ?_⟩))))
  rw [pu_Ag kd (by omega)]; exact h
theorem pg_cell1 {post : Int32 → Prop} {t : Nat} (hn : n ≤ 64) (ht : t < n) (h : post (nI (fs t))) : wpX_cell post ((nI n), (nI na), (nI nk), (nI ns), sec, st, xal, (pu_A kd), (pu_A fs), (pu_A sc), (pu_A sz), (pu_A gr), (pu_A ac), vc, (pu_A xl), (pu_A xt), (pu_A xs), (pu_A xc), (pu_A xat), (pu_A xaa), (pu_A xch), (pu_A xtw), (pu_A xds), (pu_A xtg), (pu_A xnx), (pu_A xft)) (nI t) 1 := by
  unfold wpX_cell
  refine xm_in hn ht (br_f (by decide) (br_f (by decide) (br_f (by decide) (br_f (by decide) (br_t rfl ⟨vp_in_nI (by omega) (by omega), ?_⟩)))))
  rw [pu_Ag fs (by omega)]; exact h
theorem pg_cell2 {post : Int32 → Prop} {t : Nat} (hn : n ≤ 64) (ht : t < n) (h : post (nI (sc t))) : wpX_cell post ((nI n), (nI na), (nI nk), (nI ns), sec, st, xal, (pu_A kd), (pu_A fs), (pu_A sc), (pu_A sz), (pu_A gr), (pu_A ac), vc, (pu_A xl), (pu_A xt), (pu_A xs), (pu_A xc), (pu_A xat), (pu_A xaa), (pu_A xch), (pu_A xtw), (pu_A xds), (pu_A xtg), (pu_A xnx), (pu_A xft)) (nI t) 2 := by
  unfold wpX_cell
  refine xm_in hn ht (br_f (by decide) (br_f (by decide) (br_f (by decide) (br_f (by decide) (br_f (by decide) (br_t rfl ⟨vp_in_nI (by omega) (by omega), ?_⟩))))))
  rw [pu_Ag sc (by omega)]; exact h
theorem pg_learn {post : Int32 → St1 → Prop} {t : Nat} (I : ci_I kd fs sc sz gr n na ac vc) (h8 : nk ≤ 8) (ht : t < n) (h1 : gr t = 1 → nk < 8 → post 1 ((nI n), (nI na), (nI (nk + 1)), (nI ns), sec, 0, (-1), (pu_A kd), (pu_A fs), (pu_A sc), (pu_A sz), (pu_A gr), (pu_A ac), vc, (pu_A (pu_upd xl nk t)), (pu_A xt), (pu_A xs), (pu_A xc), (pu_A xat), (pu_A xaa), (pu_A xch), (pu_A xtw), (pu_A xds), (pu_A xtg), (pu_A xnx), (pu_A xft))) (h0 : ¬ (gr t = 1 ∧ nk < 8) → post 0 ((nI n), (nI na), (nI nk), (nI ns), sec, st, xal, (pu_A kd), (pu_A fs), (pu_A sc), (pu_A sz), (pu_A gr), (pu_A ac), vc, (pu_A xl), (pu_A xt), (pu_A xs), (pu_A xc), (pu_A xat), (pu_A xaa), (pu_A xch), (pu_A xtw), (pu_A xds), (pu_A xtg), (pu_A xnx), (pu_A xft))) : wpX_learn post ((nI n), (nI na), (nI nk), (nI ns), sec, st, xal, (pu_A kd), (pu_A fs), (pu_A sc), (pu_A sz), (pu_A gr), (pu_A ac), vc, (pu_A xl), (pu_A xt), (pu_A xs), (pu_A xc), (pu_A xat), (pu_A xaa), (pu_A xch), (pu_A xtw), (pu_A xds), (pu_A xtg), (pu_A xnx), (pu_A xft)) (nI t) := by
  have hn := I.1
  have g := ci_gr I ht
  unfold wpX_learn
  refine xm_in hn ht (br_f (by decide) ⟨vp_in_nI (by omega) (by omega), pk_eq (gr t) 0 (fun g0 => h0 (fun a => by omega)) (fun g1 => pk_lt nk 8 (fun l => ⟨vp_in_nI l (by omega), nm_r (rl_up (x := t) (by omega) rfl rfl) (nm_r (nI_1 nk) (xm_reset (h1 (by omega) l)))⟩) (fun l => h0 (fun a => by omega))) (pu_Ag gr (by omega))⟩)
theorem pg_known {post : Int32 → Prop} {i : Nat} (h8 : nk ≤ 8) (hi : i < 1000) (h1 : i < nk → post (nI (xl i))) (h0 : nk ≤ i → post (-1)) : wpX_known post ((nI n), (nI na), (nI nk), (nI ns), sec, st, xal, (pu_A kd), (pu_A fs), (pu_A sc), (pu_A sz), (pu_A gr), (pu_A ac), vc, (pu_A xl), (pu_A xt), (pu_A xs), (pu_A xc), (pu_A xat), (pu_A xaa), (pu_A xch), (pu_A xtw), (pu_A xds), (pu_A xtg), (pu_A xnx), (pu_A xft)) (nI i) := by
  refine br_f (nI_pos (by omega)) (pk_le nk i (fun l => h0 l) (fun l => ⟨vp_in_nI (by omega) (by omega), ?_⟩))
  rw [pu_Ag xl (by omega)]; exact h1 l
theorem pg_addStep {post : Int32 → St1 → Prop} {j b t : Nat} (hn : n ≤ 64) (S : sr_I n yT yS yR ns xc xt xs) (hj : j < 3) (hb : b ≤ 1) (ht : t < n) (h1 : ns < 6 → post 1 ((nI n), (nI na), (nI nk), (nI (ns + 1)), sec, 0, (-1), (pu_A kd), (pu_A fs), (pu_A sc), (pu_A sz), (pu_A gr), (pu_A ac), vc, (pu_A xl), (pu_A (pu_upd xt (j * 6 + xc j) t)), (pu_A (pu_upd xs (j * 6 + xc j) b)), (pu_A (pu_upd xc j (xc j + 1))), (pu_A xat), (pu_A xaa), (pu_A xch), (pu_A xtw), (pu_A xds), (pu_A xtg), (pu_A xnx), (pu_A xft))) (h0 : ¬ ns < 6 → post 0 ((nI n), (nI na), (nI nk), (nI ns), sec, st, xal, (pu_A kd), (pu_A fs), (pu_A sc), (pu_A sz), (pu_A gr), (pu_A ac), vc, (pu_A xl), (pu_A xt), (pu_A xs), (pu_A xc), (pu_A xat), (pu_A xaa), (pu_A xch), (pu_A xtw), (pu_A xds), (pu_A xtg), (pu_A xnx), (pu_A xft))) : wpX_addStep post ((nI n), (nI na), (nI nk), (nI ns), sec, st, xal, (pu_A kd), (pu_A fs), (pu_A sc), (pu_A sz), (pu_A gr), (pu_A ac), vc, (pu_A xl), (pu_A xt), (pu_A xs), (pu_A xc), (pu_A xat), (pu_A xaa), (pu_A xch), (pu_A xtw), (pu_A xds), (pu_A xtg), (pu_A xnx), (pu_A xft)) (nI j) (nI b) (nI t) := by
  have h6 := S.1
  have xj := sm_xc S hj
  have w : vp_in (nI j) 3 := vp_in_nI hj (by omega)
  unfold wpX_addStep
  refine xm_tin hj (br_f (by decide) (xm_in hn ht (br_f (by decide) (pk_lt ns 6 (fun l => ?_) (fun l => h0 (by omega))))))
  have es : nI j * 6 + pu_A xc (nI j).toNatClampNeg = nI (j * 6 + xc j) := by rw [pu_Ag xc (by omega), sm_slot]
  have w18 : vp_in (nI (j * 6 + xc j)) 18 := vp_in_nI (by omega) (by omega)
  exact ⟨w, nm_r es ⟨w18, nm_r (rl_up (x := t) (by omega) rfl rfl) ⟨w18, nm_r (rl_up (x := b) (by omega) rfl (rl_nb hb)) ⟨w, w, nm_r (rl_up (k := j) (x := xc j + 1) (by omega) rfl (by rw [pu_Ag xc (by omega), nI_1])) (nm_r (nI_1 ns) (xm_reset (h1 l)))⟩⟩⟩⟩
theorem pg_step {post : Int32 → Prop} {j i : Nat} (S : sr_I n yT yS yR ns xc xt xs) (hn : n ≤ 64) (hj : j < 3) (hi : i < 1000) (h1 : i < xc j → xt (j * 6 + i) < n → xs (j * 6 + i) ≤ 1 → post (nI (2 * xt (j * 6 + i) + xs (j * 6 + i)))) (h0 : xc j ≤ i → post (-1)) : wpX_step post ((nI n), (nI na), (nI nk), (nI ns), sec, st, xal, (pu_A kd), (pu_A fs), (pu_A sc), (pu_A sz), (pu_A gr), (pu_A ac), vc, (pu_A xl), (pu_A xt), (pu_A xs), (pu_A xc), (pu_A xat), (pu_A xaa), (pu_A xch), (pu_A xtw), (pu_A xds), (pu_A xtg), (pu_A xnx), (pu_A xft)) (nI j) (nI i) := by
  have h6 := S.1
  have xj := sm_xc S hj
  have w : vp_in (nI j) 3 := vp_in_nI hj (by omega)
  unfold wpX_step
  refine xm_tin hj (br_f (by decide) (br_f (nI_pos (by omega)) ⟨w, pk_lt i (xc j) (fun l => nm_r sm_slot ?_) (fun l => h0 l) rfl (pu_Ag xc (by omega))⟩))
  obtain ⟨g, _, _, _, g4, g5, g6, g7⟩ := sr_find S hj l
  have w18 : vp_in (nI (j * 6 + i)) 18 := vp_in_nI (by omega) (by omega)
  have k := h1 l (by omega) (by omega)
  have e2 : 2 * nI (xt (j * 6 + i)) = nI (2 * xt (j * 6 + i)) := pk_mul 2 _
  refine ⟨w18, w18, pk_eq (xs (j * 6 + i)) 0 (fun z => ?_) (fun z => ?_) (pu_Ag xs (by omega))⟩
  · rw [pu_Ag xt (by omega), e2]
    rw [z] at k
    have e3 : nI (2 * xt (j * 6 + i)) + 0 = nI (2 * xt (j * 6 + i) + 0) := nI_add _ 0
    rw [e3]
    exact k
  · rw [pu_Ag xt (by omega), e2, nI_1]
    have z1 : xs (j * 6 + i) = 1 := by omega
    rw [z1] at k
    exact k
theorem pg_setSecret {post : Int32 → St1 → Prop} {t : Nat} (hn : n ≤ 64) (ht : t < n) (h : post 1 ((nI n), (nI na), (nI nk), (nI ns), (nI t), 0, (-1), (pu_A kd), (pu_A fs), (pu_A sc), (pu_A sz), (pu_A gr), (pu_A ac), vc, (pu_A xl), (pu_A xt), (pu_A xs), (pu_A xc), (pu_A xat), (pu_A xaa), (pu_A xch), (pu_A xtw), (pu_A xds), (pu_A xtg), (pu_A xnx), (pu_A xft))) : wpX_setSecret post ((nI n), (nI na), (nI nk), (nI ns), sec, st, xal, (pu_A kd), (pu_A fs), (pu_A sc), (pu_A sz), (pu_A gr), (pu_A ac), vc, (pu_A xl), (pu_A xt), (pu_A xs), (pu_A xc), (pu_A xat), (pu_A xaa), (pu_A xch), (pu_A xtw), (pu_A xds), (pu_A xtg), (pu_A xnx), (pu_A xft)) (nI t) := by
  unfold wpX_setSecret
  exact xm_in hn ht (br_f (by decide) (xm_reset h))
theorem pg_value {post : Int32 → Prop} {v : Nat} (hv : v < 3) (ne : ¬ vc v = -1) (h : post (nI (xaa v))) : wpX_value post ((nI n), (nI na), (nI nk), (nI ns), sec, 2, xal, (pu_A kd), (pu_A fs), (pu_A sc), (pu_A sz), (pu_A gr), (pu_A ac), vc, (pu_A xl), (pu_A xt), (pu_A xs), (pu_A xc), (pu_A xat), (pu_A xaa), (pu_A xch), (pu_A xtw), (pu_A xds), (pu_A xtg), (pu_A xnx), (pu_A xft)) (nI v) := by
  have w : vp_in (nI v) 3 := vp_in_nI hv (by omega)
  have q : (nI v).toNatClampNeg = v := nI_clamp (by omega)
  refine br_t rfl (br_f (nI_pos (by omega)) (br_f (nI_ge (b := 3) hv (by omega)) ⟨w, br_f (by rw [q]; exact ne) ⟨w, ?_⟩⟩))
  rw [pu_Ag xaa (by omega)]; exact h
theorem pg_thread {post : Int32 → Prop} {i L : Nat} (hL : L ≤ 6) (hi : i < L) (h : post (nI (xat i))) : wpX_traceThread post ((nI n), (nI na), (nI nk), (nI ns), sec, 2, (nI L), (pu_A kd), (pu_A fs), (pu_A sc), (pu_A sz), (pu_A gr), (pu_A ac), vc, (pu_A xl), (pu_A xt), (pu_A xs), (pu_A xc), (pu_A xat), (pu_A xaa), (pu_A xch), (pu_A xtw), (pu_A xds), (pu_A xtg), (pu_A xnx), (pu_A xft)) (nI i) := by
  refine br_t rfl (br_f (nI_pos (by omega)) (pk_lt i L (fun _ => ⟨vp_in_nI (by omega) (by omega), ?_⟩) (fun l => by omega)))
  rw [pu_Ag xat (by omega)]; exact h
theorem pg_derivable {post : Int32 → St1 → Prop} {t : Nat} (I : ci_I kd fs sc sz gr n na ac vc) (h8 : nk ≤ 8) (hl : ∀ i, i < nk → xl i < n) (ht : t < n) (gt : gr t = 1) (d : tc_L kd fs sc n (fun x => x) (fun u => ∃ i, i < nk ∧ xl i = u) t) (h : ∀ w, post 1 ((nI n), (nI na), (nI nk), (nI ns), sec, st, xal, (pu_A kd), (pu_A fs), (pu_A sc), (pu_A sz), (pu_A gr), (pu_A ac), vc, (pu_A xl), (pu_A xt), (pu_A xs), (pu_A xc), (pu_A xat), (pu_A xaa), (pu_A xch), (pu_A w), (pu_A xds), (pu_A xtg), (pu_A xnx), (pu_A xft))) : wpX_derivable post ((nI n), (nI na), (nI nk), (nI ns), sec, st, xal, (pu_A kd), (pu_A fs), (pu_A sc), (pu_A sz), (pu_A gr), (pu_A ac), vc, (pu_A xl), (pu_A xt), (pu_A xs), (pu_A xc), (pu_A xat), (pu_A xaa), (pu_A xch), (pu_A xtw), (pu_A xds), (pu_A xtg), (pu_A xnx), (pu_A xft)) (nI t) := by
  have hn := I.1
  unfold wpX_derivable
  refine xm_in hn ht (br_f (by decide) ⟨vp_in_nI (by omega) (by omega), pk_eq (gr t) 0 (fun g0 => by omega) (fun g1 => ?_) (pu_Ag gr (by omega))⟩)
  refine ⟨n + 1, xm_kca hn (fun w hw => ?_) n 0 (n + 1) xtw (by omega) (by omega) (fun u hu => by omega)⟩
  have W : xw_W kd fs sc n w := by
    refine ⟨hn, fun u hu => ⟨by rw [hw u hu]; exact hu, (ci_kd I hu).2, ci_b I hu⟩, fun u hu k3 => ?_⟩
    obtain ⟨c1, c2, c3, _⟩ := ci_k3 I hu k3
    exact ⟨by omega, by omega⟩
  refine xm_withLearned W h8 hl (fun B0 hB0 => ?_)
  have hK : xk_K n w (fun u => ∃ a, a < nk ∧ xl a = u) B0 := by
    intro b hb
    rw [hB0 b hb]
    constructor
    · intro h
      obtain ⟨a, ha, e⟩ := h
      exact ⟨xl a, hl a ha, ⟨a, ha, rfl⟩, e⟩
    · intro h
      obtain ⟨x, _, ⟨a, ha, e1⟩, e⟩ := h
      exact ⟨a, ha, by rw [e1]; exact e⟩
  refine xm_closure W hK (fun B hB => ?_)
  refine xm_holds W ht (fun _ => ⟨rl_nn (by omega : 1 ≤ 1), h w⟩) (fun no => absurd ((hB t ht).mpr ?_) no)
  rw [cn_L (tw' := fun t => t) hw (fun u hu k3 => (W.2.2 u hu k3).2)]
  exact d
end
end
section
section
theorem lb_cell {post : Int32 → Prop} {L k : Nat} {xs : Nat → Int32} (hL : L ≤ 260) (hk : k < 1000) (h : ∀ r, post r) : wpL_cell post L xs () (nI k) :=
  pk_le L k (fun _ => h 0) (fun l => ⟨vp_in_nI l (by omega), h _⟩)
theorem lb_mod {post : Int32 → Prop} {x : Int32} {c : Nat} (h0 : 0 < c) (hc : c < 1000) (h : ∀ j, j < c → post (nI j)) : wpL_mod post () x (nI c) := by
  have tc : (nI c).toInt = (c : Int) := nI_toInt (by omega)
  have rt := rem_toInt x (nI c)
  rw [tc] at rt
  obtain ⟨b1, b2⟩ := tmod_bounds (a := x.toInt) (M := (c : Int)) (by omega)
  rw [← rt] at b1 b2
  have p0 : (0 : Int32) < nI c := nI_lt (a := 0) h0 (by omega)
  refine br_t p0 ⟨nI_ne0 h0 (by omega), nm_e (br_c (fun z => ?_) (fun z => ?_))⟩
  · obtain ⟨j, hj, e⟩ := nI_of (x := x - x / nI c * nI c) (Int32.not_lt.mpr z)
    rw [e] at b2 ⊢
    rw [nI_toInt hj] at b2
    exact h j (by omega)
  · have zn : (x - x / nI c * nI c).toInt < 0 := by
      have z2 := Int32.not_le.mp z
      have z3 := Int32.lt_iff_toInt_lt.mp z2
      exact z3
    have e : (x - x / nI c * nI c) + nI c = nI ((x - x / nI c * nI c).toInt + c).toNat := by
      apply Int32.toInt_inj.mp
      rw [Int32.toInt_add, tc, nI_toInt (by omega), Int.toNat_of_nonneg (by omega)]
      exact Int.bmod_eq_of_le (by omega) (by omega)
    rw [e]
    exact h _ (by omega)
def lb_mm (mp : Nat → Nat) : Nat → Nat
  | 0 => 0
  | t + 1 => lb_mm mp t + mp t * 2 ^ (6 * t)
theorem lb_mm_s (mp : Nat → Nat) (t : Nat) : lb_mm mp (t + 1) = lb_mm mp t + mp t * 2 ^ (6 * t) := rfl
theorem lb_mm_cg {mp mp' : Nat → Nat} : ∀ t, (∀ u, u < t → mp u = mp' u) → lb_mm mp t = lb_mm mp' t := by
  intro t
  induction t with
  | zero => intro _; rfl
  | succ t ih => intro h; rw [lb_mm_s, lb_mm_s, ih (fun u hu => h u (by omega)), h t (by omega)]
theorem lb_pow (t : Nat) : 2 ^ (6 * (t + 1)) = 2 ^ (6 * t) * 64 := by
  rw [show 6 * (t + 1) = 6 * t + 6 by omega, Nat.pow_add]
theorem lb_mm_lt {mp : Nat → Nat} : ∀ t, (∀ u, u < t → mp u < 64) → lb_mm mp t < 2 ^ (6 * t) := by
  intro t
  induction t with
  | zero => intro _; exact Nat.one_pos
  | succ t ih =>
    intro h
    have h1 := ih (fun u hu => h u (by omega))
    have h2 := h t (by omega)
    rw [lb_mm_s, lb_pow]
    have h3 : mp t * 2 ^ (6 * t) ≤ 63 * 2 ^ (6 * t) := Nat.mul_le_mul_right _ (by omega)
    omega
theorem lb_mm_get {mp : Nat → Nat} : ∀ t, (∀ u, u < t → mp u < 64) → ∀ u, u < t → lb_mm mp t / 2 ^ (6 * u) % 64 = mp u := by
  intro t
  induction t with
  | zero => intro _ u hu; omega
  | succ t ih =>
    intro h u hu
    have hm := lb_mm_lt t (fun v hv => h v (by omega))
    have hp : 0 < 2 ^ (6 * t) := Nat.two_pow_pos _
    rw [lb_mm_s]
    by_cases e : u = t
    · rw [e, Nat.add_mul_div_right _ _ hp, Nat.div_eq_of_lt hm, Nat.zero_add]
      exact Nat.mod_eq_of_lt (h t (by omega))
    · obtain ⟨r, hr⟩ : ∃ r, t = u + 1 + r := ⟨t - u - 1, by omega⟩
      have hq : 0 < 2 ^ (6 * u) := Nat.two_pow_pos _
      have ep : 2 ^ (6 * t) = 2 ^ (6 * r) * 64 * 2 ^ (6 * u) := by
        rw [show 6 * t = 6 * r + 6 + 6 * u by omega, Nat.pow_add, Nat.pow_add]
      rw [ep, ← Nat.mul_assoc, Nat.add_mul_div_right _ _ hq, ← Nat.mul_assoc, Nat.add_mul_mod_self_right]
      exact ih (fun v hv => h v (by omega)) u (by omega)
theorem lb_60 {t : Nat} (h : t ≤ 10) : 2 ^ (6 * t) ≤ 2 ^ 60 := Nat.pow_le_pow_right (by omega) (by omega)
theorem lb_get {post : Int32 → Prop} {mp : Nat → Nat} {t u : Nat} (ht : t ≤ 10) (h6 : ∀ v, v < t → mp v < 64) (hu : u < t) (h : post (nI (mp u))) : wpL_get post () (lN (lb_mm mp t)) (nI u) := by
  have hm := lb_mm_lt t h6
  have h60 := lb_60 ht
  have e1 : (6 : Int32) * nI u = nI (6 * u) := pk_mul 6 u
  have e2 : (63 : Int64) = lN (2 ^ 6 - 1) := rfl
  show post ((((lN (lb_mm mp t)).toUInt64 >>> ((6 * nI u).toInt64.toUInt64 &&& Int64.toUInt64 63)).toInt64 &&& 63).toInt32)
  rw [e1, wb_shr (by omega) (by omega), e2, wb_mask (Nat.lt_of_le_of_lt (Nat.div_le_self _ _) (by omega)) (by omega), lN_i]
  have g := lb_mm_get t h6 u hu
  have e3 : (2 : Nat) ^ 6 = 64 := rfl
  rw [e3, g]
  exact h
theorem lb_or {mp : Nat → Nat} {t id : Nat} (ht : t < 10) (h6 : ∀ v, v < t → mp v < 64) (hid : id < 64) : lN (lb_mm mp t) ||| ((nI id).toInt64 <<< ((6 * nI t).toInt64 &&& 63)) = lN (lb_mm (pu_upd mp t id) (t + 1)) := by
  have hm := lb_mm_lt t h6
  have h60 := lb_60 (by omega : t + 1 ≤ 10)
  have e1 : (6 : Int32) * nI t = nI (6 * t) := pk_mul 6 t
  rw [e1, nI_l (by omega), wb_shl id (by omega)]
  have b : id * 2 ^ (6 * t) ≤ 63 * 2 ^ (6 * t) := Nat.mul_le_mul_right _ (by omega)
  rw [lb_pow] at h60
  rw [g_or' (k := 6 * t) rfl hm (by omega), lb_mm_s, pu_us, lb_mm_cg (mp' := mp) t (fun u hu => pu_un (by omega))]
def lb_dl (Q : Nat → Nat) (i : Nat) : Nat → List Nat
  | 0 => []
  | d + 1 => Q i :: lb_dl Q (i + 1) d
theorem lb_dl_ky (Q : Nat → Nat) : ∀ d i, sk_ky (lb_dl Q i d) (sk_kA Q i) = sk_kA Q (i + d) := by
  intro d
  induction d with
  | zero => intro i; rfl
  | succ d ih =>
    intro i
    have e : sk_ky (lb_dl Q i (d + 1)) (sk_kA Q i) = sk_ky (lb_dl Q (i + 1) d) (sk_kA Q (i + 1)) := rfl
    rw [e, ih (i + 1)]
    congr 1
    omega
theorem lb_dl_d {Q : Nat → Nat} : ∀ d i, (∀ a, a < i + d → Q a < 3) → ∀ j, j ∈ lb_dl Q i d → j < 3 := by
  intro d
  induction d with
  | zero => intro i _ j hj; simp [lb_dl] at hj
  | succ d ih =>
    intro i h j hj
    have e : lb_dl Q i (d + 1) = Q i :: lb_dl Q (i + 1) d := rfl
    rw [e] at hj
    rcases List.mem_cons.mp hj with q | q
    · rw [q]; exact h i (by omega)
    · exact ih (i + 1) (fun a ha => h a (by omega)) j q
theorem lb_inj : ∀ (s s' : List Nat) (k : Nat), 1 ≤ k → (∀ j, j ∈ s → j < 3) → (∀ j, j ∈ s' → j < 3) → sk_ky s k = sk_ky s' k → s = s' := by
  intro s
  induction s with
  | nil =>
    intro s' k hk h h' e
    cases s' with
    | nil => rfl
    | cons j r =>
      have l := sk_ky_l2 [] (j :: r) k k h (by simp) (by omega)
      omega
  | cons j s ih =>
    intro s' k hk h h' e
    cases s' with
    | nil =>
      have l := sk_ky_l2 [] (j :: s) k k (fun i hi => by simp at hi) (by simp) (by omega)
      omega
    | cons j' r =>
      have hs : ∀ i, i ∈ s → i < 3 := fun i hi => h i (by simp [hi])
      have hr : ∀ i, i ∈ r → i < 3 := fun i hi => h' i (by simp [hi])
      rw [sk_ky_c, sk_ky_c] at e
      have dj : j < 3 := h j (by simp)
      have dj' : j' < 3 := h' j' (by simp)
      by_cases ll : s.length = r.length
      · by_cases q : j = j'
        · subst q
          rw [ih r (3 * k + j) (by omega) hs hr e]
        · by_cases q2 : j < j'
          · have l := sk_ky_l1 s r (3 * k + j) (3 * k + j') hs ll (by omega)
            omega
          · have l := sk_ky_l1 r s (3 * k + j') (3 * k + j) hr ll.symm (by omega)
            omega
      · by_cases q2 : s.length < r.length
        · have l := sk_ky_l2 s r (3 * k + j) (3 * k + j') hs q2 (by omega)
          omega
        · have l := sk_ky_l2 r s (3 * k + j') (3 * k + j) hr (by omega) (by omega)
          omega
end
end
section
section
variable {n na nk ns : Nat} {sec st xal : Int32} {kd fs sc sz gr ac : Nat → Nat} {vc : Nat → Int32} {xl xt xs xc xat xaa xch xtw xds xtg xnx xft : Nat → Nat}
variable {bn bna bnk bns : Nat} {bsec bst bxal : Int32} {bkd bfs bsc bsz bgr bac : Nat → Nat} {bvc : Nat → Int32} {bxl bxt bxs bxc bxat bxaa bxch bxtw bxds bxtg bxnx bxft : Nat → Nat}
def pf_A (n na nk ns s0 Lg code : Nat) (kd fs sc sz gr ac : Nat → Nat) (vc : Nat → Int32) (xl xt xs xc xat xaa : Nat → Nat) : Prop :=
  ci_I kd fs sc sz gr n na ac vc ∧ n ≤ 10 ∧ na ≤ 3 ∧ (∀ i, i < na → ac i = i) ∧ (∀ t, t < n → kd t ≠ 1 → na ≤ t) ∧ (∃ yT yS yR, sr_I n yT yS yR ns xc xt xs) ∧ (nk ≤ 2 ∧ ∀ i, i < nk → xl i < n ∧ gr (xl i) = 1) ∧ s0 < n ∧ Lg ≤ 6 ∧ (∀ i, i < Lg → xat i < 3) ∧
  (∀ t, t < n → kd t = 2 → cn_d code (fs t) < na ∧ xaa (fs t) = ac (cn_d code (fs t))) ∧
  sk_att (cn_en kd fs sc n xl nk xt xs xc (cn_tw kd fs sc n ac (cn_d code))) (cn_fn kd fs sc n xl nk xt xs s0 (cn_tw kd fs sc n ac (cn_d code))) (lb_dl xat 0 Lg) 0
variable {s0 Lg code : Nat} {mp : Nat → Nat} {post : Int32 → Prop} {L : Nat} {xss : Nat → Int32} {kc ks : Nat}
theorem pf_64 (I' : ci_I bkd bfs bsc bsz bgr bn bna bac bvc) (H : ∀ t, t < n → hm_T kd fs sc sz bkd bfs bsc bsz bgr bn ac (cn_d code) mp t) : ∀ v, v < n → mp v < 64 := fun v hv => by
  have h := (H v hv).1
  have h2 := I'.1
  omega
theorem pf_der (A : pf_A n na nk ns s0 Lg code kd fs sc sz gr ac vc xl xt xs xc xat xaa) (I' : ci_I bkd bfs bsc bsz bgr bn bna bac bvc) (H : ∀ t, t < n → hm_T kd fs sc sz bkd bfs bsc bsz bgr bn ac (cn_d code) mp t) {p t : Nat} (hK : ∀ u, u < n → sr_K xl nk xt xs p u → ∃ j, j < bnk ∧ bxl j = mp u) (h : tc_L kd fs sc n (cn_tw kd fs sc n ac (cn_d code)) (sr_K xl nk xt xs p) t) : tc_L bkd bfs bsc bn (fun x => x) (fun u => ∃ j, j < bnk ∧ bxl j = u) (mp t) :=
  hm_L A.1 I' (cn_X A.1 (cn_d code)) (fun t ht k => (A.2.2.2.2.2.2.2.2.2.2.1 t ht k).1) H hK h
theorem st_851 {J : (Int32 → Int32 → Int32 → Int32 → Int32 → Int32 → Int32 → Int32 → Int32 → Int32 → Int32 → (Nat → Int32) → (Nat → Int32) → (Nat → Int32) → (Nat → Int32) → (Nat → Int32) → (Nat → Int32) → (Nat → Int32) → (Nat → Int32) → (Nat → Int32) → (Nat → Int32) → (Nat → Int32) → (Nat → Int32) → (Nat → Int32) → (Nat → Int32) → (Nat → Int32) → (Nat → Int32) → (Nat → Int32) → (Nat → Int32) → (Nat → Int32) → Int32 → Int32 → Int32 → Int32 → Int32 → Int32 → Int32 → (Nat → Int32) → (Nat → Int32) → (Nat → Int32) → (Nat → Int32) → (Nat → Int32) → (Nat → Int32) → (Nat → Int32) → (Nat → Int32) → (Nat → Int32) → (Nat → Int32) → (Nat → Int32) → (Nat → Int32) → (Nat → Int32) → (Nat → Int32) → (Nat → Int32) → (Nat → Int32) → (Nat → Int32) → (Nat → Int32) → (Nat → Int32) → Prop)} {c0 c1 c2 : Int32} {x12 x13 x14 x15 : Int32} {q p i : Nat} (A : pf_A n na nk ns s0 Lg code kd fs sc sz gr ac vc xl xt xs xc xat xaa) (I' : ci_I bkd bfs bsc bsz bgr bn bna bac bvc) (H : ∀ t, t < n → hm_T kd fs sc sz bkd bfs bsc bsz bgr bn ac (cn_d code) mp t)
    (hq : q < 3) (hi : i < 6) (hk8 : bnk < 8) (hl : ∀ j, j < bnk → bxl j < bn) (hK : ∀ u, u < n → sr_K xl nk xt xs p u → ∃ j, j < bnk ∧ bxl j = mp u)
    (he : cn_en kd fs sc n xl nk xt xs xc (cn_tw kd fs sc n ac (cn_d code)) p q)
    (K1 : xs (q * 6 + sk_dg p q) = 1 → xt (q * 6 + sk_dg p q) < n → J c0 c1 c2 (nI (i + 1)) (nI n) (nI na) (nI nk) (nI ns) (nI s0) 2 (nI Lg) (pu_A kd) (pu_A fs) (pu_A sc) (pu_A sz) (pu_A gr) (pu_A ac) vc (pu_A xl) (pu_A xt) (pu_A xs) (pu_A xc) (pu_A xat) (pu_A xaa) (pu_A xch) (pu_A xtw) (pu_A xds) (pu_A xtg) (pu_A xnx) (pu_A xft) (nI bn) (nI bna) (nI (bnk + 1)) (nI bns) bsec 0 (-1) (pu_A bkd) (pu_A bfs) (pu_A bsc) (pu_A bsz) (pu_A bgr) (pu_A bac) bvc (pu_A (pu_upd bxl bnk (mp (xt (q * 6 + sk_dg p q))))) (pu_A bxt) (pu_A bxs) (pu_A bxc) (pu_A bxat) (pu_A bxaa) (pu_A bxch) (pu_A bxtw) (pu_A bxds) (pu_A bxtg) (pu_A bxnx) (pu_A bxft))
    (K0 : xs (q * 6 + sk_dg p q) ≠ 1 → ∀ w, J c0 c1 c2 (nI (i + 1)) (nI n) (nI na) (nI nk) (nI ns) (nI s0) 2 (nI Lg) (pu_A kd) (pu_A fs) (pu_A sc) (pu_A sz) (pu_A gr) (pu_A ac) vc (pu_A xl) (pu_A xt) (pu_A xs) (pu_A xc) (pu_A xat) (pu_A xaa) (pu_A xch) (pu_A xtw) (pu_A xds) (pu_A xtg) (pu_A xnx) (pu_A xft) (nI bn) (nI bna) (nI bnk) (nI bns) bsec bst bxal (pu_A bkd) (pu_A bfs) (pu_A bsc) (pu_A bsz) (pu_A bgr) (pu_A bac) bvc (pu_A bxl) (pu_A bxt) (pu_A bxs) (pu_A bxc) (pu_A bxat) (pu_A bxaa) (pu_A bxch) (pu_A w) (pu_A bxds) (pu_A bxtg) (pu_A bxnx) (pu_A bxft)) :
    wL_law_851 post L xss J (nI n) (lN (lb_mm mp n)) x12 x13 x14 x15 c0 c1 c2 (nI i) (nI q) (nI (sk_dg p q + 1)) kc ks (nI n) (nI na) (nI nk) (nI ns) (nI s0) 2 (nI Lg) (pu_A kd) (pu_A fs) (pu_A sc) (pu_A sz) (pu_A gr) (pu_A ac) vc (pu_A xl) (pu_A xt) (pu_A xs) (pu_A xc) (pu_A xat) (pu_A xaa) (pu_A xch) (pu_A xtw) (pu_A xds) (pu_A xtg) (pu_A xnx) (pu_A xft) (nI bn) (nI bna) (nI bnk) (nI bns) bsec bst bxal (pu_A bkd) (pu_A bfs) (pu_A bsc) (pu_A bsz) (pu_A bgr) (pu_A bac) bvc (pu_A bxl) (pu_A bxt) (pu_A bxs) (pu_A bxc) (pu_A bxat) (pu_A bxaa) (pu_A bxch) (pu_A bxtw) (pu_A bxds) (pu_A bxtg) (pu_A bxnx) (pu_A bxft) := by
  obtain ⟨A1, A2, A3, A4, A5, ⟨yT, yS, yR, S⟩, A7, A8, A9, A10, A11, A12⟩ := id A
  have h64 := pf_64 I' H
  have dl := he.1
  have xq := sm_xc S hq
  have h6 := S.1
  unfold wL_law_851
  rw [nI_pred]
  refine pg_step S (by omega) hq (by omega) (fun l t1 t2 => ?_) (fun l => by omega)
  obtain ⟨m1, m2, m3, m4, m5, m6⟩ := H _ t1
  have n1 := I'.1
  have e1 : nI (2 * xt (q * 6 + sk_dg p q) + xs (q * 6 + sk_dg p q)) >>> ((1 : Int32) &&& 31) = nI (xt (q * 6 + sk_dg p q)) := by
    rw [pk_shrN (by omega) _ 1 (by decide)]
    congr 1
    omega
  have e2 : nI (2 * xt (q * 6 + sk_dg p q) + xs (q * 6 + sk_dg p q)) &&& 1 = nI (xs (q * 6 + sk_dg p q)) := by
    rw [pk_andN (by omega) 1 (by decide)]
    congr 1
    omega
  refine br_t (nI_pos' (by omega)) (nm_r e1 (pk_lt (xt (q * 6 + sk_dg p q)) n (fun _ => lb_get A2 h64 t1 ?_) (fun l => by omega)))
  rw [e2]
  refine pk_eq (xs (q * 6 + sk_dg p q)) 1 (fun s1 => ?_) (fun s0 => ?_)
  · refine pg_learn I' (by omega) m1 (fun _ _ => br_f (by decide) (nm_r (nI_1 i) (K1 s1 t1))) (fun no => absurd ⟨m3, hk8⟩ no)
  · rcases he.2 with e | e
    · exact absurd e s0
    · exact pg_derivable I' (by omega) hl m1 m3 (pf_der A I' H hK e) (fun w => br_f (by decide) (nm_r (nI_1 i) (K0 s0 w)))
theorem st_F (A : pf_A n na nk ns s0 Lg code kd fs sc sz gr ac vc xl xt xs xc xat xaa) (I' : ci_I bkd bfs bsc bsz bgr bn bna bac bvc) (H : ∀ t, t < n → hm_T kd fs sc sz bkd bfs bsc bsz bgr bn ac (cn_d code) mp t) (hp : post 1) :
    ∀ (d i p fu bnk : Nat) (bxl bxtw : Nat → Nat) (bst bxal : Int32), i + d = Lg → d < fu → cn_ok xc p → sk_att (cn_en kd fs sc n xl nk xt xs xc (cn_tw kd fs sc n ac (cn_d code))) (cn_fn kd fs sc n xl nk xt xs s0 (cn_tw kd fs sc n ac (cn_d code))) (lb_dl xat i d) p → bnk ≤ nk + i → (∀ j, j < bnk → bxl j < bn) → (∀ u, u < n → sr_K xl nk xt xs p u → ∃ j, j < bnk ∧ bxl j = mp u) →
    wL_law_769 post L xss (nI n) (lN (lb_mm mp n)) (nI (xc 0)) (nI (xc 1)) (nI (xc 2)) (nI Lg) kc ks fu (nI (sk_dg p 0)) (nI (sk_dg p 1)) (nI (sk_dg p 2)) (nI i) (nI n) (nI na) (nI nk) (nI ns) (nI s0) 2 (nI Lg) (pu_A kd) (pu_A fs) (pu_A sc) (pu_A sz) (pu_A gr) (pu_A ac) vc (pu_A xl) (pu_A xt) (pu_A xs) (pu_A xc) (pu_A xat) (pu_A xaa) (pu_A xch) (pu_A xtw) (pu_A xds) (pu_A xtg) (pu_A xnx) (pu_A xft) (nI bn) (nI bna) (nI bnk) (nI bns) bsec bst bxal (pu_A bkd) (pu_A bfs) (pu_A bsc) (pu_A bsz) (pu_A bgr) (pu_A bac) bvc (pu_A bxl) (pu_A bxt) (pu_A bxs) (pu_A bxc) (pu_A bxat) (pu_A bxaa) (pu_A bxch) (pu_A bxtw) (pu_A bxds) (pu_A bxtg) (pu_A bxnx) (pu_A bxft) := by
  obtain ⟨A1, A2, A3, A4, A5, ⟨yT, yS, yR, S⟩, A7, A8, A9, A10, A11, A12⟩ := id A
  have h64 := pf_64 I' H
  have h6 := S.1
  have hc : ∀ j, j < 3 → xc j ≤ 6 := fun j hj => Nat.le_trans (sm_xc S hj) h6
  intro d
  induction d with
  | zero =>
    intro i p fu bnk bxl bxtw bst bxal hi hfu o at1 hk hl hK
    obtain ⟨fu, rfl⟩ : ∃ m', fu = m' + 1 := ⟨fu - 1, by omega⟩
    have f : cn_fn kd fs sc n xl nk xt xs s0 (cn_tw kd fs sc n ac (cn_d code)) p := at1
    obtain ⟨m1, m2, m3, m4, m5, m6⟩ := H _ A8
    rw [wL_law_769]
    refine br_t (nI_le (by omega) (by omega)) ?_
    refine br_f (nI_pos (by omega)) (pk_lt s0 n (fun _ => lb_get A2 h64 A8 ?_) (fun l => by omega))
    exact pg_derivable I' (by omega) hl m1 m3 (pf_der A I' H hK f) (fun w => hp)
  | succ d ih =>
    intro i p fu bnk bxl bxtw bst bxal hi hfu o at1 hk hl hK
    obtain ⟨fu, rfl⟩ : ∃ m', fu = m' + 1 := ⟨fu - 1, by omega⟩
    have at2 : xat i < 3 ∧ cn_en kd fs sc n xl nk xt xs xc (cn_tw kd fs sc n ac (cn_d code)) p (xat i) ∧ sk_att (cn_en kd fs sc n xl nk xt xs xc (cn_tw kd fs sc n ac (cn_d code))) (cn_fn kd fs sc n xl nk xt xs s0 (cn_tw kd fs sc n ac (cn_d code))) (lb_dl xat (i + 1) d) (p + sk_w (xat i)) := at1
    obtain ⟨q3, he, at3⟩ := at2
    obtain ⟨o2, d6⟩ := cn_hs hc p (xat i) o q3 he
    have dl := he.1
    have hk7 := A7.1
    have b0 := hc 0 (by omega)
    have b1 := hc 1 (by omega)
    have b2 := hc 2 (by omega)
    have g0 := o 0 (by omega)
    have g1 := o 1 (by omega)
    have g2 := o 2 (by omega)
    have K1 : ∀ (bst bxal : Int32), xs (xat i * 6 + sk_dg p (xat i)) = 1 → xt (xat i * 6 + sk_dg p (xat i)) < n → wL_law_769 post L xss (nI n) (lN (lb_mm mp n)) (nI (xc 0)) (nI (xc 1)) (nI (xc 2)) (nI Lg) kc ks fu (nI (sk_dg (p + sk_w (xat i)) 0)) (nI (sk_dg (p + sk_w (xat i)) 1)) (nI (sk_dg (p + sk_w (xat i)) 2)) (nI (i + 1)) (nI n) (nI na) (nI nk) (nI ns) (nI s0) 2 (nI Lg) (pu_A kd) (pu_A fs) (pu_A sc) (pu_A sz) (pu_A gr) (pu_A ac) vc (pu_A xl) (pu_A xt) (pu_A xs) (pu_A xc) (pu_A xat) (pu_A xaa) (pu_A xch) (pu_A xtw) (pu_A xds) (pu_A xtg) (pu_A xnx) (pu_A xft) (nI bn) (nI bna) (nI (bnk + 1)) (nI bns) bsec bst bxal (pu_A bkd) (pu_A bfs) (pu_A bsc) (pu_A bsz) (pu_A bgr) (pu_A bac) bvc (pu_A (pu_upd bxl bnk (mp (xt (xat i * 6 + sk_dg p (xat i)))))) (pu_A bxt) (pu_A bxs) (pu_A bxc) (pu_A bxat) (pu_A bxaa) (pu_A bxch) (pu_A bxtw) (pu_A bxds) (pu_A bxtg) (pu_A bxnx) (pu_A bxft) := by
      intro bst bxal s1 t1
      refine ih (i + 1) (p + sk_w (xat i)) fu (bnk + 1) _ bxtw bst bxal (by omega) (by omega) o2 at3 (by omega) (fun j hj => ?_) (fun u hu k => ?_)
      · by_cases e : j = bnk
        · rw [e, pu_us]; exact (H _ t1).1
        · rw [pu_un e]; exact hl j (by omega)
      · rw [sr_Ks q3 d6] at k
        rcases k with k | ⟨_, k⟩
        · obtain ⟨j, j1, j2⟩ := hK u hu k
          exact ⟨j, by omega, by rw [pu_un (by omega)]; exact j2⟩
        · exact ⟨bnk, by omega, by rw [pu_us, k]⟩
    have K0 : xs (xat i * 6 + sk_dg p (xat i)) ≠ 1 → ∀ w, wL_law_769 post L xss (nI n) (lN (lb_mm mp n)) (nI (xc 0)) (nI (xc 1)) (nI (xc 2)) (nI Lg) kc ks fu (nI (sk_dg (p + sk_w (xat i)) 0)) (nI (sk_dg (p + sk_w (xat i)) 1)) (nI (sk_dg (p + sk_w (xat i)) 2)) (nI (i + 1)) (nI n) (nI na) (nI nk) (nI ns) (nI s0) 2 (nI Lg) (pu_A kd) (pu_A fs) (pu_A sc) (pu_A sz) (pu_A gr) (pu_A ac) vc (pu_A xl) (pu_A xt) (pu_A xs) (pu_A xc) (pu_A xat) (pu_A xaa) (pu_A xch) (pu_A xtw) (pu_A xds) (pu_A xtg) (pu_A xnx) (pu_A xft) (nI bn) (nI bna) (nI bnk) (nI bns) bsec bst bxal (pu_A bkd) (pu_A bfs) (pu_A bsc) (pu_A bsz) (pu_A bgr) (pu_A bac) bvc (pu_A bxl) (pu_A bxt) (pu_A bxs) (pu_A bxc) (pu_A bxat) (pu_A bxaa) (pu_A bxch) (pu_A w) (pu_A bxds) (pu_A bxtg) (pu_A bxnx) (pu_A bxft) := by
      intro s1 w
      refine ih (i + 1) (p + sk_w (xat i)) fu bnk bxl w bst bxal (by omega) (by omega) o2 at3 (by omega) hl (fun u hu k => ?_)
      rw [sr_Ks q3 d6] at k
      rcases k with k | ⟨k, _⟩
      · exact hK u hu k
      · exact absurd k s1
    rw [wL_law_769]
    refine br_f (nI_ge (by omega) (by omega)) (pg_thread A9 (by omega) ?_)
    have go : ∀ (c0 c1 c2 : Nat), c0 = sk_dg (p + sk_w (xat i)) 0 → c1 = sk_dg (p + sk_w (xat i)) 1 → c2 = sk_dg (p + sk_w (xat i)) 2 → wL_law_851 post L xss (wL_law_769 post L xss (nI n) (lN (lb_mm mp n)) (nI (xc 0)) (nI (xc 1)) (nI (xc 2)) (nI Lg) kc ks fu) (nI n) (lN (lb_mm mp n)) (nI (xc 0)) (nI (xc 1)) (nI (xc 2)) (nI Lg) (nI c0) (nI c1) (nI c2) (nI i) (nI (xat i)) (nI (sk_dg p (xat i) + 1)) kc ks (nI n) (nI na) (nI nk) (nI ns) (nI s0) 2 (nI Lg) (pu_A kd) (pu_A fs) (pu_A sc) (pu_A sz) (pu_A gr) (pu_A ac) vc (pu_A xl) (pu_A xt) (pu_A xs) (pu_A xc) (pu_A xat) (pu_A xaa) (pu_A xch) (pu_A xtw) (pu_A xds) (pu_A xtg) (pu_A xnx) (pu_A xft) (nI bn) (nI bna) (nI bnk) (nI bns) bsec bst bxal (pu_A bkd) (pu_A bfs) (pu_A bsc) (pu_A bsz) (pu_A bgr) (pu_A bac) bvc (pu_A bxl) (pu_A bxt) (pu_A bxs) (pu_A bxc) (pu_A bxat) (pu_A bxaa) (pu_A bxch) (pu_A bxtw) (pu_A bxds) (pu_A bxtg) (pu_A bxnx) (pu_A bxft) := by
      intro c0 c1 c2 e0 e1 e2
      subst e0 e1 e2
      exact st_851 A I' H q3 (by omega) (by omega) hl hK he (K1 _ _) K0
    refine pk_eq (xat i) 0 (fun e => nm_r (nI_1 _) (pk_le (sk_dg p 0 + 1) (xc 0) (fun _ => ?_) (fun l => ?_))) (fun e0 => pk_eq (xat i) 1 (fun e => nm_r (nI_1 _) (pk_le (sk_dg p 1 + 1) (xc 1) (fun _ => ?_) (fun l => ?_))) (fun e1 => pk_eq (xat i) 2 (fun e => nm_r (nI_1 _) (pk_le (sk_dg p 2 + 1) (xc 2) (fun _ => ?_) (fun l => ?_))) (fun e2 => by omega)))
    · have g := go (sk_dg p 0 + 1) (sk_dg p 1) (sk_dg p 2) (by rw [e] at d6 ⊢; rw [sk_up_s (by omega) d6]) (by rw [e] at d6 ⊢; rw [sk_up_o (by omega) (by omega) (by omega) d6]) (by rw [e] at d6 ⊢; rw [sk_up_o (by omega) (by omega) (by omega) d6])
      have e3 : sk_dg p (xat i) = sk_dg p 0 := by rw [e]
      rw [e3] at g
      exact g
    · rw [e] at dl; omega
    · have g := go (sk_dg p 0) (sk_dg p 1 + 1) (sk_dg p 2) (by rw [e] at d6 ⊢; rw [sk_up_o (by omega) (by omega) (by omega) d6]) (by rw [e] at d6 ⊢; rw [sk_up_s (by omega) d6]) (by rw [e] at d6 ⊢; rw [sk_up_o (by omega) (by omega) (by omega) d6])
      have e3 : sk_dg p (xat i) = sk_dg p 1 := by rw [e]
      rw [e3] at g
      exact g
    · rw [e] at dl; omega
    · have g := go (sk_dg p 0) (sk_dg p 1) (sk_dg p 2 + 1) (by rw [e] at d6 ⊢; rw [sk_up_o (by omega) (by omega) (by omega) d6]) (by rw [e] at d6 ⊢; rw [sk_up_o (by omega) (by omega) (by omega) d6]) (by rw [e] at d6 ⊢; rw [sk_up_s (by omega) d6])
      have e3 : sk_dg p (xat i) = sk_dg p 2 := by rw [e]
      rw [e3] at g
      exact g
    · rw [e] at dl; omega
end
end
section
section
variable {n na nk ns : Nat} {sec st xal : Int32} {kd fs sc sz gr ac : Nat → Nat} {vc : Nat → Int32} {xl xt xs xc xat xaa xch xtw xds xtg xnx xft : Nat → Nat}
variable {bn bna bnk bns : Nat} {bsec bst bxal : Int32} {bkd bfs bsc bsz bgr bac : Nat → Nat} {bvc : Nat → Int32} {bxl bxt bxs bxc bxat bxaa bxch bxtw bxds bxtg bxnx bxft : Nat → Nat}
variable {s0 Lg code : Nat} {mp : Nat → Nat} {post : Int32 → Prop} {L : Nat} {xss : Nat → Int32} {kc ks : Nat}
theorem st_cnt {Q : Int32 → Prop} {k c : Nat} (r : Int32) (h : (r = -1 ∧ c ≤ k) ∨ (¬ r = -1 ∧ k < c)) (hq : Q (nI (min (k + 1) c))) : (r = -1 → Q (nI (min k c))) ∧ (¬ r = -1 → ∀ y, y = nI (min k c) + 1 → Q y) := by
  rcases h with ⟨e, l⟩ | ⟨e, l⟩
  · refine br_t e ?_
    have m : min k c = min (k + 1) c := by omega
    rw [m]; exact hq
  · refine br_f e (nm_r (nI_1 _) ?_)
    have m : min k c + 1 = min (k + 1) c := by omega
    rw [m]; exact hq
theorem st_E (A : pf_A n na nk ns s0 Lg code kd fs sc sz gr ac vc xl xt xs xc xat xaa) (I' : ci_I bkd bfs bsc bsz bgr bn bna bac bvc) (H : ∀ t, t < n → hm_T kd fs sc sz bkd bfs bsc bsz bgr bn ac (cn_d code) mp t) (hp : post 1)
    (hk : bnk ≤ nk) (hl : ∀ j, j < bnk → bxl j < bn) (hK : ∀ u, u < n → sr_K xl nk xt xs 0 u → ∃ j, j < bnk ∧ bxl j = mp u) :
    ∀ d k fu, k + d = 6 → d < fu → wL_law_682 post L xss (nI n) (lN (lb_mm mp n)) kc ks (nI n) (nI na) (nI nk) (nI ns) (nI s0) 2 (nI Lg) (pu_A kd) (pu_A fs) (pu_A sc) (pu_A sz) (pu_A gr) (pu_A ac) vc (pu_A xl) (pu_A xt) (pu_A xs) (pu_A xc) (pu_A xat) (pu_A xaa) (pu_A xch) (pu_A xtw) (pu_A xds) (pu_A xtg) (pu_A xnx) (pu_A xft) (nI bn) (nI bna) (nI bnk) (nI bns) bsec bst bxal (pu_A bkd) (pu_A bfs) (pu_A bsc) (pu_A bsz) (pu_A bgr) (pu_A bac) bvc (pu_A bxl) (pu_A bxt) (pu_A bxs) (pu_A bxc) (pu_A bxat) (pu_A bxaa) (pu_A bxch) (pu_A bxtw) (pu_A bxds) (pu_A bxtg) (pu_A bxnx) (pu_A bxft) fu (nI (min k (xc 0))) (nI (min k (xc 1))) (nI (min k (xc 2))) (nI k) := by
  obtain ⟨A1, A2, A3, A4, A5, ⟨yT, yS, yR, S⟩, A7, A8, A9, A10, A11, A12⟩ := id A
  have h6 := S.1
  have hc : ∀ j, j < 3 → xc j ≤ 6 := fun j hj => Nat.le_trans (sm_xc S hj) h6
  have c0 := hc 0 (by omega)
  have c1 := hc 1 (by omega)
  have c2 := hc 2 (by omega)
  intro d
  induction d with
  | zero =>
    intro k fu hk6 hfu
    obtain ⟨fu, rfl⟩ : ∃ m', fu = m' + 1 := ⟨fu - 1, by omega⟩
    have e : k = 6 := by omega
    subst e
    rw [wL_law_682]
    refine br_t (nI_le (a := 6) (by omega) (by omega)) (br_t rfl (br_f (nI_pos (by omega)) (pk_le Lg 6 (fun _ => ⟨Lg + 1, ?_⟩) (fun l => by omega))))
    rw [Nat.min_eq_right c0, Nat.min_eq_right c1, Nat.min_eq_right c2]
    exact st_F A I' H hp Lg 0 0 (Lg + 1) bnk bxl bxtw bst bxal (by omega) (by omega) cn_ok0 A12 (by omega) hl hK
  | succ d ih =>
    intro k fu hk6 hfu
    obtain ⟨fu, rfl⟩ : ∃ m', fu = m' + 1 := ⟨fu - 1, by omega⟩
    rw [wL_law_682]
    have nx := ih (k + 1) fu (by omega) (by omega)
    have n2 : ∀ c0' c1', c0' = nI (min (k + 1) (xc 0)) → c1' = nI (min (k + 1) (xc 1)) → wL_law_717 post L xss (wL_law_682 post L xss (nI n) (lN (lb_mm mp n)) kc ks (nI n) (nI na) (nI nk) (nI ns) (nI s0) 2 (nI Lg) (pu_A kd) (pu_A fs) (pu_A sc) (pu_A sz) (pu_A gr) (pu_A ac) vc (pu_A xl) (pu_A xt) (pu_A xs) (pu_A xc) (pu_A xat) (pu_A xaa) (pu_A xch) (pu_A xtw) (pu_A xds) (pu_A xtg) (pu_A xnx) (pu_A xft) (nI bn) (nI bna) (nI bnk) (nI bns) bsec bst bxal (pu_A bkd) (pu_A bfs) (pu_A bsc) (pu_A bsz) (pu_A bgr) (pu_A bac) bvc (pu_A bxl) (pu_A bxt) (pu_A bxs) (pu_A bxc) (pu_A bxat) (pu_A bxaa) (pu_A bxch) (pu_A bxtw) (pu_A bxds) (pu_A bxtg) (pu_A bxnx) (pu_A bxft) fu) (nI n) (lN (lb_mm mp n)) c0' c1' (nI (min k (xc 2))) (nI k) kc ks (nI n) (nI na) (nI nk) (nI ns) (nI s0) 2 (nI Lg) (pu_A kd) (pu_A fs) (pu_A sc) (pu_A sz) (pu_A gr) (pu_A ac) vc (pu_A xl) (pu_A xt) (pu_A xs) (pu_A xc) (pu_A xat) (pu_A xaa) (pu_A xch) (pu_A xtw) (pu_A xds) (pu_A xtg) (pu_A xnx) (pu_A xft) (nI bn) (nI bna) (nI bnk) (nI bns) bsec bst bxal (pu_A bkd) (pu_A bfs) (pu_A bsc) (pu_A bsz) (pu_A bgr) (pu_A bac) bvc (pu_A bxl) (pu_A bxt) (pu_A bxs) (pu_A bxc) (pu_A bxat) (pu_A bxaa) (pu_A bxch) (pu_A bxtw) (pu_A bxds) (pu_A bxtg) (pu_A bxnx) (pu_A bxft) := by
      intro c0' c1' e0 e1
      subst e0 e1
      unfold wL_law_717
      refine pg_step (j := 2) S (by omega) (by omega) (by omega) (fun l t1 t2 => br_f (gw_m1 (by omega)) (nm_r (nI_1 _) (nm_r (nI_1 k) ?_))) (fun l => br_t rfl (nm_r (nI_1 k) ?_))
      · have m : min k (xc 2) + 1 = min (k + 1) (xc 2) := by omega
        rw [m]; exact nx
      · have m : min k (xc 2) = min (k + 1) (xc 2) := by omega
        rw [m]; exact nx
    have n1 : ∀ c0', c0' = nI (min (k + 1) (xc 0)) → wL_law_703 post L xss (wL_law_682 post L xss (nI n) (lN (lb_mm mp n)) kc ks (nI n) (nI na) (nI nk) (nI ns) (nI s0) 2 (nI Lg) (pu_A kd) (pu_A fs) (pu_A sc) (pu_A sz) (pu_A gr) (pu_A ac) vc (pu_A xl) (pu_A xt) (pu_A xs) (pu_A xc) (pu_A xat) (pu_A xaa) (pu_A xch) (pu_A xtw) (pu_A xds) (pu_A xtg) (pu_A xnx) (pu_A xft) (nI bn) (nI bna) (nI bnk) (nI bns) bsec bst bxal (pu_A bkd) (pu_A bfs) (pu_A bsc) (pu_A bsz) (pu_A bgr) (pu_A bac) bvc (pu_A bxl) (pu_A bxt) (pu_A bxs) (pu_A bxc) (pu_A bxat) (pu_A bxaa) (pu_A bxch) (pu_A bxtw) (pu_A bxds) (pu_A bxtg) (pu_A bxnx) (pu_A bxft) fu) (nI n) (lN (lb_mm mp n)) c0' (nI (min k (xc 1))) (nI (min k (xc 2))) (nI k) kc ks (nI n) (nI na) (nI nk) (nI ns) (nI s0) 2 (nI Lg) (pu_A kd) (pu_A fs) (pu_A sc) (pu_A sz) (pu_A gr) (pu_A ac) vc (pu_A xl) (pu_A xt) (pu_A xs) (pu_A xc) (pu_A xat) (pu_A xaa) (pu_A xch) (pu_A xtw) (pu_A xds) (pu_A xtg) (pu_A xnx) (pu_A xft) (nI bn) (nI bna) (nI bnk) (nI bns) bsec bst bxal (pu_A bkd) (pu_A bfs) (pu_A bsc) (pu_A bsz) (pu_A bgr) (pu_A bac) bvc (pu_A bxl) (pu_A bxt) (pu_A bxs) (pu_A bxc) (pu_A bxat) (pu_A bxaa) (pu_A bxch) (pu_A bxtw) (pu_A bxds) (pu_A bxtg) (pu_A bxnx) (pu_A bxft) := by
      intro c0' e0
      unfold wL_law_703
      refine pg_step (j := 1) S (by omega) (by omega) (by omega) (fun l t1 t2 => br_f (gw_m1 (by omega)) (nm_r (nI_1 _) (n2 _ _ e0 ?_))) (fun l => br_t rfl (n2 _ _ e0 ?_))
      · congr 1; omega
      · congr 1; omega
    refine br_f (nI_ge (b := 6) (by omega) (by omega)) (pg_step (j := 0) S (by omega) (by omega) (by omega) (fun l t1 t2 => br_f (gw_m1 (by omega)) (nm_r (nI_1 _) (n1 _ ?_))) (fun l => br_t rfl (n1 _ ?_)))
    · congr 1; omega
    · congr 1; omega
theorem st_D (A : pf_A n na nk ns s0 Lg code kd fs sc sz gr ac vc xl xt xs xc xat xaa) (I' : ci_I bkd bfs bsc bsz bgr bn bna bac bvc) (H : ∀ t, t < n → hm_T kd fs sc sz bkd bfs bsc bsz bgr bn ac (cn_d code) mp t) (hp : post 1) :
    ∀ (d i fu : Nat) (bxl : Nat → Nat) (bst bxal : Int32), i + d = nk → d < fu → (∀ j, j < i → bxl j = mp (xl j)) → wL_law_620 post L xss (nI n) (lN (lb_mm mp n)) kc ks fu (nI i) (nI n) (nI na) (nI nk) (nI ns) (nI s0) 2 (nI Lg) (pu_A kd) (pu_A fs) (pu_A sc) (pu_A sz) (pu_A gr) (pu_A ac) vc (pu_A xl) (pu_A xt) (pu_A xs) (pu_A xc) (pu_A xat) (pu_A xaa) (pu_A xch) (pu_A xtw) (pu_A xds) (pu_A xtg) (pu_A xnx) (pu_A xft) (nI bn) (nI bna) (nI i) (nI bns) bsec bst bxal (pu_A bkd) (pu_A bfs) (pu_A bsc) (pu_A bsz) (pu_A bgr) (pu_A bac) bvc (pu_A bxl) (pu_A bxt) (pu_A bxs) (pu_A bxc) (pu_A bxat) (pu_A bxaa) (pu_A bxch) (pu_A bxtw) (pu_A bxds) (pu_A bxtg) (pu_A bxnx) (pu_A bxft) := by
  obtain ⟨A1, A2, A3, A4, A5, A6, A7, A8, A9, A10, A11, A12⟩ := id A
  have h64 := pf_64 I' H
  intro d
  induction d with
  | zero =>
    intro i fu bxl bst bxal hi hfu hx
    obtain ⟨fu, rfl⟩ : ∃ m', fu = m' + 1 := ⟨fu - 1, by omega⟩
    have e : i = nk := by omega
    subst e
    rw [wL_law_620]
    refine br_f (nI_ge (b := 8) (by omega) (by omega)) (pg_known (by omega) (by omega) (fun l => by omega) (fun l => br_f (by decide) ⟨7, ?_⟩))
    refine st_E A I' H hp (Nat.le_refl _) (fun j hj => ?_) (fun u hu k => ?_) 6 0 7 (by omega) (by omega)
    · rw [hx j hj]; exact (H _ (A7.2 j hj).1).1
    · obtain ⟨a, h1, h2⟩ := sr_K0.mp k
      exact ⟨a, h1, by rw [hx a h1, h2]⟩
  | succ d ih =>
    intro i fu bxl bst bxal hi hfu hx
    obtain ⟨fu, rfl⟩ : ∃ m', fu = m' + 1 := ⟨fu - 1, by omega⟩
    have xi := A7.2 i (by omega)
    obtain ⟨m1, m2, m3, m4, m5, m6⟩ := H _ xi.1
    rw [wL_law_620]
    refine br_f (nI_ge (b := 8) (by omega) (by omega)) (pg_known (by omega) (by omega) (fun l => br_t (nI_pos' (by omega)) (pk_lt (xl i) n (fun _ => lb_get A2 h64 xi.1 ?_) (fun l => by omega))) (fun l => by omega))
    refine pg_learn I' (by omega) m1 (fun _ _ => nm_r (nI_1 i) (ih (i + 1) fu _ _ _ (by omega) (by omega) (fun j hj => ?_))) (fun no => absurd ⟨m3, by omega⟩ no)
    by_cases e : j = i
    · rw [e, pu_us]
    · rw [pu_un e]; exact hx j (by omega)
end
end
section
section
variable {n na nk ns : Nat} {sec st xal : Int32} {kd fs sc sz gr ac : Nat → Nat} {vc : Nat → Int32} {xl xt xs xc xat xaa xch xtw xds xtg xnx xft : Nat → Nat}
variable {bn bna bnk bns : Nat} {bsec bst bxal : Int32} {bkd bfs bsc bsz bgr bac : Nat → Nat} {bvc : Nat → Int32} {bxl bxt bxs bxc bxat bxaa bxch bxtw bxds bxtg bxnx bxft : Nat → Nat}
variable {s0 Lg code : Nat} {mp : Nat → Nat} {post : Int32 → Prop} {L : Nat} {xss : Nat → Int32} {kc ks : Nat}
theorem st_mp {t x : Nat} (A : pf_A n na nk ns s0 Lg code kd fs sc sz gr ac vc xl xt xs xc xat xaa) (ht : t < n) (H : ∀ u, u < t → hm_T kd fs sc sz bkd bfs bsc bsz bgr bn ac (cn_d code) mp u) : ∀ u, u < t → hm_T kd fs sc sz bkd bfs bsc bsz bgr bn ac (cn_d code) (pu_upd mp t x) u := by
  obtain ⟨A1, A2, A3, A4, A5, A6, A7, A8, A9, A10, A11, A12⟩ := A
  intro u hu
  obtain ⟨m1, m2, m3, m4, m5, m6⟩ := H u hu
  have e : pu_upd mp t x u = mp u := pu_un (by omega)
  refine ⟨by rw [e]; exact m1, by rw [e]; exact m2, by rw [e]; exact m3, fun k => by rw [e]; exact m4 k, fun k => ?_, fun k => ?_⟩
  · have d := (A11 u (by omega) k).1
    have a := A4 _ d
    have na1 := A5 u (by omega) (by omega)
    rw [e, pu_un (by omega)]
    exact m5 k
  · obtain ⟨c1, c2, c3, _⟩ := ci_k3 A1 (by omega : u < n) k
    rw [e, pu_un (by omega), pu_un (by omega)]
    exact m6 k
theorem st_grow {t bn' : Nat} {kd' fs' sc' sz' gr' : Nat → Nat} (hb : bn ≤ bn') (ek : ∀ t, t < bn → kd' t = bkd t) (ef : ∀ t, t < bn → fs' t = bfs t) (es : ∀ t, t < bn → sc' t = bsc t) (ez : ∀ t, t < bn → sz' t = bsz t) (eg : ∀ t, t < bn → gr' t = bgr t) (H : ∀ u, u < t → hm_T kd fs sc sz bkd bfs bsc bsz bgr bn ac (cn_d code) mp u) : ∀ u, u < t → hm_T kd fs sc sz kd' fs' sc' sz' gr' bn' ac (cn_d code) mp u := by
  intro u hu
  obtain ⟨m1, m2, m3, m4, m5, m6⟩ := H u hu
  refine ⟨by omega, by rw [ez _ m1]; exact m2, by rw [eg _ m1]; exact m3, fun k => by rw [ek _ m1, es _ m1]; exact m4 k, m5, fun k => by rw [ek _ m1, ef _ m1, es _ m1]; exact m6 k⟩
theorem st_583 {J : (Int64 → Int32 → Int32 → Int32 → Int32 → Int32 → Int32 → Int32 → Int32 → (Nat → Int32) → (Nat → Int32) → (Nat → Int32) → (Nat → Int32) → (Nat → Int32) → (Nat → Int32) → (Nat → Int32) → (Nat → Int32) → (Nat → Int32) → (Nat → Int32) → (Nat → Int32) → (Nat → Int32) → (Nat → Int32) → (Nat → Int32) → (Nat → Int32) → (Nat → Int32) → (Nat → Int32) → (Nat → Int32) → (Nat → Int32) → Int32 → Int32 → Int32 → Int32 → Int32 → Int32 → Int32 → (Nat → Int32) → (Nat → Int32) → (Nat → Int32) → (Nat → Int32) → (Nat → Int32) → (Nat → Int32) → (Nat → Int32) → (Nat → Int32) → (Nat → Int32) → (Nat → Int32) → (Nat → Int32) → (Nat → Int32) → (Nat → Int32) → (Nat → Int32) → (Nat → Int32) → (Nat → Int32) → (Nat → Int32) → (Nat → Int32) → (Nat → Int32) → Prop)} {t id : Nat} (hn : n ≤ 10) (ht : t < n) (h6 : ∀ v, v < t → mp v < 64) (hid : id < 64) (K : J (lN (lb_mm (pu_upd mp t id) (t + 1))) (nI (t + 1)) (nI n) (nI na) (nI nk) (nI ns) (nI s0) 2 (nI Lg) (pu_A kd) (pu_A fs) (pu_A sc) (pu_A sz) (pu_A gr) (pu_A ac) vc (pu_A xl) (pu_A xt) (pu_A xs) (pu_A xc) (pu_A xat) (pu_A xaa) (pu_A xch) (pu_A xtw) (pu_A xds) (pu_A xtg) (pu_A xnx) (pu_A xft) (nI bn) (nI bna) (nI bnk) (nI bns) bsec bst bxal (pu_A bkd) (pu_A bfs) (pu_A bsc) (pu_A bsz) (pu_A bgr) (pu_A bac) bvc (pu_A bxl) (pu_A bxt) (pu_A bxs) (pu_A bxc) (pu_A bxat) (pu_A bxaa) (pu_A bxch) (pu_A bxtw) (pu_A bxds) (pu_A bxtg) (pu_A bxnx) (pu_A bxft)) : wL_law_583 post L xss J (nI n) (lN (lb_mm mp t)) (nI t) (nI id) kc ks (nI n) (nI na) (nI nk) (nI ns) (nI s0) 2 (nI Lg) (pu_A kd) (pu_A fs) (pu_A sc) (pu_A sz) (pu_A gr) (pu_A ac) vc (pu_A xl) (pu_A xt) (pu_A xs) (pu_A xc) (pu_A xat) (pu_A xaa) (pu_A xch) (pu_A xtw) (pu_A xds) (pu_A xtg) (pu_A xnx) (pu_A xft) (nI bn) (nI bna) (nI bnk) (nI bns) bsec bst bxal (pu_A bkd) (pu_A bfs) (pu_A bsc) (pu_A bsz) (pu_A bgr) (pu_A bac) bvc (pu_A bxl) (pu_A bxt) (pu_A bxs) (pu_A bxc) (pu_A bxat) (pu_A bxaa) (pu_A bxch) (pu_A bxtw) (pu_A bxds) (pu_A bxtg) (pu_A bxnx) (pu_A bxft) :=
  br_f (nI_pos (by omega)) (pk_le id 63 (fun _ => nm_r (lb_or (by omega) h6 hid) (nm_r (nI_1 t) K)) (fun l => by omega))
theorem st_C (A : pf_A n na nk ns s0 Lg code kd fs sc sz gr ac vc xl xt xs xc xat xaa) (hp : post 1) :
    ∀ (d t fu bn bna : Nat) (bst bxal : Int32) (bkd bfs bsc bsz bgr bac mp : Nat → Nat), t + d = n → d < fu → bn ≤ t → bna ≤ t → ci_I bkd bfs bsc bsz bgr bn bna bac bvc → (∀ u, u < t → hm_T kd fs sc sz bkd bfs bsc bsz bgr bn ac (cn_d code) mp u) → wL_law_390 post L xss (nI n) kc ks fu (lN (lb_mm mp t)) (nI t) (nI n) (nI na) (nI nk) (nI ns) (nI s0) 2 (nI Lg) (pu_A kd) (pu_A fs) (pu_A sc) (pu_A sz) (pu_A gr) (pu_A ac) vc (pu_A xl) (pu_A xt) (pu_A xs) (pu_A xc) (pu_A xat) (pu_A xaa) (pu_A xch) (pu_A xtw) (pu_A xds) (pu_A xtg) (pu_A xnx) (pu_A xft) (nI bn) (nI bna) 0 (nI bns) bsec bst bxal (pu_A bkd) (pu_A bfs) (pu_A bsc) (pu_A bsz) (pu_A bgr) (pu_A bac) bvc (pu_A bxl) (pu_A bxt) (pu_A bxs) (pu_A bxc) (pu_A bxat) (pu_A bxaa) (pu_A bxch) (pu_A bxtw) (pu_A bxds) (pu_A bxtg) (pu_A bxnx) (pu_A bxft) := by
  obtain ⟨A1, A2, A3, A4, A5, A6, A7, A8, A9, A10, A11, A12⟩ := id A
  intro d
  induction d with
  | zero =>
    intro t fu bn bna bst bxal bkd bfs bsc bsz bgr bac mp ht hfu hbn hbna I' H
    obtain ⟨fu, rfl⟩ : ∃ m', fu = m' + 1 := ⟨fu - 1, by omega⟩
    have e : t = n := by omega
    subst e
    rw [wL_law_390]
    exact br_t (nI_le (Nat.le_refl t) (by omega)) ⟨nk + 1, st_D A I' H hp nk 0 (nk + 1) bxl bst bxal (by omega) (by omega) (fun j hj => by omega)⟩
  | succ d ih =>
    intro t fu bn bna bst bxal bkd bfs bsc bsz bgr bac mp ht hfu hbn hbna I' H
    obtain ⟨fu, rfl⟩ : ∃ m', fu = m' + 1 := ⟨fu - 1, by omega⟩
    have ht' : t < n := by omega
    have h64 : ∀ v, v < t → mp v < 64 := fun v hv => by have h := (H v hv).1; omega
    have kk := ci_kd A1 ht'
    have bb := ci_b A1 ht'
    rw [wL_law_390]
    refine br_f (nI_ge ht' (by omega)) (pg_cell0 (by omega) ht' (pk_eq (kd t) 1 (fun k1 => ?_) (fun k1 => pk_eq (kd t) 2 (fun k2 => ?_) (fun k2 => ?_))))
    · obtain ⟨f1, f2, f3, f4, f5⟩ := ci_k1 A1 ht' k1
      have t3 : t < na := by
        have h := A4 _ f1
        omega
      have go : ∀ b, b = sc t → wL_law_429 post L xss (wL_law_390 post L xss (nI n) kc ks fu) (nI n) (lN (lb_mm mp t)) (nI t) (nI b) kc ks (nI n) (nI na) (nI nk) (nI ns) (nI s0) 2 (nI Lg) (pu_A kd) (pu_A fs) (pu_A sc) (pu_A sz) (pu_A gr) (pu_A ac) vc (pu_A xl) (pu_A xt) (pu_A xs) (pu_A xc) (pu_A xat) (pu_A xaa) (pu_A xch) (pu_A xtw) (pu_A xds) (pu_A xtg) (pu_A xnx) (pu_A xft) (nI bn) (nI bna) 0 (nI bns) bsec bst bxal (pu_A bkd) (pu_A bfs) (pu_A bsc) (pu_A bsz) (pu_A bgr) (pu_A bac) bvc (pu_A bxl) (pu_A bxt) (pu_A bxs) (pu_A bxc) (pu_A bxat) (pu_A bxaa) (pu_A bxch) (pu_A bxtw) (pu_A bxds) (pu_A bxtg) (pu_A bxnx) (pu_A bxft) := by
        intro b eb
        unfold wL_law_429
        refine pg_atom (nk := 0) (b := b) (by omega) (by omega) (by omega) (st_583 A2 ht' h64 (by omega) (ih (t + 1) fu (bn + 1) (bna + 1) _ _ _ _ _ _ _ _ _ (by omega) (by omega) (by omega) (by omega) (gw_atom I' (by omega) (by omega) (by omega)) (fun u hu => ?_)))
        by_cases e : u = t
        · subst e
          refine ⟨by rw [pu_us]; omega, by rw [pu_us, pu_us]; exact f4.symm, by rw [pu_us, pu_us], fun _ => ?_, fun k => by omega, fun k => by omega⟩
          rw [pu_us, pu_us, pu_us]
          exact ⟨rfl, eb⟩
        · exact st_grow (by omega) (fun x hx => pu_un (by omega)) (fun x hx => pu_un (by omega)) (fun x hx => pu_un (by omega)) (fun x hx => pu_un (by omega)) (fun x hx => pu_un (by omega)) (st_mp A ht' H) u (by omega)
      refine pg_cell2 (by omega) ht' (pk_eq (sc t) 1 (fun s1 => ?_) (fun s1 => ?_))
      · exact go 1 s1.symm
      · exact go 0 (by omega)
    · obtain ⟨f1, f2, f3, f4, f5⟩ := ci_k2 A1 ht' k2
      obtain ⟨d1, d2⟩ := A11 t ht' k2
      have ad := A4 _ d1
      have nat := A5 t ht' (by omega)
      obtain ⟨a1, a2, a3⟩ := A1.2.2.2.1 _ d1
      have ne : ¬ vc (fs t) = -1 := by rw [f2]; exact gw_m1 (by omega)
      have Ha := H (ac (cn_d code (fs t))) (by omega)
      have sa := (ci_k1 A1 a1 a2).2.2.2.1
      refine pg_cell1 (by omega) ht' (pg_value f1 ne ?_)
      rw [d2]
      refine br_f (nI_pos (by omega)) (pk_le t (ac (cn_d code (fs t))) (fun l => by omega) (fun _ => pg_cell0 (by omega) a1 (pk_eq (kd (ac (cn_d code (fs t)))) 1 (fun _ => lb_get (by omega) h64 (by omega) (st_583 A2 ht' h64 (by have h := Ha.1; omega) (ih (t + 1) fu bn bna bst bxal bkd bfs bsc bsz bgr bac _ (by omega) (by omega) (by omega) (by omega) I' (fun u hu => ?_)))) (fun l => absurd a2 l))))
      by_cases e : u = t
      · subst e
        refine ⟨by rw [pu_us]; exact Ha.1, by rw [pu_us, Ha.2.1, sa, f4], by rw [pu_us]; exact Ha.2.2.1, fun k => by omega, fun _ => by rw [pu_us, pu_un (by omega)], fun k => by omega⟩
      · exact st_mp A ht' H u (by omega)
    · have k3 : 3 ≤ kd t := by omega
      obtain ⟨c1, c2, c3, c4, c5, c6, c7⟩ := ci_k3 A1 ht' k3
      obtain ⟨p1, p2, p3, p4, p5, p6⟩ := H (fs t) c2
      obtain ⟨q1, q2, q3, q4, q5, q6⟩ := H (sc t) c3
      have go : wL_law_511 post L xss (wL_law_390 post L xss (nI n) kc ks fu) (nI n) (lN (lb_mm mp t)) (nI t) (nI (kd t)) kc ks (nI n) (nI na) (nI nk) (nI ns) (nI s0) 2 (nI Lg) (pu_A kd) (pu_A fs) (pu_A sc) (pu_A sz) (pu_A gr) (pu_A ac) vc (pu_A xl) (pu_A xt) (pu_A xs) (pu_A xc) (pu_A xat) (pu_A xaa) (pu_A xch) (pu_A xtw) (pu_A xds) (pu_A xtg) (pu_A xnx) (pu_A xft) (nI bn) (nI bna) 0 (nI bns) bsec bst bxal (pu_A bkd) (pu_A bfs) (pu_A bsc) (pu_A bsz) (pu_A bgr) (pu_A bac) bvc (pu_A bxl) (pu_A bxt) (pu_A bxs) (pu_A bxc) (pu_A bxat) (pu_A bxaa) (pu_A bxch) (pu_A bxtw) (pu_A bxds) (pu_A bxtg) (pu_A bxnx) (pu_A bxft) := by
        unfold wL_law_511
        refine pg_cell1 (by omega) ht' (pg_cell2 (by omega) ht' (br_f (nI_pos (by omega)) (pk_le t (fs t) (fun l => by omega) (fun _ => br_f (nI_pos (by omega)) (pk_lt (sc t) t (fun _ => lb_get (by omega) h64 c2 (lb_get (by omega) h64 c3 ?_)) (fun l => by omega))))))
        refine pg_compose (nk := 0) I' (by omega) k3 c1 p1 q1 (fun l => by omega) (fun u hu m => st_583 A2 ht' h64 (by omega) (ih (t + 1) fu bn bna bst bxal bkd bfs bsc bsz bgr bac _ (by omega) (by omega) (by omega) (by omega) I' (fun v hv => ?_))) (fun l no g hg hg' => st_583 A2 ht' h64 (by omega) (ih (t + 1) fu (bn + 1) bna bst bxal _ _ _ _ _ bac _ (by omega) (by omega) (by omega) (by omega) (gw_comp I' (by omega) k3 c1 p1 q1 l hg hg' no) (fun v hv => ?_)))
        · by_cases e : v = t
          · subst e
            obtain ⟨z1, z2, z3, z4, z5, z6, z7⟩ := ci_k3 I' hu (by omega)
            refine ⟨by rw [pu_us]; exact hu, ?_, ?_, fun k => by omega, fun k => by omega, fun _ => ?_⟩
            · rw [pu_us, z4, m.2.1, m.2.2, p2, q2]; exact c4.symm
            · rw [pu_us]; exact z6.mpr ⟨by rw [m.2.1]; exact p3, by rw [m.2.2]; exact q3⟩
            · rw [pu_us, pu_un (by omega), pu_un (by omega)]; exact m
          · exact st_mp A ht' H v (by omega)
        · by_cases e : v = t
          · subst e
            refine ⟨by rw [pu_us]; omega, ?_, ?_, fun k => by omega, fun k => by omega, fun _ => ?_⟩
            · rw [pu_us, pu_us, p2, q2]; exact c4.symm
            · rw [pu_us, pu_us]; exact hg'.mpr ⟨p3, q3⟩
            · rw [pu_us, pu_us, pu_us, pu_us, pu_un (by omega), pu_un (by omega)]; exact ⟨rfl, rfl, rfl⟩
          · exact st_grow (by omega) (fun x hx => pu_un (by omega)) (fun x hx => pu_un (by omega)) (fun x hx => pu_un (by omega)) (fun x hx => pu_un (by omega)) (fun x hx => pu_un (by omega)) (st_mp A ht' H) v (by omega)
      exact pk_eq (kd t) 3 (fun _ => go) (fun e3 => pk_eq (kd t) 4 (fun _ => go) (fun e4 => pk_eq (kd t) 5 (fun _ => go) (fun e5 => by omega)))
end
end
section
section
def pa_I (n na nk ns : Nat) (kd fs sc sz gr ac : Nat → Nat) (vc : Nat → Int32) (xl xt xs xc : Nat → Nat) : Prop :=
  ci_I kd fs sc sz gr n na ac vc ∧ (∀ i, i < na → ac i = i) ∧ (∀ t, t < n → kd t ≠ 1 → na ≤ t) ∧ (∃ yT yS yR, sr_I n yT yS yR ns xc xt xs) ∧ (∀ i, i < nk → xl i < n ∧ gr (xl i) = 1)
variable {n na nk ns : Nat} {sec st xal : Int32} {kd fs sc sz gr ac : Nat → Nat} {vc : Nat → Int32} {xl xt xs xc xat xaa xch xtw xds xtg xnx xft : Nat → Nat}
variable {post : Int32 → Prop} {L : Nat} {xss : Nat → Int32} {kc ks : Nat}
theorem pa_atom {b : Nat} (P : pa_I n na nk ns kd fs sc sz gr ac vc xl xt xs xc) (e : n = na) (ha : na < 8) (hb : b ≤ 1) : pa_I (n + 1) (na + 1) nk ns (pu_upd kd n 1) (pu_upd fs n na) (pu_upd sc n b) (pu_upd sz n 1) (pu_upd gr n 1) (pu_upd ac na n) vc xl xt xs xc := by
  obtain ⟨P1, P2, P3, ⟨yT, yS, yR, S⟩, P5⟩ := P
  refine ⟨gw_atom P1 (by omega) ha hb, fun i hi => ?_, fun t ht k => ?_, ⟨yT, yS, yR, sr_up (by omega) S⟩, fun i hi => ?_⟩
  · by_cases q : i = na
    · rw [q, pu_us]; exact e
    · rw [pu_un q]; exact P2 i (by omega)
  · by_cases q : t = n
    · rw [q, pu_us] at k; omega
    · rw [pu_un q] at k
      have h := P3 t (by omega) k
      omega
  · obtain ⟨h1, h2⟩ := P5 i hi
    exact ⟨by omega, by rw [pu_un (by omega)]; exact h2⟩
theorem pa_var {j : Nat} (P : pa_I n na nk ns kd fs sc sz gr ac vc xl xt xs xc) (hn : n < 64) (hna : na ≤ n) (hj : j < 3) (z : vc j = -1) : pa_I (n + 1) na nk ns (pu_upd kd n 2) (pu_upd fs n j) (pu_upd sc n 0) (pu_upd sz n 1) (pu_upd gr n 0) ac (upd vc j (nI n)) xl xt xs xc := by
  obtain ⟨P1, P2, P3, ⟨yT, yS, yR, S⟩, P5⟩ := P
  refine ⟨gw_var P1 hn hj z, P2, fun t ht k => ?_, ⟨yT, yS, yR, sr_up (by omega) S⟩, fun i hi => ?_⟩
  · by_cases q : t = n
    · omega
    · rw [pu_un q] at k
      exact P3 t (by omega) k
  · obtain ⟨h1, h2⟩ := P5 i hi
    exact ⟨by omega, by rw [pu_un (by omega)]; exact h2⟩
theorem pa_comp {o a b g : Nat} (P : pa_I n na nk ns kd fs sc sz gr ac vc xl xt xs xc) (hn : n < 64) (hna : na ≤ n) (o3 : 3 ≤ o) (o5 : o ≤ 5) (ha : a < n) (hb : b < n) (hs : 1 + sz a + sz b ≤ 32) (hg : g ≤ 1) (hg' : g = 1 ↔ gr a = 1 ∧ gr b = 1) (no : ∀ t, t < n → ¬ (kd t = o ∧ fs t = a ∧ sc t = b)) : pa_I (n + 1) na nk ns (pu_upd kd n o) (pu_upd fs n a) (pu_upd sc n b) (pu_upd sz n (1 + sz a + sz b)) (pu_upd gr n g) ac vc xl xt xs xc := by
  obtain ⟨P1, P2, P3, ⟨yT, yS, yR, S⟩, P5⟩ := P
  refine ⟨gw_comp P1 hn o3 o5 ha hb hs hg hg' no, P2, fun t ht k => ?_, ⟨yT, yS, yR, sr_up (by omega) S⟩, fun i hi => ?_⟩
  · by_cases q : t = n
    · omega
    · rw [pu_un q] at k
      exact P3 t (by omega) k
  · obtain ⟨h1, h2⟩ := P5 i hi
    exact ⟨by omega, by rw [pu_un (by omega)]; exact h2⟩
theorem pg_i190 {post : St1 → Prop} {mc ms kc ks : Nat} {f1 f2 f3 f4 f5 f6 f7 : Int32} {a1 a2 a3 a4 a5 a6 a8 a9 a10 a11 a12 a13 a14 a15 a16 a17 a18 a19 : Nat → Int32} (K : ∀ w', (∀ j, j < 3 → w' j = -1) → post (f1, f2, f3, f4, f5, f6, f7, a1, a2, a3, a4, a5, a6, w', a8, a9, a10, a11, a12, a13, a14, a15, a16, a17, a18, a19)) : ∀ d i m (w : Nat → Int32), i + d = 3 → d < m → (∀ j, j < i → w j = -1) → wX_init_190 post mc ms kc ks f1 f2 f3 f4 f5 f6 f7 m (nI i) a1 a2 a3 a4 a5 a6 w a8 a9 a10 a11 a12 a13 a14 a15 a16 a17 a18 a19 := by
  intro d
  induction d with
  | zero =>
    intro i m w hi hm hw
    obtain ⟨m, rfl⟩ : ∃ m', m = m' + 1 := ⟨m - 1, by omega⟩
    have e : i = 3 := by omega
    subst e
    rw [wX_init_190]
    exact br_t (nI_le (Nat.le_refl 3) (by omega)) (K w hw)
  | succ d ih =>
    intro i m w hi hm hw
    obtain ⟨m, rfl⟩ : ∃ m', m = m' + 1 := ⟨m - 1, by omega⟩
    rw [wX_init_190]
    refine br_f (nI_ge (b := 3) (by omega) (by omega)) ⟨vp_in_nI (by omega) (by omega), nm_r (e' := upd w i (-1)) (by rw [nI_clamp (by omega)]) (nm_r (nI_1 i) (ih (i + 1) m _ (by omega) (by omega) (fun j hj => ?_)))⟩
    by_cases q : j = i
    · rw [q]; exact pk_us
    · rw [pk_un q]; exact hw j (by omega)
theorem pg_init {post : St1 → Prop} (K : ∀ vc : Nat → Int32, (∀ j, j < 3 → vc j = -1) → post ((nI 0), (nI 0), (nI 0), (nI 0), (-1), 0, (-1), (pu_A gw_0), (pu_A gw_0), (pu_A gw_0), (pu_A gw_0), (pu_A gw_0), (pu_A gw_0), vc, (pu_A gw_0), (pu_A gw_0), (pu_A gw_0), (pu_A gw_0), (pu_A gw_0), (pu_A gw_0), (pu_A gw_0), (pu_A gw_0), (pu_A gw_0), (pu_A gw_0), (pu_A gw_0), (pu_A gw_0))) : wpX_init post 19 1149 (0, 0, 0, 0, 0, 0, 0) := by
  refine ⟨by omega, by omega, by omega, by omega, by omega, by omega, by omega, by omega, by omega, by omega, by omega, by omega, by omega, by omega, by omega, by omega, by omega, by omega, by omega, by omega, by omega, by omega, by omega, by omega, by omega, by omega, by omega, by omega, by omega, by omega, by omega, by omega, by omega, by omega, by omega, by omega, by omega, by omega, 4, ?_⟩
  exact pg_i190 K 3 0 4 _ (by omega) (by omega) (fun j hj => by omega)
theorem st_B {k : Nat} (P : pa_I n na nk ns kd fs sc sz gr ac vc xl xt xs xc) (hL : L ≤ 260) (hp : post 1) (hk : k < 900) (hkc : kc ≤ 20) (hks : ks ≤ 1175) (n1 : 1 ≤ n) (n10 : n ≤ 10) (na3 : na ≤ 3) (nk2 : nk ≤ 2) {c i fu : Nat} (hc : c ≤ i) (hi : i < 1000) : wL_law_274 post L xss (nI n) (nI c) kc ks (fu + 1) (nI k) (nI i) (nI n) (nI na) (nI nk) (nI ns) sec st xal (pu_A kd) (pu_A fs) (pu_A sc) (pu_A sz) (pu_A gr) (pu_A ac) vc (pu_A xl) (pu_A xt) (pu_A xs) (pu_A xc) (pu_A xat) (pu_A xaa) (pu_A xch) (pu_A xtw) (pu_A xds) (pu_A xtg) (pu_A xnx) (pu_A xft) := by
  obtain ⟨P1, P2, P3, ⟨yT, yS, yR, S⟩, P5⟩ := P
  rw [wL_law_274]
  refine br_t (nI_le hc (by omega)) (nm_r (nI_1 k) (lb_cell hL (by omega) (fun r => lb_mod (by omega) (by omega) (fun s0 hs0 => pg_setSecret (by omega) hs0 ?_))))
  refine xm_search (yl := xl) P1 S (by omega) (fun i hi => ⟨rfl, (P5 i hi).1⟩) hs0 (fun B a al T A hb hi2 ho ch tw ds tg nx ft => ⟨fun e => ?_, fun e => ?_⟩)
  · exact br_f (by decide) hp
  · rcases hb with ⟨e1, _⟩ | ⟨Lg, l6, e1, dg, eB⟩
    · exact absurd e1 e
    · subst e1
      have bB : B < 10000 := by rw [eB]; exact sk_kA_big l6 dg
      rcases hi2 with ⟨z, _⟩ | ⟨_, V, ⟨s, at1, ek⟩, _⟩
      · omega
      · have ds1 := lb_dl_ky T Lg 0
        rw [Nat.zero_add] at ds1
        have es : s = lb_dl T 0 Lg := by
          refine lb_inj s _ 1 (by omega) (sk_att_d s _ at1) (lb_dl_d Lg 0 (fun a ha => dg a (by omega))) ?_
          have k0 : sk_kA T 0 = 1 := rfl
          rw [k0] at ds1
          rw [ds1, ← eB, ek]
        rw [es] at at1
        have Af : pf_A n na nk ns s0 Lg a kd fs sc sz gr ac vc xl xt xs xc T A := by
          refine ⟨P1, n10, na3, P2, P3, ⟨yT, yS, yR, S⟩, ⟨nk2, P5⟩, hs0, l6, dg, fun t ht k2 => ?_, at1⟩
          obtain ⟨f3, fv, _⟩ := ci_k2 P1 ht k2
          refine ⟨?_, ho bB _ f3⟩
          have ne : ¬ vc (fs t) = -1 := by rw [fv]; exact gw_m1 (by omega)
          have ec : ch_c vc na (fs t) = na := if_neg ne
          obtain ⟨v0, v1, v2, v3⟩ := V
          rcases sk_3 f3 with q | q | q
          · rw [q] at ec ⊢; exact Nat.lt_of_lt_of_eq v1 ec
          · rw [q] at ec ⊢; exact Nat.lt_of_lt_of_eq v2 ec
          · rw [q] at ec ⊢; exact Nat.lt_of_lt_of_eq v3 ec
        refine br_t rfl ⟨by omega, by omega, 19, 1149, by omega, by omega, pg_init (fun bvc hv => ⟨n + 1, ?_⟩)⟩
        exact st_C Af hp n 0 (n + 1) 0 0 0 (-1) gw_0 gw_0 gw_0 gw_0 gw_0 gw_0 gw_0 (by omega) (by omega) (by omega) (by omega) (gw_start hv) (fun u hu => by omega)
theorem st_274 (hL : L ≤ 260) (hp : post 1) (hkc : kc ≤ 20) (hks : ks ≤ 1175) (n1 : 1 ≤ n) (n10 : n ≤ 10) (na3 : na ≤ 3) (nk2 : nk ≤ 2) {c : Nat} (hc : c ≤ 6) :
    ∀ (d i k fu ns : Nat) (st xal : Int32) (xt xs xc : Nat → Nat), i + d = c → d < fu → k ≤ 100 + 3 * i → pa_I n na nk ns kd fs sc sz gr ac vc xl xt xs xc → wL_law_274 post L xss (nI n) (nI c) kc ks fu (nI k) (nI i) (nI n) (nI na) (nI nk) (nI ns) sec st xal (pu_A kd) (pu_A fs) (pu_A sc) (pu_A sz) (pu_A gr) (pu_A ac) vc (pu_A xl) (pu_A xt) (pu_A xs) (pu_A xc) (pu_A xat) (pu_A xaa) (pu_A xch) (pu_A xtw) (pu_A xds) (pu_A xtg) (pu_A xnx) (pu_A xft) := by
  intro d
  induction d with
  | zero =>
    intro i k fu ns st xal xt xs xc hi hfu hk P
    obtain ⟨fu, rfl⟩ : ∃ m', fu = m' + 1 := ⟨fu - 1, by omega⟩
    exact st_B P hL hp (by omega) hkc hks n1 n10 na3 nk2 (by omega) (by omega)
  | succ d ih =>
    intro i k fu ns st xal xt xs xc hi hfu hk P
    obtain ⟨fu, rfl⟩ : ∃ m', fu = m' + 1 := ⟨fu - 1, by omega⟩
    obtain ⟨P1, P2, P3, ⟨yT, yS, yR, S⟩, P5⟩ := id P
    rw [wL_law_274]
    refine br_f (nI_ge (by omega) (by omega)) (nm_r (nI_1 k) (lb_cell hL (by omega) (fun r1 => lb_mod (c := 3) (by omega) (by omega) (fun j hj => nm_r (nI_1 (k + 1)) (lb_cell hL (by omega) (fun r2 => ?_))))))
    have go : ∀ b, b ≤ 1 → wL_law_314 post L xss (wL_law_274 post L xss (nI n) (nI c) kc ks fu) (nI (k + 1 + 1)) (nI n) (nI c) (nI i) (nI j) (nI b) kc ks (nI n) (nI na) (nI nk) (nI ns) sec st xal (pu_A kd) (pu_A fs) (pu_A sc) (pu_A sz) (pu_A gr) (pu_A ac) vc (pu_A xl) (pu_A xt) (pu_A xs) (pu_A xc) (pu_A xat) (pu_A xaa) (pu_A xch) (pu_A xtw) (pu_A xds) (pu_A xtg) (pu_A xnx) (pu_A xft) := by
      intro b hb
      refine nm_r (nI_1 (k + 1 + 1)) (lb_cell hL (by omega) (fun r3 => lb_mod (by omega) (by omega) (fun t ht => ?_)))
      refine pg_addStep (by omega) S hj hb ht (fun l => nm_r (nI_1 i) (ih (i + 1) (k + 1 + 1 + 1) fu (ns + 1) 0 (-1) _ _ _ (by omega) (by omega) (by omega) ⟨P1, P2, P3, ⟨_, _, _, sr_add S l hj hb ht⟩, P5⟩)) (fun l => nm_r (nI_1 i) (ih (i + 1) (k + 1 + 1 + 1) fu ns st xal xt xs xc (by omega) (by omega) (by omega) P))
    exact br_c (fun _ => go 1 (by omega)) (fun _ => go 0 (by omega))
theorem st_226 (hL : L ≤ 260) (hp : post 1) (hkc : kc ≤ 20) (hks : ks ≤ 1175) (n1 : 1 ≤ n) (n10 : n ≤ 10) (na3 : na ≤ 3) {c : Nat} (hc : c ≤ 2) :
    ∀ (d i k fu nk : Nat) (st xal : Int32) (xl : Nat → Nat), i + d = c → d < fu → k ≤ 80 + i → nk ≤ i → pa_I n na nk ns kd fs sc sz gr ac vc xl xt xs xc → wL_law_226 post L xss (nI n) (nI c) kc ks fu (nI k) (nI i) (nI n) (nI na) (nI nk) (nI ns) sec st xal (pu_A kd) (pu_A fs) (pu_A sc) (pu_A sz) (pu_A gr) (pu_A ac) vc (pu_A xl) (pu_A xt) (pu_A xs) (pu_A xc) (pu_A xat) (pu_A xaa) (pu_A xch) (pu_A xtw) (pu_A xds) (pu_A xtg) (pu_A xnx) (pu_A xft) := by
  intro d
  induction d with
  | zero =>
    intro i k fu nk st xal xl hi hfu hk hnk P
    obtain ⟨fu, rfl⟩ : ∃ m', fu = m' + 1 := ⟨fu - 1, by omega⟩
    rw [wL_law_226]
    exact br_t (nI_le (by omega) (by omega)) (nm_r (nI_1 k) (lb_cell hL (by omega) (fun r => lb_mod (c := 7) (by omega) (by omega) (fun c2 hc2 => ⟨c2 + 1, st_274 hL hp hkc hks n1 n10 na3 (by omega) (by omega) c2 0 (k + 1) (c2 + 1) ns st xal xt xs xc (by omega) (by omega) (by omega) P⟩))))
  | succ d ih =>
    intro i k fu nk st xal xl hi hfu hk hnk P
    obtain ⟨fu, rfl⟩ : ∃ m', fu = m' + 1 := ⟨fu - 1, by omega⟩
    obtain ⟨P1, P2, P3, P4, P5⟩ := id P
    rw [wL_law_226]
    refine br_f (nI_ge (by omega) (by omega)) (nm_r (nI_1 k) (lb_cell hL (by omega) (fun r1 => lb_mod (by omega) (by omega) (fun t ht => pg_learn P1 (by omega) ht (fun g l => nm_r (nI_1 i) (ih (i + 1) (k + 1) fu (nk + 1) 0 (-1) _ (by omega) (by omega) (by omega) (by omega) ⟨P1, P2, P3, P4, fun a ha => ?_⟩)) (fun no => nm_r (nI_1 i) (ih (i + 1) (k + 1) fu nk st xal xl (by omega) (by omega) (by omega) (by omega) P))))))
    by_cases e : a = nk
    · rw [e, pu_us]; exact ⟨ht, g⟩
    · rw [pu_un e]; exact P5 a (by omega)
theorem st_135 (hL : L ≤ 260) (hp : post 1) (hkc : kc ≤ 20) (hks : ks ≤ 1175) (na1 : 1 ≤ na) (na3 : na ≤ 3) {c : Nat} (hc : c ≤ 5) :
    ∀ (d i k fu n : Nat) (st xal : Int32) (kd fs sc sz gr : Nat → Nat), i + d = c → d < fu → k ≤ 20 + 3 * i → na ≤ n → n ≤ 5 + i → pa_I n na 0 ns kd fs sc sz gr ac vc xl xt xs xc → wL_law_135 post L xss (nI c) kc ks fu (nI k) (nI n) (nI i) (nI n) (nI na) (nI 0) (nI ns) sec st xal (pu_A kd) (pu_A fs) (pu_A sc) (pu_A sz) (pu_A gr) (pu_A ac) vc (pu_A xl) (pu_A xt) (pu_A xs) (pu_A xc) (pu_A xat) (pu_A xaa) (pu_A xch) (pu_A xtw) (pu_A xds) (pu_A xtg) (pu_A xnx) (pu_A xft) := by
  intro d
  induction d with
  | zero =>
    intro i k fu n st xal kd fs sc sz gr hi hfu hk hn1 hn2 P
    obtain ⟨fu, rfl⟩ : ∃ m', fu = m' + 1 := ⟨fu - 1, by omega⟩
    rw [wL_law_135]
    exact br_t (nI_le (by omega) (by omega)) (nm_r (nI_1 k) (lb_cell hL (by omega) (fun r => lb_mod (c := 3) (by omega) (by omega) (fun c2 hc2 => ⟨c2 + 1, st_226 hL hp hkc hks (by omega) (by omega) na3 (by omega) c2 0 (k + 1) (c2 + 1) 0 st xal xl (by omega) (by omega) (by omega) (by omega) P⟩))))
  | succ d ih =>
    intro i k fu n st xal kd fs sc sz gr hi hfu hk hn1 hn2 P
    obtain ⟨fu, rfl⟩ : ∃ m', fu = m' + 1 := ⟨fu - 1, by omega⟩
    obtain ⟨P1, P2, P3, P4, P5⟩ := id P
    rw [wL_law_135]
    refine br_f (nI_ge (by omega) (by omega)) (nm_r (nI_1 k) (lb_cell hL (by omega) (fun r1 => lb_mod (c := 3) (by omega) (by omega) (fun o ho => nm_r (e' := nI (3 + o)) (nI_add 3 o) (nm_r (nI_1 (k + 1)) (lb_cell hL (by omega) (fun r2 => lb_mod (by omega) (by omega) (fun a ha => nm_r (nI_1 (k + 1 + 1)) (lb_cell hL (by omega) (fun r3 => lb_mod (by omega) (by omega) (fun b hb => ?_)))))))))))
    refine pg_compose P1 (by omega) (by omega) (by omega) ha hb (fun l => br_f (fun e => gw_m1 (t := n) (by omega) e.symm) (nm_r (nI_1 i) (ih (i + 1) (k + 1 + 1 + 1) fu n st xal kd fs sc sz gr (by omega) (by omega) (by omega) hn1 (by omega) P))) (fun t ht m => pk_eq t n (fun e => by omega) (fun _ => nm_r (nI_1 i) (ih (i + 1) (k + 1 + 1 + 1) fu n st xal kd fs sc sz gr (by omega) (by omega) (by omega) hn1 (by omega) P))) (fun l no g hg hg' => br_t rfl (nm_r (nI_1 n) (nm_r (nI_1 i) (ih (i + 1) (k + 1 + 1 + 1) fu (n + 1) st xal _ _ _ _ _ (by omega) (by omega) (by omega) (by omega) (by omega) (pa_comp P (by omega) hn1 (by omega) (by omega) ha hb l hg hg' no)))))
theorem st_91 (hL : L ≤ 260) (hp : post 1) (hkc : kc ≤ 20) (hks : ks ≤ 1175) (na1 : 1 ≤ na) (na3 : na ≤ 3) {c k : Nat} (hc : c ≤ 2) (hk : k ≤ 10) :
    ∀ (d v fu n : Nat) (st xal : Int32) (kd fs sc sz gr : Nat → Nat) (vc : Nat → Int32), v + d = c → d < fu → n = na + v → (∀ w, v ≤ w → w < 3 → vc w = -1) → pa_I n na 0 ns kd fs sc sz gr ac vc xl xt xs xc → wL_law_91 post L xss (nI k) (nI c) kc ks fu (nI n) (nI v) (nI n) (nI na) (nI 0) (nI ns) sec st xal (pu_A kd) (pu_A fs) (pu_A sc) (pu_A sz) (pu_A gr) (pu_A ac) vc (pu_A xl) (pu_A xt) (pu_A xs) (pu_A xc) (pu_A xat) (pu_A xaa) (pu_A xch) (pu_A xtw) (pu_A xds) (pu_A xtg) (pu_A xnx) (pu_A xft) := by
  intro d
  induction d with
  | zero =>
    intro v fu n st xal kd fs sc sz gr vc hv hfu hn hw P
    obtain ⟨fu, rfl⟩ : ∃ m', fu = m' + 1 := ⟨fu - 1, by omega⟩
    rw [wL_law_91]
    exact br_t (nI_le (by omega) (by omega)) (nm_r (nI_1 k) (lb_cell hL (by omega) (fun r => lb_mod (c := 6) (by omega) (by omega) (fun c2 hc2 => ⟨c2 + 1, st_135 hL hp hkc hks na1 na3 (by omega) c2 0 (k + 1) (c2 + 1) n st xal kd fs sc sz gr (by omega) (by omega) (by omega) (by omega) (by omega) P⟩))))
  | succ d ih =>
    intro v fu n st xal kd fs sc sz gr vc hv hfu hn hw P
    obtain ⟨fu, rfl⟩ : ∃ m', fu = m' + 1 := ⟨fu - 1, by omega⟩
    have z := hw v (Nat.le_refl v) (by omega)
    rw [wL_law_91]
    refine br_f (nI_ge (by omega) (by omega)) (pg_var (by omega) (by omega) z (br_t rfl (nm_r (nI_1 n) (nm_r (nI_1 v) (ih (v + 1) fu (n + 1) 0 (-1) _ _ _ _ _ _ (by omega) (by omega) (by omega) (fun w h1 h2 => ?_) (pa_var P (by omega) (by omega) (by omega) z))))))
    rw [pk_un (by omega)]
    exact hw w (by omega) h2
theorem st_31 (hL : L ≤ 260) (hp : post 1) (hkc : kc ≤ 20) (hks : ks ≤ 1175) {c : Nat} (hc : c ≤ 3) (c1 : 1 ≤ c) (hv : ∀ w, w < 3 → vc w = -1) :
    ∀ (d i k fu : Nat) (st xal : Int32) (kd fs sc sz gr ac : Nat → Nat), i + d = c → d < fu → k ≤ 1 + i → pa_I i i 0 ns kd fs sc sz gr ac vc xl xt xs xc → wL_law_31 post L xss (nI c) kc ks fu (nI k) (nI i) (nI i) (nI i) (nI i) (nI 0) (nI ns) sec st xal (pu_A kd) (pu_A fs) (pu_A sc) (pu_A sz) (pu_A gr) (pu_A ac) vc (pu_A xl) (pu_A xt) (pu_A xs) (pu_A xc) (pu_A xat) (pu_A xaa) (pu_A xch) (pu_A xtw) (pu_A xds) (pu_A xtg) (pu_A xnx) (pu_A xft) := by
  intro d
  induction d with
  | zero =>
    intro i k fu st xal kd fs sc sz gr ac hi hfu hk P
    obtain ⟨fu, rfl⟩ : ∃ m', fu = m' + 1 := ⟨fu - 1, by omega⟩
    rw [wL_law_31]
    exact br_t (nI_le (by omega) (by omega)) (nm_r (nI_1 k) (lb_cell hL (by omega) (fun r => lb_mod (c := 3) (by omega) (by omega) (fun c2 hc2 => ⟨c2 + 1, st_91 hL hp hkc hks (by omega) (by omega) (by omega) (by omega) c2 0 (c2 + 1) i st xal kd fs sc sz gr vc (by omega) (by omega) (by omega) (fun w _ h => hv w h) P⟩))))
  | succ d ih =>
    intro i k fu st xal kd fs sc sz gr ac hi hfu hk P
    obtain ⟨fu, rfl⟩ : ∃ m', fu = m' + 1 := ⟨fu - 1, by omega⟩
    have go : ∀ b, b ≤ 1 → wL_law_58 post L xss (wL_law_31 post L xss (nI c) kc ks fu) (nI (k + 1)) (nI i) (nI c) (nI i) (nI b) kc ks (nI i) (nI i) (nI 0) (nI ns) sec st xal (pu_A kd) (pu_A fs) (pu_A sc) (pu_A sz) (pu_A gr) (pu_A ac) vc (pu_A xl) (pu_A xt) (pu_A xs) (pu_A xc) (pu_A xat) (pu_A xaa) (pu_A xch) (pu_A xtw) (pu_A xds) (pu_A xtg) (pu_A xnx) (pu_A xft) := by
      intro b hb
      unfold wL_law_58
      exact pg_atom (n := i) (na := i) (nk := 0) hb (by omega) (by omega) (br_t rfl (nm_r (nI_1 i) (nm_r (nI_1 i) (ih (i + 1) (k + 1) fu 0 (-1) _ _ _ _ _ _ (by omega) (by omega) (by omega) (pa_atom P rfl (by omega) hb)))))
    rw [wL_law_31]
    exact br_f (nI_ge (by omega) (by omega)) (nm_r (nI_1 k) (lb_cell hL (by omega) (fun r => br_c (fun _ => go 1 (by omega)) (fun _ => go 0 (by omega)))))
theorem i_vc (xs : Nat → Int32) (L : Nat) (hL : L ≤ 260) : wpL_law (fun r => r = 1) L xs := by
  refine ⟨19, 1149, by omega, by omega, pg_init (fun vc hv => ?_)⟩
  refine nm_r (e' := nI 1) (by decide) (lb_cell (k := 0) hL (by omega) (fun r => lb_mod (c := 3) (by omega) (by omega) (fun j hj => nm_r (e' := nI (1 + j)) (nI_add 1 j) ⟨1 + j + 1, ?_⟩)))
  exact st_31 (post := fun r => r = 1) (c := 1 + j) (kc := 1 + 19) (ks := 26 + 1149) (ns := 0) (xl := gw_0) (xt := gw_0) (xs := gw_0) (xc := gw_0) hL rfl (by omega) (by omega) (by omega) (by omega) hv (1 + j) 0 1 (1 + j + 1) 0 (-1) gw_0 gw_0 gw_0 gw_0 gw_0 gw_0 (by omega) (by omega) (by omega) ⟨gw_start hv, fun i hi => by omega, fun t ht => by omega, ⟨gw_0, gw_0, gw_0, sr_0 0 gw_0 gw_0 gw_0 gw_0 gw_0⟩, fun i hi => by omega⟩
end
end
