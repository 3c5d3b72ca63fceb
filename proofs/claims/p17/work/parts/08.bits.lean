section
def xk_b (B : Int64) (i : Nat) : Bool := B.toBitVec.getLsbD i
def xk_s (k : Nat) : Int64 := 1 <<< ((nI k).toInt64 &&& 63)
theorem xk_ext {B C : Int64} (h : ∀ i, i < 64 → xk_b B i = xk_b C i) : B = C := by
  apply Int64.toBitVec_inj.mp
  apply BitVec.eq_of_getLsbD_eq
  exact h
theorem xk_or (B C : Int64) (i : Nat) : xk_b (B ||| C) i = (xk_b B i || xk_b C i) := by
  unfold xk_b
  rw [Int64.toBitVec_or, BitVec.getLsbD_or]
theorem xk_0 (i : Nat) : xk_b 0 i = false := by
  unfold xk_b
  show (0#64).getLsbD i = false
  simp
theorem xk_tp : ∀ k, k < 64 → (xk_s k).toBitVec = BitVec.twoPow 64 k := by decide +kernel
theorem xk_one {k : Nat} (hk : k < 64) (i : Nat) : xk_b (xk_s k) i = decide (k = i) := by
  unfold xk_b
  rw [xk_tp k hk, BitVec.getLsbD_twoPow]
  simp [hk]
theorem xk_and {B : Int64} {k : Nat} (hk : k < 64) : (B &&& xk_s k) = 0 ↔ xk_b B k = false := by
  rw [← Int64.toBitVec_inj, Int64.toBitVec_and, xk_tp k hk]
  unfold xk_b
  constructor
  · intro h
    have t := congrArg (fun x => x.getLsbD k) h
    simp only [BitVec.getLsbD_and, BitVec.getLsbD_twoPow] at t
    have z : (0 : Int64).toBitVec.getLsbD k = false := xk_0 k
    rw [z] at t
    simpa [hk] using t
  · intro h
    apply BitVec.eq_of_getLsbD_eq
    intro i hi
    rw [BitVec.getLsbD_and, BitVec.getLsbD_twoPow]
    have z : (0 : Int64).toBitVec.getLsbD i = false := xk_0 i
    rw [z]
    by_cases e : k = i
    · subst e; rw [h, Bool.false_and]
    · simp [e]
theorem xk_shr {B : Int64} {k : Nat} (hk : k < 64) : ((B.toUInt64 >>> ((nI k).toInt64.toUInt64 &&& Int64.toUInt64 63)).toInt64 &&& 1) = 0 ↔ xk_b B k = false :=
  ts_bit hk (by rw [wb_cu k hk]; exact u_tn (by omega))
variable (kd fs sc : Nat → Nat) (n : Nat) (tw : Nat → Nat)
def xk_d (t : Nat) (B : Int64) : Int64 :=
  if xk_b B (tw t) = false then
    (if xk_b B (tw (fs t)) = true ∧ xk_b B (tw (sc t)) = true then xk_s (tw t) else 0)
  else if kd t = 3 then xk_s (tw (fs t)) ||| xk_s (tw (sc t))
  else if kd t = 4 then (if xk_b B (tw (sc t)) = true then xk_s (tw (fs t)) else 0)
  else (if kd (tw (sc t)) = 1 ∧ sc (tw (sc t)) = 1 then xk_s (tw (fs t)) else 0)
def xk_N (S : Nat → Prop) (B : Int64) : Prop := ∀ u, u < n → xk_b B (tw u) = true → S u
def xk_H : Prop := (∀ t, t < n → tw t < 64 ∧ kd t ≤ 5) ∧ (∀ t, t < n → 3 ≤ kd t → fs t < n ∧ sc t < n)
variable {kd fs sc n tw}
theorem xk_sub (B C : Int64) {i : Nat} (h : xk_b B i = true) : xk_b (B ||| C) i = true := by
  rw [xk_or, h, Bool.true_or]
theorem xk_N0 (S : Nat → Prop) : xk_N n tw S 0 := fun u _ h => by rw [xk_0] at h; exact absurd h (by decide)
theorem xk_Nor {S : Nat → Prop} {B C : Int64} (h : xk_N n tw S B) (h2 : xk_N n tw S C) : xk_N n tw S (B ||| C) := by
  intro u hu hb
  rw [xk_or] at hb
  by_cases e : xk_b B (tw u) = true
  · exact h u hu e
  · rw [ts_nt e, Bool.false_or] at hb
    exact h2 u hu hb
theorem xk_N1 {S : Nat → Prop} (c : tc_Cl kd fs sc n tw S) {x : Nat} (hx : x < n) (hw : tw x < 64) (s : S x) : xk_N n tw S (xk_s (tw x)) := by
  intro u hu hb
  rw [xk_one hw] at hb
  exact c.1 x u hx hu (of_decide_eq_true hb) s
theorem xk_dN (H : xk_H kd fs sc n tw) {S : Nat → Prop} (c : tc_Cl kd fs sc n tw S) {B : Int64} (hB : xk_N n tw S B) {t : Nat} (ht : t < n) (k3 : 3 ≤ kd t) : xk_N n tw S (xk_d kd fs sc tw t B) := by
  obtain ⟨f1, s1⟩ := H.2 t ht k3
  have ws := (H.1 _ s1).1
  have wf := (H.1 _ f1).1
  have wt := H.1 t ht
  unfold xk_d
  by_cases b : xk_b B (tw t) = false
  · rw [if_pos b]
    by_cases q : xk_b B (tw (fs t)) = true ∧ xk_b B (tw (sc t)) = true
    · rw [if_pos q]
      exact xk_N1 c ht wt.1 (c.2.1 t ht k3 (hB _ f1 q.1) (hB _ s1 q.2))
    · rw [if_neg q]; exact xk_N0 S
  · rw [if_neg b]
    have st : S t := hB t ht (ts_nf b)
    by_cases q3 : kd t = 3
    · rw [if_pos q3]
      have h := c.2.2.1 t ht q3 st
      exact xk_Nor (xk_N1 c f1 wf h.1) (xk_N1 c s1 ws h.2)
    · rw [if_neg q3]
      by_cases q4 : kd t = 4
      · rw [if_pos q4]
        by_cases q : xk_b B (tw (sc t)) = true
        · rw [if_pos q]
          exact xk_N1 c f1 wf (c.2.2.2.1 t ht q4 st (hB _ s1 q))
        · rw [if_neg q]; exact xk_N0 S
      · rw [if_neg q4]
        by_cases q : kd (tw (sc t)) = 1 ∧ sc (tw (sc t)) = 1
        · rw [if_pos q]
          exact xk_N1 c f1 wf (c.2.2.2.2 t ht (by omega) st q.1 q.2)
        · rw [if_neg q]; exact xk_N0 S
theorem xk_cl (H : xk_H kd fs sc n tw) {B : Int64} (h : ∀ t, t < n → 3 ≤ kd t → (B ||| xk_d kd fs sc tw t B) = B) : tc_Cl kd fs sc n tw (fun u => xk_b B (tw u) = true) := by
  have g : ∀ t, t < n → 3 ≤ kd t → ∀ i, xk_b (xk_d kd fs sc tw t B) i = true → xk_b B i = true := by
    intro t ht k i hi
    have e := h t ht k
    rw [← e, xk_or, hi, Bool.or_true]
  refine ⟨?_, ?_, ?_, ?_, ?_⟩
  · intro t u ht hu e w
    show xk_b B (tw u) = true
    rw [← e]; exact w
  · intro t ht k a b
    have a' : xk_b B (tw (fs t)) = true := a
    have b' : xk_b B (tw (sc t)) = true := b
    show xk_b B (tw t) = true
    by_cases q : xk_b B (tw t) = true
    · exact q
    · refine g t ht k _ ?_
      unfold xk_d
      rw [if_pos (ts_nt q), if_pos ⟨a', b'⟩, xk_one (H.1 t ht).1]
      exact decide_eq_true rfl
  · intro t ht k a
    have a' : xk_b B (tw t) = true := a
    obtain ⟨f1, s1⟩ := H.2 t ht (by omega)
    have e : xk_d kd fs sc tw t B = (xk_s (tw (fs t)) ||| xk_s (tw (sc t))) := by
      unfold xk_d
      rw [if_neg (by rw [a']; decide), if_pos k]
    refine ⟨g t ht (by omega) _ ?_, g t ht (by omega) _ ?_⟩
    · rw [e, xk_or, xk_one (H.1 _ f1).1, decide_eq_true rfl, Bool.true_or]
    · rw [e, xk_or, xk_one (H.1 _ s1).1, decide_eq_true rfl, Bool.or_true]
  · intro t ht k a b
    have a' : xk_b B (tw t) = true := a
    have b' : xk_b B (tw (sc t)) = true := b
    obtain ⟨f1, s1⟩ := H.2 t ht (by omega)
    refine g t ht (by omega) _ ?_
    unfold xk_d
    rw [if_neg (by rw [a']; decide), if_neg (by omega), if_pos k, if_pos b', xk_one (H.1 _ f1).1]
    exact decide_eq_true rfl
  · intro t ht k a e1 e2
    have a' : xk_b B (tw t) = true := a
    obtain ⟨f1, s1⟩ := H.2 t ht (by omega)
    refine g t ht (by omega) _ ?_
    unfold xk_d
    rw [if_neg (by rw [a']; decide), if_neg (by omega), if_neg (by omega), if_pos ⟨e1, e2⟩, xk_one (H.1 _ f1).1]
    exact decide_eq_true rfl
variable (n tw)
def xk_K (K : Nat → Prop) (B : Int64) : Prop := ∀ b, b < 64 → (xk_b B b = true ↔ ∃ x, x < n ∧ K x ∧ tw x = b)
variable {n tw}
theorem xk_main (H : xk_H kd fs sc n tw) {K : Nat → Prop} {B0 B : Int64} (h0 : xk_K n tw K B0)
    (up : ∀ i, i < 64 → xk_b B0 i = true → xk_b B i = true)
    (sd : ∀ S, tc_Cl kd fs sc n tw S → xk_N n tw S B0 → xk_N n tw S B)
    (cl : tc_Cl kd fs sc n tw (fun u => xk_b B (tw u) = true)) {t : Nat} (ht : t < n) : xk_b B (tw t) = true ↔ tc_L kd fs sc n tw K t := by
  constructor
  · intro h S c hK
    refine sd S c ?_ t ht h
    intro u hu hb
    obtain ⟨x, hx, k, e⟩ := (h0 _ (H.1 u hu).1).mp hb
    exact c.1 x u hx hu e (hK x hx k)
  · intro h
    refine h _ cl (fun u hu k => ?_)
    exact up _ (H.1 u hu).1 ((h0 _ (H.1 u hu).1).mpr ⟨u, hu, k, rfl⟩)
theorem xk_grow {B C : Int64} (h : ∀ i, i < 64 → xk_b B i = true → xk_b C i = true) (ne : ¬ C = B) : pu_cn (xk_b B) 64 < pu_cn (xk_b C) 64 := by
  refine pu_cn_lt 64 h ?_
  by_cases q : ∃ i, i < 64 ∧ ¬ xk_b B i = true ∧ xk_b C i = true
  · exact q
  · refine absurd (xk_ext (fun i hi => ?_)) ne
    by_cases b : xk_b B i = true
    · rw [b, h i hi b]
    · by_cases c : xk_b C i = true
      · exact absurd ⟨i, hi, b, c⟩ q
      · rw [ts_nt b, ts_nt c]
theorem xk_full {B : Int64} (h : 64 ≤ pu_cn (xk_b B) 64) (H : xk_H kd fs sc n tw) : tc_Cl kd fs sc n tw (fun u => xk_b B (tw u) = true) := by
  have a := pu_cn_all 64 h
  have g : ∀ u, u < n → xk_b B (tw u) = true := fun u hu => a _ (H.1 u hu).1
  refine ⟨fun t u ht hu _ _ => g u hu, fun t ht _ _ _ => g t ht, fun t ht k _ => ⟨g _ (H.2 t ht (by omega)).1, g _ (H.2 t ht (by omega)).2⟩, fun t ht k _ _ => g _ (H.2 t ht (by omega)).1, fun t ht k _ _ _ => g _ (H.2 t ht (by omega)).1⟩
end
