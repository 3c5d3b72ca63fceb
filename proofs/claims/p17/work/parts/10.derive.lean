section
variable (kd fs sc : Nat → Nat) (n : Nat) (tw : Nat → Nat) (sz rs : Nat → Nat) (G : Nat → Prop)
def dv_I (K : Nat → Prop) (f : Nat → Nat) (m : Nat) : Prop :=
  m ≤ 64 ∧ (∀ i, i < m → f i < n ∧ G (f i) ∧ tc_L kd fs sc n tw K (f i)) ∧ (∀ i j, i < m → j < m → tw (f i) = tw (f j) → i = j)
def dv_F (f : Nat → Nat) (m i : Nat) : Prop :=
  (kd (rs (f i)) = 3 → tc_M tw f m (fs (rs (f i))) ∧ tc_M tw f m (sc (rs (f i)))) ∧
  (kd (rs (f i)) = 4 → tc_S kd fs sc n tw G (tc_M tw f m) (sc (rs (f i))) → tc_M tw f m (fs (rs (f i)))) ∧
  (kd (rs (f i)) = 5 → kd (rs (sc (rs (f i)))) = 1 → sc (rs (sc (rs (f i)))) = 1 → tc_M tw f m (fs (rs (f i))))
variable {kd fs sc n tw sz rs G}
theorem dv_add (Y : tc_Y kd fs sc n tw sz rs G) {K : Nat → Prop} {f : Nat → Nat} {m c : Nat} (I : dv_I kd fs sc n tw G K f m) (hc : c < n) (gc : G c) (lc : tc_L kd fs sc n tw K c) (nm : ¬ tc_M tw f m c) : m < 64 ∧ dv_I kd fs sc n tw G K (pu_upd f m c) (m + 1) := by
  have m64 : m < 64 := tc_M_room (fun i hi => (Y.2.2.2.2.2.1 _ (I.2.1 i hi).1).2.2) (Y.2.2.2.2.2.1 c hc).2.2 I.2.2 nm
  refine ⟨m64, by omega, fun i hi => ?_, fun i j hi hj w => ?_⟩
  · by_cases e : i = m
    · subst e; rw [pu_us]; exact ⟨hc, gc, lc⟩
    · rw [pu_un e]; exact I.2.1 i (by omega)
  · by_cases ei : i = m
    · by_cases ej : j = m
      · omega
      · rw [ei, pu_us, pu_un ej] at w
        exact absurd ⟨j, by omega, w.symm⟩ nm
    · by_cases ej : j = m
      · rw [ej, pu_us, pu_un ei] at w
        exact absurd ⟨i, by omega, w⟩ nm
      · rw [pu_un ei, pu_un ej] at w
        exact I.2.2 i j (by omega) (by omega) w
theorem dv_M (Y : tc_Y kd fs sc n tw sz rs G) {K : Nat → Prop} {f : Nat → Nat} {m : Nat} (I : dv_I kd fs sc n tw G K f m) : ∀ x, x < n → G x → tc_M tw f m x → tc_L kd fs sc n tw K x := by
  intro x hx _ h
  obtain ⟨i, hi, w⟩ := h
  obtain ⟨a1, a2, a3⟩ := I.2.1 i hi
  exact (tc_L_cl kd fs sc n tw K).1 (f i) x a1 hx w a3
theorem dv_S (Y : tc_Y kd fs sc n tw sz rs G) {K : Nat → Prop} {f : Nat → Nat} {m : Nat} (I : dv_I kd fs sc n tw G K f m) {x : Nat} (h : tc_S kd fs sc n tw G (tc_M tw f m) x) : tc_L kd fs sc n tw K x := by
  have cl := tc_L_cl kd fs sc n tw K
  exact h (tc_L kd fs sc n tw K) ⟨dv_M Y I, fun t u ht hu _ e a => cl.1 t u ht hu e a, fun t ht _ k a b => cl.2.1 t ht k a b⟩
theorem dv_x (Y : tc_Y kd fs sc n tw sz rs G) {K : Nat → Prop} {f : Nat → Nat} {m i : Nat} (I : dv_I kd fs sc n tw G K f m) (hi : i < m) : rs (f i) < n ∧ G (rs (f i)) ∧ tc_L kd fs sc n tw K (rs (f i)) ∧ tw (rs (f i)) = tw (f i) := by
  obtain ⟨a1, a2, a3⟩ := I.2.1 i hi
  obtain ⟨b1, b2, b3, _⟩ := Y.1 _ a1 a2
  exact ⟨b1, b2, (tc_L_cl kd fs sc n tw K).1 (f i) _ a1 b1 b3.symm a3, b3⟩
theorem dv_p (Y : tc_Y kd fs sc n tw sz rs G) {x : Nat} (hx : x < n) (gx : G x) (k : 3 ≤ kd x) : fs x < n ∧ sc x < n ∧ G (fs x) ∧ G (sc x) := by
  obtain ⟨h1, h2, h3, _⟩ := Y.2.1 x hx k
  have g := h3.mp gx
  exact ⟨h1, h2, g.1, g.2⟩
theorem dv_3 (Y : tc_Y kd fs sc n tw sz rs G) {K : Nat → Prop} {x : Nat} (hx : x < n) (k : kd x = 3) (l : tc_L kd fs sc n tw K x) : tc_L kd fs sc n tw K (fs x) ∧ tc_L kd fs sc n tw K (sc x) :=
  (tc_L_cl kd fs sc n tw K).2.2.1 x hx k l
theorem dv_4 (Y : tc_Y kd fs sc n tw sz rs G) {K : Nat → Prop} {x : Nat} (hx : x < n) (k : kd x = 4) (l : tc_L kd fs sc n tw K x) (s : tc_L kd fs sc n tw K (sc x)) : tc_L kd fs sc n tw K (fs x) :=
  (tc_L_cl kd fs sc n tw K).2.2.2.1 x hx k l s
theorem dv_cp (Y : tc_Y kd fs sc n tw sz rs G) {y : Nat} (hy : y < n) (gy : G y) : (kd (rs y) = 1 → rs y = tw y) ∧ (kd (tw y) = 1 → rs y = tw y) := by
  obtain ⟨b1, b2, b3, b4, b5, b6⟩ := Y.1 y hy gy
  have f : kd (rs y) = 1 → rs y = tw y := fun k => by
    have h := Y.2.2.2.1 (rs y) b1 b2 k
    rw [← b3, h]
  exact ⟨f, fun k => f (by rw [← b6]; exact k)⟩
theorem dv_5 (Y : tc_Y kd fs sc n tw sz rs G) {K : Nat → Prop} {x : Nat} (hx : x < n) (gx : G x) (k : kd x = 5) (l : tc_L kd fs sc n tw K x) (c1 : kd (rs (sc x)) = 1) (c2 : sc (rs (sc x)) = 1) : tc_L kd fs sc n tw K (fs x) := by
  obtain ⟨h1, h2, h3, h4⟩ := dv_p Y hx gx (by omega)
  have e := (dv_cp Y h2 h4).1 c1
  exact (tc_L_cl kd fs sc n tw K).2.2.2.2 x hx k l (by rw [← e]; exact c1) (by rw [← e]; exact c2)
theorem dv_end (Y : tc_Y kd fs sc n tw sz rs G) {K : Nat → Prop} {f : Nat → Nat} {m : Nat} (I : dv_I kd fs sc n tw G K f m) (hK : ∀ x, x < n → K x → G x ∧ tc_M tw f m x) (F : ∀ i, i < m → dv_F kd fs sc n tw rs G f m i) {g : Nat} (hg : g < n) (gg : G g) : tc_S kd fs sc n tw G (tc_M tw f m) g ↔ tc_L kd fs sc n tw K g := by
  refine tc_main Y tc_M_sat hK (dv_M Y I) (fun x hx gx mx => ?_) hg gg
  obtain ⟨i, hi, w⟩ := mx
  obtain ⟨b1, b2, b3, b4⟩ := dv_x Y I hi
  obtain ⟨a1, a2, a3⟩ := I.2.1 i hi
  obtain ⟨f3, f4, f5⟩ := F i hi
  have k2 := (Y.1 _ a1 a2).2.2.2.1
  refine ⟨rs (f i), b1, b2, by omega, b4.trans w, f3, f4, fun k e1 e2 => ?_⟩
  obtain ⟨h1, h2, h3, h4⟩ := dv_p Y b1 b2 (by omega)
  have e := (dv_cp Y h2 h4).2 e1
  exact f5 k (by rw [e]; exact e1) (by rw [e]; exact e2)
theorem dv_0 (K : Nat → Prop) (f : Nat → Nat) : dv_I kd fs sc n tw G K f 0 := ⟨by omega, fun i h => by omega, fun i j h => by omega⟩
end
