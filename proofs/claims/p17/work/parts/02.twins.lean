section
variable (kd fs sc : Nat → Nat) (n : Nat) (tw : Nat → Nat)
def tc_Cl (S : Nat → Prop) : Prop :=
  (∀ t u, t < n → u < n → tw t = tw u → S t → S u) ∧
  (∀ t, t < n → 3 ≤ kd t → S (fs t) → S (sc t) → S t) ∧
  (∀ t, t < n → kd t = 3 → S t → S (fs t) ∧ S (sc t)) ∧
  (∀ t, t < n → kd t = 4 → S t → S (sc t) → S (fs t)) ∧
  (∀ t, t < n → kd t = 5 → S t → kd (tw (sc t)) = 1 → sc (tw (sc t)) = 1 → S (fs t))
def tc_L (K : Nat → Prop) (t : Nat) : Prop :=
  ∀ S : Nat → Prop, tc_Cl kd fs sc n tw S → (∀ u, u < n → K u → S u) → S t
theorem tc_L_in {K : Nat → Prop} {u : Nat} (h : u < n) (k : K u) : tc_L kd fs sc n tw K u :=
  fun _ _ hK => hK u h k
theorem tc_L_le {K S : Nat → Prop} (c : tc_Cl kd fs sc n tw S) (h : ∀ u, u < n → K u → S u) {t : Nat} (ht : tc_L kd fs sc n tw K t) : S t := ht S c h
theorem tc_L_cl (K : Nat → Prop) : tc_Cl kd fs sc n tw (tc_L kd fs sc n tw K) :=
  ⟨fun t u ht hu e h S c hK => c.1 t u ht hu e (h S c hK),
   fun t ht hk a b S c hK => c.2.1 t ht hk (a S c hK) (b S c hK),
   fun t ht hk a => ⟨fun S c hK => (c.2.2.1 t ht hk (a S c hK)).1, fun S c hK => (c.2.2.1 t ht hk (a S c hK)).2⟩,
   fun t ht hk a b S c hK => c.2.2.2.1 t ht hk (a S c hK) (b S c hK),
   fun t ht hk a e1 e2 S c hK => c.2.2.2.2 t ht hk (a S c hK) e1 e2⟩
theorem tc_L_cg {K K' : Nat → Prop} (h : ∀ u, u < n → (K u ↔ K' u)) (t : Nat) : tc_L kd fs sc n tw K t ↔ tc_L kd fs sc n tw K' t :=
  ⟨fun a S c hK => a S c (fun u hu k => hK u hu ((h u hu).mp k)), fun a S c hK => a S c (fun u hu k => hK u hu ((h u hu).mpr k))⟩
variable (sz rs : Nat → Nat) (G : Nat → Prop)
def tc_Y : Prop :=
  (∀ t, t < n → G t → rs t < n ∧ G (rs t) ∧ tw (rs t) = tw t ∧ (kd (rs t) = 1 ∨ 3 ≤ kd (rs t)) ∧ sz (rs t) ≤ sz t ∧ kd (tw t) = kd (rs t)) ∧
  (∀ t, t < n → 3 ≤ kd t → fs t < n ∧ sc t < n ∧ (G t ↔ G (fs t) ∧ G (sc t)) ∧ sz t = 1 + sz (fs t) + sz (sc t)) ∧
  (∀ t u, t < n → u < n → tw t = tw u → G t → G u) ∧
  (∀ t, t < n → G t → kd t = 1 → tw t = t) ∧
  (∀ t u, t < n → u < n → G t → G u → 3 ≤ kd t → kd t = kd u → (tw t = tw u ↔ tw (fs t) = tw (fs u) ∧ tw (sc t) = tw (sc u))) ∧
  (∀ t, t < n → 1 ≤ sz t ∧ sz t ≤ 32 ∧ tw t < 64) ∧
  (∀ t, t < n → kd t ≠ 2 → rs t = t)
variable {kd fs sc n tw sz rs G}
theorem tc_Y_kd (Y : tc_Y kd fs sc n tw sz rs G) {t u : Nat} (ht : t < n) (hu : u < n) (gt : G t) (gu : G u) (e : tw t = tw u) : kd (rs t) = kd (rs u) := by
  have h1 := (Y.1 t ht gt).2.2.2.2.2
  have h2 := (Y.1 u hu gu).2.2.2.2.2
  rw [e] at h1
  rw [← h1, h2]
theorem tc_Y_part (Y : tc_Y kd fs sc n tw sz rs G) {t u : Nat} (ht : t < n) (hu : u < n) (gt : G t) (gu : G u) (kt : 3 ≤ kd t) (ku : kd u ≠ 2) (e : tw t = tw u) : kd t = kd u ∧ tw (fs t) = tw (fs u) ∧ tw (sc t) = tw (sc u) := by
  have h := tc_Y_kd Y ht hu gt gu e
  rw [Y.2.2.2.2.2.2 t ht (by omega), Y.2.2.2.2.2.2 u hu ku] at h
  exact ⟨h, (Y.2.2.2.2.1 t u ht hu gt gu kt h).mp e⟩
theorem tc_eq1 (Y : tc_Y kd fs sc n tw sz rs G) {a b : Nat} (ha : a < n) (hb : b < n) (ga : G a) (gb : G b) (e : rs a = rs b) : tw a = tw b := by
  rw [← (Y.1 a ha ga).2.2.1, ← (Y.1 b hb gb).2.2.1, e]
theorem tc_eq2 (Y : tc_Y kd fs sc n tw sz rs G) {a b : Nat} (ha : a < n) (hb : b < n) (ga : G a) (gb : G b) (e : rs a ≠ rs b) (h : kd (rs a) ≠ kd (rs b) ∨ kd (rs a) < 3) : tw a ≠ tw b := by
  intro w
  have hk := tc_Y_kd Y ha hb ga gb w
  obtain ⟨a1, a2, a3, a4, a5, a6⟩ := Y.1 a ha ga
  obtain ⟨b1, b2, b3, b4, b5, b6⟩ := Y.1 b hb gb
  have k1 : kd (rs a) = 1 := by omega
  have k2 : kd (rs b) = 1 := by omega
  have e1 := Y.2.2.2.1 (rs a) a1 a2 k1
  have e2 := Y.2.2.2.1 (rs b) b1 b2 k2
  exact e (by rw [← e1, ← e2, a3, b3, w])
theorem tc_eq3 (Y : tc_Y kd fs sc n tw sz rs G) {a b : Nat} (ha : a < n) (hb : b < n) (ga : G a) (gb : G b) (hk : kd (rs a) = kd (rs b)) (h3 : 3 ≤ kd (rs a)) : tw a = tw b ↔ tw (fs (rs a)) = tw (fs (rs b)) ∧ tw (sc (rs a)) = tw (sc (rs b)) := by
  obtain ⟨a1, a2, a3, a4, a5, a6⟩ := Y.1 a ha ga
  obtain ⟨b1, b2, b3, b4, b5, b6⟩ := Y.1 b hb gb
  rw [← a3, ← b3]
  exact Y.2.2.2.2.1 (rs a) (rs b) a1 b1 a2 b2 h3 hk
variable (kd fs sc n tw G)
def tc_SC (M S : Nat → Prop) : Prop :=
  (∀ x, x < n → G x → M x → S x) ∧
  (∀ t u, t < n → u < n → G t → tw t = tw u → S t → S u) ∧
  (∀ t, t < n → G t → 3 ≤ kd t → S (fs t) → S (sc t) → S t)
def tc_S (M : Nat → Prop) (x : Nat) : Prop := ∀ S : Nat → Prop, tc_SC kd fs sc n tw G M S → S x
variable {kd fs sc n tw G}
theorem tc_S_cl (M : Nat → Prop) : tc_SC kd fs sc n tw G M (tc_S kd fs sc n tw G M) :=
  ⟨fun x hx g m S c => c.1 x hx g m, fun t u ht hu g e h S c => c.2.1 t u ht hu g e (h S c), fun t ht g k a b S c => c.2.2 t ht g k (a S c) (b S c)⟩
theorem tc_S_inv (Y : tc_Y kd fs sc n tw sz rs G) {M : Nat → Prop} (sat : ∀ t u, t < n → u < n → G t → tw t = tw u → M t → M u) {x : Nat} (hx : x < n) (gx : G x) (h : tc_S kd fs sc n tw G M x) : M x ∨ ∃ t, t < n ∧ G t ∧ 3 ≤ kd t ∧ tw t = tw x ∧ tc_S kd fs sc n tw G M (fs t) ∧ tc_S kd fs sc n tw G M (sc t) := by
  have c := tc_S_cl (kd := kd) (fs := fs) (sc := sc) (n := n) (tw := tw) (G := G) M
  have bk : ∀ y, y < n → G y → (M y ∨ ∃ t, t < n ∧ G t ∧ 3 ≤ kd t ∧ tw t = tw y ∧ tc_S kd fs sc n tw G M (fs t) ∧ tc_S kd fs sc n tw G M (sc t)) → tc_S kd fs sc n tw G M y := by
    intro y hy gy o
    rcases o with m | ⟨t, ht, gt, kt, e, a, b⟩
    · exact c.1 y hy gy m
    · exact c.2.1 t y ht hy gt e (c.2.2 t ht gt kt a b)
  refine h (fun y => y < n → G y → (M y ∨ ∃ t, t < n ∧ G t ∧ 3 ≤ kd t ∧ tw t = tw y ∧ tc_S kd fs sc n tw G M (fs t) ∧ tc_S kd fs sc n tw G M (sc t))) ⟨?_, ?_, ?_⟩ hx gx
  · intro y hy gy m _ _
    exact Or.inl m
  · intro t u ht hu gt e o hu' gu
    rcases o ht gt with m | ⟨t', ht', gt', kt', e', a, b⟩
    · exact Or.inl (sat t u ht hu gt e m)
    · exact Or.inr ⟨t', ht', gt', kt', e'.trans e, a, b⟩
  · intro t ht gt kt a b _ _
    obtain ⟨h1, h2, h3, h4⟩ := Y.2.1 t ht kt
    have g := h3.mp gt
    exact Or.inr ⟨t, ht, gt, kt, rfl, bk _ h1 g.1 (a h1 g.1), bk _ h2 g.2 (b h2 g.2)⟩
theorem tc_S_comp (Y : tc_Y kd fs sc n tw sz rs G) {M : Nat → Prop} (sat : ∀ t u, t < n → u < n → G t → tw t = tw u → M t → M u) {x : Nat} (hx : x < n) (gx : G x) (kx : 3 ≤ kd x) (nm : ¬ M x) : tc_S kd fs sc n tw G M x ↔ tc_S kd fs sc n tw G M (fs x) ∧ tc_S kd fs sc n tw G M (sc x) := by
  have c := tc_S_cl (kd := kd) (fs := fs) (sc := sc) (n := n) (tw := tw) (G := G) M
  constructor
  · intro h
    rcases tc_S_inv Y sat hx gx h with m | ⟨t, ht, gt, kt, e, a, b⟩
    · exact absurd m nm
    · obtain ⟨h1, h2, h3, h4⟩ := Y.2.1 t ht kt
      obtain ⟨x1, x2, x3, x4⟩ := Y.2.1 x hx kx
      have g := h3.mp gt
      obtain ⟨p1, p2, p3⟩ := tc_Y_part Y ht hx gt gx kt (by omega) e
      exact ⟨c.2.1 _ _ h1 x1 g.1 p2 a, c.2.1 _ _ h2 x2 g.2 p3 b⟩
  · intro h
    exact c.2.2 x hx gx kx h.1 h.2
theorem tc_S_atom (Y : tc_Y kd fs sc n tw sz rs G) {M : Nat → Prop} (sat : ∀ t u, t < n → u < n → G t → tw t = tw u → M t → M u) {x : Nat} (hx : x < n) (gx : G x) (kx : kd (rs x) < 3) (nm : ¬ M x) : ¬ tc_S kd fs sc n tw G M x := by
  intro h
  rcases tc_S_inv Y sat hx gx h with m | ⟨t, ht, gt, kt, e, a, b⟩
  · exact nm m
  · have h1 := tc_Y_kd Y ht hx gt gx e
    rw [Y.2.2.2.2.2.2 t ht (by omega)] at h1
    omega
theorem tc_S_rs (Y : tc_Y kd fs sc n tw sz rs G) {M : Nat → Prop} {x : Nat} (hx : x < n) (gx : G x) : tc_S kd fs sc n tw G M x ↔ tc_S kd fs sc n tw G M (rs x) := by
  have c := tc_S_cl (kd := kd) (fs := fs) (sc := sc) (n := n) (tw := tw) (G := G) M
  obtain ⟨a1, a2, a3, a4, a5, a6⟩ := Y.1 x hx gx
  exact ⟨c.2.1 x (rs x) hx a1 gx a3.symm, c.2.1 (rs x) x a1 hx a2 a3⟩
theorem tc_main (Y : tc_Y kd fs sc n tw sz rs G) {K M : Nat → Prop}
    (sat : ∀ t u, t < n → u < n → G t → tw t = tw u → M t → M u)
    (hK : ∀ x, x < n → K x → G x ∧ M x)
    (hM : ∀ x, x < n → G x → M x → tc_L kd fs sc n tw K x)
    (fin : ∀ x, x < n → G x → M x → ∃ y, y < n ∧ G y ∧ kd y ≠ 2 ∧ tw y = tw x ∧ (kd y = 3 → M (fs y) ∧ M (sc y)) ∧ (kd y = 4 → tc_S kd fs sc n tw G M (sc y) → M (fs y)) ∧ (kd y = 5 → kd (tw (sc y)) = 1 → sc (tw (sc y)) = 1 → M (fs y)))
    {g : Nat} (hg : g < n) (gg : G g) : tc_S kd fs sc n tw G M g ↔ tc_L kd fs sc n tw K g := by
  have c := tc_S_cl (kd := kd) (fs := fs) (sc := sc) (n := n) (tw := tw) (G := G) M
  have cl := tc_L_cl kd fs sc n tw K
  constructor
  · intro h
    exact h (tc_L kd fs sc n tw K) ⟨hM, fun t u ht hu _ e a => cl.1 t u ht hu e a, fun t ht _ k a b => cl.2.1 t ht k a b⟩
  · intro h
    have key : ∀ t, t < n → 3 ≤ kd t → G t → tc_S kd fs sc n tw G M t → (tc_S kd fs sc n tw G M (fs t) ∧ tc_S kd fs sc n tw G M (sc t)) ∨ ∃ y, y < n ∧ G y ∧ kd y = kd t ∧ fs y < n ∧ sc y < n ∧ G (fs y) ∧ G (sc y) ∧ tw (fs y) = tw (fs t) ∧ tw (sc y) = tw (sc t) ∧ (kd y = 3 → M (fs y) ∧ M (sc y)) ∧ (kd y = 4 → tc_S kd fs sc n tw G M (sc y) → M (fs y)) ∧ (kd y = 5 → kd (tw (sc y)) = 1 → sc (tw (sc y)) = 1 → M (fs y)) := by
      intro t ht kt gt st
      by_cases m : M t
      · obtain ⟨y, hy, gy, ky, e, f1, f2, f3⟩ := fin t ht gt m
        obtain ⟨p1, p2, p3⟩ := tc_Y_part Y ht hy gt gy kt ky e.symm
        obtain ⟨y1, y2, y3, y4⟩ := Y.2.1 y hy (by omega)
        have g := y3.mp gy
        exact Or.inr ⟨y, hy, gy, p1.symm, y1, y2, g.1, g.2, p2.symm, p3.symm, f1, f2, f3⟩
      · exact Or.inl ((tc_S_comp Y sat ht gt kt m).mp st)
    refine (h (fun x => G x ∧ tc_S kd fs sc n tw G M x) ⟨?_, ?_, ?_, ?_, ?_⟩ ?_).2
    · intro t u ht hu e a
      exact ⟨Y.2.2.1 t u ht hu e a.1, c.2.1 t u ht hu a.1 e a.2⟩
    · intro t ht k a b
      have gt := (Y.2.1 t ht k).2.2.1.mpr ⟨a.1, b.1⟩
      exact ⟨gt, c.2.2 t ht gt k a.2 b.2⟩
    · intro t ht k a
      obtain ⟨t1, t2, t3, t4⟩ := Y.2.1 t ht (by omega)
      have g := t3.mp a.1
      rcases key t ht (by omega) a.1 a.2 with ⟨s1, s2⟩ | ⟨y, hy, gy, ky, y1, y2, g1, g2, w1, w2, f1, f2, f3⟩
      · exact ⟨⟨g.1, s1⟩, ⟨g.2, s2⟩⟩
      · have m := f1 (by omega)
        exact ⟨⟨g.1, c.2.1 _ _ y1 t1 g1 w1 (c.1 _ y1 g1 m.1)⟩, ⟨g.2, c.2.1 _ _ y2 t2 g2 w2 (c.1 _ y2 g2 m.2)⟩⟩
    · intro t ht k a b
      obtain ⟨t1, t2, t3, t4⟩ := Y.2.1 t ht (by omega)
      have g := t3.mp a.1
      rcases key t ht (by omega) a.1 a.2 with ⟨s1, s2⟩ | ⟨y, hy, gy, ky, y1, y2, g1, g2, w1, w2, f1, f2, f3⟩
      · exact ⟨g.1, s1⟩
      · have m := f2 (by omega) (c.2.1 _ _ t2 y2 g.2 w2.symm b.2)
        exact ⟨g.1, c.2.1 _ _ y1 t1 g1 w1 (c.1 _ y1 g1 m)⟩
    · intro t ht k a e1 e2
      obtain ⟨t1, t2, t3, t4⟩ := Y.2.1 t ht (by omega)
      have g := t3.mp a.1
      rcases key t ht (by omega) a.1 a.2 with ⟨s1, s2⟩ | ⟨y, hy, gy, ky, y1, y2, g1, g2, w1, w2, f1, f2, f3⟩
      · exact ⟨g.1, s1⟩
      · have m := f3 (by omega) (by rw [w2]; exact e1) (by rw [w2]; exact e2)
        exact ⟨g.1, c.2.1 _ _ y1 t1 g1 w1 (c.1 _ y1 g1 m)⟩
    · intro u hu k
      obtain ⟨g1, m⟩ := hK u hu k
      exact ⟨g1, c.1 u hu g1 m⟩
variable (tw)
def tc_M (f : Nat → Nat) (m x : Nat) : Prop := ∃ i, i < m ∧ tw (f i) = tw x
variable {tw}
theorem tc_M_sat {f : Nat → Nat} {m : Nat} : ∀ t u, t < n → u < n → G t → tw t = tw u → tc_M tw f m t → tc_M tw f m u := by
  intro t u _ _ _ e h
  obtain ⟨i, hi, w⟩ := h
  exact ⟨i, hi, w.trans e⟩
theorem tc_M_up {f : Nat → Nat} {m c x : Nat} : tc_M tw (pu_upd f m c) (m + 1) x ↔ tc_M tw f m x ∨ tw c = tw x := by
  constructor
  · intro h
    obtain ⟨i, hi, w⟩ := h
    by_cases e : i = m
    · rw [e, pu_us] at w; exact Or.inr w
    · rw [pu_un e] at w; exact Or.inl ⟨i, by omega, w⟩
  · intro h
    rcases h with ⟨i, hi, w⟩ | w
    · exact ⟨i, by omega, by rw [pu_un (by omega)]; exact w⟩
    · exact ⟨m, by omega, by rw [pu_us]; exact w⟩
theorem tc_M_room {f : Nat → Nat} {m c : Nat} (hf : ∀ i, i < m → tw (f i) < 64) (hc : tw c < 64) (inj : ∀ i j, i < m → j < m → tw (f i) = tw (f j) → i = j) (nm : ¬ tc_M tw f m c) : m < 64 := by
  have h := pu_php 64 (m + 1) (fun i => tw (pu_upd f m c i)) (by
    intro i hi
    show tw (pu_upd f m c i) < 64
    by_cases e : i = m
    · rw [e, pu_us]; exact hc
    · rw [pu_un e]; exact hf i (by omega)) (by
    intro i j hi hj w
    have w' : tw (pu_upd f m c i) = tw (pu_upd f m c j) := w
    by_cases ei : i = m
    · by_cases ej : j = m
      · omega
      · rw [ei, pu_us, pu_un ej] at w'
        exact absurd ⟨j, by omega, w'.symm⟩ nm
    · by_cases ej : j = m
      · rw [ej, pu_us, pu_un ei] at w'
        exact absurd ⟨i, by omega, w'⟩ nm
      · rw [pu_un ei, pu_un ej] at w'
        exact inj i j (by omega) (by omega) w')
  omega
end
