section
def ci_C (kd fs sc sz gr : Nat → Nat) (na : Nat) (ac : Nat → Nat) (vc : Nat → Int32) (t : Nat) : Prop :=
  (kd t = 1 ∧ fs t < na ∧ ac (fs t) = t ∧ sc t ≤ 1 ∧ sz t = 1 ∧ gr t = 1) ∨
  (kd t = 2 ∧ fs t < 3 ∧ vc (fs t) = nI t ∧ sc t = 0 ∧ sz t = 1 ∧ gr t = 0) ∨
  (3 ≤ kd t ∧ kd t ≤ 5 ∧ fs t < t ∧ sc t < t ∧ sz t = 1 + sz (fs t) + sz (sc t) ∧ sz t ≤ 32 ∧ (gr t = 1 ↔ gr (fs t) = 1 ∧ gr (sc t) = 1) ∧ gr t ≤ 1)
def ci_I (kd fs sc sz gr : Nat → Nat) (n na : Nat) (ac : Nat → Nat) (vc : Nat → Int32) : Prop :=
  n ≤ 64 ∧ na ≤ 8 ∧
  (∀ t, t < n → ci_C kd fs sc sz gr na ac vc t) ∧
  (∀ i, i < na → ac i < n ∧ kd (ac i) = 1 ∧ fs (ac i) = i) ∧
  (∀ v, v < 3 → vc v = -1 ∨ ∃ t, t < n ∧ vc v = nI t ∧ kd t = 2 ∧ fs t = v) ∧
  (∀ t u, t < n → u < n → 3 ≤ kd t → kd t = kd u → fs t = fs u → sc t = sc u → t = u)
variable {kd fs sc sz gr : Nat → Nat} {n na : Nat} {ac : Nat → Nat} {vc : Nat → Int32}
theorem ci_sz (I : ci_I kd fs sc sz gr n na ac vc) : ∀ t, t < n → 1 ≤ sz t ∧ sz t ≤ 32 := by
  intro t ht
  rcases I.2.2.1 t ht with ⟨_, _, _, _, h, _⟩ | ⟨_, _, _, _, h, _⟩ | ⟨_, _, _, _, h, h2, _⟩
  · omega
  · omega
  · omega
theorem ci_kd (I : ci_I kd fs sc sz gr n na ac vc) {t : Nat} (ht : t < n) : 1 ≤ kd t ∧ kd t ≤ 5 := by
  rcases I.2.2.1 t ht with ⟨h, _⟩ | ⟨h, _⟩ | ⟨h, h2, _⟩
  · omega
  · omega
  · omega
theorem ci_gr (I : ci_I kd fs sc sz gr n na ac vc) {t : Nat} (ht : t < n) : gr t ≤ 1 := by
  rcases I.2.2.1 t ht with ⟨_, _, _, _, _, h⟩ | ⟨_, _, _, _, _, h⟩ | ⟨_, _, _, _, _, _, _, h⟩
  · omega
  · omega
  · omega
theorem ci_k1 (I : ci_I kd fs sc sz gr n na ac vc) {t : Nat} (ht : t < n) (k : kd t = 1) : fs t < na ∧ ac (fs t) = t ∧ sc t ≤ 1 ∧ sz t = 1 ∧ gr t = 1 := by
  rcases I.2.2.1 t ht with ⟨_, h⟩ | ⟨h, _⟩ | ⟨h, h2, _⟩
  · exact h
  · omega
  · omega
theorem ci_k2 (I : ci_I kd fs sc sz gr n na ac vc) {t : Nat} (ht : t < n) (k : kd t = 2) : fs t < 3 ∧ vc (fs t) = nI t ∧ sc t = 0 ∧ sz t = 1 ∧ gr t = 0 := by
  rcases I.2.2.1 t ht with ⟨h, _⟩ | ⟨_, h⟩ | ⟨h, h2, _⟩
  · omega
  · exact h
  · omega
theorem ci_k3 (I : ci_I kd fs sc sz gr n na ac vc) {t : Nat} (ht : t < n) (k : 3 ≤ kd t) : kd t ≤ 5 ∧ fs t < t ∧ sc t < t ∧ sz t = 1 + sz (fs t) + sz (sc t) ∧ sz t ≤ 32 ∧ (gr t = 1 ↔ gr (fs t) = 1 ∧ gr (sc t) = 1) ∧ gr t ≤ 1 := by
  rcases I.2.2.1 t ht with ⟨h, _⟩ | ⟨h, _⟩ | ⟨_, h⟩
  · omega
  · omega
  · exact h
theorem ci_b (I : ci_I kd fs sc sz gr n na ac vc) {t : Nat} (ht : t < n) : fs t < 64 ∧ sc t < 64 := by
  have hn := I.1
  have ha := I.2.1
  rcases I.2.2.1 t ht with ⟨_, h, _, h2, _⟩ | ⟨_, h, _, h2, _⟩ | ⟨_, _, h, h2, _⟩
  · omega
  · omega
  · omega
variable (kd fs sc)
def ci_R (tw : Nat → Nat) (a t : Nat) : Prop := kd a = kd t ∧ tw (fs a) = tw (fs t) ∧ tw (sc a) = tw (sc t)
def ci_X (ac ch tw : Nat → Nat) (t : Nat) : Prop :=
  (kd t = 1 → tw t = t) ∧ (kd t = 2 → tw t = ac (ch (fs t))) ∧
  (3 ≤ kd t → tw t ≤ t ∧ ci_R kd fs sc tw (tw t) t ∧ ∀ a, a < tw t → ¬ ci_R kd fs sc tw a t)
variable {kd fs sc}
theorem ci_twY (I : ci_I kd fs sc sz gr n na ac vc) {ch tw : Nat → Nat} (hc : ∀ t, t < n → kd t = 2 → ch (fs t) < na) (X : ∀ t, t < n → ci_X kd fs sc ac ch tw t) :
    tc_Y kd fs sc n tw sz (fun t => if kd t = 2 then ac (ch (fs t)) else t) (fun _ => True) := by
  have at1 : ∀ t, t < n → kd t = 2 → ac (ch (fs t)) < n ∧ kd (ac (ch (fs t))) = 1 ∧ tw (ac (ch (fs t))) = ac (ch (fs t)) := by
    intro t ht k
    obtain ⟨a1, a2, a3⟩ := I.2.2.2.1 _ (hc t ht k)
    exact ⟨a1, a2, (X _ a1).1 a2⟩
  have hn := I.1
  refine ⟨?_, ?_, ?_, ?_, ?_, ?_, ?_⟩
  · intro t ht _
    show (if kd t = 2 then ac (ch (fs t)) else t) < n ∧ True ∧ tw (if kd t = 2 then ac (ch (fs t)) else t) = tw t ∧ (kd (if kd t = 2 then ac (ch (fs t)) else t) = 1 ∨ 3 ≤ kd (if kd t = 2 then ac (ch (fs t)) else t)) ∧ sz (if kd t = 2 then ac (ch (fs t)) else t) ≤ sz t ∧ kd (tw t) = kd (if kd t = 2 then ac (ch (fs t)) else t)
    by_cases k : kd t = 2
    · rw [if_pos k]
      obtain ⟨a1, a2, a3⟩ := at1 t ht k
      have e := (X t ht).2.1 k
      have s1 := (ci_k1 I a1 a2).2.2.2.1
      have s2 := (ci_k2 I ht k).2.2.2.1
      exact ⟨a1, trivial, by rw [a3, e], Or.inl a2, by omega, by rw [e]⟩
    · rw [if_neg k]
      have kk := ci_kd I ht
      by_cases k1 : kd t = 1
      · exact ⟨ht, trivial, rfl, Or.inl k1, Nat.le_refl _, by rw [(X t ht).1 k1]⟩
      · have k3 : 3 ≤ kd t := by omega
        exact ⟨ht, trivial, rfl, Or.inr k3, Nat.le_refl _, ((X t ht).2.2 k3).2.1.1⟩
  · intro t ht k
    obtain ⟨h1, h2, h3, h4, h5, h6⟩ := ci_k3 I ht k
    exact ⟨by omega, by omega, ⟨fun _ => ⟨trivial, trivial⟩, fun _ => trivial⟩, h4⟩
  · intro _ _ _ _ _ _
    trivial
  · intro t ht _ k
    exact (X t ht).1 k
  · intro t u ht hu _ _ k e
    obtain ⟨t1, t2, t3⟩ := (X t ht).2.2 k
    obtain ⟨u1, u2, u3⟩ := (X u hu).2.2 (by omega)
    constructor
    · intro w
      rw [w] at t2
      exact ⟨t2.2.1.symm.trans u2.2.1, t2.2.2.symm.trans u2.2.2⟩
    · intro w
      have n1 : ¬ tw t < tw u := fun l => u3 _ l ⟨t2.1.trans e, t2.2.1.trans w.1, t2.2.2.trans w.2⟩
      have n2 : ¬ tw u < tw t := fun l => t3 _ l ⟨u2.1.trans e.symm, u2.2.1.trans w.1.symm, u2.2.2.trans w.2.symm⟩
      omega
  · intro t ht
    have s := ci_sz I t ht
    refine ⟨s.1, s.2, ?_⟩
    have kk := ci_kd I ht
    by_cases k1 : kd t = 1
    · rw [(X t ht).1 k1]; omega
    · by_cases k2 : kd t = 2
      · obtain ⟨a1, a2, a3⟩ := at1 t ht k2
        rw [(X t ht).2.1 k2]; omega
      · have h := ((X t ht).2.2 (by omega)).1
        omega
  · intro t ht k
    show (if kd t = 2 then ac (ch (fs t)) else t) = t
    rw [if_neg k]
theorem ci_idY (I : ci_I kd fs sc sz gr n na ac vc) : tc_Y kd fs sc n (fun t => t) sz (fun t => t) (fun t => gr t = 1) := by
  have hn := I.1
  refine ⟨?_, ?_, ?_, ?_, ?_, ?_, ?_⟩
  · intro t ht g
    have g' : gr t = 1 := g
    have kk := ci_kd I ht
    refine ⟨ht, g, rfl, ?_, Nat.le_refl _, rfl⟩
    show kd t = 1 ∨ 3 ≤ kd t
    by_cases k2 : kd t = 2
    · have h := (ci_k2 I ht k2).2.2.2.2
      omega
    · omega
  · intro t ht k
    obtain ⟨h1, h2, h3, h4, h5, h6, h7⟩ := ci_k3 I ht k
    exact ⟨by omega, by omega, h6, h4⟩
  · intro t u ht hu e g
    have e' : t = u := e
    rw [← e']; exact g
  · intro t ht _ k
    rfl
  · intro t u ht hu _ _ k e
    show t = u ↔ fs t = fs u ∧ sc t = sc u
    constructor
    · intro w
      rw [w]; exact ⟨rfl, rfl⟩
    · intro w
      exact I.2.2.2.2.2 t u ht hu k e w.1 w.2
  · intro t ht
    have s := ci_sz I t ht
    exact ⟨s.1, s.2, by show t < 64; omega⟩
  · intro t ht k
    rfl
theorem ci_Xup (I : ci_I kd fs sc sz gr n na ac vc) {ch tw : Nat → Nat} {i x : Nat} (hi : i < n) (X : ∀ t, t < i → ci_X kd fs sc ac ch tw t) : ∀ t, t < i → ci_X kd fs sc ac ch (pu_upd tw i x) t := by
  intro t ht
  have e0 : pu_upd tw i x t = tw t := pu_un (by omega)
  refine ⟨?_, ?_, ?_⟩
  · intro k; rw [e0]; exact (X t ht).1 k
  · intro k; rw [e0]; exact (X t ht).2.1 k
  · intro k
    obtain ⟨h1, h2, h3⟩ := (X t ht).2.2 k
    have R : ∀ a, a ≤ t → (ci_R kd fs sc (pu_upd tw i x) a t ↔ ci_R kd fs sc tw a t) := by
      intro a ha
      obtain ⟨t1, t2, t3, _⟩ := ci_k3 I (by omega : t < n) k
      unfold ci_R
      by_cases e : kd a = kd t
      · obtain ⟨a1, a2, a3, _⟩ := ci_k3 I (by omega : a < n) (by omega)
        rw [pu_un (by omega : fs a ≠ i), pu_un (by omega : fs t ≠ i), pu_un (by omega : sc a ≠ i), pu_un (by omega : sc t ≠ i)]
      · constructor
        · intro w; exact absurd w.1 e
        · intro w; exact absurd w.1 e
    rw [e0]
    exact ⟨h1, (R _ h1).mpr h2, fun a ha w => h3 a ha ((R a (by omega)).mp w)⟩
theorem ci_Xcg (I : ci_I kd fs sc sz gr n na ac vc) {ch tw tw' : Nat → Nat} {i : Nat} (hi : i < n) (e : ∀ t, t ≤ i → tw' t = tw t) (X : ci_X kd fs sc ac ch tw i) : ci_X kd fs sc ac ch tw' i := by
  refine ⟨?_, ?_, ?_⟩
  · intro k; rw [e i (Nat.le_refl i)]; exact X.1 k
  · intro k; rw [e i (Nat.le_refl i)]; exact X.2.1 k
  · intro k
    obtain ⟨h1, h2, h3⟩ := X.2.2 k
    have R : ∀ a, a ≤ i → (ci_R kd fs sc tw' a i ↔ ci_R kd fs sc tw a i) := by
      intro a ha
      obtain ⟨t1, t2, t3, _⟩ := ci_k3 I hi k
      unfold ci_R
      by_cases q : kd a = kd i
      · obtain ⟨a1, a2, a3, _⟩ := ci_k3 I (by omega : a < n) (by omega)
        rw [e (fs a) (by omega), e (fs i) (by omega), e (sc a) (by omega), e (sc i) (by omega)]
      · constructor
        · intro w; exact absurd w.1 q
        · intro w; exact absurd w.1 q
    rw [e i (Nat.le_refl i)]
    exact ⟨h1, (R _ h1).mpr h2, fun a ha w => h3 a ha ((R a (by omega)).mp w)⟩
end
