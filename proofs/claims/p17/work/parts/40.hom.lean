section
variable {kd fs sc sz gr kd' fs' sc' sz' gr' : Nat → Nat} {n na n' na' : Nat} {ac ac' : Nat → Nat} {vc vc' : Nat → Int32}
def hm_T (kd fs sc sz kd' fs' sc' sz' gr' : Nat → Nat) (n' : Nat) (ac ch mp : Nat → Nat) (t : Nat) : Prop :=
  mp t < n' ∧ sz' (mp t) = sz t ∧ gr' (mp t) = 1 ∧
  (kd t = 1 → kd' (mp t) = 1 ∧ sc' (mp t) = sc t) ∧
  (kd t = 2 → mp t = mp (ac (ch (fs t)))) ∧
  (3 ≤ kd t → kd' (mp t) = kd t ∧ fs' (mp t) = mp (fs t) ∧ sc' (mp t) = mp (sc t))
theorem hm_tw (I : ci_I kd fs sc sz gr n na ac vc) (I' : ci_I kd' fs' sc' sz' gr' n' na' ac' vc') {ch tw mp : Nat → Nat} (X : ∀ t, t < n → ci_X kd fs sc ac ch tw t) (hc : ∀ t, t < n → kd t = 2 → ch (fs t) < na) (H : ∀ t, t < n → hm_T kd fs sc sz kd' fs' sc' sz' gr' n' ac ch mp t) : ∀ i t, t < i → t < n → mp (tw t) = mp t := by
  intro i
  induction i with
  | zero => intro t h; omega
  | succ i ih =>
    intro t ht hn
    have kk := ci_kd I hn
    obtain ⟨x1, x2, x3⟩ := X t hn
    obtain ⟨h1, h2, h3, h4, h5, h6⟩ := H t hn
    by_cases k1 : kd t = 1
    · rw [x1 k1]
    · by_cases k2 : kd t = 2
      · rw [x2 k2, h5 k2]
      · have k3 : 3 ≤ kd t := by omega
        obtain ⟨a1, a2, a3⟩ := x3 k3
        obtain ⟨t1, t2, t3, _⟩ := ci_k3 I hn k3
        have an : tw t < n := by omega
        have ka : 3 ≤ kd (tw t) := by rw [a2.1]; exact k3
        obtain ⟨u1, u2, u3, _⟩ := ci_k3 I an ka
        obtain ⟨g1, g2, g3, g4, g5, g6⟩ := H (tw t) an
        obtain ⟨p1, p2, p3⟩ := h6 k3
        obtain ⟨q1, q2, q3⟩ := g6 ka
        have ef : mp (fs (tw t)) = mp (fs t) := by
          rw [← ih (fs (tw t)) (by omega) (by omega), ← ih (fs t) (by omega) (by omega), a2.2.1]
        have es : mp (sc (tw t)) = mp (sc t) := by
          rw [← ih (sc (tw t)) (by omega) (by omega), ← ih (sc t) (by omega) (by omega), a2.2.2]
        exact I'.2.2.2.2.2 _ _ g1 h1 (by omega) (by rw [q1, p1, a2.1]) (by rw [q2, p2, ef]) (by rw [q3, p3, es])
theorem hm_L (I : ci_I kd fs sc sz gr n na ac vc) (I' : ci_I kd' fs' sc' sz' gr' n' na' ac' vc') {ch tw mp : Nat → Nat} (X : ∀ t, t < n → ci_X kd fs sc ac ch tw t) (hc : ∀ t, t < n → kd t = 2 → ch (fs t) < na) (H : ∀ t, t < n → hm_T kd fs sc sz kd' fs' sc' sz' gr' n' ac ch mp t) {K K' : Nat → Prop} (hK : ∀ u, u < n → K u → K' (mp u)) {t : Nat} (h : tc_L kd fs sc n tw K t) : tc_L kd' fs' sc' n' (fun x => x) K' (mp t) := by
  have mt : ∀ u, u < n → mp (tw u) = mp u := fun u hu => hm_tw I I' X hc H (u + 1) u (by omega) hu
  intro S' c' hK'
  refine h (fun u => S' (mp u)) ⟨?_, ?_, ?_, ?_, ?_⟩ (fun u hu k => hK' _ (H u hu).1 (hK u hu k))
  · intro t u ht hu e s
    have e2 : mp t = mp u := by rw [← mt t ht, ← mt u hu, e]
    show S' (mp u)
    rw [← e2]; exact s
  · intro t ht k a b
    obtain ⟨h1, h2, h3, h4, h5, h6⟩ := H t ht
    obtain ⟨p1, p2, p3⟩ := h6 k
    refine c'.2.1 (mp t) h1 (by rw [p1]; exact k) ?_ ?_
    · rw [p2]; exact a
    · rw [p3]; exact b
  · intro t ht k a
    obtain ⟨h1, h2, h3, h4, h5, h6⟩ := H t ht
    obtain ⟨p1, p2, p3⟩ := h6 (by omega)
    have h := c'.2.2.1 (mp t) h1 (by rw [p1]; exact k) a
    rw [p2, p3] at h
    exact h
  · intro t ht k a b
    obtain ⟨h1, h2, h3, h4, h5, h6⟩ := H t ht
    obtain ⟨p1, p2, p3⟩ := h6 (by omega)
    have h := c'.2.2.2.1 (mp t) h1 (by rw [p1]; exact k) a (by rw [p3]; exact b)
    rw [p2] at h
    exact h
  · intro t ht k a e1 e2
    obtain ⟨h1, h2, h3, h4, h5, h6⟩ := H t ht
    obtain ⟨p1, p2, p3⟩ := h6 (by omega)
    obtain ⟨t1, t2, t3, _⟩ := ci_k3 I ht (by omega)
    have sn : sc t < n := by omega
    have tn : tw (sc t) < n := by
      obtain ⟨x1, x2, x3⟩ := X (sc t) sn
      have kk := ci_kd I sn
      by_cases k1 : kd (sc t) = 1
      · rw [x1 k1]; exact sn
      · by_cases k2 : kd (sc t) = 2
        · rw [x2 k2]; exact (I.2.2.2.1 _ (hc _ sn k2)).1
        · have l := (x3 (by omega)).1
          omega
    obtain ⟨g1, g2, g3, g4, g5, g6⟩ := H _ tn
    obtain ⟨w1, w2⟩ := g4 e1
    have em : mp (tw (sc t)) = mp (sc t) := mt _ sn
    rw [em] at w1 w2
    have h := c'.2.2.2.2 (mp t) h1 (by rw [p1]; exact k) a (by show kd' (sc' (mp t)) = 1; rw [p3]; exact w1) (by show sc' (sc' (mp t)) = 1; rw [p3, w2]; exact e2)
    rw [p2] at h
    exact h
end
