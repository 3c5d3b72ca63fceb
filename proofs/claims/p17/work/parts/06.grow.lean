section
theorem gw_m1 {t : Nat} (h : t < 64) : ¬ nI t = -1 := by
  intro e
  have h1 := congrArg Int32.toInt e
  rw [nI_toInt (by omega)] at h1
  have h2 : (-1 : Int32).toInt = -1 := by decide
  rw [h2] at h1
  omega
variable {kd fs sc sz gr kd' fs' sc' sz' gr' : Nat → Nat} {n na na' : Nat} {ac ac' : Nat → Nat} {vc vc' : Nat → Int32}
theorem gw_up (I : ci_I kd fs sc sz gr n na ac vc) (hn : n < 64) (hna : na ≤ na') (hna8 : na' ≤ 8)
    (ek : ∀ t, t < n → kd' t = kd t) (ef : ∀ t, t < n → fs' t = fs t) (es : ∀ t, t < n → sc' t = sc t) (ez : ∀ t, t < n → sz' t = sz t) (eg : ∀ t, t < n → gr' t = gr t)
    (ea : ∀ i, i < na → ac' i = ac i) (ev : ∀ t, t < n → kd t = 2 → vc' (fs t) = nI t)
    (new : ci_C kd' fs' sc' sz' gr' na' ac' vc' n)
    (hat : ∀ i, na ≤ i → i < na' → ac' i < n + 1 ∧ kd' (ac' i) = 1 ∧ fs' (ac' i) = i)
    (va' : ∀ v, v < 3 → vc' v = -1 ∨ ∃ t, t < n + 1 ∧ vc' v = nI t ∧ kd' t = 2 ∧ fs' t = v)
    (uq : 3 ≤ kd' n → ∀ u, u < n → kd u = kd' n → fs u = fs' n → sc u = sc' n → False) :
    ci_I kd' fs' sc' sz' gr' (n + 1) na' ac' vc' := by
  refine ⟨by omega, hna8, ?_, ?_, va', ?_⟩
  · intro t ht
    by_cases e : t = n
    · rw [e]; exact new
    · have ht' : t < n := by omega
      rcases I.2.2.1 t ht' with ⟨h1, h2, h3, h4, h5, h6⟩ | ⟨h1, h2, h3, h4, h5, h6⟩ | ⟨h1, h2, h3, h4, h5, h6, h7, h8⟩
      · refine Or.inl ?_
        rw [ek t ht', ef t ht', es t ht', ez t ht', eg t ht', ea _ h2]
        exact ⟨h1, by omega, h3, h4, h5, h6⟩
      · refine Or.inr (Or.inl ?_)
        rw [ek t ht', ef t ht', es t ht', ez t ht', eg t ht', ev t ht' h1]
        exact ⟨h1, h2, rfl, h4, h5, h6⟩
      · refine Or.inr (Or.inr ?_)
        rw [ek t ht', ef t ht', es t ht', ez t ht', eg t ht', ez _ (by omega), ez _ (by omega), eg _ (by omega), eg _ (by omega)]
        exact ⟨h1, h2, h3, h4, h5, h6, h7, h8⟩
  · intro i hi
    by_cases l : i < na
    · obtain ⟨h1, h2, h3⟩ := I.2.2.2.1 i l
      rw [ea i l, ek _ h1, ef _ h1]
      exact ⟨by omega, h2, h3⟩
    · exact hat i (by omega) hi
  · intro t u ht hu k e1 e2 e3
    by_cases et : t = n
    · by_cases eu : u = n
      · omega
      · subst et
        have hu' : u < t := by omega
        rw [ek u hu'] at e1
        rw [ef u hu'] at e2
        rw [es u hu'] at e3
        exact absurd (uq k u hu' e1.symm e2.symm e3.symm) id
    · by_cases eu : u = n
      · subst eu
        have ht' : t < u := by omega
        rw [ek t ht'] at e1 k
        rw [ef t ht'] at e2
        rw [es t ht'] at e3
        exact absurd (uq (by omega) t ht' e1 e2 e3) id
      · have ht' : t < n := by omega
        have hu' : u < n := by omega
        rw [ek t ht'] at e1 k
        rw [ef t ht', ef u hu'] at e2
        rw [es t ht', es u hu'] at e3
        rw [ek u hu'] at e1
        exact I.2.2.2.2.2 t u ht' hu' k e1 e2 e3
theorem gw_atom (I : ci_I kd fs sc sz gr n na ac vc) (hn : n < 64) (ha : na < 8) {b : Nat} (hb : b ≤ 1) :
    ci_I (pu_upd kd n 1) (pu_upd fs n na) (pu_upd sc n b) (pu_upd sz n 1) (pu_upd gr n 1) (n + 1) (na + 1) (pu_upd ac na n) vc := by
  refine gw_up I hn (by omega) (by omega) (fun t h => pu_un (by omega)) (fun t h => pu_un (by omega)) (fun t h => pu_un (by omega)) (fun t h => pu_un (by omega)) (fun t h => pu_un (by omega)) (fun i h => pu_un (by omega)) (fun t h k => (ci_k2 I h k).2.1) ?_ ?_ ?_ ?_
  · refine Or.inl ?_
    rw [pu_us, pu_us, pu_us, pu_us, pu_us, pu_us]
    exact ⟨rfl, by omega, rfl, hb, rfl, rfl⟩
  · intro i h1 h2
    have e : i = na := by omega
    subst e
    rw [pu_us, pu_us, pu_us]
    exact ⟨by omega, rfl, rfl⟩
  · intro v hv
    rcases I.2.2.2.2.1 v hv with h | ⟨t, h1, h2, h3, h4⟩
    · exact Or.inl h
    · refine Or.inr ⟨t, by omega, h2, ?_, ?_⟩
      · rw [pu_un (by omega)]; exact h3
      · rw [pu_un (by omega)]; exact h4
  · intro k
    rw [pu_us] at k
    omega
theorem gw_var (I : ci_I kd fs sc sz gr n na ac vc) (hn : n < 64) {v : Nat} (hv : v < 3) (h0 : vc v = -1) :
    ci_I (pu_upd kd n 2) (pu_upd fs n v) (pu_upd sc n 0) (pu_upd sz n 1) (pu_upd gr n 0) (n + 1) na ac (upd vc v (nI n)) := by
  have us : upd vc v (nI n) v = nI n := by unfold upd; rw [if_pos rfl]
  have un : ∀ w, w ≠ v → upd vc v (nI n) w = vc w := by intro w hw; unfold upd; rw [if_neg hw]
  refine gw_up I hn (Nat.le_refl _) I.2.1 (fun t h => pu_un (by omega)) (fun t h => pu_un (by omega)) (fun t h => pu_un (by omega)) (fun t h => pu_un (by omega)) (fun t h => pu_un (by omega)) (fun i h => rfl) ?_ ?_ ?_ ?_ ?_
  · intro t h k
    have e := (ci_k2 I h k).2.1
    by_cases q : fs t = v
    · rw [q, h0] at e
      exact absurd e.symm (gw_m1 (by omega))
    · rw [un _ q]; exact e
  · refine Or.inr (Or.inl ?_)
    rw [pu_us, pu_us, pu_us, pu_us, pu_us, us]
    exact ⟨rfl, hv, rfl, rfl, rfl, rfl⟩
  · intro i h1 h2
    omega
  · intro w hw
    by_cases q : w = v
    · subst q
      refine Or.inr ⟨n, by omega, us, ?_, ?_⟩
      · rw [pu_us]
      · rw [pu_us]
    · rw [un w q]
      rcases I.2.2.2.2.1 w hw with h | ⟨t, h1, h2, h3, h4⟩
      · exact Or.inl h
      · refine Or.inr ⟨t, by omega, h2, ?_, ?_⟩
        · rw [pu_un (by omega)]; exact h3
        · rw [pu_un (by omega)]; exact h4
  · intro k
    rw [pu_us] at k
    omega
theorem gw_comp (I : ci_I kd fs sc sz gr n na ac vc) (hn : n < 64) {o a b g : Nat} (o3 : 3 ≤ o) (o5 : o ≤ 5) (ha : a < n) (hb : b < n) (hs : 1 + sz a + sz b ≤ 32) (hg : g ≤ 1) (hg' : g = 1 ↔ gr a = 1 ∧ gr b = 1)
    (no : ∀ t, t < n → ¬ (kd t = o ∧ fs t = a ∧ sc t = b)) :
    ci_I (pu_upd kd n o) (pu_upd fs n a) (pu_upd sc n b) (pu_upd sz n (1 + sz a + sz b)) (pu_upd gr n g) (n + 1) na ac vc := by
  refine gw_up I hn (Nat.le_refl _) I.2.1 (fun t h => pu_un (by omega)) (fun t h => pu_un (by omega)) (fun t h => pu_un (by omega)) (fun t h => pu_un (by omega)) (fun t h => pu_un (by omega)) (fun i h => rfl) (fun t h k => (ci_k2 I h k).2.1) ?_ ?_ ?_ ?_
  · refine Or.inr (Or.inr ?_)
    rw [pu_us, pu_us, pu_us, pu_us, pu_us, pu_un (by omega), pu_un (by omega), pu_un (by omega), pu_un (by omega)]
    exact ⟨o3, o5, ha, hb, rfl, hs, hg', hg⟩
  · intro i h1 h2
    omega
  · intro v hv
    rcases I.2.2.2.2.1 v hv with h | ⟨t, h1, h2, h3, h4⟩
    · exact Or.inl h
    · refine Or.inr ⟨t, by omega, h2, ?_, ?_⟩
      · rw [pu_un (by omega)]; exact h3
      · rw [pu_un (by omega)]; exact h4
  · intro k u hu e1 e2 e3
    rw [pu_us] at e1 e2 e3
    exact no u hu ⟨e1, e2, e3⟩
def gw_0 : Nat → Nat := fun _ => 0
theorem gw_start (h : ∀ v, v < 3 → vc v = -1) : ci_I gw_0 gw_0 gw_0 gw_0 gw_0 0 0 gw_0 vc :=
  ⟨by omega, by omega, fun t h => by omega, fun t h => by omega, fun v hv => Or.inl (h v hv), fun t u h => by omega⟩
end
