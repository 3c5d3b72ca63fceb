section
variable {n na nk ns : Nat} {sec st xal : Int32} {kd fs sc sz gr ac : Nat → Nat} {vc : Nat → Int32} {xl xt xs xc xat xaa xch xtw xds xtg xnx xft : Nat → Nat} {yl yT yS yR : Nat → Nat}
theorem xm_kca {post : St1 → Prop} (hn : n ≤ 64) (K : ∀ w, (∀ u, u < n → w u = u) → post ((nI n), (nI na), (nI nk), (nI ns), sec, st, xal, (pu_A kd), (pu_A fs), (pu_A sc), (pu_A sz), (pu_A gr), (pu_A ac), vc, (pu_A xl), (pu_A xt), (pu_A xs), (pu_A xc), (pu_A xat), (pu_A xaa), (pu_A xch), (pu_A w), (pu_A xds), (pu_A xtg), (pu_A xnx), (pu_A xft))) : ∀ d t m (w : Nat → Nat), t + d = n → d < m → (∀ u, u < t → w u = u) → wX_keepCellsApart_2 post (nI n) (nI na) (nI nk) (nI ns) sec st xal m (nI t) (pu_A kd) (pu_A fs) (pu_A sc) (pu_A sz) (pu_A gr) (pu_A ac) vc (pu_A xl) (pu_A xt) (pu_A xs) (pu_A xc) (pu_A xat) (pu_A xaa) (pu_A xch) (pu_A w) (pu_A xds) (pu_A xtg) (pu_A xnx) (pu_A xft) := by
  intro d
  induction d with
  | zero =>
    intro t m w ht hm hw
    obtain ⟨m, rfl⟩ : ∃ m', m = m' + 1 := ⟨m - 1, by omega⟩
    rw [wX_keepCellsApart_2]
    exact br_t (nI_le (by omega) (by omega)) (K w (fun u hu => hw u (by omega)))
  | succ d ih =>
    intro t m w ht hm hw
    obtain ⟨m, rfl⟩ : ∃ m', m = m' + 1 := ⟨m - 1, by omega⟩
    rw [wX_keepCellsApart_2]
    refine br_f (nI_ge (by omega) (by omega)) ⟨vp_in_nI (by omega) (by omega), nm_r (rl_up (x := t) (by omega) rfl rfl) (nm_r (nI_1 t) (ih (t + 1) m _ (by omega) (by omega) (fun u hu => ?_)))⟩
    by_cases e : u = t
    · rw [e, pu_us]
    · rw [pu_un e]; exact hw u (by omega)
def xw_W (kd fs sc : Nat → Nat) (n : Nat) (xtw : Nat → Nat) : Prop :=
  n ≤ 64 ∧ (∀ t, t < n → xtw t < n ∧ kd t ≤ 5 ∧ fs t < 64 ∧ sc t < 64) ∧ (∀ t, t < n → 3 ≤ kd t → fs t < n ∧ sc t < n)
theorem xw_H (W : xw_W kd fs sc n xtw) : xk_H kd fs sc n xtw := by
  obtain ⟨W1, W2, W3⟩ := W
  exact ⟨fun t ht => ⟨by have h := (W2 t ht).1; omega, (W2 t ht).2.1⟩, W3⟩
theorem xm_wl {post : Int64 → Prop} (W : xw_W kd fs sc n xtw) (h8 : nk ≤ 8) (hl : ∀ i, i < nk → xl i < n) (K : ∀ B, (∀ b, b < 64 → (xk_b B b = true ↔ ∃ a, a < nk ∧ xtw (xl a) = b)) → post B) : ∀ d i m B, i + d = nk → d < m → (∀ b, b < 64 → (xk_b B b = true ↔ ∃ a, a < i ∧ xtw (xl a) = b)) → wX_withLearned_4 post (nI n) (nI na) (nI nk) (nI ns) sec st xal (pu_A kd) (pu_A fs) (pu_A sc) (pu_A sz) (pu_A gr) (pu_A ac) vc (pu_A xl) (pu_A xt) (pu_A xs) (pu_A xc) (pu_A xat) (pu_A xaa) (pu_A xch) (pu_A xtw) (pu_A xds) (pu_A xtg) (pu_A xnx) (pu_A xft) m B (nI i) := by
  intro d
  induction d with
  | zero =>
    intro i m B hi hm hB
    obtain ⟨m, rfl⟩ : ∃ m', m = m' + 1 := ⟨m - 1, by omega⟩
    rw [wX_withLearned_4]
    have e : i = nk := by omega
    subst e
    exact br_t (nI_le (Nat.le_refl i) (by omega)) (K B hB)
  | succ d ih =>
    intro i m B hi hm hB
    obtain ⟨m, rfl⟩ : ∃ m', m = m' + 1 := ⟨m - 1, by omega⟩
    obtain ⟨W1, W2, W3⟩ := id W
    have l := hl i (by omega)
    have tl := (W2 _ l).1
    have e1 : pu_A xl (nI i).toNatClampNeg = nI (xl i) := pu_Ag xl (by omega)
    have e2 : pu_A xtw (nI (xl i)).toNatClampNeg = nI (xtw (xl i)) := pu_Ag xtw (by omega)
    rw [wX_withLearned_4]
    refine br_f (nI_ge (by omega) (by omega)) ⟨vp_in_nI (by omega) (by omega), by rw [e1]; exact vp_in_nI (by omega) (by omega), nm_r (e' := B ||| xk_s (xtw (xl i))) (by rw [e1, e2]; rfl) (nm_r (nI_1 i) (ih (i + 1) m _ (by omega) (by omega) (fun b hb => ?_)))⟩
    rw [xk_or, xk_one (by omega)]
    constructor
    · intro h
      by_cases q : xk_b B b = true
      · obtain ⟨a, ha, w⟩ := (hB b hb).mp q
        exact ⟨a, by omega, w⟩
      · rw [ts_nt q, Bool.false_or] at h
        exact ⟨i, by omega, of_decide_eq_true h⟩
    · intro h
      obtain ⟨a, ha, w⟩ := h
      by_cases q : a = i
      · rw [q] at w
        rw [decide_eq_true w, Bool.or_true]
      · rw [(hB b hb).mpr ⟨a, by omega, w⟩, Bool.true_or]
theorem xm_withLearned {post : Int64 → Prop} (W : xw_W kd fs sc n xtw) (h8 : nk ≤ 8) (hl : ∀ i, i < nk → xl i < n) (K : ∀ B, (∀ b, b < 64 → (xk_b B b = true ↔ ∃ a, a < nk ∧ xtw (xl a) = b)) → post B) : wpX_withLearned post ((nI n), (nI na), (nI nk), (nI ns), sec, st, xal, (pu_A kd), (pu_A fs), (pu_A sc), (pu_A sz), (pu_A gr), (pu_A ac), vc, (pu_A xl), (pu_A xt), (pu_A xs), (pu_A xc), (pu_A xat), (pu_A xaa), (pu_A xch), (pu_A xtw), (pu_A xds), (pu_A xtg), (pu_A xnx), (pu_A xft)) := by
  refine ⟨nk + 1, xm_wl W h8 hl K nk 0 (nk + 1) 0 (by omega) (by omega) (fun b hb => ?_)⟩
  rw [xk_0]
  exact ⟨fun h => absurd h (by decide), fun h => by obtain ⟨a, ha, _⟩ := h; omega⟩
theorem xm_comp {post : Int32 → Prop} {t : Nat} (W : xw_W kd fs sc n xtw) (ht : t < n) (h1 : kd t = 1 ∧ sc t = 1 → post 1) (h0 : ¬ (kd t = 1 ∧ sc t = 1) → post 0) : wpX_isCompromised post ((nI n), (nI na), (nI nk), (nI ns), sec, st, xal, (pu_A kd), (pu_A fs), (pu_A sc), (pu_A sz), (pu_A gr), (pu_A ac), vc, (pu_A xl), (pu_A xt), (pu_A xs), (pu_A xc), (pu_A xat), (pu_A xaa), (pu_A xch), (pu_A xtw), (pu_A xds), (pu_A xtg), (pu_A xnx), (pu_A xft)) (nI t) := by
  obtain ⟨W1, W2, W3⟩ := W
  obtain ⟨b1, b2, b3, b4⟩ := W2 t ht
  have w : vp_in (nI t) 64 := vp_in_nI (by omega) (by omega)
  exact ⟨w, pk_eq (kd t) 1 (fun k => ⟨w, pk_eq (sc t) 1 (fun s => h1 ⟨k, s⟩) (fun s => h0 (fun h => s h.2)) (pu_Ag sc (by omega))⟩) (fun k => h0 (fun h => k h.1)) (pu_Ag kd (by omega))⟩
theorem xm_79 {post : Int64 → Prop} {w : Int64} {a b : Nat} (h1 : a ≠ 0 ∧ b ≠ 0 → post w) (h0 : ¬ (a ≠ 0 ∧ b ≠ 0) → post 0) (ha : a ≤ 1) (hb : b ≤ 1) : wX_derivedAt_79 post w (nI a) (nI b) (nI n) (nI na) (nI nk) (nI ns) sec st xal (pu_A kd) (pu_A fs) (pu_A sc) (pu_A sz) (pu_A gr) (pu_A ac) vc (pu_A xl) (pu_A xt) (pu_A xs) (pu_A xc) (pu_A xat) (pu_A xaa) (pu_A xch) (pu_A xtw) (pu_A xds) (pu_A xtg) (pu_A xnx) (pu_A xft) :=
  pk_eq b 0 (fun e => h0 (fun h => h.2 e)) (fun e => pk_eq a 0 (fun e2 => h0 (fun h => h.1 e2)) (fun e2 => h1 ⟨e2, e⟩))
theorem xm_54 {post : Int64 → Prop} {t z : Nat} {B : Int64} (W : xw_W kd fs sc n xtw) (ht : t < n) (k3 : 3 ≤ kd t) (hz : z ≤ 1) (ez : z = 1 ↔ xk_b B (xtw (sc t)) = true) (h : post (xk_d kd fs sc xtw t B)) : wX_derivedAt_54 post (nI t) B (xk_s (xtw t)) (xk_s (xtw (fs t))) (xk_s (xtw (sc t))) (nI z) (nI n) (nI na) (nI nk) (nI ns) sec st xal (pu_A kd) (pu_A fs) (pu_A sc) (pu_A sz) (pu_A gr) (pu_A ac) vc (pu_A xl) (pu_A xt) (pu_A xs) (pu_A xc) (pu_A xat) (pu_A xaa) (pu_A xch) (pu_A xtw) (pu_A xds) (pu_A xtg) (pu_A xnx) (pu_A xft) := by
  obtain ⟨W1, W2, W3⟩ := id W
  obtain ⟨b1, b2, b3, b4⟩ := W2 t ht
  obtain ⟨c1, c2⟩ := W3 t ht k3
  have wf := (W2 _ c1).1
  have ws := (W2 _ c2).1
  have w : vp_in (nI t) 64 := vp_in_nI (by omega) (by omega)
  have xw := xk_and (B := B) (by omega : xtw t < 64)
  have xf := xk_and (B := B) (by omega : xtw (fs t) < 64)
  unfold wX_derivedAt_54
  by_cases q : xk_b B (xtw t) = false
  · refine br_t (xw.mpr q) (br_c (fun e => ?_) (fun e => ?_))
    · have hd : xk_d kd fs sc xtw t B = 0 := by
        unfold xk_d
        rw [if_pos q, if_neg (fun a => by rw [xf.mp e] at a; exact absurd a.1 (by decide))]
      rw [hd] at h
      exact xm_79 (a := z) (b := 0) (fun a => absurd rfl a.2) (fun _ => h) hz (by omega)
    · have ef : xk_b B (xtw (fs t)) = true := ts_nf (fun a => e (xf.mpr a))
      refine xm_79 (a := z) (b := 1) (fun a => ?_) (fun a => ?_) hz (by omega)
      · have hd : xk_d kd fs sc xtw t B = xk_s (xtw t) := by
          unfold xk_d
          rw [if_pos q, if_pos ⟨ef, ez.mp (by omega)⟩]
        rw [hd] at h
        exact h
      · have hd : xk_d kd fs sc xtw t B = 0 := by
          unfold xk_d
          rw [if_pos q, if_neg (fun c => a ⟨by have g := ez.mpr c.2; omega, by omega⟩)]
        rw [hd] at h
        exact h
  · refine br_f (fun a => q (xw.mp a)) ⟨w, nm_r (pu_Ag kd (by omega)) (pk_eq (kd t) 3 (fun k => ?_) (fun k => pk_eq (kd t) 4 (fun k4 => pk_eq z 0 (fun e => ?_) (fun e => ?_)) (fun k4 => ⟨w, by rw [pu_Ag sc (by omega)]; exact vp_in_nI (by omega) (by omega), ?_⟩)))⟩
    · have hd : xk_d kd fs sc xtw t B = (xk_s (xtw (fs t)) ||| xk_s (xtw (sc t))) := by
        unfold xk_d
        rw [if_neg q, if_pos k]
      rw [hd] at h
      exact h
    · have hd : xk_d kd fs sc xtw t B = 0 := by
        unfold xk_d
        rw [if_neg q, if_neg k, if_pos k4, if_neg (fun c => by have g := ez.mpr c; omega)]
      rw [hd] at h
      exact h
    · have hd : xk_d kd fs sc xtw t B = xk_s (xtw (fs t)) := by
        unfold xk_d
        rw [if_neg q, if_neg k, if_pos k4, if_pos (ez.mp (by omega))]
      rw [hd] at h
      exact h
    · rw [pu_Ag sc (by omega), pu_Ag xtw (by omega)]
      refine xm_comp W ws (fun c => ?_) (fun c => ?_)
      · have hd : xk_d kd fs sc xtw t B = xk_s (xtw (fs t)) := by
          unfold xk_d
          rw [if_neg q, if_neg k, if_neg k4, if_pos c]
        rw [hd] at h
        exact br_f (by decide) h
      · have hd : xk_d kd fs sc xtw t B = 0 := by
          unfold xk_d
          rw [if_neg q, if_neg k, if_neg k4, if_neg c]
        rw [hd] at h
        exact br_t rfl h
theorem xm_dAt {post : Int64 → Prop} {t : Nat} {B : Int64} (W : xw_W kd fs sc n xtw) (ht : t < n) (k3 : 3 ≤ kd t) (h : post (xk_d kd fs sc xtw t B)) : wpX_derivedAt post ((nI n), (nI na), (nI nk), (nI ns), sec, st, xal, (pu_A kd), (pu_A fs), (pu_A sc), (pu_A sz), (pu_A gr), (pu_A ac), vc, (pu_A xl), (pu_A xt), (pu_A xs), (pu_A xc), (pu_A xat), (pu_A xaa), (pu_A xch), (pu_A xtw), (pu_A xds), (pu_A xtg), (pu_A xnx), (pu_A xft)) (nI t) B := by
  obtain ⟨W1, W2, W3⟩ := id W
  obtain ⟨b1, b2, b3, b4⟩ := W2 t ht
  obtain ⟨c1, c2⟩ := W3 t ht k3
  have ws := (W2 _ c2).1
  have w : vp_in (nI t) 64 := vp_in_nI (by omega) (by omega)
  have ef : pu_A fs (nI t).toNatClampNeg = nI (fs t) := pu_Ag fs (by omega)
  have es : pu_A sc (nI t).toNatClampNeg = nI (sc t) := pu_Ag sc (by omega)
  have xs := xk_and (B := B) (by omega : xtw (sc t) < 64)
  refine ⟨w, nm_r (e' := xk_s (xtw t)) (by rw [pu_Ag xtw (by omega)]; rfl) ⟨w, by rw [ef]; exact vp_in_nI (by omega) (by omega), nm_r (e' := xk_s (xtw (fs t))) (by rw [ef, pu_Ag xtw (by omega)]; rfl) ⟨w, by rw [es]; exact vp_in_nI (by omega) (by omega), nm_r (e' := xk_s (xtw (sc t))) (by rw [es, pu_Ag xtw (by omega)]; rfl) (br_c (fun e => ?_) (fun e => ?_))⟩⟩⟩
  · exact xm_54 (z := 0) W ht k3 (by omega) ⟨fun a => by omega, fun a => by rw [xs.mp e] at a; exact absurd a (by decide)⟩ h
  · exact xm_54 (z := 1) W ht k3 (by omega) ⟨fun _ => ts_nf (fun a => e (xs.mpr a)), fun _ => rfl⟩ h
theorem xm_c26 {post : Int64 → Prop} {J : Int64 → Int32 → Int32 → Prop} {r : Nat} {B : Int64} (W : xw_W kd fs sc n xtw)
    (K0 : (∀ u, u < n → 3 ≤ kd u → (B ||| xk_d kd fs sc xtw u B) = B) → J B 0 (nI (r + 1)))
    (K1 : ∀ C, ¬ C = B → (∀ i, i < 64 → xk_b B i = true → xk_b C i = true) → (∀ S, tc_Cl kd fs sc n xtw S → xk_N n xtw S B → xk_N n xtw S C) → J C 1 (nI (r + 1))) :
    ∀ d t m C, t + d = n → d < m → (∀ i, i < 64 → xk_b B i = true → xk_b C i = true) → (∀ S, tc_Cl kd fs sc n xtw S → xk_N n xtw S B → xk_N n xtw S C) → (C = B → ∀ u, u < t → 3 ≤ kd u → (B ||| xk_d kd fs sc xtw u B) = B) → wX_closure_26 post J (nI r) B (nI n) (nI na) (nI nk) (nI ns) sec st xal (pu_A kd) (pu_A fs) (pu_A sc) (pu_A sz) (pu_A gr) (pu_A ac) vc (pu_A xl) (pu_A xt) (pu_A xs) (pu_A xc) (pu_A xat) (pu_A xaa) (pu_A xch) (pu_A xtw) (pu_A xds) (pu_A xtg) (pu_A xnx) (pu_A xft) m C (nI t) := by
  obtain ⟨W1, W2, W3⟩ := id W
  intro d
  induction d with
  | zero =>
    intro t m C ht hm up sd eqv
    obtain ⟨m, rfl⟩ : ∃ m', m = m' + 1 := ⟨m - 1, by omega⟩
    rw [wX_closure_26]
    refine br_t (nI_le (by omega) (by omega)) (br_c (fun e => nm_r (nI_1 r) ?_) (fun e => nm_r (nI_1 r) (K1 C e up sd)))
    have h := eqv e
    rw [e]
    exact K0 (fun u hu k => h u (by omega) k)
  | succ d ih =>
    intro t m C ht hm up sd eqv
    obtain ⟨m, rfl⟩ : ∃ m', m = m' + 1 := ⟨m - 1, by omega⟩
    have ht' : t < n := by omega
    obtain ⟨b1, b2, b3, b4⟩ := W2 t ht'
    rw [wX_closure_26]
    refine br_f (nI_ge ht' (by omega)) ⟨vp_in_nI (by omega) (by omega), pk_lt (kd t) 3 (fun k => ?_) (fun k => ?_) (pu_Ag kd (by omega))⟩
    · refine nm_r (nI_1 t) (ih (t + 1) m C (by omega) (by omega) up sd (fun e u hu ku => ?_))
      by_cases q : u = t
      · rw [q] at ku; omega
      · exact eqv e u (by omega) ku
    · refine xm_dAt W ht' k (nm_e (nm_r (nI_1 t) (ih (t + 1) m _ (by omega) (by omega) (fun i hi h => xk_sub _ _ (up i hi h)) (fun S c hB => xk_Nor (sd S c hB) (xk_dN (xw_H W) c (sd S c hB) ht' k)) (fun e u hu ku => ?_))))
      have eC : C = B := by
        refine xk_ext (fun i hi => ?_)
        by_cases q : xk_b B i = true
        · rw [q, up i hi q]
        · have hc : ¬ xk_b C i = true := fun c => by
            have h2 := xk_sub C (xk_d kd fs sc xtw t C) c
            rw [e] at h2
            exact q h2
          rw [ts_nt q, ts_nt hc]
      by_cases q : u = t
      · rw [q]
        rw [eC] at e
        exact e
      · exact eqv eC u (by omega) ku
theorem xm_c8 {post : Int64 → Prop} {B0 : Int64} (W : xw_W kd fs sc n xtw)
    (K : ∀ B, (∀ i, i < 64 → xk_b B0 i = true → xk_b B i = true) → (∀ S, tc_Cl kd fs sc n xtw S → xk_N n xtw S B0 → xk_N n xtw S B) → tc_Cl kd fs sc n xtw (fun u => xk_b B (xtw u) = true) → post B) :
    ∀ d r m B, r + d = 64 → d + 1 < m → r ≤ pu_cn (xk_b B) 64 → (∀ i, i < 64 → xk_b B0 i = true → xk_b B i = true) → (∀ S, tc_Cl kd fs sc n xtw S → xk_N n xtw S B0 → xk_N n xtw S B) → wX_closure_8 post (nI n) (nI na) (nI nk) (nI ns) sec st xal (pu_A kd) (pu_A fs) (pu_A sc) (pu_A sz) (pu_A gr) (pu_A ac) vc (pu_A xl) (pu_A xt) (pu_A xs) (pu_A xc) (pu_A xat) (pu_A xaa) (pu_A xch) (pu_A xtw) (pu_A xds) (pu_A xtg) (pu_A xnx) (pu_A xft) m B 1 (nI r) := by
  intro d
  induction d with
  | zero =>
    intro r m B hr hm hc up sd
    obtain ⟨m, rfl⟩ : ∃ m', m = m' + 1 := ⟨m - 1, by omega⟩
    rw [wX_closure_8]
    exact br_f (by decide) (br_t (nI_le (a := 64) (by omega) (by omega)) (K B up sd (xk_full (by omega) (xw_H W))))
  | succ d ih =>
    intro r m B hr hm hc up sd
    obtain ⟨m, rfl⟩ : ∃ m', m = m' + 1 := ⟨m - 1, by omega⟩
    rw [wX_closure_8]
    refine br_f (by decide) (br_f (nI_ge (b := 64) (by omega) (by omega)) ⟨n + 1, xm_c26 W (fun h => ?_) (fun C ne up2 sd2 => ?_) n 0 (n + 1) B (by omega) (by omega) (fun i _ h => h) (fun S _ h => h) (fun _ u hu => by omega)⟩)
    · obtain ⟨m, rfl⟩ : ∃ m', m = m' + 1 := ⟨m - 1, by omega⟩
      rw [wX_closure_8]
      exact br_t rfl (K B up sd (xk_cl (xw_H W) h))
    · have g := xk_grow up2 ne
      exact ih (r + 1) m C (by omega) (by omega) (by omega) (fun i hi h => up2 i hi (up i hi h)) (fun S c h => sd2 S c (sd S c h))
theorem xm_closure {post : Int64 → Prop} {B0 : Int64} {K : Nat → Prop} (W : xw_W kd fs sc n xtw) (h0 : xk_K n xtw K B0) (h : ∀ B, (∀ t, t < n → (xk_b B (xtw t) = true ↔ tc_L kd fs sc n xtw K t)) → post B) : wpX_closure post ((nI n), (nI na), (nI nk), (nI ns), sec, st, xal, (pu_A kd), (pu_A fs), (pu_A sc), (pu_A sz), (pu_A gr), (pu_A ac), vc, (pu_A xl), (pu_A xt), (pu_A xs), (pu_A xc), (pu_A xat), (pu_A xaa), (pu_A xch), (pu_A xtw), (pu_A xds), (pu_A xtg), (pu_A xnx), (pu_A xft)) B0 :=
  ⟨66, xm_c8 W (fun B up sd cl => h B (fun t ht => xk_main (xw_H W) h0 up sd cl ht)) 64 0 66 B0 (by omega) (by omega) (by omega) (fun i _ h => h) (fun S _ h => h)⟩
theorem xm_holds {post : Int32 → Prop} {B : Int64} {t : Nat} (W : xw_W kd fs sc n xtw) (ht : t < n) (h1 : xk_b B (xtw t) = true → post 1) (h0 : ¬ xk_b B (xtw t) = true → post 0) : wpX_holds post ((nI n), (nI na), (nI nk), (nI ns), sec, st, xal, (pu_A kd), (pu_A fs), (pu_A sc), (pu_A sz), (pu_A gr), (pu_A ac), vc, (pu_A xl), (pu_A xt), (pu_A xs), (pu_A xc), (pu_A xat), (pu_A xaa), (pu_A xch), (pu_A xtw), (pu_A xds), (pu_A xtg), (pu_A xnx), (pu_A xft)) B (nI t) := by
  obtain ⟨W1, W2, W3⟩ := W
  have b := (W2 t ht).1
  have q := xk_shr (B := B) (by omega : xtw t < 64)
  refine ⟨vp_in_nI (by omega) (by omega), ?_⟩
  rw [pu_Ag xtw (by omega)]
  exact br_c (fun e => h0 (fun a => by rw [q.mp e] at a; exact absurd a (by decide))) (fun e => h1 (ts_nf (fun a => e (q.mpr a))))
end
