section
theorem ym_i180 {post : SY → Prop} {f1 f2 f3 f4 f5 f6 f7 f8 : Int32} {a1 a2 a3 a4 a5 a7 a8 a9 a10 a11 a12 a13 a14 a15 a16 a17 a18 a19 a20 a21 : Nat → Int32} : ∀ d i m (w : Nat → Int32), i + d = 3 → d < m → (post (f1, f2, f3, f4, f5, f6, f7, f8, a1, a2, a3, a4, a5, (fun j => if i ≤ j ∧ j < 3 then -1 else w j), a7, a8, a9, a10, a11, a12, a13, a14, a15, a16, a17, a18, a19, a20, a21)) → wY_init_180 post f1 f2 f3 f4 f5 f6 f7 f8 m (nI i) a1 a2 a3 a4 a5 w a7 a8 a9 a10 a11 a12 a13 a14 a15 a16 a17 a18 a19 a20 a21 := by
  intro d
  induction d with
  | zero =>
    intro i m w hi hm K
    obtain ⟨m, rfl⟩ : ∃ m', m = m' + 1 := ⟨m - 1, by omega⟩
    have e : i = 3 := by omega
    subst e
    rw [wY_init_180]
    refine br_t (nI_le (Nat.le_refl 3) (by omega)) ?_
    have q : (fun j => if 3 ≤ j ∧ j < 3 then (-1 : Int32) else w j) = w := by
      funext j
      rw [if_neg (by omega)]
    rw [q] at K
    exact K
  | succ d ih =>
    intro i m w hi hm K
    obtain ⟨m, rfl⟩ : ∃ m', m = m' + 1 := ⟨m - 1, by omega⟩
    rw [wY_init_180]
    refine br_f (nI_ge (b := 3) (by omega) (by omega)) ⟨vp_in_nI (by omega) (by omega), nm_r (e' := upd w i (-1)) (by rw [nI_clamp (by omega)]) (nm_r (nI_1 i) (ih (i + 1) m _ (by omega) (by omega) ?_))⟩
    have q : (fun j => if i + 1 ≤ j ∧ j < 3 then (-1 : Int32) else upd w i (-1) j) = (fun j => if i ≤ j ∧ j < 3 then (-1 : Int32) else w j) := by
      funext j
      by_cases c : j = i
      · rw [c, if_neg (by omega), if_pos (by omega)]; exact pk_us
      · rw [pk_un c]
        by_cases c2 : i + 1 ≤ j ∧ j < 3
        · rw [if_pos c2, if_pos (by omega)]
        · rw [if_neg c2, if_neg (by omega)]
    rw [q]
    exact K
theorem sm_A0 : (fun _ => 0 : Nat → Int32) = pu_A gw_0 := rfl
theorem xm_i190' {post : SX → Prop} {f1 f2 f3 f4 f5 f6 f7 : Int32} {a1 a2 a3 a4 a5 a6 a8 a9 a10 a11 a12 a13 a14 a15 a16 a17 a18 a19 : Nat → Int32} : ∀ d i m (w : Nat → Int32), i + d = 3 → d < m → (post (f1, f2, f3, f4, f5, f6, f7, a1, a2, a3, a4, a5, a6, (fun j => if i ≤ j ∧ j < 3 then -1 else w j), a8, a9, a10, a11, a12, a13, a14, a15, a16, a17, a18, a19)) → wX_init_190 post f1 f2 f3 f4 f5 f6 f7 m (nI i) a1 a2 a3 a4 a5 a6 w a8 a9 a10 a11 a12 a13 a14 a15 a16 a17 a18 a19 := by
  intro d
  induction d with
  | zero =>
    intro i m w hi hm K
    obtain ⟨m, rfl⟩ : ∃ m', m = m' + 1 := ⟨m - 1, by omega⟩
    have e : i = 3 := by omega
    subst e
    rw [wX_init_190]
    refine br_t (nI_le (Nat.le_refl 3) (by omega)) ?_
    have q : (fun j => if 3 ≤ j ∧ j < 3 then (-1 : Int32) else w j) = w := by
      funext j
      rw [if_neg (by omega)]
    rw [q] at K
    exact K
  | succ d ih =>
    intro i m w hi hm K
    obtain ⟨m, rfl⟩ : ∃ m', m = m' + 1 := ⟨m - 1, by omega⟩
    rw [wX_init_190]
    refine br_f (nI_ge (b := 3) (by omega) (by omega)) ⟨vp_in_nI (by omega) (by omega), nm_r (e' := upd w i (-1)) (by rw [nI_clamp (by omega)]) (nm_r (nI_1 i) (ih (i + 1) m _ (by omega) (by omega) ?_))⟩
    have q : (fun j => if i + 1 ≤ j ∧ j < 3 then (-1 : Int32) else upd w i (-1) j) = (fun j => if i ≤ j ∧ j < 3 then (-1 : Int32) else w j) := by
      funext j
      by_cases c : j = i
      · rw [c, if_neg (by omega), if_pos (by omega)]; exact pk_us
      · rw [pk_un c]
        by_cases c2 : i + 1 ≤ j ∧ j < 3
        · rw [if_pos c2, if_pos (by omega)]
        · rw [if_neg c2, if_neg (by omega)]
    rw [q]
    exact K
theorem i_vc0 : wpX_init (fun u => wpY_init (fun v => i_Rel 0 u v)) := by
  refine ⟨4, xm_i190' 3 0 4 _ rfl (by omega) ?_⟩
  refine ⟨4, ym_i180 3 0 4 _ rfl (by omega) ?_⟩
  refine rl_mk (k := 0) (n := 0) (na := 0) (nk := 0) (ns := 0) (yna := 0) (sec := -1) (st := 0) (xal := -1) (ybl := -1) (kd := gw_0) (fs := gw_0) (sc := gw_0) (sz := gw_0) (gr := gw_0) (ac := gw_0) (xl := gw_0) (xt := gw_0) (xs := gw_0) (xc := gw_0) (xat := gw_0) (xaa := gw_0) (xch := gw_0) (xtw := gw_0) (xds := gw_0) (xtg := gw_0) (xnx := gw_0) (xft := gw_0) (yl := gw_0) (yT := gw_0) (yS := gw_0) (yR := gw_0) (ybq := gw_0) (ybv := gw_0) (yv := gw_0) (yan := gw_0) (ysk := gw_0) (yea := gw_0) (yeb := gw_0) (yq := gw_0) (ych := gw_0) (ykl := gw_0) (ycn := gw_0) ?_
  refine ⟨gw_start (fun v hv => ?_), sr_0 0 gw_0 gw_0 gw_0 gw_0 gw_0, ⟨by omega, fun i hi => by omega⟩, Or.inl rfl, rl_st0⟩
  show (if 0 ≤ v ∧ v < 3 then (-1 : Int32) else 0) = -1
  rw [if_pos (by omega)]
variable {n na nk ns : Nat} {sec st xal ybl : Int32} {yna : Nat} {kd fs sc sz gr ac : Nat → Nat} {vc : Nat → Int32} {xl xt xs xc xat xaa xch xtw xds xtg xnx xft : Nat → Nat} {yl yT yS yR ybq ybv yv yan ysk yea yeb yq ych ykl ycn : Nat → Nat}
theorem i_vc_secret {k : Nat} {u : SX} {v : SY} (I : i_Rel k u v) (hk : k + 4 ≤ 2048) : wpX_secret (fun r => wpY_secret (fun r' => r' = r ∧ i_Rel (k + 4) u v) v) u := by
  obtain ⟨n, na, nk, ns, sec, st, xal, ybl, yna, kd, fs, sc, sz, gr, ac, vc, xl, xt, xs, xc, xat, xaa, xch, xtw, xds, xtg, xnx, xft, yl, yT, yS, yR, ybq, ybv, yv, yan, ysk, yea, yeb, yq, ych, ykl, ycn, rfl, rfl, R⟩ := I
  exact ⟨rfl, rl_mk R⟩
theorem i_vc_status {k : Nat} {u : SX} {v : SY} (I : i_Rel k u v) (hk : k + 4 ≤ 2048) : wpX_status (fun r => wpY_status (fun r' => r' = r ∧ i_Rel (k + 4) u v) v) u := by
  obtain ⟨n, na, nk, ns, sec, st, xal, ybl, yna, kd, fs, sc, sz, gr, ac, vc, xl, xt, xs, xc, xat, xaa, xch, xtw, xds, xtg, xnx, xft, yl, yT, yS, yR, ybq, ybv, yv, yan, ysk, yea, yeb, yq, ych, ykl, ycn, rfl, rfl, R⟩ := I
  exact ⟨rfl, rl_mk R⟩
theorem i_vc_traceLength {k : Nat} {u : SX} {v : SY} (I : i_Rel k u v) (hk : k + 4 ≤ 2048) : wpX_traceLength (fun r => wpY_traceLength (fun r' => r' = r ∧ i_Rel (k + 4) u v) v) u := by
  obtain ⟨n, na, nk, ns, sec, st, xal, ybl, yna, kd, fs, sc, sz, gr, ac, vc, xl, xt, xs, xc, xat, xaa, xch, xtw, xds, xtg, xnx, xft, yl, yT, yS, yR, ybq, ybv, yv, yan, ysk, yea, yeb, yq, ych, ykl, ycn, rfl, rfl, R⟩ := I
  refine br_c (fun h => ?_) (fun h => ?_)
  · obtain ⟨L, h1, h2, h3, _⟩ := R.2.2.2.2 h
    exact br_t h ⟨by rw [h2, h3], rl_mk R⟩
  · exact br_f h ⟨rfl, rl_mk R⟩
theorem i_vc_traceThread {k : Nat} {u : SX} {v : SY} (I : i_Rel k u v) (hk : k + 4 ≤ 2048) (v1 : Int32) : wpX_traceThread (fun r => wpY_traceThread (fun r' => r' = r ∧ i_Rel (k + 4) u v) v v1) u v1 := by
  obtain ⟨n, na, nk, ns, sec, st, xal, ybl, yna, kd, fs, sc, sz, gr, ac, vc, xl, xt, xs, xc, xat, xaa, xch, xtw, xds, xtg, xnx, xft, yl, yT, yS, yR, ybq, ybv, yv, yan, ysk, yea, yeb, yq, ych, ykl, ycn, rfl, rfl, R⟩ := I
  refine br_c (fun h => br_c (fun h0 => ?_) (fun h0 => ?_)) (fun h => ?_)
  · exact br_t h (br_t h0 ⟨rfl, rl_mk R⟩)
  · obtain ⟨L, h1, h2, h3, h4, h5⟩ := R.2.2.2.2 h
    subst h2 h3
    obtain ⟨j, hj, rfl⟩ := nI_of h0
    refine pk_lt j L (fun l => ?_) (fun l => ?_)
    · refine ⟨vp_in_nI (by omega) (by omega), br_t h (br_f h0 (pk_le L j (fun l2 => by omega) (fun l2 => pk_lt j 6 (fun l6 => ⟨vp_in_nI (by omega) (by omega), ?_, rl_mk R⟩) (fun l6 => by omega))))⟩
      rw [pu_Ag _ hj, pu_Ag _ hj, h4 j l]
    · exact br_t h (br_f h0 (pk_le L j (fun l2 => ⟨rfl, rl_mk R⟩) (fun l2 => by omega)))
  · exact br_f h ⟨rfl, rl_mk R⟩
theorem sm_vneg (I : ci_I kd fs sc sz gr n na ac vc) {v : Nat} (hv : v < 3) : (vc v < 0 ↔ vc v = -1) ∧ (0 ≤ vc v ↔ ¬ vc v = -1) := by
  rcases I.2.2.2.2.1 v hv with h | ⟨t, h1, h2, h3, h4⟩
  · rw [h]
    exact ⟨by decide, by decide⟩
  · have hn := I.1
    rw [h2]
    have a : ¬ nI t < 0 := nI_pos (by omega)
    have b : ¬ nI t = -1 := gw_m1 (by omega)
    have c : 0 ≤ nI t := nI_pos' (by omega)
    exact ⟨⟨fun x => absurd x a, fun x => absurd x b⟩, ⟨fun _ => b, fun _ => c⟩⟩
theorem i_vc_value {k : Nat} {u : SX} {v : SY} (I : i_Rel k u v) (hk : k + 4 ≤ 2048) (v1 : Int32) : wpX_value (fun r => wpY_value (fun r' => r' = r ∧ i_Rel (k + 4) u v) v v1) u v1 := by
  obtain ⟨n, na, nk, ns, sec, st, xal, ybl, yna, kd, fs, sc, sz, gr, ac, vc, xl, xt, xs, xc, xat, xaa, xch, xtw, xds, xtg, xnx, xft, yl, yT, yS, yR, ybq, ybv, yv, yan, ysk, yea, yeb, yq, ych, ykl, ycn, rfl, rfl, R⟩ := I
  refine br_c (fun h => br_c (fun h0 => ?_) (fun h0 => ?_)) (fun h => ?_)
  · exact br_t h (br_t h0 ⟨rfl, rl_mk R⟩)
  · obtain ⟨L, h1, h2, h3, h4, h5⟩ := R.2.2.2.2 h
    obtain ⟨j, hj, rfl⟩ := nI_of h0
    refine pk_le 3 j (fun l => ?_) (fun l => ?_)
    · exact br_t h (br_f h0 (pk_le 3 j (fun _ => ⟨rfl, rl_mk R⟩) (fun l2 => by omega)))
    · have w : vp_in (nI j) 3 := vp_in_nI l (by omega)
      have q : (nI j).toNatClampNeg = j := nI_clamp hj
      obtain ⟨e1, e2⟩ := sm_vneg R.1 l
      rw [← q] at e2
      refine ⟨w, br_c (fun z => ?_) (fun z => ⟨w, ?_⟩)⟩
      · exact br_t h (br_f h0 (pk_le 3 j (fun l2 => by omega) (fun _ => ⟨w, br_f (fun y => e2.mp y z) ⟨rfl, rl_mk R⟩⟩)))
      · refine br_t h (br_f h0 (pk_le 3 j (fun l2 => by omega) (fun _ => ⟨w, br_t (e2.mpr z) ⟨w, ?_, rl_mk R⟩⟩)))
        rw [pu_Ag _ hj, pu_Ag _ hj, h5 j l (by rw [q] at z; exact z)]
  · exact br_f h ⟨rfl, rl_mk R⟩
theorem i_vc_known {k : Nat} {u : SX} {v : SY} (I : i_Rel k u v) (hk : k + 4 ≤ 2048) (v1 : Int32) : wpX_known (fun r => wpY_known (fun r' => r' = r ∧ i_Rel (k + 4) u v) v v1) u v1 := by
  obtain ⟨n, na, nk, ns, sec, st, xal, ybl, yna, kd, fs, sc, sz, gr, ac, vc, xl, xt, xs, xc, xat, xaa, xch, xtw, xds, xtg, xnx, xft, yl, yT, yS, yR, ybq, ybv, yv, yan, ysk, yea, yeb, yq, ych, ykl, ycn, rfl, rfl, R⟩ := I
  have h8 := R.2.2.1.1
  refine br_c (fun h0 => ?_) (fun h0 => ?_)
  · exact br_t h0 ⟨rfl, rl_mk R⟩
  · obtain ⟨j, hj, rfl⟩ := nI_of h0
    refine pk_le nk j (fun l => ?_) (fun l => ?_)
    · exact br_f h0 (pk_le nk j (fun _ => ⟨rfl, rl_mk R⟩) (fun l2 => by omega))
    · refine ⟨vp_in_nI (by omega) (by omega), br_f h0 (pk_le nk j (fun l2 => by omega) (fun _ => ⟨vp_in_nI (by omega) (by omega), ?_, rl_mk R⟩))⟩
      rw [pu_Ag _ hj, pu_Ag _ hj, (R.2.2.1.2 j l).1]
theorem i_vc_setSecret {k : Nat} {u : SX} {v : SY} (I : i_Rel k u v) (hk : k + 4 ≤ 2048) (v1 : Int32) : wpX_setSecret (fun r u' => wpY_setSecret (fun r' v' => r' = r ∧ i_Rel (k + 4) u' v') v v1) u v1 := by
  obtain ⟨n, na, nk, ns, sec, st, xal, ybl, yna, kd, fs, sc, sz, gr, ac, vc, xl, xt, xs, xc, xat, xaa, xch, xtw, xds, xtg, xnx, xft, yl, yT, yS, yR, ybq, ybv, yv, yan, ysk, yea, yeb, yq, ych, ykl, ycn, rfl, rfl, R⟩ := I
  have hn := R.1.1
  unfold wpX_setSecret wpY_setSecret
  rcases rl_split n v1 (by omega) with b | ⟨j, hj, rfl⟩
  · refine xm_bad b (br_t rfl ?_)
    exact ym_bad b (br_t rfl ⟨rfl, rl_mk R⟩)
  · refine xm_in hn hj (br_f (by decide) (xm_reset ?_))
    refine ym_in hn hj (br_f (by decide) (ym_reset ⟨rfl, rl_mk ?_⟩))
    exact ⟨R.1, R.2.1, R.2.2.1, Or.inr ⟨j, hj, rfl⟩, rl_st0⟩
theorem i_vc_cell {k : Nat} {u : SX} {v : SY} (I : i_Rel k u v) (hk : k + 4 ≤ 2048) (v1 : Int32) (v2 : Int32) : wpX_cell (fun r => wpY_cell (fun r' => r' = r ∧ i_Rel (k + 4) u v) v v1 v2) u v1 v2 := by
  obtain ⟨n, na, nk, ns, sec, st, xal, ybl, yna, kd, fs, sc, sz, gr, ac, vc, xl, xt, xs, xc, xat, xaa, xch, xtw, xds, xtg, xnx, xft, yl, yT, yS, yR, ybq, ybv, yv, yan, ysk, yea, yeb, yq, ych, ykl, ycn, rfl, rfl, R⟩ := I
  have hn := R.1.1
  unfold wpX_cell wpY_cell
  rcases rl_split n v1 (by omega) with b | ⟨j, hj, rfl⟩
  · refine xm_bad b (br_t rfl ?_)
    exact ym_bad b (br_t rfl ⟨rfl, rl_mk R⟩)
  · have w : vp_in (nI j) 64 := vp_in_nI (by omega) (by omega)
    refine xm_in hn hj (br_f (by decide) (br_c (fun h0 => ?_) (fun h0 => br_c (fun h3 => ?_) (fun h3 => br_c (fun e0 => ⟨w, ?_⟩) (fun e0 => br_c (fun e1 => ⟨w, ?_⟩) (fun e1 => br_c (fun e2 => ⟨w, ?_⟩) (fun e2 => br_c (fun e3 => ⟨w, ?_⟩) (fun e3 => True.intro))))))))
    · exact ym_in hn hj (br_f (by decide) (br_t h0 ⟨rfl, rl_mk R⟩))
    · exact ym_in hn hj (br_f (by decide) (br_f h0 (br_f (Int32.not_le.mpr h3) ⟨rfl, rl_mk R⟩)))
    · exact ym_in hn hj (br_f (by decide) (br_f h0 (br_t (Int32.not_lt.mp h3) (br_t e0 ⟨w, rfl, rl_mk R⟩))))
    · exact ym_in hn hj (br_f (by decide) (br_f h0 (br_t (Int32.not_lt.mp h3) (br_f e0 (br_t e1 ⟨w, rfl, rl_mk R⟩)))))
    · exact ym_in hn hj (br_f (by decide) (br_f h0 (br_t (Int32.not_lt.mp h3) (br_f e0 (br_f e1 (br_t e2 ⟨w, rfl, rl_mk R⟩))))))
    · exact ym_in hn hj (br_f (by decide) (br_f h0 (br_t (Int32.not_lt.mp h3) (br_f e0 (br_f e1 (br_f e2 ⟨w, rfl, rl_mk R⟩))))))
end
