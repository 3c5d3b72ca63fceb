section
variable {n na nk ns : Nat} {sec st xal ybl : Int32} {yna : Nat} {kd fs sc sz gr ac : Nat → Nat} {vc : Nat → Int32} {xl xt xs xc xat xaa xch xtw xds xtg xnx xft : Nat → Nat} {yl yT yS yR ybq ybv yv yan ysk yea yeb yq ych ykl ycn : Nat → Nat}
theorem xm_tbad {post : Int32 → Prop} {t : Int32} (b : rl_bad 3 t) (h : post 0) : wpX_isThread post t := by
  rcases b with b | b
  · exact br_t b h
  · exact br_f b.1 (br_t b.2 h)
theorem xm_tin {post : Int32 → Prop} {j : Nat} (hj : j < 3) (h : post 1) : wpX_isThread post (nI j) :=
  br_f (nI_pos (by omega)) (br_f (nI_ge (b := 3) hj (by omega)) h)
theorem sm_bz (v : Int32) : ∃ b, b ≤ 1 ∧ lw_bz v = nI b := by
  rcases lw_bz_01 v with h | h
  · exact ⟨0, by omega, h⟩
  · exact ⟨1, by omega, h⟩
theorem sm_slot {j c : Nat} : nI j * 6 + nI c = nI (j * 6 + c) := by
  have e : nI j * 6 = nI (j * 6) := pk_mul j 6
  rw [e, nI_add]
theorem rl_Rstep {j s r : Nat} (R : rl_R n na nk ns sec st xal ybl kd fs sc sz gr ac vc xl xt xs xc xat xaa yl yT yS yR ybq ybv) (hs : ns < 6) (hj : j < 3) (h1 : s ≤ 1) (hr : r < n) :
    rl_R n na nk (ns + 1) sec 0 (-1) (-1) kd fs sc sz gr ac vc xl (pu_upd xt (j * 6 + xc j) r) (pu_upd xs (j * 6 + xc j) s) (pu_upd xc j (xc j + 1)) xat xaa yl (pu_upd yT ns j) (pu_upd yS ns s) (pu_upd yR ns r) ybq ybv := by
  obtain ⟨r1, r2, r3, r4, r5⟩ := R
  exact ⟨r1, sr_add r2 hs hj h1 hr, r3, r4, rl_st0⟩
theorem sm_xc (R : sr_I n yT yS yR ns xc xt xs) {j : Nat} (hj : j < 3) : xc j ≤ ns := by
  rw [R.2.2 j hj]
  exact sr_c_le yT j ns
theorem i_vc_addStep {k : Nat} {u : SX} {v : SY} (I : i_Rel k u v) (hk : k + 4 ≤ 2048) (v1 : Int32) (v2 : Int32) (v3 : Int32) : wpX_addStep (fun r u' => wpY_addStep (fun r' v' => r' = r ∧ i_Rel (k + 4) u' v') v v1 (lw_bz v2) v3) u v1 (lw_bz v2) v3 := by
  obtain ⟨n, na, nk, ns, sec, st, xal, ybl, yna, kd, fs, sc, sz, gr, ac, vc, xl, xt, xs, xc, xat, xaa, xch, xtw, xds, xtg, xnx, xft, yl, yT, yS, yR, ybq, ybv, yv, yan, ysk, yea, yeb, yq, ych, ykl, ycn, rfl, rfl, R⟩ := I
  have hn := R.1.1
  have h6 := R.2.1.1
  obtain ⟨b, hb, eb⟩ := sm_bz v2
  rw [eb]
  unfold wpX_addStep wpY_addStep
  rcases rl_split 3 v1 (by omega) with bd | ⟨j, hj, rfl⟩
  · refine xm_tbad bd (br_t rfl ?_)
    rcases bd with bd | bd
    · exact br_t bd ⟨rfl, rl_mk R⟩
    · exact br_f bd.1 (br_t bd.2 ⟨rfl, rl_mk R⟩)
  · have w : vp_in (nI j) 3 := vp_in_nI hj (by omega)
    have z0 : ¬ nI j < 0 := nI_pos (by omega)
    have z3 : ¬ (3 : Int32) ≤ nI j := nI_ge (b := 3) hj (by omega)
    refine xm_tin hj (br_f (by decide) ?_)
    rcases rl_split n v3 (by omega) with bd | ⟨t, ht, rfl⟩
    · refine xm_bad bd (br_t rfl ?_)
      exact br_f z0 (br_f z3 (ym_bad bd (br_t rfl ⟨rfl, rl_mk R⟩)))
    · have xj := sm_xc R.2.1 hj
      refine xm_in hn ht (br_f (by decide) (pk_lt ns 6 (fun l => ?_) (fun l => ?_)))
      · have es : nI j * 6 + pu_A xc (nI j).toNatClampNeg = nI (j * 6 + xc j) := by rw [pu_Ag xc (by omega), sm_slot]
        have w18 : vp_in (nI (j * 6 + xc j)) 18 := vp_in_nI (by omega) (by omega)
        have w6 : vp_in (nI ns) 6 := vp_in_nI l (by omega)
        refine ⟨w, nm_r es ⟨w18, nm_r (rl_up (x := t) (by omega) rfl rfl) ⟨w18, nm_r (rl_up (x := b) (by omega) rfl (rl_nb hb)) ⟨w, w, nm_r (rl_up (k := j) (x := xc j + 1) (by omega) rfl (by rw [pu_Ag xc (by omega), nI_1])) (nm_r (nI_1 ns) (xm_reset ?_))⟩⟩⟩⟩
        refine br_f z0 (br_f z3 (ym_in hn ht (br_f (by decide) (pk_lt ns 6 (fun _ => ?_) (fun h => by omega)))))
        exact ⟨w6, nm_r (rl_up (x := j) (by omega) rfl rfl) ⟨w6, nm_r (rl_up (x := b) (by omega) rfl (rl_nb hb)) ⟨w6, nm_r (rl_up (x := t) (by omega) rfl rfl) (nm_r (nI_1 ns) (ym_reset ⟨rfl, rl_mk (rl_Rstep R l hj hb ht)⟩))⟩⟩⟩
      · exact br_f z0 (br_f z3 (ym_in hn ht (br_f (by decide) (pk_lt ns 6 (fun h => by omega) (fun _ => ⟨rfl, rl_mk R⟩)))))
theorem ym_so5 {post : Int32 → Prop} {j k : Nat} (S : sr_I n yT yS yR ns xc xt xs) (hj : j < 3) (hk : k < 2 ^ 31) (h1 : ∀ g, g < ns → yT g = j → sr_c yT j g = k → post (nI g)) (h0 : xc j ≤ k → post (-1)) : ∀ d g m, g + d = ns → d < m → sr_c yT j g ≤ k → wY_stepOf_5 post (nI j) (nI k) (nI n) (nI na) (nI nk) (nI ns) sec st ybl (nI yna) (pu_A kd) (pu_A fs) (pu_A sc) (pu_A sz) (pu_A ac) vc (pu_A yl) (pu_A yT) (pu_A yS) (pu_A yR) (pu_A ybq) (pu_A ybv) (pu_A yv) (pu_A yan) (pu_A ysk) (pu_A yea) (pu_A yeb) (pu_A yq) (pu_A ych) (pu_A ykl) (pu_A ycn) m (nI (sr_c yT j g)) (nI g) := by
  have n6 := S.1
  intro d
  induction d with
  | zero =>
    intro g m hg hm hc
    obtain ⟨m, rfl⟩ : ∃ m', m = m' + 1 := ⟨m - 1, by omega⟩
    have e : g = ns := by omega
    subst e
    rw [wY_stepOf_5]
    exact br_t (nI_le (Nat.le_refl g) (by omega)) (h0 (by rw [S.2.2 j hj]; exact hc))
  | succ d ih =>
    intro g m hg hm hc
    obtain ⟨m, rfl⟩ : ∃ m', m = m' + 1 := ⟨m - 1, by omega⟩
    have l := sr_c_le yT j g
    have t3 := (S.2.1 g (by omega)).1
    rw [wY_stepOf_5]
    refine br_f (nI_ge (by omega) (by omega)) ⟨vp_in_nI (by omega) (by omega), pk_eq (yT g) j (fun e => pk_eq (sr_c yT j g) k (fun q => h1 g (by omega) e q) (fun q => ?_)) (fun e => ?_) (pu_Ag yT (by omega))⟩
    · have h := ih (g + 1) m (by omega) (by omega) (by rw [sr_c_t e]; omega)
      rw [sr_c_t e] at h
      exact nm_r (nI_1 _) (nm_r (nI_1 g) h)
    · have h := ih (g + 1) m (by omega) (by omega) (by rw [sr_c_f e]; exact hc)
      rw [sr_c_f e] at h
      exact nm_r (nI_1 g) h
theorem ym_stepOf {post : Int32 → Prop} {j k : Nat} (S : sr_I n yT yS yR ns xc xt xs) (hj : j < 3) (hk : k < 2 ^ 31) (h1 : ∀ g, g < ns → yT g = j → sr_c yT j g = k → post (nI g)) (h0 : xc j ≤ k → post (-1)) : wpY_stepOf post ((nI n), (nI na), (nI nk), (nI ns), sec, st, ybl, (nI yna), (pu_A kd), (pu_A fs), (pu_A sc), (pu_A sz), (pu_A ac), vc, (pu_A yl), (pu_A yT), (pu_A yS), (pu_A yR), (pu_A ybq), (pu_A ybv), (pu_A yv), (pu_A yan), (pu_A ysk), (pu_A yea), (pu_A yeb), (pu_A yq), (pu_A ych), (pu_A ykl), (pu_A ycn)) (nI j) (nI k) :=
  ⟨ns + 1, ym_so5 S hj hk h1 h0 ns 0 (ns + 1) (by omega) (by omega) (Nat.zero_le k)⟩
theorem i_vc_step {k : Nat} {u : SX} {v : SY} (I : i_Rel k u v) (hk : k + 4 ≤ 2048) (v1 : Int32) (v2 : Int32) : wpX_step (fun r => wpY_step (fun r' => r' = r ∧ i_Rel (k + 4) u v) v v1 v2) u v1 v2 := by
  obtain ⟨n, na, nk, ns, sec, st, xal, ybl, yna, kd, fs, sc, sz, gr, ac, vc, xl, xt, xs, xc, xat, xaa, xch, xtw, xds, xtg, xnx, xft, yl, yT, yS, yR, ybq, ybv, yv, yan, ysk, yea, yeb, yq, ych, ykl, ycn, rfl, rfl, R⟩ := I
  have hn := R.1.1
  have S := R.2.1
  have h6 := S.1
  unfold wpX_step wpY_step
  rcases rl_split 3 v1 (by omega) with bd | ⟨j, hj, rfl⟩
  · refine xm_tbad bd (br_t rfl ?_)
    rcases bd with bd | bd
    · exact br_t bd ⟨rfl, rl_mk R⟩
    · exact br_f bd.1 (br_t bd.2 ⟨rfl, rl_mk R⟩)
  · have w : vp_in (nI j) 3 := vp_in_nI hj (by omega)
    have z0 : ¬ nI j < 0 := nI_pos (by omega)
    have z3 : ¬ (3 : Int32) ≤ nI j := nI_ge (b := 3) hj (by omega)
    have xj := sm_xc S hj
    refine xm_tin hj (br_f (by decide) (br_c (fun h0 => ?_) (fun h0 => ⟨w, ?_⟩)))
    · exact br_f z0 (br_f z3 (br_f (Int32.not_le.mpr h0) ⟨rfl, rl_mk R⟩))
    · obtain ⟨i, hi, rfl⟩ := nI_of h0
      have p0 : (0 : Int32) ≤ nI i := Int32.not_lt.mp h0
      refine pk_lt i (xc j) (fun l => ?_) (fun l => ?_) rfl (pu_Ag xc (by omega))
      · have w18 : vp_in (nI (j * 6 + i)) 18 := vp_in_nI (by omega) (by omega)
        obtain ⟨g, g1, g2, g3, g4, g5, g6, g7⟩ := sr_find S hj l
        have ax : pu_A xt (nI (j * 6 + i)).toNatClampNeg = nI (yR g) := by rw [pu_Ag xt (by omega), ← g4]
        have as : pu_A xs (nI (j * 6 + i)).toNatClampNeg = nI (yS g) := by rw [pu_Ag xs (by omega), ← g5]
        refine nm_r sm_slot ⟨w18, w18, ?_⟩
        rw [ax, as]
        have fin : ∀ r : Int32, (yS g = 0 → r = 2 * nI (yR g)) → (yS g ≠ 0 → r = 2 * nI (yR g) + 1) → (nI j < 0 → (-1 = r ∧ i_Rel (k + 4) ((nI n), (nI na), (nI nk), (nI ns), sec, st, xal, (pu_A kd), (pu_A fs), (pu_A sc), (pu_A sz), (pu_A gr), (pu_A ac), vc, (pu_A xl), (pu_A xt), (pu_A xs), (pu_A xc), (pu_A xat), (pu_A xaa), (pu_A xch), (pu_A xtw), (pu_A xds), (pu_A xtg), (pu_A xnx), (pu_A xft)) ((nI n), (nI na), (nI nk), (nI ns), sec, st, ybl, (nI yna), (pu_A kd), (pu_A fs), (pu_A sc), (pu_A sz), (pu_A ac), vc, (pu_A yl), (pu_A yT), (pu_A yS), (pu_A yR), (pu_A ybq), (pu_A ybv), (pu_A yv), (pu_A yan), (pu_A ysk), (pu_A yea), (pu_A yeb), (pu_A yq), (pu_A ych), (pu_A ykl), (pu_A ycn)))) ∧ (¬ nI j < 0 → ((3 ≤ nI j → (-1 = r ∧ i_Rel (k + 4) ((nI n), (nI na), (nI nk), (nI ns), sec, st, xal, (pu_A kd), (pu_A fs), (pu_A sc), (pu_A sz), (pu_A gr), (pu_A ac), vc, (pu_A xl), (pu_A xt), (pu_A xs), (pu_A xc), (pu_A xat), (pu_A xaa), (pu_A xch), (pu_A xtw), (pu_A xds), (pu_A xtg), (pu_A xnx), (pu_A xft)) ((nI n), (nI na), (nI nk), (nI ns), sec, st, ybl, (nI yna), (pu_A kd), (pu_A fs), (pu_A sc), (pu_A sz), (pu_A ac), vc, (pu_A yl), (pu_A yT), (pu_A yS), (pu_A yR), (pu_A ybq), (pu_A ybv), (pu_A yv), (pu_A yan), (pu_A ysk), (pu_A yea), (pu_A yeb), (pu_A yq), (pu_A ych), (pu_A ykl), (pu_A ycn)))) ∧ (¬ 3 ≤ nI j → ((0 ≤ nI i → (wpY_stepOf (fun r_4 => (((0 ≤ r_4 → (vp_in r_4 6 ∧ ((((pu_A yS r_4.toNatClampNeg) = 0 → (vp_in r_4 6 ∧ ((2 * (pu_A yR r_4.toNatClampNeg)) = r ∧ i_Rel (k + 4) ((nI n), (nI na), (nI nk), (nI ns), sec, st, xal, (pu_A kd), (pu_A fs), (pu_A sc), (pu_A sz), (pu_A gr), (pu_A ac), vc, (pu_A xl), (pu_A xt), (pu_A xs), (pu_A xc), (pu_A xat), (pu_A xaa), (pu_A xch), (pu_A xtw), (pu_A xds), (pu_A xtg), (pu_A xnx), (pu_A xft)) ((nI n), (nI na), (nI nk), (nI ns), sec, st, ybl, (nI yna), (pu_A kd), (pu_A fs), (pu_A sc), (pu_A sz), (pu_A ac), vc, (pu_A yl), (pu_A yT), (pu_A yS), (pu_A yR), (pu_A ybq), (pu_A ybv), (pu_A yv), (pu_A yan), (pu_A ysk), (pu_A yea), (pu_A yeb), (pu_A yq), (pu_A ych), (pu_A ykl), (pu_A ycn))))) ∧ (¬ (pu_A yS r_4.toNatClampNeg) = 0 → (vp_in r_4 6 ∧ (((2 * (pu_A yR r_4.toNatClampNeg)) + 1) = r ∧ i_Rel (k + 4) ((nI n), (nI na), (nI nk), (nI ns), sec, st, xal, (pu_A kd), (pu_A fs), (pu_A sc), (pu_A sz), (pu_A gr), (pu_A ac), vc, (pu_A xl), (pu_A xt), (pu_A xs), (pu_A xc), (pu_A xat), (pu_A xaa), (pu_A xch), (pu_A xtw), (pu_A xds), (pu_A xtg), (pu_A xnx), (pu_A xft)) ((nI n), (nI na), (nI nk), (nI ns), sec, st, ybl, (nI yna), (pu_A kd), (pu_A fs), (pu_A sc), (pu_A sz), (pu_A ac), vc, (pu_A yl), (pu_A yT), (pu_A yS), (pu_A yR), (pu_A ybq), (pu_A ybv), (pu_A yv), (pu_A yan), (pu_A ysk), (pu_A yea), (pu_A yeb), (pu_A yq), (pu_A ych), (pu_A ykl), (pu_A ycn))))))))) ∧ (¬ 0 ≤ r_4 → (-1 = r ∧ i_Rel (k + 4) ((nI n), (nI na), (nI nk), (nI ns), sec, st, xal, (pu_A kd), (pu_A fs), (pu_A sc), (pu_A sz), (pu_A gr), (pu_A ac), vc, (pu_A xl), (pu_A xt), (pu_A xs), (pu_A xc), (pu_A xat), (pu_A xaa), (pu_A xch), (pu_A xtw), (pu_A xds), (pu_A xtg), (pu_A xnx), (pu_A xft)) ((nI n), (nI na), (nI nk), (nI ns), sec, st, ybl, (nI yna), (pu_A kd), (pu_A fs), (pu_A sc), (pu_A sz), (pu_A ac), vc, (pu_A yl), (pu_A yT), (pu_A yS), (pu_A yR), (pu_A ybq), (pu_A ybv), (pu_A yv), (pu_A yan), (pu_A ysk), (pu_A yea), (pu_A yeb), (pu_A yq), (pu_A ych), (pu_A ykl), (pu_A ycn))))))) ((nI n), (nI na), (nI nk), (nI ns), sec, st, ybl, (nI yna), (pu_A kd), (pu_A fs), (pu_A sc), (pu_A sz), (pu_A ac), vc, (pu_A yl), (pu_A yT), (pu_A yS), (pu_A yR), (pu_A ybq), (pu_A ybv), (pu_A yv), (pu_A yan), (pu_A ysk), (pu_A yea), (pu_A yeb), (pu_A yq), (pu_A ych), (pu_A ykl), (pu_A ycn)) (nI j) (nI i))) ∧ (¬ 0 ≤ nI i → (-1 = r ∧ i_Rel (k + 4) ((nI n), (nI na), (nI nk), (nI ns), sec, st, xal, (pu_A kd), (pu_A fs), (pu_A sc), (pu_A sz), (pu_A gr), (pu_A ac), vc, (pu_A xl), (pu_A xt), (pu_A xs), (pu_A xc), (pu_A xat), (pu_A xaa), (pu_A xch), (pu_A xtw), (pu_A xds), (pu_A xtg), (pu_A xnx), (pu_A xft)) ((nI n), (nI na), (nI nk), (nI ns), sec, st, ybl, (nI yna), (pu_A kd), (pu_A fs), (pu_A sc), (pu_A sz), (pu_A ac), vc, (pu_A yl), (pu_A yT), (pu_A yS), (pu_A yR), (pu_A ybq), (pu_A ybv), (pu_A yv), (pu_A yan), (pu_A ysk), (pu_A yea), (pu_A yeb), (pu_A yq), (pu_A ych), (pu_A ykl), (pu_A ycn)))))))) := by
          intro r r0 r1
          refine br_f z0 (br_f z3 (br_t p0 (ym_stepOf S hj hi (fun g' a1 a2 a3 => ?_) (fun h => by omega))))
          have eg : g' = g := pu_cn_un (p := fun x => yT x == j) (by simp [a2]) (by simp [g2]) (by exact a3.trans g3.symm)
          subst eg
          have w6 : vp_in (nI g') 6 := vp_in_nI (by omega) (by omega)
          refine br_t (nI_pos' (by omega)) ⟨w6, pk_eq (yS g') 0 (fun q => ⟨w6, ?_, rl_mk R⟩) (fun q => ⟨w6, ?_, rl_mk R⟩) (pu_Ag yS (by omega))⟩
          · rw [pu_Ag yR (by omega), r0 q]
          · rw [pu_Ag yR (by omega), r1 q]
        refine pk_eq (yS g) 0 (fun q => ?_) (fun q => ?_)
        · exact fin _ (fun _ => Int32.add_zero _) (fun h => absurd q h)
        · exact fin _ (fun h => absurd h q) (fun _ => rfl)
      · refine br_f z0 (br_f z3 (br_t p0 (ym_stepOf S hj hi (fun g' a1 a2 a3 => ?_) (fun h => ?_))))
        · have l2 := sr_c_lt a1 a2
          rw [← S.2.2 j hj] at l2
          omega
        · exact br_f (by decide) ⟨rfl, rl_mk R⟩
end
