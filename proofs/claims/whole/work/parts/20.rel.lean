section
variable {n na nk ns : Nat} {sec st xal ybl : Int32} {yna : Nat} {kd fs sc sz gr ac : Nat → Nat} {vc : Nat → Int32} {xl xt xs xc xat xaa xch xtw xds xtg xnx xft : Nat → Nat} {yl yT yS yR ybq ybv yv yan ysk yea yeb yq ych ykl ycn : Nat → Nat}
def rl_R (n na nk ns : Nat) (sec st xal ybl : Int32) (kd fs sc sz gr ac : Nat → Nat) (vc : Nat → Int32) (xl xt xs xc xat xaa yl yT yS yR ybq ybv : Nat → Nat) : Prop :=
  ci_I kd fs sc sz gr n na ac vc ∧ sr_I n yT yS yR ns xc xt xs ∧
  (nk ≤ 8 ∧ ∀ i, i < nk → xl i = yl i ∧ yl i < n ∧ gr (yl i) = 1) ∧
  (sec = -1 ∨ ∃ t, t < n ∧ sec = nI t) ∧
  (st = 2 → ∃ L, L ≤ 6 ∧ xal = nI L ∧ ybl = nI L ∧ (∀ i, i < L → xat i = ybq i) ∧ (∀ v, v < 3 → vc v ≠ -1 → xaa v = ybv v))
/-- the same cells, counts, secret, status; the steps by thread here and in one row there; the working arrays hold any naturals -/
def i_Rel (k : Nat) (u : SX) (v : SY) : Prop :=
  ∃ (n na nk ns : Nat) (sec st xal ybl : Int32) (yna : Nat) (kd fs sc sz gr ac : Nat → Nat) (vc : Nat → Int32) (xl xt xs xc xat xaa xch xtw xds xtg xnx xft yl yT yS yR ybq ybv yv yan ysk yea yeb yq ych ykl ycn : Nat → Nat),
    u = ((nI n), (nI na), (nI nk), (nI ns), sec, st, xal, (pu_A kd), (pu_A fs), (pu_A sc), (pu_A sz), (pu_A gr), (pu_A ac), vc, (pu_A xl), (pu_A xt), (pu_A xs), (pu_A xc), (pu_A xat), (pu_A xaa), (pu_A xch), (pu_A xtw), (pu_A xds), (pu_A xtg), (pu_A xnx), (pu_A xft)) ∧ v = ((nI n), (nI na), (nI nk), (nI ns), sec, st, ybl, (nI yna), (pu_A kd), (pu_A fs), (pu_A sc), (pu_A sz), (pu_A ac), vc, (pu_A yl), (pu_A yT), (pu_A yS), (pu_A yR), (pu_A ybq), (pu_A ybv), (pu_A yv), (pu_A yan), (pu_A ysk), (pu_A yea), (pu_A yeb), (pu_A yq), (pu_A ych), (pu_A ykl), (pu_A ycn)) ∧ rl_R n na nk ns sec st xal ybl kd fs sc sz gr ac vc xl xt xs xc xat xaa yl yT yS yR ybq ybv
theorem i_up {k : Nat} {u : SX} {v : SY} (h : i_Rel k u v) : i_Rel (k + 4) u v := h
theorem rl_mk {k : Nat} (R : rl_R n na nk ns sec st xal ybl kd fs sc sz gr ac vc xl xt xs xc xat xaa yl yT yS yR ybq ybv) : i_Rel k ((nI n), (nI na), (nI nk), (nI ns), sec, st, xal, (pu_A kd), (pu_A fs), (pu_A sc), (pu_A sz), (pu_A gr), (pu_A ac), vc, (pu_A xl), (pu_A xt), (pu_A xs), (pu_A xc), (pu_A xat), (pu_A xaa), (pu_A xch), (pu_A xtw), (pu_A xds), (pu_A xtg), (pu_A xnx), (pu_A xft)) ((nI n), (nI na), (nI nk), (nI ns), sec, st, ybl, (nI yna), (pu_A kd), (pu_A fs), (pu_A sc), (pu_A sz), (pu_A ac), vc, (pu_A yl), (pu_A yT), (pu_A yS), (pu_A yR), (pu_A ybq), (pu_A ybv), (pu_A yv), (pu_A yan), (pu_A ysk), (pu_A yea), (pu_A yeb), (pu_A yq), (pu_A ych), (pu_A ykl), (pu_A ycn)) :=
  ⟨n, na, nk, ns, sec, st, xal, ybl, yna, kd, fs, sc, sz, gr, ac, vc, xl, xt, xs, xc, xat, xaa, xch, xtw, xds, xtg, xnx, xft, yl, yT, yS, yR, ybq, ybv, yv, yan, ysk, yea, yeb, yq, ych, ykl, ycn, rfl, rfl, R⟩
theorem rl_nb {e : Nat} (h : e ≤ 1) : vp_nar .boolean (nI e) = nI e := by
  have c : e = 0 ∨ e = 1 := by omega
  rcases c with q | q
  · rw [q]; rfl
  · rw [q]; rfl
theorem rl_nn {e : Nat} (h : e ≤ 1) : narrow .boolean (.int (nI e)) = .int (nI e) := by
  have c : e = 0 ∨ e = 1 := by omega
  rcases c with q | q
  · rw [q]; rfl
  · rw [q]; rfl
theorem rl_up {f : Nat → Nat} {k x : Nat} {i y : Int32} (hk : k < 2 ^ 31) (hi : i = nI k) (hy : y = nI x) : upd (pu_A f) i.toNatClampNeg y = pu_A (pu_upd f k x) := by
  rw [hi, nI_clamp hk, hy, pu_Au]
def rl_bad (n : Nat) (t : Int32) : Prop := t < 0 ∨ (¬ t < 0 ∧ nI n ≤ t)
theorem rl_split (n : Nat) (t : Int32) (h : n < 2 ^ 31) : rl_bad n t ∨ ∃ j, j < n ∧ t = nI j := by
  rcases pk_ix t h with a | b | c
  · exact Or.inl (Or.inl a)
  · by_cases q : t < 0
    · exact Or.inl (Or.inl q)
    · exact Or.inl (Or.inr ⟨q, b⟩)
  · exact Or.inr c
theorem xm_bad {post : Int32 → Prop} {t : Int32} (b : rl_bad n t) (h : post 0) : wpX_isCell post ((nI n), (nI na), (nI nk), (nI ns), sec, st, xal, (pu_A kd), (pu_A fs), (pu_A sc), (pu_A sz), (pu_A gr), (pu_A ac), vc, (pu_A xl), (pu_A xt), (pu_A xs), (pu_A xc), (pu_A xat), (pu_A xaa), (pu_A xch), (pu_A xtw), (pu_A xds), (pu_A xtg), (pu_A xnx), (pu_A xft)) t := by
  rcases b with b | b
  · exact br_t b h
  · exact br_f b.1 (br_t b.2 h)
theorem xm_in {post : Int32 → Prop} {j : Nat} (hn : n ≤ 64) (hj : j < n) (h : post 1) : wpX_isCell post ((nI n), (nI na), (nI nk), (nI ns), sec, st, xal, (pu_A kd), (pu_A fs), (pu_A sc), (pu_A sz), (pu_A gr), (pu_A ac), vc, (pu_A xl), (pu_A xt), (pu_A xs), (pu_A xc), (pu_A xat), (pu_A xaa), (pu_A xch), (pu_A xtw), (pu_A xds), (pu_A xtg), (pu_A xnx), (pu_A xft)) (nI j) :=
  br_f (nI_pos (by omega)) (br_f (nI_ge hj (by omega)) h)
theorem ym_bad {post : Int32 → Prop} {t : Int32} (b : rl_bad n t) (h : post 0) : wpY_valid post ((nI n), (nI na), (nI nk), (nI ns), sec, st, ybl, (nI yna), (pu_A kd), (pu_A fs), (pu_A sc), (pu_A sz), (pu_A ac), vc, (pu_A yl), (pu_A yT), (pu_A yS), (pu_A yR), (pu_A ybq), (pu_A ybv), (pu_A yv), (pu_A yan), (pu_A ysk), (pu_A yea), (pu_A yeb), (pu_A yq), (pu_A ych), (pu_A ykl), (pu_A ycn)) t := by
  rcases b with b | b
  · exact br_t b h
  · exact br_f b.1 (br_t b.2 h)
theorem ym_in {post : Int32 → Prop} {j : Nat} (hn : n ≤ 64) (hj : j < n) (h : post 1) : wpY_valid post ((nI n), (nI na), (nI nk), (nI ns), sec, st, ybl, (nI yna), (pu_A kd), (pu_A fs), (pu_A sc), (pu_A sz), (pu_A ac), vc, (pu_A yl), (pu_A yT), (pu_A yS), (pu_A yR), (pu_A ybq), (pu_A ybv), (pu_A yv), (pu_A yan), (pu_A ysk), (pu_A yea), (pu_A yeb), (pu_A yq), (pu_A ych), (pu_A ykl), (pu_A ycn)) (nI j) :=
  br_f (nI_pos (by omega)) (br_f (nI_ge hj (by omega)) h)
theorem xm_make {post : Int32 → SX → Prop} {a b c d e : Nat} (hn : n < 64) (he : e ≤ 1) (h : post (nI n) ((nI (n + 1)), (nI na), (nI nk), (nI ns), sec, st, xal, (pu_A (pu_upd kd n a)), (pu_A (pu_upd fs n b)), (pu_A (pu_upd sc n c)), (pu_A (pu_upd sz n d)), (pu_A (pu_upd gr n e)), (pu_A ac), vc, (pu_A xl), (pu_A xt), (pu_A xs), (pu_A xc), (pu_A xat), (pu_A xaa), (pu_A xch), (pu_A xtw), (pu_A xds), (pu_A xtg), (pu_A xnx), (pu_A xft))) : wpX_makeCell post ((nI n), (nI na), (nI nk), (nI ns), sec, st, xal, (pu_A kd), (pu_A fs), (pu_A sc), (pu_A sz), (pu_A gr), (pu_A ac), vc, (pu_A xl), (pu_A xt), (pu_A xs), (pu_A xc), (pu_A xat), (pu_A xaa), (pu_A xch), (pu_A xtw), (pu_A xds), (pu_A xtg), (pu_A xnx), (pu_A xft)) (nI a) (nI b) (nI c) (nI d) (nI e) := by
  have w : vp_in (nI n) 64 := vp_in_nI hn (by omega)
  have q : n < 2 ^ 31 := by omega
  exact ⟨w, nm_r (rl_up q rfl rfl) ⟨w, nm_r (rl_up q rfl rfl) ⟨w, nm_r (rl_up q rfl rfl) ⟨w, nm_r (rl_up q rfl rfl) ⟨w, nm_r (rl_up q rfl (rl_nb he)) (nm_r (nI_1 n) h)⟩⟩⟩⟩⟩
theorem ym_make {post : Int32 → SY → Prop} {a b c d : Nat} (hn : n < 64) (h : post (nI n) ((nI (n + 1)), (nI na), (nI nk), (nI ns), sec, st, ybl, (nI yna), (pu_A (pu_upd kd n a)), (pu_A (pu_upd fs n b)), (pu_A (pu_upd sc n c)), (pu_A (pu_upd sz n d)), (pu_A ac), vc, (pu_A yl), (pu_A yT), (pu_A yS), (pu_A yR), (pu_A ybq), (pu_A ybv), (pu_A yv), (pu_A yan), (pu_A ysk), (pu_A yea), (pu_A yeb), (pu_A yq), (pu_A ych), (pu_A ykl), (pu_A ycn))) : wpY_newCell post ((nI n), (nI na), (nI nk), (nI ns), sec, st, ybl, (nI yna), (pu_A kd), (pu_A fs), (pu_A sc), (pu_A sz), (pu_A ac), vc, (pu_A yl), (pu_A yT), (pu_A yS), (pu_A yR), (pu_A ybq), (pu_A ybv), (pu_A yv), (pu_A yan), (pu_A ysk), (pu_A yea), (pu_A yeb), (pu_A yq), (pu_A ych), (pu_A ykl), (pu_A ycn)) (nI a) (nI b) (nI c) (nI d) := by
  have w : vp_in (nI n) 64 := vp_in_nI hn (by omega)
  have q : n < 2 ^ 31 := by omega
  refine ⟨w, nm_r (rl_up q rfl rfl) ⟨w, nm_r (rl_up q rfl rfl) ⟨w, nm_r (rl_up q rfl rfl) ⟨w, nm_r (rl_up q rfl rfl) (nm_r (nI_1 n) ?_)⟩⟩⟩⟩
  rw [nI_pred]
  exact h
theorem xm_reset {post : SX → Prop} (h : post ((nI n), (nI na), (nI nk), (nI ns), sec, 0, (-1), (pu_A kd), (pu_A fs), (pu_A sc), (pu_A sz), (pu_A gr), (pu_A ac), vc, (pu_A xl), (pu_A xt), (pu_A xs), (pu_A xc), (pu_A xat), (pu_A xaa), (pu_A xch), (pu_A xtw), (pu_A xds), (pu_A xtg), (pu_A xnx), (pu_A xft))) : wpX_reset post ((nI n), (nI na), (nI nk), (nI ns), sec, st, xal, (pu_A kd), (pu_A fs), (pu_A sc), (pu_A sz), (pu_A gr), (pu_A ac), vc, (pu_A xl), (pu_A xt), (pu_A xs), (pu_A xc), (pu_A xat), (pu_A xaa), (pu_A xch), (pu_A xtw), (pu_A xds), (pu_A xtg), (pu_A xnx), (pu_A xft)) := h
theorem ym_reset {post : SY → Prop} (h : post ((nI n), (nI na), (nI nk), (nI ns), sec, 0, (-1), (nI yna), (pu_A kd), (pu_A fs), (pu_A sc), (pu_A sz), (pu_A ac), vc, (pu_A yl), (pu_A yT), (pu_A yS), (pu_A yR), (pu_A ybq), (pu_A ybv), (pu_A yv), (pu_A yan), (pu_A ysk), (pu_A yea), (pu_A yeb), (pu_A yq), (pu_A ych), (pu_A ykl), (pu_A ycn))) : wpY_reset post ((nI n), (nI na), (nI nk), (nI ns), sec, st, ybl, (nI yna), (pu_A kd), (pu_A fs), (pu_A sc), (pu_A sz), (pu_A ac), vc, (pu_A yl), (pu_A yT), (pu_A yS), (pu_A yR), (pu_A ybq), (pu_A ybv), (pu_A yv), (pu_A yan), (pu_A ysk), (pu_A yea), (pu_A yeb), (pu_A yq), (pu_A ych), (pu_A ykl), (pu_A ycn)) := h
theorem xm_atom35 {post : Int32 → SX → Prop} {b : Nat} (hn : n < 64) (ha : na < 8) (h : post (nI n) ((nI (n + 1)), (nI (na + 1)), (nI nk), (nI ns), sec, 0, (-1), (pu_A (pu_upd kd n 1)), (pu_A (pu_upd fs n na)), (pu_A (pu_upd sc n b)), (pu_A (pu_upd sz n 1)), (pu_A (pu_upd gr n 1)), (pu_A (pu_upd ac na n)), vc, (pu_A xl), (pu_A xt), (pu_A xs), (pu_A xc), (pu_A xat), (pu_A xaa), (pu_A xch), (pu_A xtw), (pu_A xds), (pu_A xtg), (pu_A xnx), (pu_A xft))) : wX_atom_35 post (nI b) (nI na) 1 (nI n) (nI na) (nI nk) (nI ns) sec st xal (pu_A kd) (pu_A fs) (pu_A sc) (pu_A sz) (pu_A gr) (pu_A ac) vc (pu_A xl) (pu_A xt) (pu_A xs) (pu_A xc) (pu_A xat) (pu_A xaa) (pu_A xch) (pu_A xtw) (pu_A xds) (pu_A xtg) (pu_A xnx) (pu_A xft) := by
  unfold wX_atom_35
  refine xm_make (a := 1) (b := na) (c := b) (d := 1) (e := 1) hn (by omega) ?_
  exact ⟨vp_in_nI ha (by omega), nm_r (rl_up (by omega) rfl rfl) (nm_r (nI_1 na) (xm_reset h))⟩
theorem ym_atom35 {post : Int32 → SY → Prop} {b : Nat} (hn : n < 64) (ha : na < 8) (h : post (nI n) ((nI (n + 1)), (nI (na + 1)), (nI nk), (nI ns), sec, 0, (-1), (nI yna), (pu_A (pu_upd kd n 1)), (pu_A (pu_upd fs n na)), (pu_A (pu_upd sc n b)), (pu_A (pu_upd sz n 1)), (pu_A (pu_upd ac na n)), vc, (pu_A yl), (pu_A yT), (pu_A yS), (pu_A yR), (pu_A ybq), (pu_A ybv), (pu_A yv), (pu_A yan), (pu_A ysk), (pu_A yea), (pu_A yeb), (pu_A yq), (pu_A ych), (pu_A ykl), (pu_A ycn))) : wY_atom_35 post (nI b) (nI na) 1 (nI n) (nI na) (nI nk) (nI ns) sec st ybl (nI yna) (pu_A kd) (pu_A fs) (pu_A sc) (pu_A sz) (pu_A ac) vc (pu_A yl) (pu_A yT) (pu_A yS) (pu_A yR) (pu_A ybq) (pu_A ybv) (pu_A yv) (pu_A yan) (pu_A ysk) (pu_A yea) (pu_A yeb) (pu_A yq) (pu_A ych) (pu_A ykl) (pu_A ycn) := by
  unfold wY_atom_35
  refine ym_make (a := 1) (b := na) (c := b) (d := 1) hn ?_
  exact ⟨vp_in_nI ha (by omega), nm_r (rl_up (by omega) rfl rfl) (nm_r (nI_1 na) (ym_reset h))⟩
theorem rl_st0 {P : Prop} : (0 : Int32) = 2 → P := fun h => absurd h (by decide)
theorem rl_Ratom {b : Nat} (R : rl_R n na nk ns sec st xal ybl kd fs sc sz gr ac vc xl xt xs xc xat xaa yl yT yS yR ybq ybv) (hn : n < 64) (ha : na < 8) (hb : b ≤ 1) :
    rl_R (n + 1) (na + 1) nk ns sec 0 (-1) (-1) (pu_upd kd n 1) (pu_upd fs n na) (pu_upd sc n b) (pu_upd sz n 1) (pu_upd gr n 1) (pu_upd ac na n) vc xl xt xs xc xat xaa yl yT yS yR ybq ybv := by
  obtain ⟨r1, r2, r3, r4, r5⟩ := R
  refine ⟨gw_atom r1 hn ha hb, sr_up (by omega) r2, ⟨r3.1, fun i hi => ?_⟩, ?_, rl_st0⟩
  · obtain ⟨h1, h2, h3⟩ := r3.2 i hi
    exact ⟨h1, by omega, by rw [pu_un (by omega)]; exact h3⟩
  · rcases r4 with r4 | ⟨t, h1, h2⟩
    · exact Or.inl r4
    · exact Or.inr ⟨t, by omega, h2⟩
theorem i_vc_atom {k : Nat} {u : SX} {v : SY} (I : i_Rel k u v) (hk : k + 4 ≤ 2048) (v1 : Int32) : wpX_atom (fun r u' => wpY_atom (fun r' v' => r' = r ∧ i_Rel (k + 4) u' v') v (lw_bz v1)) u (lw_bz v1) := by
  obtain ⟨n, na, nk, ns, sec, st, xal, ybl, yna, kd, fs, sc, sz, gr, ac, vc, xl, xt, xs, xc, xat, xaa, xch, xtw, xds, xtg, xnx, xft, yl, yT, yS, yR, ybq, ybv, yv, yan, ysk, yea, yeb, yq, ych, ykl, ycn, rfl, rfl, R⟩ := I
  have hn := R.1.1
  have ha := R.1.2.1
  refine pk_le 8 na (fun h8 => ?_) (fun h8 => pk_lt n 64 (fun h64 => br_c (fun z => ?_) (fun z => ?_)) (fun h64 => ?_))
  · exact pk_le 8 na (fun _ => ⟨rfl, rl_mk R⟩) (fun h => by omega)
  · refine xm_atom35 (b := 0) h64 h8 ?_
    exact pk_le 8 na (fun h => by omega) (fun _ => pk_lt n 64 (fun _ => br_t z (ym_atom35 (b := 0) h64 h8 ⟨rfl, rl_mk (rl_Ratom R h64 h8 (by omega))⟩)) (fun h => by omega))
  · refine xm_atom35 (b := 1) h64 h8 ?_
    exact pk_le 8 na (fun h => by omega) (fun _ => pk_lt n 64 (fun _ => br_f z (ym_atom35 (b := 1) h64 h8 ⟨rfl, rl_mk (rl_Ratom R h64 h8 (by omega))⟩)) (fun h => by omega))
  · exact pk_le 8 na (fun h => by omega) (fun _ => pk_lt n 64 (fun h => by omega) (fun _ => ⟨rfl, rl_mk R⟩))
end
