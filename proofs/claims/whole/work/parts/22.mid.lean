section
theorem sm_first (P : Nat → Prop) : ∀ m, (∀ t, t < m → ¬ P t) ∨ ∃ t, t < m ∧ P t ∧ ∀ u, u < t → ¬ P u := by
  intro m
  induction m with
  | zero => exact Or.inl (fun t h => by omega)
  | succ m ih =>
    rcases ih with h | ⟨a, h1, h2⟩
    · by_cases r : P m
      · exact Or.inr ⟨m, by omega, r, h⟩
      · refine Or.inl (fun a ha => ?_)
        by_cases e : a = m
        · rw [e]; exact r
        · exact h a (by omega)
    · exact Or.inr ⟨a, by omega, h2⟩
variable {n na nk ns : Nat} {sec st xal ybl : Int32} {yna : Nat} {kd fs sc sz gr ac : Nat → Nat} {vc : Nat → Int32} {xl xt xs xc xat xaa xch xtw xds xtg xnx xft : Nat → Nat} {yl yT yS yR ybq ybv yv yan ysk yea yeb yq ych ykl ycn : Nat → Nat}
theorem rl_Rvar {j : Nat} (R : rl_R n na nk ns sec st xal ybl kd fs sc sz gr ac vc xl xt xs xc xat xaa yl yT yS yR ybq ybv) (hn : n < 64) (hj : j < 3) (h0 : vc j = -1) :
    rl_R (n + 1) na nk ns sec 0 (-1) (-1) (pu_upd kd n 2) (pu_upd fs n j) (pu_upd sc n 0) (pu_upd sz n 1) (pu_upd gr n 0) ac (upd vc j (nI n)) xl xt xs xc xat xaa yl yT yS yR ybq ybv := by
  obtain ⟨r1, r2, r3, r4, r5⟩ := R
  refine ⟨gw_var r1 hn hj h0, sr_up (by omega) r2, ⟨r3.1, fun i hi => ?_⟩, ?_, rl_st0⟩
  · obtain ⟨h1, h2, h3⟩ := r3.2 i hi
    exact ⟨h1, by omega, by rw [pu_un (by omega)]; exact h3⟩
  · rcases r4 with r4 | ⟨t, h1, h2⟩
    · exact Or.inl r4
    · exact Or.inr ⟨t, by omega, h2⟩
theorem i_vc_variable {k : Nat} {u : SX} {v : SY} (I : i_Rel k u v) (hk : k + 4 ≤ 2048) (v1 : Int32) : wpX_variable (fun r u' => wpY_variable (fun r' v' => r' = r ∧ i_Rel (k + 4) u' v') v v1) u v1 := by
  obtain ⟨n, na, nk, ns, sec, st, xal, ybl, yna, kd, fs, sc, sz, gr, ac, vc, xl, xt, xs, xc, xat, xaa, xch, xtw, xds, xtg, xnx, xft, yl, yT, yS, yR, ybq, ybv, yv, yan, ysk, yea, yeb, yq, ych, ykl, ycn, rfl, rfl, R⟩ := I
  have hn := R.1.1
  refine br_c (fun h0 => br_t h0 ⟨rfl, rl_mk R⟩) (fun h0 => ?_)
  obtain ⟨j, hj, rfl⟩ := nI_of h0
  refine pk_lt j 3 (fun l => ?_) (fun l => br_f h0 (pk_lt j 3 (fun l2 => by omega) (fun _ => ⟨rfl, rl_mk R⟩)))
  have w : vp_in (nI j) 3 := vp_in_nI l (by omega)
  have q : (nI j).toNatClampNeg = j := nI_clamp hj
  obtain ⟨e1, e2⟩ := sm_vneg R.1 l
  rw [← q] at e1
  refine ⟨w, br_c (fun z => pk_lt n 64 (fun h64 => ?_) (fun h64 => ?_)) (fun z => ⟨w, ?_⟩)⟩
  · have z' : vc j = -1 := by rw [← q]; exact z
    refine xm_make (a := 2) (b := j) (c := 0) (d := 1) (e := 0) h64 (by omega) ⟨w, nm_r (e' := upd vc j (nI n)) (by rw [q]) (xm_reset ?_)⟩
    refine br_f h0 (pk_lt j 3 (fun _ => ⟨w, br_t (e1.mpr z) (pk_lt n 64 (fun _ => ?_) (fun h => by omega))⟩) (fun l2 => by omega))
    refine ym_make (a := 2) (b := j) (c := 0) (d := 1) h64 ⟨w, nm_r (e' := upd vc j (nI n)) (by rw [q]) (ym_reset ⟨rfl, rl_mk (rl_Rvar R h64 l z')⟩)⟩
  · exact br_f h0 (pk_lt j 3 (fun _ => ⟨w, br_t (e1.mpr z) (pk_lt n 64 (fun h => by omega) (fun _ => ⟨rfl, rl_mk R⟩))⟩) (fun l2 => by omega))
  · exact br_f h0 (pk_lt j 3 (fun _ => ⟨w, br_f (fun y => z (e1.mp y)) ⟨w, rfl, rl_mk R⟩⟩) (fun l2 => by omega))
theorem sm_size {a b : Nat} (ha : a < 64) (hb : b < 64) : (1 + pu_A sz (nI a).toNatClampNeg) + pu_A sz (nI b).toNatClampNeg = nI (1 + sz a + sz b) := by
  rw [pu_Ag sz (by omega), pu_Ag sz (by omega)]
  have e : (1 : Int32) + nI (sz a) = nI (1 + sz a) := nI_add 1 (sz a)
  rw [e, nI_add]
theorem xm_fc {post : Int32 → Prop} {o a b e : Nat} (I : ci_I kd fs sc sz gr n na ac vc) (ho : o ≤ 5) (ha : a < 64) (hb : b < 64) (he : e ≤ n) (no : ∀ u, u < e → ¬ (kd u = o ∧ fs u = a ∧ sc u = b)) (K : (e = n ∧ post (-1)) ∨ (e < n ∧ (kd e = o ∧ fs e = a ∧ sc e = b) ∧ post (nI e))) : ∀ d t m, t + d = e → d < m → wX_findCell_3 post (nI o) (nI a) (nI b) (nI n) (nI na) (nI nk) (nI ns) sec st xal (pu_A kd) (pu_A fs) (pu_A sc) (pu_A sz) (pu_A gr) (pu_A ac) vc (pu_A xl) (pu_A xt) (pu_A xs) (pu_A xc) (pu_A xat) (pu_A xaa) (pu_A xch) (pu_A xtw) (pu_A xds) (pu_A xtg) (pu_A xnx) (pu_A xft) m (nI t) := by
  have hn := I.1
  intro d
  induction d with
  | zero =>
    intro t m ht hm
    obtain ⟨m, rfl⟩ : ∃ m', m = m' + 1 := ⟨m - 1, by omega⟩
    have q : t = e := by omega
    subst q
    rw [wX_findCell_3]
    rcases K with ⟨k1, k2⟩ | ⟨k1, k2, k3⟩
    · exact br_t (nI_le (by omega) (by omega)) k2
    · have w : vp_in (nI t) 64 := vp_in_nI (by omega) (by omega)
      have b1 := ci_kd I k1
      have b2 := ci_b I k1
      exact br_f (nI_ge k1 (by omega)) ⟨w, pk_eq (kd t) o (fun _ => ⟨w, pk_eq (fs t) a (fun _ => ⟨w, pk_eq (sc t) b (fun _ => k3) (fun h => absurd k2.2.2 h) (pu_Ag sc (by omega))⟩) (fun h => absurd k2.2.1 h) (pu_Ag fs (by omega))⟩) (fun h => absurd k2.1 h) (pu_Ag kd (by omega))⟩
  | succ d ih =>
    intro t m ht hm
    obtain ⟨m, rfl⟩ : ∃ m', m = m' + 1 := ⟨m - 1, by omega⟩
    rw [wX_findCell_3]
    have w : vp_in (nI t) 64 := vp_in_nI (by omega) (by omega)
    have b1 := ci_kd I (by omega : t < n)
    have b2 := ci_b I (by omega : t < n)
    have nx := ih (t + 1) m (by omega) (by omega)
    exact br_f (nI_ge (by omega) (by omega)) ⟨w, pk_eq (kd t) o (fun h1 => ⟨w, pk_eq (fs t) a (fun h2 => ⟨w, pk_eq (sc t) b (fun h3 => absurd ⟨h1, h2, h3⟩ (no t (by omega))) (fun _ => nm_r (nI_1 t) nx) (pu_Ag sc (by omega))⟩) (fun _ => nm_r (nI_1 t) nx) (pu_Ag fs (by omega))⟩) (fun _ => nm_r (nI_1 t) nx) (pu_Ag kd (by omega))⟩
theorem ym_fc {post : Int32 → SY → Prop} {o a b e : Nat} (I : ci_I kd fs sc sz gr n na ac vc) (ho : o ≤ 5) (ha : a < 64) (hb : b < 64) (he : e ≤ n) (no : ∀ u, u < e → ¬ (kd u = o ∧ fs u = a ∧ sc u = b)) (K : (e = n ∧ (n = 64 → post (-1) ((nI n), (nI na), (nI nk), (nI ns), sec, st, ybl, (nI yna), (pu_A kd), (pu_A fs), (pu_A sc), (pu_A sz), (pu_A ac), vc, (pu_A yl), (pu_A yT), (pu_A yS), (pu_A yR), (pu_A ybq), (pu_A ybv), (pu_A yv), (pu_A yan), (pu_A ysk), (pu_A yea), (pu_A yeb), (pu_A yq), (pu_A ych), (pu_A ykl), (pu_A ycn))) ∧ (n < 64 → post (nI n) ((nI (n + 1)), (nI na), (nI nk), (nI ns), sec, st, ybl, (nI yna), (pu_A (pu_upd kd n o)), (pu_A (pu_upd fs n a)), (pu_A (pu_upd sc n b)), (pu_A (pu_upd sz n (1 + sz a + sz b))), (pu_A ac), vc, (pu_A yl), (pu_A yT), (pu_A yS), (pu_A yR), (pu_A ybq), (pu_A ybv), (pu_A yv), (pu_A yan), (pu_A ysk), (pu_A yea), (pu_A yeb), (pu_A yq), (pu_A ych), (pu_A ykl), (pu_A ycn)))) ∨ (e < n ∧ (kd e = o ∧ fs e = a ∧ sc e = b) ∧ post (nI e) ((nI n), (nI na), (nI nk), (nI ns), sec, st, ybl, (nI yna), (pu_A kd), (pu_A fs), (pu_A sc), (pu_A sz), (pu_A ac), vc, (pu_A yl), (pu_A yT), (pu_A yS), (pu_A yR), (pu_A ybq), (pu_A ybv), (pu_A yv), (pu_A yan), (pu_A ysk), (pu_A yea), (pu_A yeb), (pu_A yq), (pu_A ych), (pu_A ykl), (pu_A ycn)))) : ∀ d t m, t + d = e → d < m → wY_compose_60 post (nI o) (nI a) (nI b) (nI n) (nI na) (nI nk) (nI ns) sec st ybl (nI yna) (pu_A kd) (pu_A fs) (pu_A sc) (pu_A sz) (pu_A ac) vc (pu_A yl) (pu_A yT) (pu_A yS) (pu_A yR) (pu_A ybq) (pu_A ybv) (pu_A yv) (pu_A yan) (pu_A ysk) (pu_A yea) (pu_A yeb) (pu_A yq) (pu_A ych) (pu_A ykl) (pu_A ycn) m (nI t) := by
  have hn := I.1
  intro d
  induction d with
  | zero =>
    intro t m ht hm
    obtain ⟨m, rfl⟩ : ∃ m', m = m' + 1 := ⟨m - 1, by omega⟩
    have q : t = e := by omega
    subst q
    rw [wY_compose_60]
    rcases K with ⟨k1, k2, k3⟩ | ⟨k1, k2, k3⟩
    · refine br_t (nI_le (by omega) (by omega)) (pk_lt n 64 (fun l => ⟨vp_in_nI ha (by omega), vp_in_nI hb (by omega), ?_⟩) (fun l => k2 (by omega)))
      rw [sm_size ha hb]
      exact ym_make l (k3 l)
    · have w : vp_in (nI t) 64 := vp_in_nI (by omega) (by omega)
      have b1 := ci_kd I k1
      have b2 := ci_b I k1
      exact br_f (nI_ge k1 (by omega)) ⟨w, pk_eq (kd t) o (fun _ => ⟨w, pk_eq (fs t) a (fun _ => ⟨w, pk_eq (sc t) b (fun _ => k3) (fun h => absurd k2.2.2 h) (pu_Ag sc (by omega))⟩) (fun h => absurd k2.2.1 h) (pu_Ag fs (by omega))⟩) (fun h => absurd k2.1 h) (pu_Ag kd (by omega))⟩
  | succ d ih =>
    intro t m ht hm
    obtain ⟨m, rfl⟩ : ∃ m', m = m' + 1 := ⟨m - 1, by omega⟩
    rw [wY_compose_60]
    have w : vp_in (nI t) 64 := vp_in_nI (by omega) (by omega)
    have b1 := ci_kd I (by omega : t < n)
    have b2 := ci_b I (by omega : t < n)
    have nx := ih (t + 1) m (by omega) (by omega)
    exact br_f (nI_ge (by omega) (by omega)) ⟨w, pk_eq (kd t) o (fun h1 => ⟨w, pk_eq (fs t) a (fun h2 => ⟨w, pk_eq (sc t) b (fun h3 => absurd ⟨h1, h2, h3⟩ (no t (by omega))) (fun _ => nm_r (nI_1 t) nx) (pu_Ag sc (by omega))⟩) (fun _ => nm_r (nI_1 t) nx) (pu_Ag fs (by omega))⟩) (fun _ => nm_r (nI_1 t) nx) (pu_Ag kd (by omega))⟩
theorem rl_Rcomp {o a b g : Nat} (R : rl_R n na nk ns sec st xal ybl kd fs sc sz gr ac vc xl xt xs xc xat xaa yl yT yS yR ybq ybv) (hn : n < 64) (o3 : 3 ≤ o) (o5 : o ≤ 5) (ha : a < n) (hb : b < n) (hs : 1 + sz a + sz b ≤ 32) (hg : g ≤ 1) (hg' : g = 1 ↔ gr a = 1 ∧ gr b = 1) (no : ∀ t, t < n → ¬ (kd t = o ∧ fs t = a ∧ sc t = b)) :
    rl_R (n + 1) na nk ns sec st xal ybl (pu_upd kd n o) (pu_upd fs n a) (pu_upd sc n b) (pu_upd sz n (1 + sz a + sz b)) (pu_upd gr n g) ac vc xl xt xs xc xat xaa yl yT yS yR ybq ybv := by
  obtain ⟨r1, r2, r3, r4, r5⟩ := R
  refine ⟨gw_comp r1 hn o3 o5 ha hb hs hg hg' no, sr_up (by omega) r2, ⟨r3.1, fun i hi => ?_⟩, ?_, r5⟩
  · obtain ⟨h1, h2, h3⟩ := r3.2 i hi
    exact ⟨h1, by omega, by rw [pu_un (by omega)]; exact h3⟩
  · rcases r4 with r4 | ⟨t, h1, h2⟩
    · exact Or.inl r4
    · exact Or.inr ⟨t, by omega, h2⟩
theorem xm_c119 {post : Int32 → SX → Prop} {o a b s g : Nat} (hn : n < 64) (hg : g ≤ 1) (h : post (nI n) ((nI (n + 1)), (nI na), (nI nk), (nI ns), sec, st, xal, (pu_A (pu_upd kd n o)), (pu_A (pu_upd fs n a)), (pu_A (pu_upd sc n b)), (pu_A (pu_upd sz n s)), (pu_A (pu_upd gr n g)), (pu_A ac), vc, (pu_A xl), (pu_A xt), (pu_A xs), (pu_A xc), (pu_A xat), (pu_A xaa), (pu_A xch), (pu_A xtw), (pu_A xds), (pu_A xtg), (pu_A xnx), (pu_A xft))) : wX_compose_119 post (nI g) (nI s) (nI b) (nI a) (nI o) (nI n) (nI na) (nI nk) (nI ns) sec st xal (pu_A kd) (pu_A fs) (pu_A sc) (pu_A sz) (pu_A gr) (pu_A ac) vc (pu_A xl) (pu_A xt) (pu_A xs) (pu_A xc) (pu_A xat) (pu_A xaa) (pu_A xch) (pu_A xtw) (pu_A xds) (pu_A xtg) (pu_A xnx) (pu_A xft) := by
  unfold wX_compose_119
  exact xm_make hn hg h
theorem sm_c17 {k : Nat} {o : Nat} (R : rl_R n na nk ns sec st xal ybl kd fs sc sz gr ac vc xl xt xs xc xat xaa yl yT yS yR ybq ybv) (o3 : 3 ≤ o) (o5 : o ≤ 5) (v2 v3 : Int32) :
    wX_compose_17 (fun r u' => wY_compose_17 (fun r' v' => r' = r ∧ i_Rel k u' v') (nI o) v2 v3 (nI n) (nI na) (nI nk) (nI ns) sec st ybl (nI yna) (pu_A kd) (pu_A fs) (pu_A sc) (pu_A sz) (pu_A ac) vc (pu_A yl) (pu_A yT) (pu_A yS) (pu_A yR) (pu_A ybq) (pu_A ybv) (pu_A yv) (pu_A yan) (pu_A ysk) (pu_A yea) (pu_A yeb) (pu_A yq) (pu_A ych) (pu_A ykl) (pu_A ycn)) (nI o) v2 v3 (nI n) (nI na) (nI nk) (nI ns) sec st xal (pu_A kd) (pu_A fs) (pu_A sc) (pu_A sz) (pu_A gr) (pu_A ac) vc (pu_A xl) (pu_A xt) (pu_A xs) (pu_A xc) (pu_A xat) (pu_A xaa) (pu_A xch) (pu_A xtw) (pu_A xds) (pu_A xtg) (pu_A xnx) (pu_A xft) := by
  have I := R.1
  have hn := I.1
  unfold wX_compose_17 wY_compose_17
  rcases rl_split n v2 (by omega) with b | ⟨a, ha, rfl⟩
  · refine xm_bad b (br_t rfl ?_)
    exact ym_bad b (br_t rfl ⟨rfl, rl_mk R⟩)
  · refine xm_in hn ha (br_f (by decide) ?_)
    rcases rl_split n v3 (by omega) with b | ⟨b, hb, rfl⟩
    · refine xm_bad b (br_t rfl ?_)
      exact ym_in hn ha (br_f (by decide) (ym_bad b (br_t rfl ⟨rfl, rl_mk R⟩)))
    · have wa : vp_in (nI a) 64 := vp_in_nI (by omega) (by omega)
      have wb : vp_in (nI b) 64 := vp_in_nI (by omega) (by omega)
      have sa := ci_sz I a ha
      have sb := ci_sz I b hb
      have ga := ci_gr I ha
      have gb := ci_gr I hb
      have es := sm_size (sz := sz) (by omega : a < 64) (by omega : b < 64)
      refine xm_in hn hb (br_f (by decide) ⟨wa, wb, nm_r es (pk_le (1 + sz a + sz b) 32 (fun l => ?_) (fun l => ?_))⟩)
      · unfold wpX_findCell
        rcases sm_first (fun t => kd t = o ∧ fs t = a ∧ sc t = b) n with no | ⟨t, ht, pt, nt⟩
        · refine ⟨n + 1, xm_fc (e := n) I o5 (by omega) (by omega) (Nat.le_refl n) no (Or.inl ⟨rfl, ?_⟩) n 0 (n + 1) (by omega) (by omega)⟩
          refine br_t rfl (pk_lt n 64 (fun h64 => ⟨wa, ?_⟩) (fun h64 => ?_))
          · have fin : ∀ g, g ≤ 1 → (g = 1 ↔ gr a = 1 ∧ gr b = 1) → wX_compose_119 (fun r u' => wpY_valid (fun r_2 => (((r_2 = 0 → ((fun r' v' => r' = r ∧ i_Rel k u' v') (-1) ((nI n), (nI na), (nI nk), (nI ns), sec, st, ybl, (nI yna), (pu_A kd), (pu_A fs), (pu_A sc), (pu_A sz), (pu_A ac), vc, (pu_A yl), (pu_A yT), (pu_A yS), (pu_A yR), (pu_A ybq), (pu_A ybv), (pu_A yv), (pu_A yan), (pu_A ysk), (pu_A yea), (pu_A yeb), (pu_A yq), (pu_A ych), (pu_A ykl), (pu_A ycn)))) ∧ (¬ r_2 = 0 → (wpY_valid (fun r_33 => (((r_33 = 0 → ((fun r' v' => r' = r ∧ i_Rel k u' v') (-1) ((nI n), (nI na), (nI nk), (nI ns), sec, st, ybl, (nI yna), (pu_A kd), (pu_A fs), (pu_A sc), (pu_A sz), (pu_A ac), vc, (pu_A yl), (pu_A yT), (pu_A yS), (pu_A yR), (pu_A ybq), (pu_A ybv), (pu_A yv), (pu_A yan), (pu_A ysk), (pu_A yea), (pu_A yeb), (pu_A yq), (pu_A ych), (pu_A ykl), (pu_A ycn)))) ∧ (¬ r_33 = 0 → (vp_in (nI a) 64 ∧ (vp_in (nI b) 64 ∧ (((((1 + (pu_A sz (nI a).toNatClampNeg)) + (pu_A sz (nI b).toNatClampNeg)) ≤ 32 → (∃ n60 : Nat, wY_compose_60 (fun r' v' => r' = r ∧ i_Rel k u' v') (nI o) (nI a) (nI b) (nI n) (nI na) (nI nk) (nI ns) sec st ybl (nI yna) (pu_A kd) (pu_A fs) (pu_A sc) (pu_A sz) (pu_A ac) vc (pu_A yl) (pu_A yT) (pu_A yS) (pu_A yR) (pu_A ybq) (pu_A ybv) (pu_A yv) (pu_A yan) (pu_A ysk) (pu_A yea) (pu_A yeb) (pu_A yq) (pu_A ych) (pu_A ykl) (pu_A ycn) n60 0)) ∧ (¬ ((1 + (pu_A sz (nI a).toNatClampNeg)) + (pu_A sz (nI b).toNatClampNeg)) ≤ 32 → ((fun r' v' => r' = r ∧ i_Rel k u' v') (-1) ((nI n), (nI na), (nI nk), (nI ns), sec, st, ybl, (nI yna), (pu_A kd), (pu_A fs), (pu_A sc), (pu_A sz), (pu_A ac), vc, (pu_A yl), (pu_A yT), (pu_A yS), (pu_A yR), (pu_A ybq), (pu_A ybv), (pu_A yv), (pu_A yan), (pu_A ysk), (pu_A yea), (pu_A yeb), (pu_A yq), (pu_A ych), (pu_A ykl), (pu_A ycn)))))))))))) ((nI n), (nI na), (nI nk), (nI ns), sec, st, ybl, (nI yna), (pu_A kd), (pu_A fs), (pu_A sc), (pu_A sz), (pu_A ac), vc, (pu_A yl), (pu_A yT), (pu_A yS), (pu_A yR), (pu_A ybq), (pu_A ybv), (pu_A yv), (pu_A yan), (pu_A ysk), (pu_A yea), (pu_A yeb), (pu_A yq), (pu_A ych), (pu_A ykl), (pu_A ycn)) (nI b)))))) ((nI n), (nI na), (nI nk), (nI ns), sec, st, ybl, (nI yna), (pu_A kd), (pu_A fs), (pu_A sc), (pu_A sz), (pu_A ac), vc, (pu_A yl), (pu_A yT), (pu_A yS), (pu_A yR), (pu_A ybq), (pu_A ybv), (pu_A yv), (pu_A yan), (pu_A ysk), (pu_A yea), (pu_A yeb), (pu_A yq), (pu_A ych), (pu_A ykl), (pu_A ycn)) (nI a)) (nI g) (nI (1 + sz a + sz b)) (nI b) (nI a) (nI o) (nI n) (nI na) (nI nk) (nI ns) sec st xal (pu_A kd) (pu_A fs) (pu_A sc) (pu_A sz) (pu_A gr) (pu_A ac) vc (pu_A xl) (pu_A xt) (pu_A xs) (pu_A xc) (pu_A xat) (pu_A xaa) (pu_A xch) (pu_A xtw) (pu_A xds) (pu_A xtg) (pu_A xnx) (pu_A xft) := by
              intro g hg hg'
              refine xm_c119 h64 hg ?_
              refine ym_in hn ha (br_f (by decide) (ym_in hn hb (br_f (by decide) ⟨wa, wb, pk_le (1 + sz a + sz b) 32 (fun _ => ?_) (fun h => by omega) es⟩)))
              exact ⟨n + 1, ym_fc (e := n) I o5 (by omega) (by omega) (Nat.le_refl n) no (Or.inl ⟨rfl, fun h => by omega, fun _ => ⟨rfl, rl_mk (rl_Rcomp R h64 o3 o5 ha hb l hg hg' no)⟩⟩) n 0 (n + 1) (by omega) (by omega)⟩
            refine pk_eq (gr a) 0 (fun g0 => ?_) (fun g1 => ⟨wb, pk_eq (gr b) 0 (fun g0 => ?_) (fun g2 => ?_) (pu_Ag gr (by omega))⟩) (pu_Ag gr (by omega))
            · exact fin 0 (by omega) (by omega)
            · exact fin 0 (by omega) (by omega)
            · exact fin 1 (by omega) (by omega)
          · refine ym_in hn ha (br_f (by decide) (ym_in hn hb (br_f (by decide) ⟨wa, wb, pk_le (1 + sz a + sz b) 32 (fun _ => ?_) (fun h => by omega) es⟩)))
            exact ⟨n + 1, ym_fc (e := n) I o5 (by omega) (by omega) (Nat.le_refl n) no (Or.inl ⟨rfl, fun _ => ⟨rfl, rl_mk R⟩, fun h => by omega⟩) n 0 (n + 1) (by omega) (by omega)⟩
        · refine ⟨n + 1, xm_fc (e := t) I o5 (by omega) (by omega) (by omega) nt (Or.inr ⟨ht, pt, ?_⟩) t 0 (n + 1) (by omega) (by omega)⟩
          refine br_f (gw_m1 (by omega)) ?_
          refine ym_in hn ha (br_f (by decide) (ym_in hn hb (br_f (by decide) ⟨wa, wb, pk_le (1 + sz a + sz b) 32 (fun _ => ?_) (fun h => by omega) es⟩)))
          exact ⟨n + 1, ym_fc (e := t) I o5 (by omega) (by omega) (by omega) nt (Or.inr ⟨ht, pt, rfl, rl_mk R⟩) t 0 (n + 1) (by omega) (by omega)⟩
      · exact ym_in hn ha (br_f (by decide) (ym_in hn hb (br_f (by decide) ⟨wa, wb, pk_le (1 + sz a + sz b) 32 (fun h => by omega) (fun _ => ⟨rfl, rl_mk R⟩) es⟩)))
theorem i_vc_compose {k : Nat} {u : SX} {v : SY} (I : i_Rel k u v) (hk : k + 4 ≤ 2048) (v1 : Int32) (v2 : Int32) (v3 : Int32) : wpX_compose (fun r u' => wpY_compose (fun r' v' => r' = r ∧ i_Rel (k + 4) u' v') v v1 v2 v3) u v1 v2 v3 := by
  obtain ⟨n, na, nk, ns, sec, st, xal, ybl, yna, kd, fs, sc, sz, gr, ac, vc, xl, xt, xs, xc, xat, xaa, xch, xtw, xds, xtg, xnx, xft, yl, yT, yS, yR, ybq, ybv, yv, yan, ysk, yea, yeb, yq, ych, ykl, ycn, rfl, rfl, R⟩ := I
  unfold wpX_compose wpY_compose
  by_cases e3 : v1 = 3
  · subst e3
    simp only [true_implies, not_true_eq_false, false_implies, and_true]
    exact sm_c17 (o := 3) R (by omega) (by omega) v2 v3
  · by_cases e4 : v1 = 4
    · subst e4
      have h43 : ¬ (4 : Int32) = 3 := by decide
      simp only [h43, true_implies, not_true_eq_false, not_false_eq_true, false_implies, and_true, true_and]
      exact sm_c17 (o := 4) R (by omega) (by omega) v2 v3
    · by_cases e5 : v1 = 5
      · subst e5
        have h53 : ¬ (5 : Int32) = 3 := by decide
        have h54 : ¬ (5 : Int32) = 4 := by decide
        simp only [h53, h54, true_implies, not_true_eq_false, not_false_eq_true, false_implies, and_true, true_and]
        exact sm_c17 (o := 5) R (by omega) (by omega) v2 v3
      · exact br_f e3 (br_f e4 (br_f e5 (br_f e3 (br_f e4 (br_f e5 ⟨rfl, rl_mk R⟩)))))
end
