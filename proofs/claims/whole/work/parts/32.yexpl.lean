section
def ye_W (post : SY → Prop) (n na nk ns s0 : Nat) (st : Int32) (kd fs sc sz ac : Nat → Nat) (vc : Nat → Int32) (yT yS yR ybv yv : Nat → Nat) (it d : Nat) (ych ykl yq ycn yl : Nat → Nat) (B ow : Nat) : Prop :=
  ∀ (fu : Nat) (bL : Int32) (bQ bV : Nat → Nat) (yna : Nat) (yan ysk yea yeb : Nat → Nat), 8001 ≤ fu + it → bs_R bL bQ B → (ow = 0 → ∀ v, v < 3 → bV v = ybv v) → (ow = 1 → ∀ v, v < 3 → bV v = yv v) →
    wY_explore_62 post fu (nI d) (nI it) (nI n) (nI na) (nI nk) (nI ns) (nI s0) st bL (nI yna) (pu_A kd) (pu_A fs) (pu_A sc) (pu_A sz) (pu_A ac) vc (pu_A yl) (pu_A yT) (pu_A yS) (pu_A yR) (pu_A bQ) (pu_A bV) (pu_A yv) (pu_A yan) (pu_A ysk) (pu_A yea) (pu_A yeb) (pu_A yq) (pu_A ych) (pu_A ykl) (pu_A ycn)
variable {n na nk ns : Nat} {sec st xal ybl : Int32} {yna : Nat} {kd fs sc sz gr ac : Nat → Nat} {vc : Nat → Int32} {xl xt xs xc : Nat → Nat} {yl yT yS yR ybq ybv yv yan ysk yea yeb yq ych ykl ycn : Nat → Nat}
variable {tw rs : Nat → Nat} {s0 : Nat} {post : SY → Prop}
theorem ye_6 {bL : Int32} {bQ : Nat → Nat} {B : Nat} (b : bs_R bL bQ B) (h6 : ns ≤ 6) : df_ln ns B ≤ 6 := by
  rcases b with ⟨_, e⟩ | ⟨L, h1, _, h3, h4⟩
  · rw [e, df_ln_no]; exact h6
  · rw [h4, df_ln_kA h1 h3]; exact h1
theorem ye_lim {A : Int32 → Prop} {bL : Int32} {bQ : Nat → Nat} {B : Nat} (b : bs_R bL bQ B) (h : A (nI (df_ln ns B))) : (bL < 0 → A (nI ns)) ∧ (¬ bL < 0 → A bL) := by
  rcases b with ⟨e1, e⟩ | ⟨L, h1, e1, h3, h4⟩
  · rw [e, df_ln_no] at h
    rw [e1]
    exact br_t (by decide) h
  · rw [h4, df_ln_kA h1 h3] at h
    rw [e1]
    exact br_f (nI_pos (by omega)) h
theorem ye_pop (h6 : ns ≤ 6) : df_pop ns (ye_W post n na nk ns s0 st kd fs sc sz ac vc yT yS yR ybv yv) := by
  intro it d ch kl q cnt kL B ow hit hd ok le fin hq c1 c6 next fu bL bQ bV m an sk ea eb hfu b o0 o1
  obtain ⟨fu, rfl⟩ : ∃ m', fu = m' + 1 := ⟨fu - 1, by omega⟩
  have l6 := ye_6 b h6
  have nx := next fu bL bQ bV m an sk ea eb (by omega) b o0 o1
  have w7 : vp_in (nI (d + 1)) 7 := vp_in_nI (by omega) (by omega)
  have w6 : vp_in (nI d) 6 := vp_in_nI (by omega) (by omega)
  have eq1 : pu_A q (nI d).toNatClampNeg = nI (q d) := pu_Ag q (by omega)
  have w3 : vp_in (pu_A q (nI d).toNatClampNeg) 3 := by rw [eq1]; exact vp_in_nI hq (by omega)
  rw [wY_explore_62]
  refine br_f (nI_ge (b := 8000) (by omega) (by omega)) (ye_lim (A := fun z => wY_explore_87 post (wY_explore_62 post fu) (nI (d + 1)) (nI it) z (nI n) (nI na) (nI nk) (nI ns) (nI s0) st bL (nI m) (pu_A kd) (pu_A fs) (pu_A sc) (pu_A sz) (pu_A ac) vc (pu_A kL) (pu_A yT) (pu_A yS) (pu_A yR) (pu_A bQ) (pu_A bV) (pu_A yv) (pu_A an) (pu_A sk) (pu_A ea) (pu_A eb) (pu_A q) (pu_A ch) (pu_A kl) (pu_A cnt)) b ?_)
  have fn : wY_explore_109 post (wY_explore_62 post fu) (nI (d + 1)) (nI it) (nI n) (nI na) (nI nk) (nI ns) (nI s0) st bL (nI m) (pu_A kd) (pu_A fs) (pu_A sc) (pu_A sz) (pu_A ac) vc (pu_A kL) (pu_A yT) (pu_A yS) (pu_A yR) (pu_A bQ) (pu_A bV) (pu_A yv) (pu_A an) (pu_A sk) (pu_A ea) (pu_A eb) (pu_A q) (pu_A ch) (pu_A kl) (pu_A cnt) := by
    refine br_f (nI_ne0 (by omega) (by omega)) (nm_r (pk_m1 d) ⟨w6, w3, w3, nm_r (rl_up (k := q d) (x := cnt (q d) - 1) (by omega) eq1 ?_) (nm_r (nI_1 it) nx)⟩)
    rw [eq1, pu_Ag cnt (by omega)]
    obtain ⟨c, hc⟩ : ∃ c, cnt (q d) = c + 1 := ⟨cnt (q d) - 1, by omega⟩
    rw [hc, nI_pred]
    rfl
  exact ⟨w7, pk_le 3 (ch (d + 1)) (fun _ => fn) (fun l1 => pk_le (df_ln ns B) (d + 1) (fun _ => fn) (fun l2 => pk_lt (d + 1) 6 (fun l3 => by omega) (fun _ => fn))) rfl (pu_Ag ch (by omega))⟩
theorem ye_end {it : Nat} {ch kl q cnt kL : Nat → Nat} {B ow : Nat} (h6 : ns ≤ 6) (hit : it < 8000) (le : ch 0 ≤ 3) (fin : 3 ≤ ch 0 ∨ df_ln ns B ≤ 0 ∨ 6 ≤ 0)
    (K : ∀ (bL : Int32) (bQ bV : Nat → Nat) (yna : Nat) (yan ysk yea yeb : Nat → Nat), bs_R bL bQ B → (ow = 0 → ∀ v, v < 3 → bV v = ybv v) → (ow = 1 → ∀ v, v < 3 → bV v = yv v) → post ((nI n), (nI na), (nI nk), (nI ns), (nI s0), st, bL, (nI yna), (pu_A kd), (pu_A fs), (pu_A sc), (pu_A sz), (pu_A ac), vc, (pu_A kL), (pu_A yT), (pu_A yS), (pu_A yR), (pu_A bQ), (pu_A bV), (pu_A yv), (pu_A yan), (pu_A ysk), (pu_A yea), (pu_A yeb), (pu_A q), (pu_A ch), (pu_A kl), (pu_A cnt))) :
    ye_W post n na nk ns s0 st kd fs sc sz ac vc yT yS yR ybv yv it 0 ch kl q cnt kL B ow := by
  intro fu bL bQ bV m an sk ea eb hfu b o0 o1
  obtain ⟨fu, rfl⟩ : ∃ m', fu = m' + 1 := ⟨fu - 1, by omega⟩
  have l6 := ye_6 b h6
  have w7 : vp_in (nI 0) 7 := vp_in_nI (by omega) (by omega)
  rw [wY_explore_62]
  refine br_f (nI_ge (b := 8000) (by omega) (by omega)) (ye_lim (A := fun z => wY_explore_87 post (wY_explore_62 post fu) (nI 0) (nI it) z (nI n) (nI na) (nI nk) (nI ns) (nI s0) st bL (nI m) (pu_A kd) (pu_A fs) (pu_A sc) (pu_A sz) (pu_A ac) vc (pu_A kL) (pu_A yT) (pu_A yS) (pu_A yR) (pu_A bQ) (pu_A bV) (pu_A yv) (pu_A an) (pu_A sk) (pu_A ea) (pu_A eb) (pu_A q) (pu_A ch) (pu_A kl) (pu_A cnt)) b ?_)
  have fn : wY_explore_109 post (wY_explore_62 post fu) (nI 0) (nI it) (nI n) (nI na) (nI nk) (nI ns) (nI s0) st bL (nI m) (pu_A kd) (pu_A fs) (pu_A sc) (pu_A sz) (pu_A ac) vc (pu_A kL) (pu_A yT) (pu_A yS) (pu_A yR) (pu_A bQ) (pu_A bV) (pu_A yv) (pu_A an) (pu_A sk) (pu_A ea) (pu_A eb) (pu_A q) (pu_A ch) (pu_A kl) (pu_A cnt) :=
    br_t rfl (K bL bQ bV m an sk ea eb b o0 o1)
  exact ⟨w7, pk_le 3 (ch 0) (fun _ => fn) (fun l1 => pk_le (df_ln ns B) 0 (fun _ => fn) (fun l2 => pk_lt 0 6 (fun l3 => by omega) (fun _ => fn))) rfl (pu_Ag ch (by omega))⟩
theorem ye_KL (S : sr_I n yT yS yR ns xc xt xs) (hl : ∀ i, i < nk → yl i < n) {p : Nat} (o : cn_ok xc p) {u : Nat} (h : sr_K yl nk xt xs p u) : u < n := by
  rcases h with ⟨i, h1, h2⟩ | ⟨j, k, h1, h2, h3, h4⟩
  · rw [← h2]; exact hl i h1
  · have l := o j h1
    obtain ⟨g, _, _, _, g4, _, _, g7⟩ := sr_find S h1 (by omega : k < xc j)
    rw [← h4, ← g4]; exact g7
theorem ye_top {it d p kk : Nat} {ch kl q cnt kL : Nat → Nat} {B : Nat} {fu : Nat} {bL : Int32} {bQ bV : Nat → Nat} {m : Nat} {an sk ea eb : Nat → Nat} (h6 : ns ≤ 6) (S : sr_I n yT yS yR ns xc xt xs) (W : yw_W kd fs sc sz n tw rs (fun _ => True) yv) (hl : ∀ i, i < nk → yl i < n)
    (hit : it < 8000) (hd : d < 6) (c3 : ch d < 3) (ld : d < df_ln ns B) (N : df_N (cn_ok xc) (sr_K yl nk xt xs) d p kk kl q cnt kL) (hfu : 8001 ≤ fu + it) (b : bs_R bL bQ B)
    (no : ¬ cn_en kd fs sc n yl nk xt xs xc tw p (ch d) → ∀ fu' yna yan ysk yea yeb, 8001 ≤ fu' + (it + 1) → fu = fu' + 1 → wY_explore_62 post fu' (nI d) (nI (it + 1)) (nI n) (nI na) (nI nk) (nI ns) (nI s0) st bL (nI yna) (pu_A kd) (pu_A fs) (pu_A sc) (pu_A sz) (pu_A ac) vc (pu_A kL) (pu_A yT) (pu_A yS) (pu_A yR) (pu_A bQ) (pu_A bV) (pu_A yv) (pu_A yan) (pu_A ysk) (pu_A yea) (pu_A yeb) (pu_A q) (pu_A (pu_upd ch d (ch d + 1))) (pu_A kl) (pu_A cnt))
    (yes : cn_en kd fs sc n yl nk xt xs xc tw p (ch d) → ∀ fu' g yna yan ysk yea yeb, 8001 ≤ fu' + (it + 1) → fu = fu' + 1 → g < ns → yS g = xs (ch d * 6 + sk_dg p (ch d)) → yR g = xt (ch d * 6 + sk_dg p (ch d)) → yS g ≤ 1 → yR g < n → wY_explore_211 post (wY_explore_62 post fu') (nI d) (nI it) (nI (ch d)) (nI g) (nI n) (nI na) (nI nk) (nI ns) (nI s0) st bL (nI yna) (pu_A kd) (pu_A fs) (pu_A sc) (pu_A sz) (pu_A ac) vc (pu_A kL) (pu_A yT) (pu_A yS) (pu_A yR) (pu_A bQ) (pu_A bV) (pu_A yv) (pu_A yan) (pu_A ysk) (pu_A yea) (pu_A yeb) (pu_A q) (pu_A (pu_upd ch d (ch d + 1))) (pu_A kl) (pu_A cnt)) :
    wY_explore_62 post fu (nI d) (nI it) (nI n) (nI na) (nI nk) (nI ns) (nI s0) st bL (nI m) (pu_A kd) (pu_A fs) (pu_A sc) (pu_A sz) (pu_A ac) vc (pu_A kL) (pu_A yT) (pu_A yS) (pu_A yR) (pu_A bQ) (pu_A bV) (pu_A yv) (pu_A an) (pu_A sk) (pu_A ea) (pu_A eb) (pu_A q) (pu_A ch) (pu_A kl) (pu_A cnt) := by
  obtain ⟨fu, rfl⟩ : ∃ m', fu = m' + 1 := ⟨fu - 1, by omega⟩
  obtain ⟨n1, n2, n3, n4, n5, n6, n7⟩ := N
  have l6 := ye_6 b h6
  have w7 : vp_in (nI d) 7 := vp_in_nI (by omega) (by omega)
  have xj := sm_xc S c3
  have oj := n1 _ c3
  have ech : pu_A ch (nI d).toNatClampNeg = nI (ch d) := pu_Ag ch (by omega)
  have hkl : ∀ i, i < kl d → kL i < n ∧ True := fun i hi => ⟨ye_KL S hl n1 ((n6 (kL i)).mp ⟨i, hi, rfl⟩), trivial⟩
  rw [wY_explore_62]
  refine br_f (nI_ge (b := 8000) (by omega) (by omega)) (ye_lim (A := fun z => wY_explore_87 post (wY_explore_62 post fu) (nI d) (nI it) z (nI n) (nI na) (nI nk) (nI ns) (nI s0) st bL (nI m) (pu_A kd) (pu_A fs) (pu_A sc) (pu_A sz) (pu_A ac) vc (pu_A kL) (pu_A yT) (pu_A yS) (pu_A yR) (pu_A bQ) (pu_A bV) (pu_A yv) (pu_A an) (pu_A sk) (pu_A ea) (pu_A eb) (pu_A q) (pu_A ch) (pu_A kl) (pu_A cnt)) b ?_)
  refine ⟨w7, pk_le 3 (ch d) (fun l => by omega) (fun _ => pk_le (df_ln ns B) d (fun l => by omega) (fun _ => pk_lt d 6 (fun _ => ⟨w7, nm_r ech ⟨w7, w7, nm_r (rl_up (k := d) (x := ch d + 1) (by omega) rfl (by rw [ech, nI_1])) ⟨vp_in_nI c3 (by omega), ?_⟩⟩⟩) (fun l => by omega))) rfl (pu_Ag ch (by omega))⟩
  rw [pu_Ag cnt (by omega), n3 _ c3]
  refine ym_stepOf S c3 (by omega) (fun g g1 g2 g3 => ?_) (fun l => br_f (by decide) (nm_r (nI_1 it) (no (fun e => by have h := e.1; omega) fu m an sk ea eb (by omega) rfl)))
  have kx : sk_dg p (ch d) < xc (ch d) := by
    rw [S.2.2 _ c3, ← g3]
    exact sr_c_lt g1 g2
  obtain ⟨a1, a2, a3, a4, a5⟩ := S.2.1 g g1
  rw [g2, g3] at a4 a5
  have w6 : vp_in (nI g) 6 := vp_in_nI (by omega) (by omega)
  refine br_t (nI_pos' (by omega)) ⟨w6, pk_eq (yS g) 0 (fun z => ⟨w6, w7, ?_⟩) (fun z => yes ⟨kx, Or.inl (by omega)⟩ fu g m an sk ea eb (by omega) rfl g1 a5.symm a4.symm a2 a3) (pu_Ag yS (by omega))⟩
  rw [pu_Ag yR (by omega), pu_Ag kl (by omega)]
  have eL : tc_L kd fs sc n tw (fun u => ∃ i, i < kl d ∧ kL i = u) (yR g) ↔ tc_L kd fs sc n tw (sr_K yl nk xt xs p) (xt (ch d * 6 + sk_dg p (ch d))) := by
    rw [a4]
    exact tc_L_cg kd fs sc n tw (fun u _ => n6 u) _
  refine ym_derives W a3 trivial (by omega) hkl (fun h m' f' sk' ea' eb' => br_f (by decide) (yes ⟨kx, Or.inr (eL.mp h)⟩ fu g m' f' sk' ea' eb' (by omega) rfl g1 a5.symm a4.symm a2 a3)) (fun h m' f' sk' ea' eb' => br_t rfl (nm_r (nI_1 it) (no (fun e => ?_) fu m' f' sk' ea' eb' (by omega) rfl)))
  rcases e.2 with e2 | e2
  · omega
  · exact h (eL.mpr e2)
theorem ye_skip (h6 : ns ≤ 6) (S : sr_I n yT yS yR ns xc xt xs) (W : yw_W kd fs sc sz n tw rs (fun _ => True) yv) (hl : ∀ i, i < nk → yl i < n) : df_skip (cn_en kd fs sc n yl nk xt xs xc tw) (cn_ok xc) (sr_K yl nk xt xs) ns (ye_W post n na nk ns s0 st kd fs sc sz ac vc yT yS yR ybv yv) := by
  intro it d p kk ch kl q cnt kL B ow hit hd ok c3 ld N ne next fu bL bQ bV m an sk ea eb hfu b o0 o1
  exact ye_top (kk := kk) h6 S W hl hit hd c3 ld N hfu b (fun _ fu' m' f' sk' ea' eb' hf _ => next fu' bL bQ bV m' f' sk' ea' eb' hf b o0 o1) (fun e => absurd e ne)
theorem ye_253 {it d p kk j x6 : Nat} {ch kl q cnt kL : Nat → Nat} {B ow : Nat} {fu : Nat} {bL : Int32} {bQ bV : Nat → Nat} {m : Nat} {an sk ea eb : Nat → Nat} (W : yw_W kd fs sc sz n tw rs (fun _ => True) yv) (hs0 : s0 < n)
    (hit : it < 8000) (hd : d < 6) (hj : j < 3) (cj : cnt j ≤ 6) (hx6 : x6 ≤ 16) (hq : ∀ e, e < d → q e < 3) (ek : sk_kA q d = kk) (hfu : 8001 ≤ fu + (it + 1)) (b : bs_R bL bQ B) (o0 : ow = 0 → ∀ v, v < 3 → bV v = ybv v) (o1 : ow = 1 → ∀ v, v < 3 → bV v = yv v)
    (hkl : ∀ i, i < x6 → kL i < n) (hK : ∀ u, (∃ i, i < x6 ∧ kL i = u) ↔ sr_K yl nk xt xs p u)
    (next : ∀ B' ow', df_con (cn_fn kd fs sc n yl nk xt xs s0 tw) p (3 * kk + j) B ow B' ow' → ye_W post n na nk ns s0 st kd fs sc sz ac vc yT yS yR ybv yv (it + 1) (d + 1) (pu_upd ch (d + 1) 0) (pu_upd kl (d + 1) x6) (pu_upd q d j) (pu_upd cnt j (cnt j + 1)) kL B' ow') :
    wY_explore_253 post (wY_explore_62 post fu) (nI d) (nI it) (nI j) (nI x6) (nI n) (nI na) (nI nk) (nI ns) (nI s0) st bL (nI m) (pu_A kd) (pu_A fs) (pu_A sc) (pu_A sz) (pu_A ac) vc (pu_A kL) (pu_A yT) (pu_A yS) (pu_A yR) (pu_A bQ) (pu_A bV) (pu_A yv) (pu_A an) (pu_A sk) (pu_A ea) (pu_A eb) (pu_A q) (pu_A ch) (pu_A kl) (pu_A cnt) := by
  have w6 : vp_in (nI d) 6 := vp_in_nI hd (by omega)
  have w3 : vp_in (nI j) 3 := vp_in_nI hj (by omega)
  have w7 : vp_in (nI (d + 1)) 7 := vp_in_nI (by omega) (by omega)
  have eL : tc_L kd fs sc n tw (fun u => ∃ i, i < x6 ∧ kL i = u) s0 ↔ cn_fn kd fs sc n yl nk xt xs s0 tw p := tc_L_cg kd fs sc n tw (fun u _ => hK u) s0
  have ekA : sk_kA (pu_upd q d j) (d + 1) = 3 * kk + j := by
    rw [sk_kA_s, pu_us, sk_kA_cg (Q' := q) d (fun i hi => pu_un (by omega)), ek]
  have hq2 : ∀ e, e < d + 1 → pu_upd q d j e < 3 := by
    intro e he
    by_cases z : e = d
    · rw [z, pu_us]; exact hj
    · rw [pu_un z]; exact hq e (by omega)
  refine ⟨w6, nm_r (rl_up (k := d) (x := j) (by omega) rfl rfl) ⟨w3, w3, nm_r (rl_up (k := j) (x := cnt j + 1) (by omega) rfl (by rw [pu_Ag cnt (by omega), nI_1])) (nm_r (nI_1 d) ⟨w7, nm_r (rl_up (k := d + 1) (x := x6) (by omega) rfl rfl) ⟨w7, nm_r (rl_up (k := d + 1) (x := 0) (by omega) rfl rfl) ?_⟩⟩)⟩⟩
  refine ym_derives W hs0 trivial hx6 (fun i hi => ⟨hkl i hi, trivial⟩) (fun h m' f' sk' ea' eb' => br_f (by decide) ?_) (fun h m' f' sk' ea' eb' => br_t rfl (nm_r (nI_1 it) (next B ow (Or.inr ⟨fun c => h (eL.mpr c.1), rfl, rfl⟩) fu bL bQ bV m' f' sk' ea' eb' (by omega) b o0 o1)))
  refine ym_consider (L := d + 1) (B := B) (by omega) hq2 b (fun l => nm_r (nI_1 it) (next B ow (Or.inr ⟨fun c => l (by rw [ekA]; exact c.2), rfl, rfl⟩) fu bL bQ bV m' f' sk' ea' eb' (by omega) b o0 o1)) (fun l Q V hQ hV => nm_r (nI_1 it) (next (3 * kk + j) 1 (Or.inl ⟨eL.mp h, by rw [← ekA]; exact l, rfl, rfl⟩) fu (nI (d + 1)) Q V m' f' sk' ea' eb' (by omega) ?_ (fun z => by omega) (fun _ => hV)))
  rw [← ekA]
  exact bs_new (by omega) hq2 hQ
theorem ye_step (h6 : ns ≤ 6) (S : sr_I n yT yS yR ns xc xt xs) (W : yw_W kd fs sc sz n tw rs (fun _ => True) yv) (hl : ∀ i, i < nk → yl i < n) (hs0 : s0 < n) : df_step (cn_en kd fs sc n yl nk xt xs xc tw) (cn_fn kd fs sc n yl nk xt xs s0 tw) (cn_ok xc) (sr_K yl nk xt xs) ns (ye_W post n na nk ns s0 st kd fs sc sz ac vc yT yS yR ybv yv) := by
  intro it d p kk ch kl q cnt kL B ow hit hd ok c3 ld N he next fu bL bQ bV m an sk ea eb hfu b o0 o1
  refine ye_top (kk := kk) h6 S W hl hit hd c3 ld N hfu b (fun ne => absurd he ne) (fun _ fu' g m' f' sk' ea' eb' hf _ g1 gS gR gS1 gRn => ?_)
  obtain ⟨n1, n2, n3, n4, n5, n6, n7⟩ := N
  have xj := sm_xc S c3
  have dl := he.1
  have dg6 : sk_dg p (ch d) < 6 := by omega
  have w7 : vp_in (nI d) 7 := vp_in_nI (by omega) (by omega)
  have w6 : vp_in (nI g) 6 := vp_in_nI (by omega) (by omega)
  have hkl : ∀ i, i < kl d → kL i < n := fun i hi => ye_KL S hl n1 ((n6 (kL i)).mp ⟨i, hi, rfl⟩)
  have cj := n3 _ c3
  refine ⟨w7, nm_r (pu_Ag kl (by omega)) ⟨w6, pk_eq (yS g) 0 (fun z => ?_) (fun z => pk_le 16 (kl d) (fun l => by omega) (fun l => ⟨w6, vp_in_nI l (by omega), nm_r (rl_up (k := kl d) (x := yR g) (by omega) rfl (pu_Ag yR (by omega))) (nm_r (nI_1 (kl d)) ?_)⟩)) (pu_Ag yS (by omega))⟩⟩
  · have hK : ∀ u, (∃ i, i < kl d ∧ kL i = u) ↔ sr_K yl nk xt xs (p + sk_w (ch d)) u := by
      intro u
      rw [n6 u, sr_Ks c3 dg6]
      constructor
      · intro h; exact Or.inl h
      · intro h
        rcases h with h | h
        · exact h
        · omega
    refine ye_253 (kk := kk) (p := p + sk_w (ch d)) (ow := ow) (B := B) W hs0 hit hd c3 (by omega) (by omega) n4 n5 hf b o0 o1 hkl hK (fun B' ow' con => next _ _ B' ow' (fun e he => pu_un (by omega)) ?_ (fun i hi => rfl) (fun u => ?_) ?_ con)
    · rw [pu_us]; omega
    · rw [pu_us]; exact hK u
    · rw [pu_us]; omega
  · have hK : ∀ u, (∃ i, i < kl d + 1 ∧ pu_upd kL (kl d) (yR g) i = u) ↔ sr_K yl nk xt xs (p + sk_w (ch d)) u := by
      intro u
      rw [sr_Ks c3 dg6, ← n6 u, ← gS, ← gR]
      constructor
      · intro h
        obtain ⟨i, h1, h2⟩ := h
        by_cases e : i = kl d
        · rw [e, pu_us] at h2; exact Or.inr ⟨by omega, h2⟩
        · rw [pu_un e] at h2; exact Or.inl ⟨i, by omega, h2⟩
      · intro h
        rcases h with ⟨i, h1, h2⟩ | ⟨_, h2⟩
        · exact ⟨i, by omega, by rw [pu_un (by omega)]; exact h2⟩
        · exact ⟨kl d, by omega, by rw [pu_us]; exact h2⟩
    refine ye_253 (kk := kk) (p := p + sk_w (ch d)) (ow := ow) (B := B) W hs0 hit hd c3 (by omega) (by omega) n4 n5 hf b o0 o1 (fun i hi => ?_) hK (fun B' ow' con => next _ _ B' ow' (fun e he => pu_un (by omega)) ?_ (fun i hi => pu_un (by omega)) (fun u => ?_) ?_ con)
    · by_cases e : i = kl d
      · rw [e, pu_us]; exact gRn
      · rw [pu_un e]; exact hkl i (by omega)
    · rw [pu_us]; omega
    · rw [pu_us]; exact hK u
    · rw [pu_us]; omega
end
