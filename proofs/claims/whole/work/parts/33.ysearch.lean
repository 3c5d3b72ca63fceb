section
variable {n na nk ns : Nat} {sec st xal ybl : Int32} {yna : Nat} {kd fs sc sz gr ac : Nat → Nat} {vc : Nat → Int32} {xl xt xs xc : Nat → Nat} {yl yT yS yR ybq ybv yv yan ysk yea yeb yq ych ykl ycn : Nat → Nat}
variable {rs : Nat → Nat} {s0 : Nat}
theorem ye_explore {post : SY → Prop} {a B : Nat} (h6 : ns ≤ 6) (h8 : nk ≤ 8) (S : sr_I n yT yS yR ns xc xt xs) (W : yw_W kd fs sc sz n (cn_tw kd fs sc n ac (cn_d a)) rs (fun _ => True) yv) (hl : ∀ i, i < nk → yl i < n) (hs0 : s0 < n) (b : bs_R ybl ybq B)
    (K : ∀ (B' ow' : Nat) (bL : Int32) (bQ bV : Nat → Nat) (yna : Nat) (kL yan ysk yea yeb yq ych ykl ycn : Nat → Nat), as_S (cn_At kd fs sc n ac yl nk xt xs xc s0) a B B' → (B' = B → ow' = 0) → (B' < B → ow' = 1) → bs_R bL bQ B' → (ow' = 0 → ∀ v, v < 3 → bV v = ybv v) → (ow' = 1 → ∀ v, v < 3 → bV v = yv v) → (∀ i, i < nk → kL i = yl i) → post ((nI n), (nI na), (nI nk), (nI ns), (nI s0), st, bL, (nI yna), (pu_A kd), (pu_A fs), (pu_A sc), (pu_A sz), (pu_A ac), vc, (pu_A kL), (pu_A yT), (pu_A yS), (pu_A yR), (pu_A bQ), (pu_A bV), (pu_A yv), (pu_A yan), (pu_A ysk), (pu_A yea), (pu_A yeb), (pu_A yq), (pu_A ych), (pu_A ykl), (pu_A ycn))) :
    wpY_explore post ((nI n), (nI na), (nI nk), (nI ns), (nI s0), st, ybl, (nI yna), (pu_A kd), (pu_A fs), (pu_A sc), (pu_A sz), (pu_A ac), vc, (pu_A yl), (pu_A yT), (pu_A yS), (pu_A yR), (pu_A ybq), (pu_A ybv), (pu_A yv), (pu_A yan), (pu_A ysk), (pu_A yea), (pu_A yeb), (pu_A yq), (pu_A ych), (pu_A ykl), (pu_A ycn)) := by
  have n6 := S.1
  have hc : ∀ j, j < 3 → xc j ≤ 6 := fun j hj => Nat.le_trans (sm_xc S hj) n6
  have eL : tc_L kd fs sc n (cn_tw kd fs sc n ac (cn_d a)) (fun u => ∃ i, i < nk ∧ yl i = u) s0 ↔ cn_fn kd fs sc n yl nk xt xs s0 (cn_tw kd fs sc n ac (cn_d a)) 0 := tc_L_cg kd fs sc n _ (fun u _ => sr_K0.symm) s0
  have go : ∀ (B1 ow1 : Nat) (bL : Int32) (bQ bV : Nat → Nat) (m : Nat) (f sk ea eb : Nat → Nat), df_con (cn_fn kd fs sc n yl nk xt xs s0 (cn_tw kd fs sc n ac (cn_d a))) 0 1 B 0 B1 ow1 → bs_R bL bQ B1 → (ow1 = 0 → ∀ v, v < 3 → bV v = ybv v) → (ow1 = 1 → ∀ v, v < 3 → bV v = yv v) → wY_explore_20 post (nI n) (nI na) (nI nk) (nI ns) (nI s0) st bL (nI m) (pu_A kd) (pu_A fs) (pu_A sc) (pu_A sz) (pu_A ac) vc (pu_A yl) (pu_A yT) (pu_A yS) (pu_A yR) (pu_A bQ) (pu_A bV) (pu_A yv) (pu_A f) (pu_A sk) (pu_A ea) (pu_A eb) (pu_A yq) (pu_A ych) (pu_A ykl) (pu_A ycn) := by
    intro B1 ow1 bL bQ bV m f sk ea eb con b1 o0 o1
    refine nm_r (pu_Au ych 0 0) (nm_r (pu_Au ykl 0 nk) (nm_r (pu_Au ycn 0 0) (nm_r (pu_Au _ 1 0) (nm_r (pu_Au _ 2 0) ⟨8001, ?_⟩))))
    refine df_main (en := cn_en kd fs sc n yl nk xt xs xc (cn_tw kd fs sc n ac (cn_d a))) (fn := cn_fn kd fs sc n yl nk xt xs s0 (cn_tw kd fs sc n ac (cn_d a))) (ok := cn_ok xc) (Kn := sr_K yl nk xt xs) (ns := ns) (W := ye_W post n na nk ns s0 st kd fs sc sz ac vc yT yS yR ybv yv) (ye_pop h6) (ye_skip h6 S W hl) (ye_step h6 S W hl hs0) (cn_hs hc) (cn_hn (sr_tot S)) h6 6 0 (by omega) 3 0 (by omega) 0 0 1 (pu_upd ych 0 0) (pu_upd ykl 0 nk) yq (pu_upd (pu_upd (pu_upd ycn 0 0) 1 0) 2 0) yl B1 ow1 pu_us ?_ (bs_ok b1) (by decide) ?_ 8001 bL bQ bV m f sk ea eb (by omega) b1 o0 o1
    · refine ⟨cn_ok0, rfl, fun j hj => ?_, fun e he => by omega, rfl, fun u => ?_, ?_⟩
      · rcases sk_3 hj with e | e | e
        · rw [e, pu_un (by omega), pu_un (by omega), pu_us, sk_dg0]
        · rw [e, pu_un (by omega), pu_us, sk_dg1]
        · rw [e, pu_us, sk_dg2]
      · rw [pu_us]; exact sr_K0.symm
      · rw [pu_us]; omega
    · intro it' ch' kl' q' cnt' kL' B' ow' hit ag ok' res le fin
      have t6 : df_T 6 = 728 := by decide
      obtain ⟨r1, r2, r3⟩ := cn_rootS con res
      refine ye_end h6 (by omega) le fin (fun bL' bQ' bV' m' f' sk' ea' eb' b' p0 p1 => K B' ow' bL' bQ' bV' m' kL' f' sk' ea' eb' q' ch' kl' cnt' r1 r2 r3 b' p0 p1 (fun i hi => ag.2.2.1 i (by rw [pu_us]; exact hi)))
  unfold wpY_explore
  refine ym_derives W hs0 trivial (by omega) (fun i hi => ⟨hl i hi, trivial⟩) (fun h m f sk ea eb => br_f (by decide) ?_) (fun h m f sk ea eb => br_t rfl (go B 0 ybl ybq ybv m f sk ea eb (Or.inr ⟨fun c => h (eL.mpr c.1), rfl, rfl⟩) b (fun _ v _ => rfl) (fun z => by omega)))
  refine ym_consider (L := 0) (B := B) (by omega) (fun i hi => by omega) b (fun l => go B 0 ybl ybq ybv m f sk ea eb (Or.inr ⟨fun c => l c.2, rfl, rfl⟩) b (fun _ v _ => rfl) (fun z => by omega)) (fun l Q V hQ hV => go 1 1 (nI 0) Q V m f sk ea eb (Or.inl ⟨eL.mp h, l, rfl, rfl⟩) (bs_new (F := yq) (by omega) (fun i hi => by omega) hQ) (fun z => by omega) (fun _ => hV))
theorem ys_At {kL : Nat → Nat} (e : ∀ i, i < nk → kL i = yl i) : cn_At kd fs sc n ac kL nk xt xs xc s0 = cn_At kd fs sc n ac yl nk xt xs xc s0 := by
  have h : sr_K kL nk xt xs = sr_K yl nk xt xs := by
    funext p u
    refine propext ⟨fun h => ?_, fun h => ?_⟩
    · rcases h with ⟨i, h1, h2⟩ | h
      · exact Or.inl ⟨i, h1, by rw [← e i h1]; exact h2⟩
      · exact Or.inr h
    · rcases h with ⟨i, h1, h2⟩ | h
      · exact Or.inl ⟨i, h1, by rw [e i h1]; exact h2⟩
      · exact Or.inr h
  have h1 : ∀ tw, cn_en kd fs sc n kL nk xt xs xc tw = cn_en kd fs sc n yl nk xt xs xc tw := fun tw => by
    funext p j
    unfold cn_en
    rw [h]
  have h2 : ∀ tw, cn_fn kd fs sc n kL nk xt xs s0 tw = cn_fn kd fs sc n yl nk xt xs s0 tw := fun tw => by
    funext p
    unfold cn_fn
    rw [h]
  funext x k
  unfold cn_At
  rw [h1, h2]
theorem ym_s64 {post : Int32 → SY → Prop} {J : Int32 → Int32 → Int32 → Int32 → Int32 → Int32 → Int32 → Int32 → Int32 → (Nat → Int32) → (Nat → Int32) → (Nat → Int32) → (Nat → Int32) → (Nat → Int32) → (Nat → Int32) → (Nat → Int32) → (Nat → Int32) → (Nat → Int32) → (Nat → Int32) → (Nat → Int32) → (Nat → Int32) → (Nat → Int32) → (Nat → Int32) → (Nat → Int32) → (Nat → Int32) → (Nat → Int32) → (Nat → Int32) → (Nat → Int32) → (Nat → Int32) → (Nat → Int32) → Prop} {x1 x2 : Int32} {v rest m : Nat} {w : Nat → Nat} (I : ci_I kd fs sc sz gr n na ac vc) (hv : v < 3) (hr : rest < 1000) (hp : 0 < ch_c vc na v)
    (h : ∀ w', (¬ vc v = -1 → w' v = ac (rest % ch_c vc na v)) → (∀ u, u ≠ v → w' u = w u) → wY_search_64 post J x1 x2 (nI n) (nI na) (nI nk) (nI ns) sec st ybl (nI yna) m (nI (rest / ch_c vc na v)) (nI v + (-1)) (pu_A kd) (pu_A fs) (pu_A sc) (pu_A sz) (pu_A ac) vc (pu_A yl) (pu_A yT) (pu_A yS) (pu_A yR) (pu_A ybq) (pu_A ybv) (pu_A w') (pu_A yan) (pu_A ysk) (pu_A yea) (pu_A yeb) (pu_A yq) (pu_A ych) (pu_A ykl) (pu_A ycn)) : wY_search_64 post J x1 x2 (nI n) (nI na) (nI nk) (nI ns) sec st ybl (nI yna) (m + 1) (nI rest) (nI v) (pu_A kd) (pu_A fs) (pu_A sc) (pu_A sz) (pu_A ac) vc (pu_A yl) (pu_A yT) (pu_A yS) (pu_A yR) (pu_A ybq) (pu_A ybv) (pu_A w) (pu_A yan) (pu_A ysk) (pu_A yea) (pu_A yeb) (pu_A yq) (pu_A ych) (pu_A ykl) (pu_A ycn) := by
  have ha := I.2.1
  have wv : vp_in (nI v) 3 := vp_in_nI hv (by omega)
  have q : (nI v).toNatClampNeg = v := nI_clamp (by omega)
  obtain ⟨e1, e2⟩ := sm_vneg I hv
  rw [wY_search_64]
  refine br_f (nI_pos (by omega)) ⟨wv, ?_⟩
  rw [q]
  refine br_c (fun z => ?_) (fun z => ?_)
  · have z' := e1.mp z
    have ec : ch_c vc na v = 1 := if_pos z'
    rw [ec, Nat.div_one] at h
    exact nm_e (h w (fun ne => absurd z' ne) (fun u _ => rfl))
  · have z' : ¬ vc v = -1 := fun y => z (e1.mpr y)
    have ec : ch_c vc na v = na := if_neg z'
    rw [ec] at h hp
    have nz : ¬ nI na = 0 := nI_ne0 hp (by omega)
    have er : nI rest - nI rest / nI na * nI na = nI (rest % na) := pk_rem (by omega) hp (by omega)
    have ed : nI rest / nI na = nI (rest / na) := pk_div (by omega) hp (by omega)
    have ml := Nat.mod_lt rest hp
    refine br_f (nI_nle hp (by omega)) ⟨nz, by rw [er]; exact vp_in_nI (by omega) (by omega), wv, nm_r (e' := pu_A (pu_upd w v (ac (rest % na)))) (by rw [er, pu_Ag ac (by omega), pu_Au]) ⟨nz, nm_r ed (nm_e (h _ (fun _ => pu_us) (fun u hu => pu_un hu)))⟩⟩
theorem ys_0 {c0 c1 c2 e : Nat} (h : e < c0 * c1 * c2) : 0 < c0 := by
  rcases Nat.eq_zero_or_pos c0 with z | z
  · rw [z, Nat.zero_mul, Nat.zero_mul] at h; omega
  · exact z
theorem ys_512 {c0 c1 c2 : Nat} (h0 : c0 ≤ 8) (h1 : c1 ≤ 8) (h2 : c2 ≤ 8) : c0 * c1 * c2 ≤ 512 := by
  have a : c0 * c1 ≤ 8 * 8 := Nat.mul_le_mul h0 h1
  have b : c0 * c1 * c2 ≤ 8 * 8 * 8 := Nat.mul_le_mul a h2
  omega
theorem ym_s47 {post : Int32 → SY → Prop} (I : ci_I kd fs sc sz gr n na ac vc) (S : sr_I n yT yS yR ns xc xt xs) (h8 : nk ≤ 8) (hl : ∀ i, i < nk → yl i < n) (hs0 : s0 < n)
    (K : ∀ (B a : Nat) (bL : Int32) (bQ bV yv : Nat → Nat) (yna : Nat) (kL yan ysk yea yeb yq ych ykl ycn : Nat → Nat), bs_R bL bQ B → as_I (cn_At kd fs sc n ac yl nk xt xs xc s0) (fun x => as_V (ch_c vc na 0) (ch_c vc na 1) (ch_c vc na 2) x) B a → (B < 10000 → ∀ v, v < 3 → ¬ vc v = -1 → bV v = ac (cn_d a v)) → (∀ i, i < nk → kL i = yl i) → wY_search_127 post (nI n) (nI na) (nI nk) (nI ns) (nI s0) st bL (nI yna) (pu_A kd) (pu_A fs) (pu_A sc) (pu_A sz) (pu_A ac) vc (pu_A kL) (pu_A yT) (pu_A yS) (pu_A yR) (pu_A bQ) (pu_A bV) (pu_A yv) (pu_A yan) (pu_A ysk) (pu_A yea) (pu_A yeb) (pu_A yq) (pu_A ych) (pu_A ykl) (pu_A ycn)) :
    ∀ (d e m B a : Nat) (bL : Int32) (bQ bV yv : Nat → Nat) (yna : Nat) (kL yan ysk yea yeb yq ych ykl ycn : Nat → Nat), e + d = ch_c vc na 0 * ch_c vc na 1 * ch_c vc na 2 → d < m → bs_R bL bQ B → as_I (cn_At kd fs sc n ac yl nk xt xs xc s0) (fun x => ∃ e', e' < e ∧ x = as_f (ch_c vc na 1) (ch_c vc na 2) e') B a → (B < 10000 → ∀ v, v < 3 → ¬ vc v = -1 → bV v = ac (cn_d a v)) → (∀ i, i < nk → kL i = yl i) → wY_search_47 post (nI (ch_c vc na 0 * ch_c vc na 1 * ch_c vc na 2)) m (nI e) (nI n) (nI na) (nI nk) (nI ns) (nI s0) st bL (nI yna) (pu_A kd) (pu_A fs) (pu_A sc) (pu_A sz) (pu_A ac) vc (pu_A kL) (pu_A yT) (pu_A yS) (pu_A yR) (pu_A bQ) (pu_A bV) (pu_A yv) (pu_A yan) (pu_A ysk) (pu_A yea) (pu_A yeb) (pu_A yq) (pu_A ych) (pu_A ykl) (pu_A ycn) := by
  have ha := I.2.1
  have hn := I.1
  have n6 := S.1
  have hns := sr_tot S
  have hc : ∀ j, j < 3 → xc j ≤ 6 := fun j hj => Nat.le_trans (sm_xc S hj) n6
  have c0 := ch_8 (vc := vc) ha 0
  have c1 := ch_8 (vc := vc) ha 1
  have c2 := ch_8 (vc := vc) ha 2
  have t512 := ys_512 c0 c1 c2
  intro d
  induction d with
  | zero =>
    intro e m B a bL bQ bV yv yna kL yan ysk yea yeb yq ych ykl ycn he hm hb hi ho hk
    obtain ⟨m, rfl⟩ : ∃ m', m = m' + 1 := ⟨m - 1, by omega⟩
    rw [wY_search_47]
    refine br_t (nI_le (by omega) (by omega)) (K B a bL bQ bV yv yna kL yan ysk yea yeb yq ych ykl ycn hb (as_cg (fun x => ?_) hi) ho hk)
    constructor
    · intro h
      obtain ⟨e', h1, h2⟩ := h
      rw [h2]
      exact as_f_V c0 c1 c2 (by omega)
    · intro h
      obtain ⟨e', h1, h2⟩ := as_f_sur h
      exact ⟨e', by omega, h2.symm⟩
  | succ d ih =>
    intro e m B a bL bQ bV yv yna kL yan ysk yea yeb yq ych ykl ycn he hm hb hi ho hk
    obtain ⟨m, rfl⟩ : ∃ m', m = m' + 1 := ⟨m - 1, by omega⟩
    have lt : e < ch_c vc na 0 * ch_c vc na 1 * ch_c vc na 2 := by omega
    obtain ⟨p1, p2⟩ := as_pos lt
    have p0 := ys_0 lt
    obtain ⟨f0, f1, f2, f3⟩ := as_f_dig c0 c1 c2 lt
    have V := as_f_V c0 c1 c2 lt
    have e1 : nI 2 + (-1) = nI 1 := pk_m1 1
    have e0 : nI 1 + (-1) = nI 0 := pk_m1 0
    have em : nI 0 + (-1) < 0 := by decide
    have dl := as_dig lt
    have q1 : e / ch_c vc na 2 ≤ e := Nat.div_le_self _ _
    have q2 : e / ch_c vc na 2 / ch_c vc na 1 ≤ e / ch_c vc na 2 := Nat.div_le_self _ _
    rw [wY_search_47]
    refine br_f (nI_ge lt (by omega)) (br_f (nI_ge (b := 512) (by omega) (by omega)) ⟨4, ym_s64 (v := 2) I (by omega) (by omega) p2 (fun w2 g2 k2 => ?_)⟩)
    rw [e1]
    refine ym_s64 (v := 1) I (by omega) (by omega) p1 (fun w1 g1 k1 => ?_)
    rw [e0]
    refine ym_s64 (v := 0) I (by omega) (by omega) p0 (fun w0 g0 k0 => ?_)
    rw [wY_search_64]
    have hval : ∀ v, v < 3 → ¬ vc v = -1 → w0 v = ac (cn_d (as_f (ch_c vc na 1) (ch_c vc na 2) e) v) := by
      intro v hv nv
      rcases sk_3 hv with z | z | z
      · subst z
        rw [g0 nv, Nat.mod_eq_of_lt dl.1]
        show _ = ac (as_f (ch_c vc na 1) (ch_c vc na 2) e / 64)
        rw [f0]
      · subst z
        rw [k0 1 (by omega), g1 nv]
        show _ = ac (as_f (ch_c vc na 1) (ch_c vc na 2) e / 8 % 8)
        rw [f1]
      · subst z
        rw [k0 2 (by omega), k1 2 (by omega), g2 nv]
        show _ = ac (as_f (ch_c vc na 1) (ch_c vc na 2) e % 8)
        rw [f2]
    have decl : ∀ t, t < n → kd t = 2 → ¬ vc (fs t) = -1 := by
      intro t ht k
      rw [(ci_k2 I ht k).2.1]
      exact gw_m1 (by omega)
    have hdig : ∀ t, t < n → kd t = 2 → cn_d (as_f (ch_c vc na 1) (ch_c vc na 2) e) (fs t) < na := by
      intro t ht k
      have ne := decl t ht k
      have ec : ch_c vc na (fs t) = na := if_neg ne
      obtain ⟨v0, v1, v2, v3⟩ := V
      rcases sk_3 (ci_k2 I ht k).1 with z | z | z
      · rw [z] at ec ⊢; exact Nat.lt_of_lt_of_eq v1 ec
      · rw [z] at ec ⊢; exact Nat.lt_of_lt_of_eq v2 ec
      · rw [z] at ec ⊢; exact Nat.lt_of_lt_of_eq v3 ec
    have W : yw_W kd fs sc sz n (cn_tw kd fs sc n ac (cn_d (as_f (ch_c vc na 1) (ch_c vc na 2) e))) (fun t => if kd t = 2 then ac (cn_d (as_f (ch_c vc na 1) (ch_c vc na 2) e) (fs t)) else t) (fun _ => True) w0 := by
      refine ⟨ci_twY I hdig (cn_X I _), hn, fun u hu => ⟨(ci_kd I hu).2, ci_b I hu⟩, fun u hu _ k2 => ⟨(ci_k2 I hu k2).1, ?_⟩⟩
      show w0 (fs u) = if kd u = 2 then ac (cn_d (as_f (ch_c vc na 1) (ch_c vc na 2) e) (fs u)) else u
      rw [if_pos k2]
      exact hval _ (ci_k2 I hu k2).1 (decl u hu k2)
    refine br_t em (ye_explore (a := as_f (ch_c vc na 1) (ch_c vc na 2) e) (B := B) n6 h8 S W (fun i hi => by rw [hk i hi]; exact hl i hi) hs0 hb (fun B' ow' bL' bQ' bV' m' kL' f' sk' ea' eb' q' ch' kl' cnt' hS o0 o1 hb' v0 v1 hk' => nm_r (nI_1 e) ?_))
    rw [ys_At hk] at hS
    have up : ∀ a', (B' = B → a' = a) → (B' < B → a' = as_f (ch_c vc na 1) (ch_c vc na 2) e) → as_I (cn_At kd fs sc n ac yl nk xt xs xc s0) (fun x => ∃ e', e' < e + 1 ∧ x = as_f (ch_c vc na 1) (ch_c vc na 2) e') B' a' := by
      intro a' z1 z2
      refine as_step (fun k hk2 => cn_Atk hc hns n6 hk2) hi (fun x hx => ?_) (fun x => ?_) hS z1 z2
      · obtain ⟨e', l, ex⟩ := hx
        rw [ex]
        exact as_f_mono c1 c2 lt l
      · constructor
        · intro hx
          obtain ⟨e', l, ex⟩ := hx
          by_cases z : e' = e
          · rw [z] at ex; exact Or.inr ex
          · exact Or.inl ⟨e', by omega, ex⟩
        · intro hx
          rcases hx with ⟨e', l, ex⟩ | ex
          · exact ⟨e', by omega, ex⟩
          · exact ⟨e, by omega, ex⟩
    have kk : ∀ i, i < nk → kL' i = yl i := fun i hi => (hk' i hi).trans (hk i hi)
    rcases hS with ⟨eB, _⟩ | ⟨_, l, _⟩
    · exact ih (e + 1) m B' a bL' bQ' bV' w0 m' kL' f' sk' ea' eb' q' ch' kl' cnt' (by omega) (by omega) hb' (up a (fun _ => rfl) (fun z => by omega)) (fun z v hv nv => by rw [v0 (o0 eB) v hv]; exact ho (by omega) v hv nv) kk
    · exact ih (e + 1) m B' _ bL' bQ' bV' w0 m' kL' f' sk' ea' eb' q' ch' kl' cnt' (by omega) (by omega) hb' (up _ (fun z => by omega) (fun _ => rfl)) (fun z v hv nv => by rw [v1 (o1 l) v hv]; exact hval v hv nv) kk
theorem ym_s18 {post : Int32 → SY → Prop} {v t m : Nat} (I : ci_I kd fs sc sz gr n na ac vc) (hv : v < 3) (h : wY_search_18 post (nI n) (nI na) (nI nk) (nI ns) sec st ybl (nI yna) (pu_A kd) (pu_A fs) (pu_A sc) (pu_A sz) (pu_A ac) vc (pu_A yl) (pu_A yT) (pu_A yS) (pu_A yR) (pu_A ybq) (pu_A ybv) (pu_A yv) (pu_A yan) (pu_A ysk) (pu_A yea) (pu_A yeb) (pu_A yq) (pu_A ych) (pu_A ykl) (pu_A ycn) m (nI (t * ch_c vc na v)) (nI (v + 1))) : wY_search_18 post (nI n) (nI na) (nI nk) (nI ns) sec st ybl (nI yna) (pu_A kd) (pu_A fs) (pu_A sc) (pu_A sz) (pu_A ac) vc (pu_A yl) (pu_A yT) (pu_A yS) (pu_A yR) (pu_A ybq) (pu_A ybv) (pu_A yv) (pu_A yan) (pu_A ysk) (pu_A yea) (pu_A yeb) (pu_A yq) (pu_A ych) (pu_A ykl) (pu_A ycn) (m + 1) (nI t) (nI v) := by
  have wv : vp_in (nI v) 3 := vp_in_nI hv (by omega)
  have q : (nI v).toNatClampNeg = v := nI_clamp (by omega)
  obtain ⟨e1, e2⟩ := sm_vneg I hv
  rw [wY_search_18]
  refine br_f (nI_ge (b := 3) hv (by omega)) ⟨wv, ?_⟩
  rw [q]
  refine br_c (fun z => ?_) (fun z => ?_)
  · have ec : ch_c vc na v = 1 := if_pos (e1.mp z)
    rw [ec, Nat.mul_one] at h
    exact nm_r (nI_1 v) h
  · have ec : ch_c vc na v = na := if_neg (fun y => z (e1.mpr y))
    rw [ec] at h
    exact nm_r (pk_mul t na) (nm_r (nI_1 v) h)
theorem ym_search {post : Int32 → SY → Prop} (I : ci_I kd fs sc sz gr n na ac vc) (S : sr_I n yT yS yR ns xc xt xs) (h8 : nk ≤ 8) (hl : ∀ i, i < nk → yl i < n) (hs0 : s0 < n)
    (K : ∀ (B a : Nat) (bL : Int32) (bQ bV yv : Nat → Nat) (yna : Nat) (kL yan ysk yea yeb yq ych ykl ycn : Nat → Nat), bs_R bL bQ B → as_I (cn_At kd fs sc n ac yl nk xt xs xc s0) (fun x => as_V (ch_c vc na 0) (ch_c vc na 1) (ch_c vc na 2) x) B a → (B < 10000 → ∀ v, v < 3 → ¬ vc v = -1 → bV v = ac (cn_d a v)) → (∀ i, i < nk → kL i = yl i) → wY_search_127 post (nI n) (nI na) (nI nk) (nI ns) (nI s0) st bL (nI yna) (pu_A kd) (pu_A fs) (pu_A sc) (pu_A sz) (pu_A ac) vc (pu_A kL) (pu_A yT) (pu_A yS) (pu_A yR) (pu_A bQ) (pu_A bV) (pu_A yv) (pu_A yan) (pu_A ysk) (pu_A yea) (pu_A yeb) (pu_A yq) (pu_A ych) (pu_A ykl) (pu_A ycn)) : wpY_search post ((nI n), (nI na), (nI nk), (nI ns), (nI s0), st, ybl, (nI yna), (pu_A kd), (pu_A fs), (pu_A sc), (pu_A sz), (pu_A ac), vc, (pu_A yl), (pu_A yT), (pu_A yS), (pu_A yR), (pu_A ybq), (pu_A ybv), (pu_A yv), (pu_A yan), (pu_A ysk), (pu_A yea), (pu_A yeb), (pu_A yq), (pu_A ych), (pu_A ykl), (pu_A ycn)) := by
  have hn := I.1
  have go := ym_s47 I S h8 hl hs0 K (ch_c vc na 0 * ch_c vc na 1 * ch_c vc na 2) 0 (ch_c vc na 0 * ch_c vc na 1 * ch_c vc na 2 + 1) 10000 0 (-1) ybq ybv yv yna yl yan ysk yea yeb yq ych ykl ycn (by omega) (by omega) bs_no (as_0 (fun x h => by obtain ⟨e', h1, _⟩ := h; omega) 0) (fun h => by omega) (fun i _ => rfl)
  refine br_t (nI_pos' (by omega)) ⟨4, ym_s18 (v := 0) (t := 1) I (by omega) (ym_s18 (v := 1) I (by omega) (ym_s18 (v := 2) I (by omega) ?_))⟩
  rw [wY_search_18, Nat.one_mul]
  exact br_t (nI_le (a := 3) (by omega) (by omega)) ⟨_, go⟩
end
