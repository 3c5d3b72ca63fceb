section
variable {n na nk ns : Nat} {sec st xal : Int32} {kd fs sc sz gr ac : Nat → Nat} {vc : Nat → Int32} {xl xt xs xc xat xaa xch xtw xds xtg xnx xft : Nat → Nat} {yl yT yS yR : Nat → Nat}
theorem xm_f4 {post : St1 → Prop} {key : Nat} {en : Nat → Nat → Prop} {fn : Nat → Prop} (hL : xtg 0 ≤ 6) (hc : ∀ j, j < 3 → xc j ≤ 6) (hs : ∀ p j, cn_ok xc p → j < 3 → en p j → cn_ok xc (p + sk_w j) ∧ sk_dg p j < 6)
    (K : ∀ F, (∀ i, i < xtg 0 → F i < 3) → sk_kA F (xtg 0) = key → post ((nI n), (nI na), (nI nk), (nI ns), sec, st, xal, (pu_A kd), (pu_A fs), (pu_A sc), (pu_A sz), (pu_A gr), (pu_A ac), vc, (pu_A xl), (pu_A xt), (pu_A xs), (pu_A xc), (pu_A xat), (pu_A xaa), (pu_A xch), (pu_A xtw), (pu_A xds), (pu_A xtg), (pu_A xnx), (pu_A F))) :
    ∀ (r : List Nat) i p m (F : Nat → Nat), r.length + i = xtg 0 → r.length < m → sk_pth xnx r p → sk_att en fn r p → cn_ok xc p → sk_ky r (sk_kA F i) = key → (∀ a, a < i → F a < 3) → wX_followSchedule_4 post (nI n) (nI na) (nI nk) (nI ns) sec st xal m (nI p) (nI i) (pu_A kd) (pu_A fs) (pu_A sc) (pu_A sz) (pu_A gr) (pu_A ac) vc (pu_A xl) (pu_A xt) (pu_A xs) (pu_A xc) (pu_A xat) (pu_A xaa) (pu_A xch) (pu_A xtw) (pu_A xds) (pu_A xtg) (pu_A xnx) (pu_A F) := by
  intro r
  induction r with
  | nil =>
    intro i p m F hi hm hp ha o hk hF
    obtain ⟨m, rfl⟩ : ∃ m', m = m' + 1 := ⟨m - 1, by omega⟩
    have e : i = xtg 0 := by simpa using hi
    rw [wX_followSchedule_4]
    refine br_t ?_ (K F (fun a h => hF a (by omega)) ?_)
    · show nI (xtg 0) ≤ nI i
      exact nI_le (by omega) (by omega)
    · rw [← e]; exact hk
  | cons j r ih =>
    intro i p m F hi hm hp ha o hk hF
    obtain ⟨m, rfl⟩ : ∃ m', m = m' + 1 := ⟨m - 1, by omega⟩
    rw [List.length_cons] at hi hm
    have hp' : xnx p = j ∧ sk_pth xnx r (p + sk_w j) := hp
    have ha' : j < 3 ∧ en p j ∧ sk_att en fn r (p + sk_w j) := ha
    have p343 := cn_lt hc o
    obtain ⟨o2, _⟩ := hs p j o ha'.1 ha'.2.1
    have w6 : vp_in (nI i) 6 := vp_in_nI (by omega) (by omega)
    rw [wX_followSchedule_4]
    refine br_f ?_ ⟨vp_in_nI p343 (by omega), w6, nm_r (rl_up (k := i) (x := j) (by omega) rfl (by rw [pu_Ag xnx (by omega), hp'.1])) ⟨w6, ?_⟩⟩
    · show ¬ nI (xtg 0) ≤ nI i
      exact nI_ge (by omega) (by omega)
    · rw [pu_Ag _ (by omega), pu_us]
      refine xm_weight ha'.1 (nm_r (nI_add p (sk_w j)) (nm_r (nI_1 i) (ih (i + 1) (p + sk_w j) m _ (by omega) (by omega) hp'.2 ha'.2.2 o2 ?_ (fun a h => ?_))))
      · rw [sk_kA_s, pu_us, sk_kA_cg (Q' := F) i (fun a h => pu_un (by omega))]
        exact hk
      · by_cases e : a = i
        · rw [e, pu_us]; exact ha'.1
        · rw [pu_un e]; exact hF a (by omega)
theorem xm_fc39 {post : Int32 → Prop} {L : Nat} (hL : L ≤ 6) (d1 : ∀ i, i < L → xft i < 3) (d2 : ∀ i, i < L → xat i < 3) (h1 : sk_kA xft L < sk_kA xat L → post 1) (h0 : ¬ sk_kA xft L < sk_kA xat L → post 0) : ∀ d i m, i + d = L → d < m → (∀ a, a < i → xft a = xat a) → wX_foundComesFirst_39 post (nI L) (nI n) (nI na) (nI nk) (nI ns) sec st xal (pu_A kd) (pu_A fs) (pu_A sc) (pu_A sz) (pu_A gr) (pu_A ac) vc (pu_A xl) (pu_A xt) (pu_A xs) (pu_A xc) (pu_A xat) (pu_A xaa) (pu_A xch) (pu_A xtw) (pu_A xds) (pu_A xtg) (pu_A xnx) (pu_A xft) m (nI i) := by
  intro d
  induction d with
  | zero =>
    intro i m hi hm he
    obtain ⟨m, rfl⟩ : ∃ m', m = m' + 1 := ⟨m - 1, by omega⟩
    have e : i = L := by omega
    subst e
    rw [wX_foundComesFirst_39]
    refine br_t (nI_le (Nat.le_refl i) (by omega)) (h0 ?_)
    rw [sk_kA_cg i he]
    omega
  | succ d ih =>
    intro i m hi hm he
    obtain ⟨m, rfl⟩ : ∃ m', m = m' + 1 := ⟨m - 1, by omega⟩
    have w6 : vp_in (nI i) 6 := vp_in_nI (by omega) (by omega)
    have a1 := d1 i (by omega)
    have a2 := d2 i (by omega)
    rw [wX_foundComesFirst_39]
    refine br_f (nI_ge (by omega) (by omega)) ⟨w6, w6, pk_eq (xft i) (xat i) (fun e => nm_r (nI_1 i) (ih (i + 1) m (by omega) (by omega) (fun a ha => ?_))) (fun e => ⟨w6, w6, pk_le (xat i) (xft i) (fun l => h0 ?_) (fun l => h1 ?_) (pu_Ag xat (by omega)) (pu_Ag xft (by omega))⟩) (pu_Ag xft (by omega)) (pu_Ag xat (by omega))⟩
    · by_cases q : a = i
      · rw [q]; exact e
      · exact he a (by omega)
    · have h := bs_lex he (by omega) e d1 d2
      omega
    · have h := bs_lex he (by omega) e d1 d2
      omega
theorem xm_first {post : Int32 → Prop} {L B : Nat} (eL : xtg 0 = L) (hL : L ≤ 6) (d1 : ∀ i, i < L → xft i < 3) (b : bs_R xal xat B) (h1 : sk_kA xft L < B → post 1) (h0 : ¬ sk_kA xft L < B → post 0) : wpX_foundComesFirst post ((nI n), (nI na), (nI nk), (nI ns), sec, st, xal, (pu_A kd), (pu_A fs), (pu_A sc), (pu_A sz), (pu_A gr), (pu_A ac), vc, (pu_A xl), (pu_A xt), (pu_A xs), (pu_A xc), (pu_A xat), (pu_A xaa), (pu_A xch), (pu_A xtw), (pu_A xds), (pu_A xtg), (pu_A xnx), (pu_A xft)) := by
  refine nm_r (e' := nI L) (by rw [← eL]; rfl) ?_
  rcases b with ⟨e, q⟩ | ⟨M, m1, e, m2, m3⟩
  · subst e
    refine br_f (gw_m1 (by omega)) (br_t rfl (h1 ?_))
    rw [q]
    exact sk_kA_big hL d1
  · subst e
    refine pk_eq L M (fun e => ?_) (fun e => br_f (gw_m1 (by omega)) (pk_le M L (fun l => h0 ?_) (fun l => h1 ?_)))
    · subst e
      rw [m3] at h1 h0
      exact ⟨L + 1, xm_fc39 hL d1 m2 h1 h0 L 0 (L + 1) (by omega) (by omega) (fun a ha => by omega)⟩
    · have h := sk_kA_len (Q := xat) (Q' := xft) (by omega : M < L) m2
      omega
    · have h := sk_kA_len (Q := xft) (Q' := xat) (by omega : L < M) d1
      omega
theorem xm_k40 {post : St1 → Prop} (h8 : ∀ v, v < 3 → xch v < 8) (K : ∀ A, (∀ v, v < 3 → A v = ac (xch v)) → post ((nI n), (nI na), (nI nk), (nI ns), sec, st, xal, (pu_A kd), (pu_A fs), (pu_A sc), (pu_A sz), (pu_A gr), (pu_A ac), vc, (pu_A xl), (pu_A xt), (pu_A xs), (pu_A xc), (pu_A xat), (pu_A A), (pu_A xch), (pu_A xtw), (pu_A xds), (pu_A xtg), (pu_A xnx), (pu_A xft))) : ∀ d v m (A : Nat → Nat), v + d = 3 → d < m → (∀ a, a < v → A a = ac (xch a)) → wX_keepFound_40 post (nI n) (nI na) (nI nk) (nI ns) sec st xal m (nI v) (pu_A kd) (pu_A fs) (pu_A sc) (pu_A sz) (pu_A gr) (pu_A ac) vc (pu_A xl) (pu_A xt) (pu_A xs) (pu_A xc) (pu_A xat) (pu_A A) (pu_A xch) (pu_A xtw) (pu_A xds) (pu_A xtg) (pu_A xnx) (pu_A xft) := by
  intro d
  induction d with
  | zero =>
    intro v m A hv hm hA
    obtain ⟨m, rfl⟩ : ∃ m', m = m' + 1 := ⟨m - 1, by omega⟩
    rw [wX_keepFound_40]
    exact br_t (nI_le (a := 3) (by omega) (by omega)) (K A (fun a ha => hA a (by omega)))
  | succ d ih =>
    intro v m A hv hm hA
    obtain ⟨m, rfl⟩ : ∃ m', m = m' + 1 := ⟨m - 1, by omega⟩
    have wv : vp_in (nI v) 3 := vp_in_nI (by omega) (by omega)
    have c8 := h8 v (by omega)
    have e1 : pu_A xch (nI v).toNatClampNeg = nI (xch v) := pu_Ag xch (by omega)
    rw [wX_keepFound_40]
    refine br_f (nI_ge (b := 3) (by omega) (by omega)) ⟨wv, by rw [e1]; exact vp_in_nI c8 (by omega), wv, nm_r (rl_up (k := v) (x := ac (xch v)) (by omega) rfl (by rw [e1]; exact pu_Ag ac (by omega))) (nm_r (nI_1 v) (ih (v + 1) m _ (by omega) (by omega) (fun a ha => ?_)))⟩
    by_cases e : a = v
    · rw [e, pu_us]
    · rw [pu_un e]; exact hA a (by omega)
theorem xm_k12 {post : St1 → Prop} {L : Nat} (hL : L ≤ 6) (h8 : ∀ v, v < 3 → xch v < 8) (K : ∀ T A, (∀ i, i < L → T i = xft i) → (∀ v, v < 3 → A v = ac (xch v)) → post ((nI n), (nI na), (nI nk), (nI ns), sec, st, (nI L), (pu_A kd), (pu_A fs), (pu_A sc), (pu_A sz), (pu_A gr), (pu_A ac), vc, (pu_A xl), (pu_A xt), (pu_A xs), (pu_A xc), (pu_A T), (pu_A A), (pu_A xch), (pu_A xtw), (pu_A xds), (pu_A xtg), (pu_A xnx), (pu_A xft))) : ∀ d i m (T : Nat → Nat), i + d = L → d < m → (∀ a, a < i → T a = xft a) → wX_keepFound_12 post (nI n) (nI na) (nI nk) (nI ns) sec st (nI L) m (nI i) (pu_A kd) (pu_A fs) (pu_A sc) (pu_A sz) (pu_A gr) (pu_A ac) vc (pu_A xl) (pu_A xt) (pu_A xs) (pu_A xc) (pu_A T) (pu_A xaa) (pu_A xch) (pu_A xtw) (pu_A xds) (pu_A xtg) (pu_A xnx) (pu_A xft) := by
  intro d
  induction d with
  | zero =>
    intro i m T hi hm hT
    obtain ⟨m, rfl⟩ : ∃ m', m = m' + 1 := ⟨m - 1, by omega⟩
    rw [wX_keepFound_12]
    exact br_t (nI_le (by omega) (by omega)) ⟨4, xm_k40 h8 (fun A hA => K T A (fun a ha => hT a (by omega)) hA) 3 0 4 xaa (by omega) (by omega) (fun a ha => by omega)⟩
  | succ d ih =>
    intro i m T hi hm hT
    obtain ⟨m, rfl⟩ : ∃ m', m = m' + 1 := ⟨m - 1, by omega⟩
    have w6 : vp_in (nI i) 6 := vp_in_nI (by omega) (by omega)
    rw [wX_keepFound_12]
    refine br_f (nI_ge (by omega) (by omega)) ⟨w6, w6, nm_r (rl_up (k := i) (x := xft i) (by omega) rfl (pu_Ag xft (by omega))) (nm_r (nI_1 i) (ih (i + 1) m _ (by omega) (by omega) (fun a ha => ?_)))⟩
    by_cases e : a = i
    · rw [e, pu_us]
    · rw [pu_un e]; exact hT a (by omega)
theorem xm_keep {post : St1 → Prop} {L : Nat} (eL : xtg 0 = L) (hL : L ≤ 6) (h8 : ∀ v, v < 3 → xch v < 8) (K : ∀ T A, (∀ i, i < L → T i = xft i) → (∀ v, v < 3 → A v = ac (xch v)) → post ((nI n), (nI na), (nI nk), (nI ns), sec, st, (nI L), (pu_A kd), (pu_A fs), (pu_A sc), (pu_A sz), (pu_A gr), (pu_A ac), vc, (pu_A xl), (pu_A xt), (pu_A xs), (pu_A xc), (pu_A T), (pu_A A), (pu_A xch), (pu_A xtw), (pu_A xds), (pu_A xtg), (pu_A xnx), (pu_A xft))) : wpX_keepFound post ((nI n), (nI na), (nI nk), (nI ns), sec, st, xal, (pu_A kd), (pu_A fs), (pu_A sc), (pu_A sz), (pu_A gr), (pu_A ac), vc, (pu_A xl), (pu_A xt), (pu_A xs), (pu_A xc), (pu_A xat), (pu_A xaa), (pu_A xch), (pu_A xtw), (pu_A xds), (pu_A xtg), (pu_A xnx), (pu_A xft)) :=
  nm_r (e' := nI L) (by rw [← eL]; rfl) ⟨L + 1, xm_k12 hL h8 K L 0 (L + 1) xat (by omega) (by omega) (fun a ha => by omega)⟩
theorem xm_u8 {post : St1 → Prop} {s0 B : Nat} (W : xw_W kd fs sc n xtw) (hc : ∀ j, j < 3 → xc j ≤ 6) (hns : xc 0 + xc 1 + xc 2 = ns) (h6 : ns ≤ 6) (ht : ∀ j, j < 3 → ∀ k, k < xc j → xt (j * 6 + k) < n ∧ xs (j * 6 + k) ≤ 1) (h8 : nk ≤ 8) (hl : ∀ i, i < nk → xl i = yl i ∧ yl i < n) (hs0 : s0 < n) (hch : ∀ v, v < 3 → xch v < 8) (b : bs_R xal xat B)
    (K0 : (∀ s, sk_att (cn_en kd fs sc n yl nk xt xs xc xtw) (cn_fn kd fs sc n yl nk xt xs s0 xtw) s 0 → B ≤ sk_ky s 1) → ∀ ds tg nx ft, post ((nI n), (nI na), (nI nk), (nI ns), (nI s0), st, xal, (pu_A kd), (pu_A fs), (pu_A sc), (pu_A sz), (pu_A gr), (pu_A ac), vc, (pu_A xl), (pu_A xt), (pu_A xs), (pu_A xc), (pu_A xat), (pu_A xaa), (pu_A xch), (pu_A xtw), (pu_A ds), (pu_A tg), (pu_A nx), (pu_A ft)))
    (K1 : ∀ B' L T A, bs_R (nI L) T B' → (∃ s, sk_att (cn_en kd fs sc n yl nk xt xs xc xtw) (cn_fn kd fs sc n yl nk xt xs s0 xtw) s 0 ∧ B' = sk_ky s 1) → B' < B → (∀ s, sk_att (cn_en kd fs sc n yl nk xt xs xc xtw) (cn_fn kd fs sc n yl nk xt xs s0 xtw) s 0 → B' ≤ sk_ky s 1) → (∀ v, v < 3 → A v = ac (xch v)) → ∀ ds tg nx ft, post ((nI n), (nI na), (nI nk), (nI ns), (nI s0), st, (nI L), (pu_A kd), (pu_A fs), (pu_A sc), (pu_A sz), (pu_A gr), (pu_A ac), vc, (pu_A xl), (pu_A xt), (pu_A xs), (pu_A xc), (pu_A T), (pu_A A), (pu_A xch), (pu_A xtw), (pu_A ds), (pu_A tg), (pu_A nx), (pu_A ft))) :
    ∀ c m (ds tg nx : Nat → Nat), c ≤ 343 → c < m → (∀ q, c ≤ q → q < 343 → cn_ok xc q → sk_sp (cn_en kd fs sc n yl nk xt xs xc xtw) (cn_fn kd fs sc n yl nk xt xs s0 xtw) tg nx q) → wX_searchUnderAssignment_8 post m (nI c + (-1)) (nI n) (nI na) (nI nk) (nI ns) (nI s0) st xal (pu_A kd) (pu_A fs) (pu_A sc) (pu_A sz) (pu_A gr) (pu_A ac) vc (pu_A xl) (pu_A xt) (pu_A xs) (pu_A xc) (pu_A xat) (pu_A xaa) (pu_A xch) (pu_A xtw) (pu_A ds) (pu_A tg) (pu_A nx) (pu_A xft) := by
  intro c
  induction c with
  | zero =>
    intro m ds tg nx hc2 hm sp
    obtain ⟨m, rfl⟩ : ∃ m', m = m' + 1 := ⟨m - 1, by omega⟩
    rw [wX_searchUnderAssignment_8]
    have s := sp 0 (by omega) (by omega) cn_ok0
    have b7 : tg 0 ≤ 7 := by
      rcases s with ⟨h, _⟩ | ⟨h, _⟩
      · omega
      · omega
    refine br_t (by decide) (pk_eq (tg 0) 7 (fun e => ?_) (fun e => ?_))
    · refine K0 (fun q hq => ?_) ds tg nx xft
      rcases s with ⟨_, no⟩ | ⟨l, _⟩
      · exact absurd hq (no q)
      · omega
    · rcases s with ⟨h, _⟩ | ⟨l6, q, q1, q2, q3, q4⟩
      · omega
      · refine ⟨tg 0 + 1, xm_f4 (key := sk_ky q 1) (en := cn_en kd fs sc n yl nk xt xs xc xtw) (fn := cn_fn kd fs sc n yl nk xt xs s0 xtw) l6 hc (cn_hs hc) (fun F hF hk => ?_) q 0 0 (tg 0 + 1) xft (by omega) (by omega) q3 q2 cn_ok0 rfl (fun a ha => by omega)⟩
        refine xm_first (L := tg 0) (B := B) rfl l6 hF b (fun l => br_f (by decide) ?_) (fun l => br_t rfl ?_)
        · refine xm_keep (L := tg 0) rfl l6 hch (fun T A hT hA => ?_)
          have bn := bs_new l6 hF hT
          rw [hk] at bn l
          exact K1 (sk_ky q 1) (tg 0) T A bn ⟨q, q2, rfl⟩ l (fun s' hs' => q4 s' hs' 1 (Nat.le_refl 1)) hA ds tg nx F
        · rw [hk] at l
          exact K0 (fun s' hs' => by have h := q4 s' hs' 1 (Nat.le_refl 1); omega) ds tg nx F
  | succ p ih =>
    intro m ds tg nx hc2 hm sp
    obtain ⟨m, rfl⟩ : ∃ m', m = m' + 1 := ⟨m - 1, by omega⟩
    rw [wX_searchUnderAssignment_8, pk_m1]
    refine br_f (nI_pos (by omega)) (xm_measure (p := p) (s0 := s0) (yl := yl) W (by omega) hc hns h6 ht h8 hl hs0 (fun q h1 h2 o => sp q (by omega) h2 o) (fun tg' nx' ds' same s => nm_e (ih m ds' tg' nx' (by omega) (by omega) (fun q h1 h2 o => ?_))))
    by_cases e : q = p
    · rw [e] at o ⊢; exact s o
    · exact sk_sp_cg (q := p) (fun y hy => (same y (by omega)).1) (fun y hy => (same y (by omega)).2) (by omega) (sp q (by omega) h2 o)
theorem xs_eq (I : ci_I kd fs sc sz gr n na ac vc) {w : Nat → Nat} {s0 code : Nat} (hX : ∀ t, t < n → ci_X kd fs sc ac xch w t) (hd : ∀ v, v < 3 → xch v = cn_d code v) : cn_en kd fs sc n yl nk xt xs xc w = cn_en kd fs sc n yl nk xt xs xc (cn_tw kd fs sc n ac (cn_d code)) ∧ cn_fn kd fs sc n yl nk xt xs s0 w = cn_fn kd fs sc n yl nk xt xs s0 (cn_tw kd fs sc n ac (cn_d code)) := by
  have hX2 := cn_ch (ch' := cn_d code) I (fun t ht k => hd _ (ci_k2 I ht k).1) hX
  have e := cn_e I hX2
  have hp : ∀ t, t < n → 3 ≤ kd t → sc t < n := fun t ht k => by
    obtain ⟨_, _, h, _⟩ := ci_k3 I ht k
    omega
  refine ⟨funext fun p => funext fun j => propext ?_, funext fun p => propext (cn_L e hp _ _)⟩
  unfold cn_en
  rw [cn_L e hp]
theorem xm_under {post : St1 → Prop} {s0 B code : Nat} (I : ci_I kd fs sc sz gr n na ac vc) (hc : ∀ j, j < 3 → xc j ≤ 6) (hns : xc 0 + xc 1 + xc 2 = ns) (h6 : ns ≤ 6) (ht : ∀ j, j < 3 → ∀ k, k < xc j → xt (j * 6 + k) < n ∧ xs (j * 6 + k) ≤ 1) (h8 : nk ≤ 8) (hl : ∀ i, i < nk → xl i = yl i ∧ yl i < n) (hs0 : s0 < n) (hcode : code < 512) (hd : ∀ v, v < 3 → xch v = cn_d code v) (hv : ∀ t, t < n → kd t = 2 → cn_d code (fs t) < na) (b : bs_R xal xat B)
    (K0 : (∀ k, cn_At kd fs sc n ac yl nk xt xs xc s0 code k → B ≤ k) → ∀ tw ds tg nx ft, post ((nI n), (nI na), (nI nk), (nI ns), (nI s0), st, xal, (pu_A kd), (pu_A fs), (pu_A sc), (pu_A sz), (pu_A gr), (pu_A ac), vc, (pu_A xl), (pu_A xt), (pu_A xs), (pu_A xc), (pu_A xat), (pu_A xaa), (pu_A xch), (pu_A tw), (pu_A ds), (pu_A tg), (pu_A nx), (pu_A ft)))
    (K1 : ∀ B' L T A, bs_R (nI L) T B' → cn_At kd fs sc n ac yl nk xt xs xc s0 code B' → B' < B → (∀ k, cn_At kd fs sc n ac yl nk xt xs xc s0 code k → B' ≤ k) → (∀ v, v < 3 → A v = ac (cn_d code v)) → ∀ tw ds tg nx ft, post ((nI n), (nI na), (nI nk), (nI ns), (nI s0), st, (nI L), (pu_A kd), (pu_A fs), (pu_A sc), (pu_A sz), (pu_A gr), (pu_A ac), vc, (pu_A xl), (pu_A xt), (pu_A xs), (pu_A xc), (pu_A T), (pu_A A), (pu_A xch), (pu_A tw), (pu_A ds), (pu_A tg), (pu_A nx), (pu_A ft))) :
    wpX_searchUnderAssignment post ((nI n), (nI na), (nI nk), (nI ns), (nI s0), st, xal, (pu_A kd), (pu_A fs), (pu_A sc), (pu_A sz), (pu_A gr), (pu_A ac), vc, (pu_A xl), (pu_A xt), (pu_A xs), (pu_A xc), (pu_A xat), (pu_A xaa), (pu_A xch), (pu_A xtw), (pu_A xds), (pu_A xtg), (pu_A xnx), (pu_A xft)) := by
  unfold wpX_searchUnderAssignment
  have hn := I.1
  refine xm_join I (fun t ht' k => by rw [hd _ (ci_k2 I ht' k).1]; exact hv t ht' k) (fun w hX hw => ?_)
  have W : xw_W kd fs sc n w := by
    refine ⟨hn, fun u hu => ⟨hw u hu, (ci_kd I hu).2, ci_b I hu⟩, fun u hu k3 => ?_⟩
    obtain ⟨c1, c2, c3, _⟩ := ci_k3 I hu k3
    exact ⟨by omega, by omega⟩
  obtain ⟨e1, e2⟩ := xs_eq (yl := yl) (nk := nk) (xt := xt) (xs := xs) (xc := xc) (s0 := s0) I hX hd
  have c8 : ∀ v, v < 3 → xch v < 8 := by
    intro v h
    rw [hd v h]
    rcases sk_3 h with e | e | e
    · rw [e]; show code / 64 < 8; omega
    · rw [e]; show code / 8 % 8 < 8; omega
    · rw [e]; show code % 8 < 8; omega
  refine ⟨344, xm_u8 (yl := yl) (s0 := s0) (B := B) W hc hns h6 ht h8 hl hs0 c8 b (fun no ds tg nx ft => ?_) (fun B' L T A h1 h2 h3 h4 h5 ds tg nx ft => ?_) 343 344 xds xtg xnx (by omega) (by omega) (fun q h1 h2 => by omega)⟩
  · refine K0 (fun k hk => ?_) w ds tg nx ft
    obtain ⟨s, a1, a2⟩ := hk
    rw [← e1, ← e2] at a1
    rw [a2]
    exact no s a1
  · refine K1 B' L T A h1 ?_ h3 (fun k hk => ?_) (fun v hv3 => by rw [h5 v hv3, hd v hv3]) w ds tg nx ft
    · obtain ⟨s, a1, a2⟩ := h2
      rw [e1, e2] at a1
      exact ⟨s, a1, a2⟩
    · obtain ⟨s, a1, a2⟩ := hk
      rw [← e1, ← e2] at a1
      rw [a2]
      exact h4 s a1
theorem xm_s16 {post : Int32 → St1 → Prop} {s0 : Nat} (I : ci_I kd fs sc sz gr n na ac vc) (S : sr_I n yT yS yR ns xc xt xs) (h8 : nk ≤ 8) (hl : ∀ i, i < nk → xl i = yl i ∧ yl i < n) (hs0 : s0 < n)
    (K : ∀ B a (al : Int32) (T A : Nat → Nat), bs_R al T B → as_I (cn_At kd fs sc n ac yl nk xt xs xc s0) (fun x => as_V (ch_c vc na 0) (ch_c vc na 1) (ch_c vc na 2) x) B a → (B < 10000 → ∀ v, v < 3 → A v = ac (cn_d a v)) → ∀ ch tw ds tg nx ft, (al = -1 → post 1 ((nI n), (nI na), (nI nk), (nI ns), (nI s0), 1, al, (pu_A kd), (pu_A fs), (pu_A sc), (pu_A sz), (pu_A gr), (pu_A ac), vc, (pu_A xl), (pu_A xt), (pu_A xs), (pu_A xc), (pu_A T), (pu_A A), (pu_A ch), (pu_A tw), (pu_A ds), (pu_A tg), (pu_A nx), (pu_A ft))) ∧ (¬ al = -1 → post 2 ((nI n), (nI na), (nI nk), (nI ns), (nI s0), 2, al, (pu_A kd), (pu_A fs), (pu_A sc), (pu_A sz), (pu_A gr), (pu_A ac), vc, (pu_A xl), (pu_A xt), (pu_A xs), (pu_A xc), (pu_A T), (pu_A A), (pu_A ch), (pu_A tw), (pu_A ds), (pu_A tg), (pu_A nx), (pu_A ft)))) :
    ∀ d code m B a (al : Int32) (T A ch tw ds tg nx ft : Nat → Nat), code + d = 512 → d < m → bs_R al T B → as_I (cn_At kd fs sc n ac yl nk xt xs xc s0) (fun x => x < code ∧ as_V (ch_c vc na 0) (ch_c vc na 1) (ch_c vc na 2) x) B a → (B < 10000 → ∀ v, v < 3 → A v = ac (cn_d a v)) → wX_search_16 post m (nI code) (nI n) (nI na) (nI nk) (nI ns) (nI s0) st al (pu_A kd) (pu_A fs) (pu_A sc) (pu_A sz) (pu_A gr) (pu_A ac) vc (pu_A xl) (pu_A xt) (pu_A xs) (pu_A xc) (pu_A T) (pu_A A) (pu_A ch) (pu_A tw) (pu_A ds) (pu_A tg) (pu_A nx) (pu_A ft) := by
  have ha := I.2.1
  have n6 := S.1
  have hns := sr_tot S
  have hc : ∀ j, j < 3 → xc j ≤ 6 := fun j hj => Nat.le_trans (sm_xc S hj) n6
  have hx : ∀ j, j < 3 → ∀ k, k < xc j → xt (j * 6 + k) < n ∧ xs (j * 6 + k) ≤ 1 := by
    intro j hj k hk
    obtain ⟨g, _, _, _, g4, g5, g6, g7⟩ := sr_find S hj hk
    rw [← g4, ← g5]
    exact ⟨g7, g6⟩
  intro d
  induction d with
  | zero =>
    intro code m B a al T A ch tw ds tg nx ft hcode hm hb hi ho
    obtain ⟨m, rfl⟩ : ∃ m', m = m' + 1 := ⟨m - 1, by omega⟩
    rw [wX_search_16]
    refine br_t (nI_le (a := 512) (by omega) (by omega)) (K B a al T A hb (as_cg (fun x => ?_) hi) ho ch tw ds tg nx ft)
    exact ⟨fun h => h.2, fun h => ⟨by have h2 := h.1; omega, h⟩⟩
  | succ d ih =>
    intro code m B a al T A ch tw ds tg nx ft hcode hm hb hi ho
    obtain ⟨m, rfl⟩ : ∃ m', m = m' + 1 := ⟨m - 1, by omega⟩
    rw [wX_search_16]
    refine br_f (nI_ge (b := 512) (by omega) (by omega)) (xm_choose ha (by omega) (fun V w hw => br_f (by decide) ?_) (fun V w => br_t rfl (nm_r (nI_1 code) (ih (code + 1) m B a al T A w tw ds tg nx ft (by omega) (by omega) hb (as_cg (fun x => ?_) hi) ho))))
    · have hv : ∀ t, t < n → kd t = 2 → cn_d code (fs t) < na := by
        intro t ht k
        obtain ⟨f3, fv, _⟩ := ci_k2 I ht k
        have hn := I.1
        have ne : ¬ vc (fs t) = -1 := by rw [fv]; exact gw_m1 (by omega)
        have ec : ch_c vc na (fs t) = na := if_neg ne
        obtain ⟨v0, v1, v2, v3⟩ := V
        rcases sk_3 f3 with e | e | e
        · rw [e] at ec ⊢; rw [ec] at v1; exact v1
        · rw [e] at ec ⊢; rw [ec] at v2; exact v2
        · rw [e] at ec ⊢; rw [ec] at v3; exact v3
      have up : ∀ B' a', as_S (cn_At kd fs sc n ac yl nk xt xs xc s0) code B B' → (B' = B → a' = a) → (B' < B → a' = code) → as_I (cn_At kd fs sc n ac yl nk xt xs xc s0) (fun x => x < code + 1 ∧ as_V (ch_c vc na 0) (ch_c vc na 1) (ch_c vc na 2) x) B' a' := by
        intro B' a' hS e1 e2
        refine as_step (fun k hk => cn_Atk hc hns n6 hk) hi (fun x hx => hx.1) (fun x => ?_) hS e1 e2
        constructor
        · intro h
          by_cases q : x = code
          · exact Or.inr q
          · exact Or.inl ⟨by omega, h.2⟩
        · intro h
          rcases h with h | h
          · exact ⟨by omega, h.2⟩
          · exact ⟨by omega, by rw [h]; exact V⟩
      refine xm_under (yl := yl) (B := B) (code := code) I hc hns n6 hx h8 hl hs0 (by omega) hw hv hb (fun no tw' ds' tg' nx' ft' => nm_r (nI_1 code) (ih (code + 1) m B a al T A w tw' ds' tg' nx' ft' (by omega) (by omega) hb (up B a (Or.inl ⟨rfl, no⟩) (fun _ => rfl) (fun h => by omega)) ho)) (fun B' L T' A' h1 h2 h3 h4 h5 tw' ds' tg' nx' ft' => nm_r (nI_1 code) (ih (code + 1) m B' code (nI L) T' A' w tw' ds' tg' nx' ft' (by omega) (by omega) h1 (up B' code (Or.inr ⟨h2, h3, h4⟩) (fun h => by omega) (fun _ => rfl)) (fun _ => h5)))
    · constructor
      · intro h; exact ⟨by omega, h.2⟩
      · intro h
        by_cases q : x = code
        · rw [q] at h; exact absurd h.2 V
        · exact ⟨by omega, h.2⟩
theorem xm_search {post : Int32 → St1 → Prop} {s0 : Nat} (I : ci_I kd fs sc sz gr n na ac vc) (S : sr_I n yT yS yR ns xc xt xs) (h8 : nk ≤ 8) (hl : ∀ i, i < nk → xl i = yl i ∧ yl i < n) (hs0 : s0 < n)
    (K : ∀ B a (al : Int32) (T A : Nat → Nat), bs_R al T B → as_I (cn_At kd fs sc n ac yl nk xt xs xc s0) (fun x => as_V (ch_c vc na 0) (ch_c vc na 1) (ch_c vc na 2) x) B a → (B < 10000 → ∀ v, v < 3 → A v = ac (cn_d a v)) → ∀ ch tw ds tg nx ft, (al = -1 → post 1 ((nI n), (nI na), (nI nk), (nI ns), (nI s0), 1, al, (pu_A kd), (pu_A fs), (pu_A sc), (pu_A sz), (pu_A gr), (pu_A ac), vc, (pu_A xl), (pu_A xt), (pu_A xs), (pu_A xc), (pu_A T), (pu_A A), (pu_A ch), (pu_A tw), (pu_A ds), (pu_A tg), (pu_A nx), (pu_A ft))) ∧ (¬ al = -1 → post 2 ((nI n), (nI na), (nI nk), (nI ns), (nI s0), 2, al, (pu_A kd), (pu_A fs), (pu_A sc), (pu_A sz), (pu_A gr), (pu_A ac), vc, (pu_A xl), (pu_A xt), (pu_A xs), (pu_A xc), (pu_A T), (pu_A A), (pu_A ch), (pu_A tw), (pu_A ds), (pu_A tg), (pu_A nx), (pu_A ft)))) : wpX_search post ((nI n), (nI na), (nI nk), (nI ns), (nI s0), st, xal, (pu_A kd), (pu_A fs), (pu_A sc), (pu_A sz), (pu_A gr), (pu_A ac), vc, (pu_A xl), (pu_A xt), (pu_A xs), (pu_A xc), (pu_A xat), (pu_A xaa), (pu_A xch), (pu_A xtw), (pu_A xds), (pu_A xtg), (pu_A xnx), (pu_A xft)) := by
  have hn := I.1
  refine br_f (gw_m1 (by omega)) ⟨513, xm_s16 (st := 0) I S h8 hl hs0 K 512 0 513 10000 0 (-1) xat xaa xch xtw xds xtg xnx xft (by omega) (by omega) bs_no (as_0 (fun x h => by omega) 0) (fun h => by omega)⟩
end
