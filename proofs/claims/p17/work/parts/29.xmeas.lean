section
variable {n na nk ns : Nat} {sec st xal : Int32} {kd fs sc sz gr ac : Nat → Nat} {vc : Nat → Int32} {xl xt xs xc xat xaa xch xtw xds xtg xnx xft : Nat → Nat} {yl yT yS yR : Nat → Nat}
theorem xm_rp1 {post : Int32 → St1 → Prop} {v rest m : Nat} {w : Nat → Nat} (hc : ∀ j, j < 3 → xc j ≤ 6) (hv : v < 3) (hr : rest < 1000)
    (h1 : rest % 7 ≤ xc v → wX_readPosition_4 post (nI n) (nI na) (nI nk) (nI ns) sec st xal m (nI (rest / 7)) (nI v + (-1)) (pu_A kd) (pu_A fs) (pu_A sc) (pu_A sz) (pu_A gr) (pu_A ac) vc (pu_A xl) (pu_A xt) (pu_A xs) (pu_A xc) (pu_A xat) (pu_A xaa) (pu_A xch) (pu_A xtw) (pu_A (pu_upd w v (rest % 7))) (pu_A xtg) (pu_A xnx) (pu_A xft))
    (h0 : ¬ rest % 7 ≤ xc v → post 0 ((nI n), (nI na), (nI nk), (nI ns), sec, st, xal, (pu_A kd), (pu_A fs), (pu_A sc), (pu_A sz), (pu_A gr), (pu_A ac), vc, (pu_A xl), (pu_A xt), (pu_A xs), (pu_A xc), (pu_A xat), (pu_A xaa), (pu_A xch), (pu_A xtw), (pu_A (pu_upd w v (rest % 7))), (pu_A xtg), (pu_A xnx), (pu_A xft))) : wX_readPosition_4 post (nI n) (nI na) (nI nk) (nI ns) sec st xal (m + 1) (nI rest) (nI v) (pu_A kd) (pu_A fs) (pu_A sc) (pu_A sz) (pu_A gr) (pu_A ac) vc (pu_A xl) (pu_A xt) (pu_A xs) (pu_A xc) (pu_A xat) (pu_A xaa) (pu_A xch) (pu_A xtw) (pu_A w) (pu_A xtg) (pu_A xnx) (pu_A xft) := by
  have wv : vp_in (nI v) 3 := vp_in_nI hv (by omega)
  have e7 : nI rest - nI rest / 7 * 7 = nI (rest % 7) := pk_rem (d := 7) (by omega) (by omega) (by omega)
  have d7 : nI rest / 7 = nI (rest / 7) := pk_div (d := 7) (by omega) (by omega) (by omega)
  have nz : ¬ (7 : Int32) = 0 := by decide
  have cv := hc v hv
  rw [wX_readPosition_4]
  exact br_f (nI_pos (by omega)) ⟨nz, wv, nm_r (rl_up (x := rest % 7) (by omega) rfl e7) ⟨nz, nm_r d7 ⟨wv, wv, pk_le (rest % 7) (xc v) (fun l => nm_e (h1 l)) (fun l => h0 (by omega)) (by rw [pu_Ag _ (by omega), pu_us]) (pu_Ag xc (by omega))⟩⟩⟩
theorem xm_readPos {post : Int32 → St1 → Prop} {p : Nat} (hc : ∀ j, j < 3 → xc j ≤ 6) (hp : p < 343)
    (h1 : cn_ok xc p → ∀ w : Nat → Nat, (∀ j, j < 3 → w j = sk_dg p j) → post 1 ((nI n), (nI na), (nI nk), (nI ns), sec, st, xal, (pu_A kd), (pu_A fs), (pu_A sc), (pu_A sz), (pu_A gr), (pu_A ac), vc, (pu_A xl), (pu_A xt), (pu_A xs), (pu_A xc), (pu_A xat), (pu_A xaa), (pu_A xch), (pu_A xtw), (pu_A w), (pu_A xtg), (pu_A xnx), (pu_A xft)))
    (h0 : ¬ cn_ok xc p → ∀ w : Nat → Nat, post 0 ((nI n), (nI na), (nI nk), (nI ns), sec, st, xal, (pu_A kd), (pu_A fs), (pu_A sc), (pu_A sz), (pu_A gr), (pu_A ac), vc, (pu_A xl), (pu_A xt), (pu_A xs), (pu_A xc), (pu_A xat), (pu_A xaa), (pu_A xch), (pu_A xtw), (pu_A w), (pu_A xtg), (pu_A xnx), (pu_A xft))) : wpX_readPosition post ((nI n), (nI na), (nI nk), (nI ns), sec, st, xal, (pu_A kd), (pu_A fs), (pu_A sc), (pu_A sz), (pu_A gr), (pu_A ac), vc, (pu_A xl), (pu_A xt), (pu_A xs), (pu_A xc), (pu_A xat), (pu_A xaa), (pu_A xch), (pu_A xtw), (pu_A xds), (pu_A xtg), (pu_A xnx), (pu_A xft)) (nI p) := by
  have e1 : nI 2 + (-1) = nI 1 := pk_m1 1
  have e0 : nI 1 + (-1) = nI 0 := pk_m1 0
  have em : nI 0 + (-1) < 0 := by decide
  refine ⟨4, xm_rp1 (v := 2) hc (by omega) (by omega) (fun l2 => ?_) (fun l2 => ?_)⟩
  · rw [e1]
    refine xm_rp1 (v := 1) hc (by omega) (by omega) (fun l1 => ?_) (fun l1 => ?_)
    · rw [e0]
      refine xm_rp1 (v := 0) hc (by omega) (by omega) (fun l0 => ?_) (fun l0 => ?_)
      · rw [wX_readPosition_4]
        refine br_t em (h1 (fun j hj => ?_) _ (fun v hv => ?_))
        · rcases sk_3 hj with e | e | e
          · rw [e, sk_dg0]; omega
          · rw [e, sk_dg1]; omega
          · rw [e, sk_dg2]; omega
        · rcases sk_3 hv with e | e | e
          · rw [e, pu_us, sk_dg0]; omega
          · rw [e, pu_un (by omega), pu_us, sk_dg1]
          · rw [e, pu_un (by omega), pu_un (by omega), pu_us, sk_dg2]
      · refine h0 (fun V => l0 ?_) _
        have h := V 0 (by omega)
        rw [sk_dg0] at h
        omega
    · refine h0 (fun V => l1 ?_) _
      have h := V 1 (by omega)
      rw [sk_dg1] at h
      exact h
  · refine h0 (fun V => l2 ?_) _
    have h := V 2 (by omega)
    rw [sk_dg2] at h
    exact h
def ws_B (yl : Nat → Nat) (nk : Nat) (xt xs xds xtw : Nat → Nat) (j i b : Nat) : Prop :=
  (∃ a, a < nk ∧ xtw (yl a) = b) ∨ (∃ j' k, j' < j ∧ k < xds j' ∧ xs (j' * 6 + k) = 1 ∧ xtw (xt (j' * 6 + k)) = b) ∨ (∃ k, k < i ∧ xs (j * 6 + k) = 1 ∧ xtw (xt (j * 6 + k)) = b)
theorem ws_no {j i b : Nat} (h : xs (j * 6 + i) ≠ 1) : ws_B yl nk xt xs xds xtw j (i + 1) b ↔ ws_B yl nk xt xs xds xtw j i b := by
  constructor
  · intro w
    rcases w with w | w | ⟨k, h1, h2, h3⟩
    · exact Or.inl w
    · exact Or.inr (Or.inl w)
    · by_cases e : k = i
      · rw [e] at h2; exact absurd h2 h
      · exact Or.inr (Or.inr ⟨k, by omega, h2, h3⟩)
  · intro w
    rcases w with w | w | ⟨k, h1, h2, h3⟩
    · exact Or.inl w
    · exact Or.inr (Or.inl w)
    · exact Or.inr (Or.inr ⟨k, by omega, h2, h3⟩)
theorem ws_yes {j i b : Nat} (h : xs (j * 6 + i) = 1) : ws_B yl nk xt xs xds xtw j (i + 1) b ↔ ws_B yl nk xt xs xds xtw j i b ∨ xtw (xt (j * 6 + i)) = b := by
  constructor
  · intro w
    rcases w with w | w | ⟨k, h1, h2, h3⟩
    · exact Or.inl (Or.inl w)
    · exact Or.inl (Or.inr (Or.inl w))
    · by_cases e : k = i
      · rw [e] at h3; exact Or.inr h3
      · exact Or.inl (Or.inr (Or.inr ⟨k, by omega, h2, h3⟩))
  · intro w
    rcases w with (w | w | ⟨k, h1, h2, h3⟩) | w
    · exact Or.inl w
    · exact Or.inr (Or.inl w)
    · exact Or.inr (Or.inr ⟨k, by omega, h2, h3⟩)
    · exact Or.inr (Or.inr ⟨i, by omega, h, w⟩)
theorem ws_nx {j b : Nat} : ws_B yl nk xt xs xds xtw j (xds j) b ↔ ws_B yl nk xt xs xds xtw (j + 1) 0 b := by
  constructor
  · intro w
    rcases w with w | ⟨j', k, h1, h2⟩ | ⟨k, h1, h2⟩
    · exact Or.inl w
    · exact Or.inr (Or.inl ⟨j', k, by omega, h2⟩)
    · exact Or.inr (Or.inl ⟨j, k, by omega, h1, h2⟩)
  · intro w
    rcases w with w | ⟨j', k, h1, h2, h3⟩ | ⟨k, h1, _⟩
    · exact Or.inl w
    · by_cases e : j' = j
      · rw [e] at h2 h3; exact Or.inr (Or.inr ⟨k, h2, h3⟩)
      · exact Or.inr (Or.inl ⟨j', k, by omega, h2, h3⟩)
    · omega
theorem xm_w15 {post : Int64 → Prop} {J : Int64 → Int32 → Prop} {j : Nat} (W : xw_W kd fs sc n xtw) (hj : j < 3) (hd : xds j ≤ 6) (ht : ∀ k, k < xds j → xt (j * 6 + k) < n ∧ xs (j * 6 + k) ≤ 1) (K : ∀ B, (∀ b, b < 64 → (xk_b B b = true ↔ ws_B yl nk xt xs xds xtw (j + 1) 0 b)) → J B (nI (j + 1))) : ∀ d i m B, i + d = xds j → d < m → (∀ b, b < 64 → (xk_b B b = true ↔ ws_B yl nk xt xs xds xtw j i b)) → wX_withSent_15 post J (nI j) (nI n) (nI na) (nI nk) (nI ns) sec st xal (pu_A kd) (pu_A fs) (pu_A sc) (pu_A sz) (pu_A gr) (pu_A ac) vc (pu_A xl) (pu_A xt) (pu_A xs) (pu_A xc) (pu_A xat) (pu_A xaa) (pu_A xch) (pu_A xtw) (pu_A xds) (pu_A xtg) (pu_A xnx) (pu_A xft) m B (nI i) := by
  obtain ⟨W1, W2, W3⟩ := id W
  have wj : vp_in (nI j) 3 := vp_in_nI hj (by omega)
  intro d
  induction d with
  | zero =>
    intro i m B hi hm hB
    obtain ⟨m, rfl⟩ : ∃ m', m = m' + 1 := ⟨m - 1, by omega⟩
    rw [wX_withSent_15]
    refine ⟨wj, pk_le (xds j) i (fun l => nm_r (nI_1 j) (K B (fun b hb => ?_))) (fun l => by omega) (pu_Ag xds (by omega))⟩
    have e : i = xds j := by omega
    rw [hB b hb, e]
    exact ws_nx
  | succ d ih =>
    intro i m B hi hm hB
    obtain ⟨m, rfl⟩ : ∃ m', m = m' + 1 := ⟨m - 1, by omega⟩
    obtain ⟨t1, t2⟩ := ht i (by omega)
    have tl := (W2 _ t1).1
    have w18 : vp_in (nI (j * 6 + i)) 18 := vp_in_nI (by omega) (by omega)
    have e1 : pu_A xt (nI (j * 6 + i)).toNatClampNeg = nI (xt (j * 6 + i)) := pu_Ag xt (by omega)
    have e2 : pu_A xtw (nI (xt (j * 6 + i))).toNatClampNeg = nI (xtw (xt (j * 6 + i))) := pu_Ag xtw (by omega)
    rw [wX_withSent_15]
    refine ⟨wj, pk_le (xds j) i (fun l => by omega) (fun l => nm_r sm_slot ⟨w18, pk_eq (xs (j * 6 + i)) 0 (fun z => ?_) (fun z => ⟨w18, by rw [e1]; exact vp_in_nI (by omega) (by omega), nm_r (e' := B ||| xk_s (xtw (xt (j * 6 + i)))) (by rw [e1, e2]; rfl) ?_⟩) (pu_Ag xs (by omega))⟩) (pu_Ag xds (by omega))⟩
    · refine nm_r (nI_1 i) (ih (i + 1) m B (by omega) (by omega) (fun b hb => ?_))
      rw [hB b hb]
      exact (ws_no (by omega)).symm
    · refine nm_r (nI_1 i) (ih (i + 1) m _ (by omega) (by omega) (fun b hb => ?_))
      rw [ws_yes (by omega), ← hB b hb, xk_or, xk_one (by omega)]
      constructor
      · intro h
        by_cases q : xk_b B b = true
        · exact Or.inl q
        · rw [ts_nt q, Bool.false_or] at h
          exact Or.inr (of_decide_eq_true h)
      · intro h
        rcases h with h | h
        · rw [h, Bool.true_or]
        · rw [decide_eq_true h, Bool.or_true]
theorem xm_w7 {post : Int64 → Prop} (W : xw_W kd fs sc n xtw) (hd : ∀ j, j < 3 → xds j ≤ 6) (ht : ∀ j, j < 3 → ∀ k, k < xds j → xt (j * 6 + k) < n ∧ xs (j * 6 + k) ≤ 1) (K : ∀ B, (∀ b, b < 64 → (xk_b B b = true ↔ ws_B yl nk xt xs xds xtw 3 0 b)) → post B) : ∀ d j m B, j + d = 3 → d < m → (∀ b, b < 64 → (xk_b B b = true ↔ ws_B yl nk xt xs xds xtw j 0 b)) → wX_withSent_7 post (nI n) (nI na) (nI nk) (nI ns) sec st xal (pu_A kd) (pu_A fs) (pu_A sc) (pu_A sz) (pu_A gr) (pu_A ac) vc (pu_A xl) (pu_A xt) (pu_A xs) (pu_A xc) (pu_A xat) (pu_A xaa) (pu_A xch) (pu_A xtw) (pu_A xds) (pu_A xtg) (pu_A xnx) (pu_A xft) m B (nI j) := by
  intro d
  induction d with
  | zero =>
    intro j m B hj hm hB
    obtain ⟨m, rfl⟩ : ∃ m', m = m' + 1 := ⟨m - 1, by omega⟩
    have e : j = 3 := by omega
    subst e
    rw [wX_withSent_7]
    exact br_t (nI_le (a := 3) (by omega) (by omega)) (K B hB)
  | succ d ih =>
    intro j m B hj hm hB
    obtain ⟨m, rfl⟩ : ∃ m', m = m' + 1 := ⟨m - 1, by omega⟩
    rw [wX_withSent_7]
    exact br_f (nI_ge (b := 3) (by omega) (by omega)) ⟨xds j + 1, xm_w15 W (by omega) (hd j (by omega)) (ht j (by omega)) (fun B' hB' => ih (j + 1) m B' (by omega) (by omega) hB') (xds j) 0 (xds j + 1) B (by omega) (by omega) hB⟩
theorem xm_withSent {post : Int64 → Prop} {p : Nat} (W : xw_W kd fs sc n xtw) (h8 : nk ≤ 8) (hl : ∀ i, i < nk → xl i = yl i ∧ yl i < n) (hd : ∀ j, j < 3 → xds j = sk_dg p j) (hd6 : ∀ j, j < 3 → sk_dg p j ≤ 6) (ht : ∀ j, j < 3 → ∀ k, k < sk_dg p j → xt (j * 6 + k) < n ∧ xs (j * 6 + k) ≤ 1) (K : ∀ B, xk_K n xtw (sr_K yl nk xt xs p) B → post B) : wpX_withSent post ((nI n), (nI na), (nI nk), (nI ns), sec, st, xal, (pu_A kd), (pu_A fs), (pu_A sc), (pu_A sz), (pu_A gr), (pu_A ac), vc, (pu_A xl), (pu_A xt), (pu_A xs), (pu_A xc), (pu_A xat), (pu_A xaa), (pu_A xch), (pu_A xtw), (pu_A xds), (pu_A xtg), (pu_A xnx), (pu_A xft)) := by
  unfold wpX_withSent
  refine xm_withLearned W h8 (fun i hi => by rw [(hl i hi).1]; exact (hl i hi).2) (fun B hB => ⟨4, xm_w7 (yl := yl) (nk := nk) W (fun j hj => by rw [hd j hj]; exact hd6 j hj) (fun j hj k hk => ht j hj k (by rw [← hd j hj]; exact hk)) (fun B' hB' => K B' (fun b hb => ?_)) 3 0 4 B (by omega) (by omega) (fun b hb => ?_)⟩)
  · rw [hB' b hb]
    constructor
    · intro h
      rcases h with ⟨a, h1, h2⟩ | ⟨j, k, h1, h2, h3, h4⟩ | ⟨k, h1, _⟩
      · exact ⟨yl a, (hl a h1).2, Or.inl ⟨a, h1, rfl⟩, h2⟩
      · rw [hd j h1] at h2
        exact ⟨xt (j * 6 + k), (ht j h1 k h2).1, Or.inr ⟨j, k, h1, h2, h3, rfl⟩, h4⟩
      · omega
    · intro h
      obtain ⟨x, hx, hK, e⟩ := h
      rcases hK with ⟨a, h1, h2⟩ | ⟨j, k, h1, h2, h3, h4⟩
      · exact Or.inl ⟨a, h1, by rw [h2]; exact e⟩
      · exact Or.inr (Or.inl ⟨j, k, h1, by rw [hd j h1]; exact h2, h3, by rw [h4]; exact e⟩)
  · rw [hB b hb]
    constructor
    · intro h
      obtain ⟨a, h1, h2⟩ := h
      exact Or.inl ⟨a, h1, by rw [← (hl a h1).1]; exact h2⟩
    · intro h
      rcases h with ⟨a, h1, h2⟩ | ⟨j, k, h1, _⟩ | ⟨k, h1, _⟩
      · exact ⟨a, h1, by rw [(hl a h1).1]; exact h2⟩
      · omega
      · omega
theorem xm_can {post : Int32 → Prop} {p j : Nat} {D : Int64} (W : xw_W kd fs sc n xtw) (hj : j < 3) (hd : ∀ j, j < 3 → xds j = sk_dg p j) (hc : ∀ j, j < 3 → xc j ≤ 6) (o : cn_ok xc p) (ht : ∀ j, j < 3 → ∀ k, k < xc j → xt (j * 6 + k) < n ∧ xs (j * 6 + k) ≤ 1) (hD : ∀ t, t < n → (xk_b D (xtw t) = true ↔ tc_L kd fs sc n xtw (sr_K yl nk xt xs p) t))
    (h1 : cn_en kd fs sc n yl nk xt xs xc xtw p j → post 1) (h0 : ¬ cn_en kd fs sc n yl nk xt xs xc xtw p j → post 0) : wpX_canStep post ((nI n), (nI na), (nI nk), (nI ns), sec, st, xal, (pu_A kd), (pu_A fs), (pu_A sc), (pu_A sz), (pu_A gr), (pu_A ac), vc, (pu_A xl), (pu_A xt), (pu_A xs), (pu_A xc), (pu_A xat), (pu_A xaa), (pu_A xch), (pu_A xtw), (pu_A xds), (pu_A xtg), (pu_A xnx), (pu_A xft)) (nI j) D := by
  have wj : vp_in (nI j) 3 := vp_in_nI hj (by omega)
  have cj := hc j hj
  have oj := o j hj
  have ed : pu_A xds (nI j).toNatClampNeg = nI (sk_dg p j) := by rw [pu_Ag xds (by omega), hd j hj]
  refine ⟨wj, wj, pk_lt (sk_dg p j) (xc j) (fun l => ⟨wj, nm_r (e' := nI (j * 6 + sk_dg p j)) (by rw [ed, sm_slot]) ?_⟩) (fun l => h0 (fun e => by have h := e.1; omega)) ed (pu_Ag xc (by omega))⟩
  obtain ⟨t1, t2⟩ := ht j hj _ l
  have w18 : vp_in (nI (j * 6 + sk_dg p j)) 18 := vp_in_nI (by omega) (by omega)
  refine ⟨w18, pk_eq (xs (j * 6 + sk_dg p j)) 0 (fun z => ⟨w18, ?_⟩) (fun z => h1 ⟨l, Or.inl (by omega)⟩) (pu_Ag xs (by omega))⟩
  rw [pu_Ag xt (by omega)]
  refine xm_holds W t1 (fun h => br_f (by decide) (h1 ⟨l, Or.inr ((hD _ t1).mp h)⟩)) (fun h => br_t rfl (h0 (fun e => ?_)))
  rcases e.2 with e2 | e2
  · omega
  · exact h ((hD _ t1).mpr e2)
theorem xm_weight {post : Int32 → Prop} {j : Nat} (hj : j < 3) (h : post (nI (sk_w j))) : wpX_weight post () (nI j) := by
  rcases sk_3 hj with e | e | e
  · subst e; exact br_t rfl h
  · subst e; exact br_f (by decide) (br_t rfl h)
  · subst e; exact br_f (by decide) (br_f (by decide) h)
theorem sk_J_cg {en : Nat → Nat → Prop} {fn : Nat → Prop} {nx nx' : Nat → Nat} {p i a b : Nat} (e : ∀ q, p < q → nx' q = nx q) (h : sk_J en fn nx p i a b) : sk_J en fn nx' p i a b := by
  rcases h with h | ⟨h1, h2, h3, s, h4, h5, h6, h7⟩
  · exact Or.inl h
  · exact Or.inr ⟨h1, h2, h3, s, h4, h5, sk_pth_cg e s _ (by have h := sk_w_pos b; omega) h6, h7⟩
theorem sk_J7 {en : Nat → Nat → Prop} {fn : Nat → Prop} {nx : Nat → Nat} {p i a b : Nat} (h : sk_J en fn nx p i a b) : a ≤ 7 := by
  rcases h with ⟨h, _⟩ | ⟨h, _⟩
  · omega
  · omega
theorem xm_m53 {post : St1 → Prop} {p s0 : Nat} {D : Int64} {tg0 nx0 : Nat → Nat} (W : xw_W kd fs sc n xtw) (hp : p < 343) (hd : ∀ j, j < 3 → xds j = sk_dg p j) (hc : ∀ j, j < 3 → xc j ≤ 6) (hns : xc 0 + xc 1 + xc 2 = ns) (h6 : ns ≤ 6) (o : cn_ok xc p) (ht : ∀ j, j < 3 → ∀ k, k < xc j → xt (j * 6 + k) < n ∧ xs (j * 6 + k) ≤ 1) (hD : ∀ t, t < n → (xk_b D (xtw t) = true ↔ tc_L kd fs sc n xtw (sr_K yl nk xt xs p) t))
    (nf : ¬ cn_fn kd fs sc n yl nk xt xs s0 xtw p)
    (sp : ∀ q, p < q → q < 343 → cn_ok xc q → sk_sp (cn_en kd fs sc n yl nk xt xs xc xtw) (cn_fn kd fs sc n yl nk xt xs s0 xtw) tg0 nx0 q)
    (K : ∀ tg nx : Nat → Nat, (∀ q, q ≠ p → tg q = tg0 q ∧ nx q = nx0 q) → sk_sp (cn_en kd fs sc n yl nk xt xs xc xtw) (cn_fn kd fs sc n yl nk xt xs s0 xtw) tg nx p → post ((nI n), (nI na), (nI nk), (nI ns), sec, st, xal, (pu_A kd), (pu_A fs), (pu_A sc), (pu_A sz), (pu_A gr), (pu_A ac), vc, (pu_A xl), (pu_A xt), (pu_A xs), (pu_A xc), (pu_A xat), (pu_A xaa), (pu_A xch), (pu_A xtw), (pu_A xds), (pu_A tg), (pu_A nx), (pu_A xft))) :
    ∀ d j m (tg nx : Nat → Nat), j + d = 3 → d < m → (∀ q, q ≠ p → tg q = tg0 q ∧ nx q = nx0 q) → sk_J (cn_en kd fs sc n yl nk xt xs xc xtw) (cn_fn kd fs sc n yl nk xt xs s0 xtw) nx0 p j (tg p) (nx p) → wX_measurePosition_53 post (nI p) D (nI n) (nI na) (nI nk) (nI ns) sec st xal m (nI j) (pu_A kd) (pu_A fs) (pu_A sc) (pu_A sz) (pu_A gr) (pu_A ac) vc (pu_A xl) (pu_A xt) (pu_A xs) (pu_A xc) (pu_A xat) (pu_A xaa) (pu_A xch) (pu_A xtw) (pu_A xds) (pu_A tg) (pu_A nx) (pu_A xft) := by
  intro d
  induction d with
  | zero =>
    intro j m tg nx hj hm same hJ
    obtain ⟨m, rfl⟩ : ∃ m', m = m' + 1 := ⟨m - 1, by omega⟩
    have e : j = 3 := by omega
    subst e
    rw [wX_measurePosition_53]
    refine br_t (nI_le (a := 3) (by omega) (by omega)) (K tg nx same ?_)
    exact sk_Jend (sk_J_cg (nx' := nx) (fun q hq => (same q (by omega)).2) hJ) nf rfl (fun _ => rfl)
  | succ d ih =>
    intro j m tg nx hj hm same hJ
    obtain ⟨m, rfl⟩ : ∃ m', m = m' + 1 := ⟨m - 1, by omega⟩
    have hj3 : j < 3 := by omega
    rw [wX_measurePosition_53]
    refine br_f (nI_ge (b := 3) hj3 (by omega)) (xm_can W hj3 hd hc o ht hD (fun he => br_f (by decide) (xm_weight hj3 (nm_r (e' := nI (p + sk_w j)) (nI_add p (sk_w j)) ?_))) (fun he => br_t rfl (nm_r (nI_1 j) (ih (j + 1) m tg nx (by omega) (by omega) same (sk_Jno hJ (fun s e => absurd e he))))))
    obtain ⟨o2, d6⟩ := cn_hs hc p j o hj3 he
    have p2 := cn_lt hc o2
    have wp := sk_w_pos j
    have s2 := sp (p + sk_w j) (by omega) p2 o2
    have t2 : tg (p + sk_w j) = tg0 (p + sk_w j) := (same _ (by omega)).1
    have b7 := sk_J7 hJ
    have b2 : tg0 (p + sk_w j) ≤ 7 := by
      rcases s2 with ⟨h, _⟩ | ⟨h, _⟩
      · omega
      · omega
    have w343 : vp_in (nI (p + sk_w j)) 343 := vp_in_nI p2 (by omega)
    have wp3 : vp_in (nI p) 343 := vp_in_nI hp (by omega)
    have ea : pu_A tg (nI (p + sk_w j)).toNatClampNeg + 1 = nI (tg0 (p + sk_w j) + 1) := by rw [pu_Ag tg (by omega), t2, nI_1]
    refine ⟨w343, wp3, pk_le (tg p) (tg0 (p + sk_w j) + 1) (fun l => ?_) (fun l => ?_) (pu_Ag tg (by omega)) ea⟩
    · refine nm_r (nI_1 j) (ih (j + 1) m tg nx (by omega) (by omega) same (sk_Jkeep hj3 hJ s2 (fun s a => ?_) l))
      have h1 := cn_len hc hns h6 s _ o2 a
      rw [sk_dep_up hj3 d6] at h1
      omega
    · refine ⟨w343, wp3, nm_r (rl_up (k := p) (x := tg0 (p + sk_w j) + 1) (by omega) rfl ea) ⟨wp3, nm_r (rl_up (k := p) (x := j) (by omega) rfl rfl) (nm_r (nI_1 j) (ih (j + 1) m _ _ (by omega) (by omega) (fun q hq => ?_) ?_))⟩⟩
      · rw [pu_un hq, pu_un hq]
        exact same q hq
      · rw [pu_us, pu_us]
        exact sk_Jtake hj3 hJ he s2 l
theorem xm_measure {post : St1 → Prop} {p s0 : Nat} (W : xw_W kd fs sc n xtw) (hp : p < 343) (hc : ∀ j, j < 3 → xc j ≤ 6) (hns : xc 0 + xc 1 + xc 2 = ns) (h6 : ns ≤ 6) (ht : ∀ j, j < 3 → ∀ k, k < xc j → xt (j * 6 + k) < n ∧ xs (j * 6 + k) ≤ 1) (h8 : nk ≤ 8) (hl : ∀ i, i < nk → xl i = yl i ∧ yl i < n) (hs0 : s0 < n)
    (sp : ∀ q, p < q → q < 343 → cn_ok xc q → sk_sp (cn_en kd fs sc n yl nk xt xs xc xtw) (cn_fn kd fs sc n yl nk xt xs s0 xtw) xtg xnx q)
    (K : ∀ tg nx ds : Nat → Nat, (∀ q, q ≠ p → tg q = xtg q ∧ nx q = xnx q) → (cn_ok xc p → sk_sp (cn_en kd fs sc n yl nk xt xs xc xtw) (cn_fn kd fs sc n yl nk xt xs s0 xtw) tg nx p) → post ((nI n), (nI na), (nI nk), (nI ns), (nI s0), st, xal, (pu_A kd), (pu_A fs), (pu_A sc), (pu_A sz), (pu_A gr), (pu_A ac), vc, (pu_A xl), (pu_A xt), (pu_A xs), (pu_A xc), (pu_A xat), (pu_A xaa), (pu_A xch), (pu_A xtw), (pu_A ds), (pu_A tg), (pu_A nx), (pu_A xft))) : wpX_measurePosition post ((nI n), (nI na), (nI nk), (nI ns), (nI s0), st, xal, (pu_A kd), (pu_A fs), (pu_A sc), (pu_A sz), (pu_A gr), (pu_A ac), vc, (pu_A xl), (pu_A xt), (pu_A xs), (pu_A xc), (pu_A xat), (pu_A xaa), (pu_A xch), (pu_A xtw), (pu_A xds), (pu_A xtg), (pu_A xnx), (pu_A xft)) (nI p) := by
  have wp3 : vp_in (nI p) 343 := vp_in_nI hp (by omega)
  refine ⟨wp3, nm_r (rl_up (k := p) (x := 7) (by omega) rfl rfl) ?_⟩
  refine xm_readPos hc hp (fun o w hw => br_f (by decide) ?_) (fun o w => br_t rfl (K _ _ _ (fun q hq => ⟨pu_un hq, rfl⟩) (fun o2 => absurd o2 o)))
  have o6 : ∀ j, j < 3 → sk_dg p j ≤ 6 := fun j hj => Nat.le_trans (o j hj) (hc j hj)
  refine xm_withSent (yl := yl) (p := p) W h8 hl hw o6 (fun j hj k hk => ht j hj k (by have h := o j hj; omega)) (fun B hB => xm_closure W hB (fun D hD => xm_holds W hs0 (fun h => br_f (by decide) ?_) (fun h => br_t rfl ?_)))
  · refine ⟨wp3, nm_r (rl_up (k := p) (x := 0) (by omega) rfl rfl) (K _ _ _ (fun q hq => ⟨by rw [pu_un hq, pu_un hq], rfl⟩) (fun _ => sk_fin ((hD s0 hs0).mp h) pu_us))⟩
  · refine ⟨4, xm_m53 (yl := yl) (s0 := s0) (tg0 := xtg) (nx0 := xnx) W hp hw hc hns h6 o ht hD (fun f => h ((hD s0 hs0).mpr f)) sp (fun tg nx same s => K tg nx _ same (fun _ => s)) 3 0 4 _ _ (by omega) (by omega) (fun q hq => ⟨pu_un hq, rfl⟩) ?_⟩
    rw [pu_us]
    exact sk_J0
end
