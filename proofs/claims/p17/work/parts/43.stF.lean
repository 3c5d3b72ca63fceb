section
variable {n na nk ns : Nat} {sec st xal : Int32} {kd fs sc sz gr ac : Nat → Nat} {vc : Nat → Int32} {xl xt xs xc xat xaa xch xtw xds xtg xnx xft : Nat → Nat}
variable {bn bna bnk bns : Nat} {bsec bst bxal : Int32} {bkd bfs bsc bsz bgr bac : Nat → Nat} {bvc : Nat → Int32} {bxl bxt bxs bxc bxat bxaa bxch bxtw bxds bxtg bxnx bxft : Nat → Nat}
def pf_A (n na nk ns s0 Lg code : Nat) (kd fs sc sz gr ac : Nat → Nat) (vc : Nat → Int32) (xl xt xs xc xat xaa : Nat → Nat) : Prop :=
  ci_I kd fs sc sz gr n na ac vc ∧ n ≤ 10 ∧ na ≤ 3 ∧ (∀ i, i < na → ac i = i) ∧ (∀ t, t < n → kd t ≠ 1 → na ≤ t) ∧ (∃ yT yS yR, sr_I n yT yS yR ns xc xt xs) ∧ (nk ≤ 2 ∧ ∀ i, i < nk → xl i < n ∧ gr (xl i) = 1) ∧ s0 < n ∧ Lg ≤ 6 ∧ (∀ i, i < Lg → xat i < 3) ∧
  (∀ t, t < n → kd t = 2 → cn_d code (fs t) < na ∧ xaa (fs t) = ac (cn_d code (fs t))) ∧
  sk_att (cn_en kd fs sc n xl nk xt xs xc (cn_tw kd fs sc n ac (cn_d code))) (cn_fn kd fs sc n xl nk xt xs s0 (cn_tw kd fs sc n ac (cn_d code))) (lb_dl xat 0 Lg) 0
variable {s0 Lg code : Nat} {mp : Nat → Nat} {post : Int32 → Prop} {L : Nat} {xss : Nat → Int32} {kc ks : Nat}
theorem pf_64 (I' : ci_I bkd bfs bsc bsz bgr bn bna bac bvc) (H : ∀ t, t < n → hm_T kd fs sc sz bkd bfs bsc bsz bgr bn ac (cn_d code) mp t) : ∀ v, v < n → mp v < 64 := fun v hv => by
  have h := (H v hv).1
  have h2 := I'.1
  omega
theorem pf_der (A : pf_A n na nk ns s0 Lg code kd fs sc sz gr ac vc xl xt xs xc xat xaa) (I' : ci_I bkd bfs bsc bsz bgr bn bna bac bvc) (H : ∀ t, t < n → hm_T kd fs sc sz bkd bfs bsc bsz bgr bn ac (cn_d code) mp t) {p t : Nat} (hK : ∀ u, u < n → sr_K xl nk xt xs p u → ∃ j, j < bnk ∧ bxl j = mp u) (h : tc_L kd fs sc n (cn_tw kd fs sc n ac (cn_d code)) (sr_K xl nk xt xs p) t) : tc_L bkd bfs bsc bn (fun x => x) (fun u => ∃ j, j < bnk ∧ bxl j = u) (mp t) :=
  hm_L A.1 I' (cn_X A.1 (cn_d code)) (fun t ht k => (A.2.2.2.2.2.2.2.2.2.2.1 t ht k).1) H hK h
theorem st_851 {J : (Int32 → Int32 → Int32 → Int32 → Int32 → Int32 → Int32 → Int32 → Int32 → Int32 → Int32 → (Nat → Int32) → (Nat → Int32) → (Nat → Int32) → (Nat → Int32) → (Nat → Int32) → (Nat → Int32) → (Nat → Int32) → (Nat → Int32) → (Nat → Int32) → (Nat → Int32) → (Nat → Int32) → (Nat → Int32) → (Nat → Int32) → (Nat → Int32) → (Nat → Int32) → (Nat → Int32) → (Nat → Int32) → (Nat → Int32) → (Nat → Int32) → Int32 → Int32 → Int32 → Int32 → Int32 → Int32 → Int32 → (Nat → Int32) → (Nat → Int32) → (Nat → Int32) → (Nat → Int32) → (Nat → Int32) → (Nat → Int32) → (Nat → Int32) → (Nat → Int32) → (Nat → Int32) → (Nat → Int32) → (Nat → Int32) → (Nat → Int32) → (Nat → Int32) → (Nat → Int32) → (Nat → Int32) → (Nat → Int32) → (Nat → Int32) → (Nat → Int32) → (Nat → Int32) → Prop)} {c0 c1 c2 : Int32} {x12 x13 x14 x15 : Int32} {q p i : Nat} (A : pf_A n na nk ns s0 Lg code kd fs sc sz gr ac vc xl xt xs xc xat xaa) (I' : ci_I bkd bfs bsc bsz bgr bn bna bac bvc) (H : ∀ t, t < n → hm_T kd fs sc sz bkd bfs bsc bsz bgr bn ac (cn_d code) mp t)
    (hq : q < 3) (hi : i < 6) (hk8 : bnk < 8) (hl : ∀ j, j < bnk → bxl j < bn) (hK : ∀ u, u < n → sr_K xl nk xt xs p u → ∃ j, j < bnk ∧ bxl j = mp u)
    (he : cn_en kd fs sc n xl nk xt xs xc (cn_tw kd fs sc n ac (cn_d code)) p q)
    (K1 : xs (q * 6 + sk_dg p q) = 1 → xt (q * 6 + sk_dg p q) < n → J c0 c1 c2 (nI (i + 1)) (nI n) (nI na) (nI nk) (nI ns) (nI s0) 2 (nI Lg) (pu_A kd) (pu_A fs) (pu_A sc) (pu_A sz) (pu_A gr) (pu_A ac) vc (pu_A xl) (pu_A xt) (pu_A xs) (pu_A xc) (pu_A xat) (pu_A xaa) (pu_A xch) (pu_A xtw) (pu_A xds) (pu_A xtg) (pu_A xnx) (pu_A xft) (nI bn) (nI bna) (nI (bnk + 1)) (nI bns) bsec 0 (-1) (pu_A bkd) (pu_A bfs) (pu_A bsc) (pu_A bsz) (pu_A bgr) (pu_A bac) bvc (pu_A (pu_upd bxl bnk (mp (xt (q * 6 + sk_dg p q))))) (pu_A bxt) (pu_A bxs) (pu_A bxc) (pu_A bxat) (pu_A bxaa) (pu_A bxch) (pu_A bxtw) (pu_A bxds) (pu_A bxtg) (pu_A bxnx) (pu_A bxft))
    (K0 : xs (q * 6 + sk_dg p q) ≠ 1 → ∀ w, J c0 c1 c2 (nI (i + 1)) (nI n) (nI na) (nI nk) (nI ns) (nI s0) 2 (nI Lg) (pu_A kd) (pu_A fs) (pu_A sc) (pu_A sz) (pu_A gr) (pu_A ac) vc (pu_A xl) (pu_A xt) (pu_A xs) (pu_A xc) (pu_A xat) (pu_A xaa) (pu_A xch) (pu_A xtw) (pu_A xds) (pu_A xtg) (pu_A xnx) (pu_A xft) (nI bn) (nI bna) (nI bnk) (nI bns) bsec bst bxal (pu_A bkd) (pu_A bfs) (pu_A bsc) (pu_A bsz) (pu_A bgr) (pu_A bac) bvc (pu_A bxl) (pu_A bxt) (pu_A bxs) (pu_A bxc) (pu_A bxat) (pu_A bxaa) (pu_A bxch) (pu_A w) (pu_A bxds) (pu_A bxtg) (pu_A bxnx) (pu_A bxft)) :
    wL_law_851 post L xss J (nI n) (lN (lb_mm mp n)) x12 x13 x14 x15 c0 c1 c2 (nI i) (nI q) (nI (sk_dg p q + 1)) kc ks (nI n) (nI na) (nI nk) (nI ns) (nI s0) 2 (nI Lg) (pu_A kd) (pu_A fs) (pu_A sc) (pu_A sz) (pu_A gr) (pu_A ac) vc (pu_A xl) (pu_A xt) (pu_A xs) (pu_A xc) (pu_A xat) (pu_A xaa) (pu_A xch) (pu_A xtw) (pu_A xds) (pu_A xtg) (pu_A xnx) (pu_A xft) (nI bn) (nI bna) (nI bnk) (nI bns) bsec bst bxal (pu_A bkd) (pu_A bfs) (pu_A bsc) (pu_A bsz) (pu_A bgr) (pu_A bac) bvc (pu_A bxl) (pu_A bxt) (pu_A bxs) (pu_A bxc) (pu_A bxat) (pu_A bxaa) (pu_A bxch) (pu_A bxtw) (pu_A bxds) (pu_A bxtg) (pu_A bxnx) (pu_A bxft) := by
  obtain ⟨A1, A2, A3, A4, A5, ⟨yT, yS, yR, S⟩, A7, A8, A9, A10, A11, A12⟩ := id A
  have h64 := pf_64 I' H
  have dl := he.1
  have xq := sm_xc S hq
  have h6 := S.1
  unfold wL_law_851
  rw [nI_pred]
  refine pg_step S (by omega) hq (by omega) (fun l t1 t2 => ?_) (fun l => by omega)
  obtain ⟨m1, m2, m3, m4, m5, m6⟩ := H _ t1
  have n1 := I'.1
  have e1 : nI (2 * xt (q * 6 + sk_dg p q) + xs (q * 6 + sk_dg p q)) >>> ((1 : Int32) &&& 31) = nI (xt (q * 6 + sk_dg p q)) := by
    rw [pk_shrN (by omega) _ 1 (by decide)]
    congr 1
    omega
  have e2 : nI (2 * xt (q * 6 + sk_dg p q) + xs (q * 6 + sk_dg p q)) &&& 1 = nI (xs (q * 6 + sk_dg p q)) := by
    rw [pk_andN (by omega) 1 (by decide)]
    congr 1
    omega
  refine br_t (nI_pos' (by omega)) (nm_r e1 (pk_lt (xt (q * 6 + sk_dg p q)) n (fun _ => lb_get A2 h64 t1 ?_) (fun l => by omega)))
  rw [e2]
  refine pk_eq (xs (q * 6 + sk_dg p q)) 1 (fun s1 => ?_) (fun s0 => ?_)
  · refine pg_learn I' (by omega) m1 (fun _ _ => br_f (by decide) (nm_r (nI_1 i) (K1 s1 t1))) (fun no => absurd ⟨m3, hk8⟩ no)
  · rcases he.2 with e | e
    · exact absurd e s0
    · exact pg_derivable I' (by omega) hl m1 m3 (pf_der A I' H hK e) (fun w => br_f (by decide) (nm_r (nI_1 i) (K0 s0 w)))
theorem st_F (A : pf_A n na nk ns s0 Lg code kd fs sc sz gr ac vc xl xt xs xc xat xaa) (I' : ci_I bkd bfs bsc bsz bgr bn bna bac bvc) (H : ∀ t, t < n → hm_T kd fs sc sz bkd bfs bsc bsz bgr bn ac (cn_d code) mp t) (hp : post 1) :
    ∀ (d i p fu bnk : Nat) (bxl bxtw : Nat → Nat) (bst bxal : Int32), i + d = Lg → d < fu → cn_ok xc p → sk_att (cn_en kd fs sc n xl nk xt xs xc (cn_tw kd fs sc n ac (cn_d code))) (cn_fn kd fs sc n xl nk xt xs s0 (cn_tw kd fs sc n ac (cn_d code))) (lb_dl xat i d) p → bnk ≤ nk + i → (∀ j, j < bnk → bxl j < bn) → (∀ u, u < n → sr_K xl nk xt xs p u → ∃ j, j < bnk ∧ bxl j = mp u) →
    wL_law_769 post L xss (nI n) (lN (lb_mm mp n)) (nI (xc 0)) (nI (xc 1)) (nI (xc 2)) (nI Lg) kc ks fu (nI (sk_dg p 0)) (nI (sk_dg p 1)) (nI (sk_dg p 2)) (nI i) (nI n) (nI na) (nI nk) (nI ns) (nI s0) 2 (nI Lg) (pu_A kd) (pu_A fs) (pu_A sc) (pu_A sz) (pu_A gr) (pu_A ac) vc (pu_A xl) (pu_A xt) (pu_A xs) (pu_A xc) (pu_A xat) (pu_A xaa) (pu_A xch) (pu_A xtw) (pu_A xds) (pu_A xtg) (pu_A xnx) (pu_A xft) (nI bn) (nI bna) (nI bnk) (nI bns) bsec bst bxal (pu_A bkd) (pu_A bfs) (pu_A bsc) (pu_A bsz) (pu_A bgr) (pu_A bac) bvc (pu_A bxl) (pu_A bxt) (pu_A bxs) (pu_A bxc) (pu_A bxat) (pu_A bxaa) (pu_A bxch) (pu_A bxtw) (pu_A bxds) (pu_A bxtg) (pu_A bxnx) (pu_A bxft) := by
  obtain ⟨A1, A2, A3, A4, A5, ⟨yT, yS, yR, S⟩, A7, A8, A9, A10, A11, A12⟩ := id A
  have h64 := pf_64 I' H
  have h6 := S.1
  have hc : ∀ j, j < 3 → xc j ≤ 6 := fun j hj => Nat.le_trans (sm_xc S hj) h6
  intro d
  induction d with
  | zero =>
    intro i p fu bnk bxl bxtw bst bxal hi hfu o at1 hk hl hK
    obtain ⟨fu, rfl⟩ : ∃ m', fu = m' + 1 := ⟨fu - 1, by omega⟩
    have f : cn_fn kd fs sc n xl nk xt xs s0 (cn_tw kd fs sc n ac (cn_d code)) p := at1
    obtain ⟨m1, m2, m3, m4, m5, m6⟩ := H _ A8
    rw [wL_law_769]
    refine br_t (nI_le (by omega) (by omega)) ?_
    refine br_f (nI_pos (by omega)) (pk_lt s0 n (fun _ => lb_get A2 h64 A8 ?_) (fun l => by omega))
    exact pg_derivable I' (by omega) hl m1 m3 (pf_der A I' H hK f) (fun w => hp)
  | succ d ih =>
    intro i p fu bnk bxl bxtw bst bxal hi hfu o at1 hk hl hK
    obtain ⟨fu, rfl⟩ : ∃ m', fu = m' + 1 := ⟨fu - 1, by omega⟩
    have at2 : xat i < 3 ∧ cn_en kd fs sc n xl nk xt xs xc (cn_tw kd fs sc n ac (cn_d code)) p (xat i) ∧ sk_att (cn_en kd fs sc n xl nk xt xs xc (cn_tw kd fs sc n ac (cn_d code))) (cn_fn kd fs sc n xl nk xt xs s0 (cn_tw kd fs sc n ac (cn_d code))) (lb_dl xat (i + 1) d) (p + sk_w (xat i)) := at1
    obtain ⟨q3, he, at3⟩ := at2
    obtain ⟨o2, d6⟩ := cn_hs hc p (xat i) o q3 he
    have dl := he.1
    have hk7 := A7.1
    have b0 := hc 0 (by omega)
    have b1 := hc 1 (by omega)
    have b2 := hc 2 (by omega)
    have g0 := o 0 (by omega)
    have g1 := o 1 (by omega)
    have g2 := o 2 (by omega)
    have K1 : ∀ (bst bxal : Int32), xs (xat i * 6 + sk_dg p (xat i)) = 1 → xt (xat i * 6 + sk_dg p (xat i)) < n → wL_law_769 post L xss (nI n) (lN (lb_mm mp n)) (nI (xc 0)) (nI (xc 1)) (nI (xc 2)) (nI Lg) kc ks fu (nI (sk_dg (p + sk_w (xat i)) 0)) (nI (sk_dg (p + sk_w (xat i)) 1)) (nI (sk_dg (p + sk_w (xat i)) 2)) (nI (i + 1)) (nI n) (nI na) (nI nk) (nI ns) (nI s0) 2 (nI Lg) (pu_A kd) (pu_A fs) (pu_A sc) (pu_A sz) (pu_A gr) (pu_A ac) vc (pu_A xl) (pu_A xt) (pu_A xs) (pu_A xc) (pu_A xat) (pu_A xaa) (pu_A xch) (pu_A xtw) (pu_A xds) (pu_A xtg) (pu_A xnx) (pu_A xft) (nI bn) (nI bna) (nI (bnk + 1)) (nI bns) bsec bst bxal (pu_A bkd) (pu_A bfs) (pu_A bsc) (pu_A bsz) (pu_A bgr) (pu_A bac) bvc (pu_A (pu_upd bxl bnk (mp (xt (xat i * 6 + sk_dg p (xat i)))))) (pu_A bxt) (pu_A bxs) (pu_A bxc) (pu_A bxat) (pu_A bxaa) (pu_A bxch) (pu_A bxtw) (pu_A bxds) (pu_A bxtg) (pu_A bxnx) (pu_A bxft) := by
      intro bst bxal s1 t1
      refine ih (i + 1) (p + sk_w (xat i)) fu (bnk + 1) _ bxtw bst bxal (by omega) (by omega) o2 at3 (by omega) (fun j hj => ?_) (fun u hu k => ?_)
      · by_cases e : j = bnk
        · rw [e, pu_us]; exact (H _ t1).1
        · rw [pu_un e]; exact hl j (by omega)
      · rw [sr_Ks q3 d6] at k
        rcases k with k | ⟨_, k⟩
        · obtain ⟨j, j1, j2⟩ := hK u hu k
          exact ⟨j, by omega, by rw [pu_un (by omega)]; exact j2⟩
        · exact ⟨bnk, by omega, by rw [pu_us, k]⟩
    have K0 : xs (xat i * 6 + sk_dg p (xat i)) ≠ 1 → ∀ w, wL_law_769 post L xss (nI n) (lN (lb_mm mp n)) (nI (xc 0)) (nI (xc 1)) (nI (xc 2)) (nI Lg) kc ks fu (nI (sk_dg (p + sk_w (xat i)) 0)) (nI (sk_dg (p + sk_w (xat i)) 1)) (nI (sk_dg (p + sk_w (xat i)) 2)) (nI (i + 1)) (nI n) (nI na) (nI nk) (nI ns) (nI s0) 2 (nI Lg) (pu_A kd) (pu_A fs) (pu_A sc) (pu_A sz) (pu_A gr) (pu_A ac) vc (pu_A xl) (pu_A xt) (pu_A xs) (pu_A xc) (pu_A xat) (pu_A xaa) (pu_A xch) (pu_A xtw) (pu_A xds) (pu_A xtg) (pu_A xnx) (pu_A xft) (nI bn) (nI bna) (nI bnk) (nI bns) bsec bst bxal (pu_A bkd) (pu_A bfs) (pu_A bsc) (pu_A bsz) (pu_A bgr) (pu_A bac) bvc (pu_A bxl) (pu_A bxt) (pu_A bxs) (pu_A bxc) (pu_A bxat) (pu_A bxaa) (pu_A bxch) (pu_A w) (pu_A bxds) (pu_A bxtg) (pu_A bxnx) (pu_A bxft) := by
      intro s1 w
      refine ih (i + 1) (p + sk_w (xat i)) fu bnk bxl w bst bxal (by omega) (by omega) o2 at3 (by omega) hl (fun u hu k => ?_)
      rw [sr_Ks q3 d6] at k
      rcases k with k | ⟨k, _⟩
      · exact hK u hu k
      · exact absurd k s1
    rw [wL_law_769]
    refine br_f (nI_ge (by omega) (by omega)) (pg_thread A9 (by omega) ?_)
    have go : ∀ (c0 c1 c2 : Nat), c0 = sk_dg (p + sk_w (xat i)) 0 → c1 = sk_dg (p + sk_w (xat i)) 1 → c2 = sk_dg (p + sk_w (xat i)) 2 → wL_law_851 post L xss (wL_law_769 post L xss (nI n) (lN (lb_mm mp n)) (nI (xc 0)) (nI (xc 1)) (nI (xc 2)) (nI Lg) kc ks fu) (nI n) (lN (lb_mm mp n)) (nI (xc 0)) (nI (xc 1)) (nI (xc 2)) (nI Lg) (nI c0) (nI c1) (nI c2) (nI i) (nI (xat i)) (nI (sk_dg p (xat i) + 1)) kc ks (nI n) (nI na) (nI nk) (nI ns) (nI s0) 2 (nI Lg) (pu_A kd) (pu_A fs) (pu_A sc) (pu_A sz) (pu_A gr) (pu_A ac) vc (pu_A xl) (pu_A xt) (pu_A xs) (pu_A xc) (pu_A xat) (pu_A xaa) (pu_A xch) (pu_A xtw) (pu_A xds) (pu_A xtg) (pu_A xnx) (pu_A xft) (nI bn) (nI bna) (nI bnk) (nI bns) bsec bst bxal (pu_A bkd) (pu_A bfs) (pu_A bsc) (pu_A bsz) (pu_A bgr) (pu_A bac) bvc (pu_A bxl) (pu_A bxt) (pu_A bxs) (pu_A bxc) (pu_A bxat) (pu_A bxaa) (pu_A bxch) (pu_A bxtw) (pu_A bxds) (pu_A bxtg) (pu_A bxnx) (pu_A bxft) := by
      intro c0 c1 c2 e0 e1 e2
      subst e0 e1 e2
      exact st_851 A I' H q3 (by omega) (by omega) hl hK he (K1 _ _) K0
    refine pk_eq (xat i) 0 (fun e => nm_r (nI_1 _) (pk_le (sk_dg p 0 + 1) (xc 0) (fun _ => ?_) (fun l => ?_))) (fun e0 => pk_eq (xat i) 1 (fun e => nm_r (nI_1 _) (pk_le (sk_dg p 1 + 1) (xc 1) (fun _ => ?_) (fun l => ?_))) (fun e1 => pk_eq (xat i) 2 (fun e => nm_r (nI_1 _) (pk_le (sk_dg p 2 + 1) (xc 2) (fun _ => ?_) (fun l => ?_))) (fun e2 => by omega)))
    · have g := go (sk_dg p 0 + 1) (sk_dg p 1) (sk_dg p 2) (by rw [e] at d6 ⊢; rw [sk_up_s (by omega) d6]) (by rw [e] at d6 ⊢; rw [sk_up_o (by omega) (by omega) (by omega) d6]) (by rw [e] at d6 ⊢; rw [sk_up_o (by omega) (by omega) (by omega) d6])
      have e3 : sk_dg p (xat i) = sk_dg p 0 := by rw [e]
      rw [e3] at g
      exact g
    · rw [e] at dl; omega
    · have g := go (sk_dg p 0) (sk_dg p 1 + 1) (sk_dg p 2) (by rw [e] at d6 ⊢; rw [sk_up_o (by omega) (by omega) (by omega) d6]) (by rw [e] at d6 ⊢; rw [sk_up_s (by omega) d6]) (by rw [e] at d6 ⊢; rw [sk_up_o (by omega) (by omega) (by omega) d6])
      have e3 : sk_dg p (xat i) = sk_dg p 1 := by rw [e]
      rw [e3] at g
      exact g
    · rw [e] at dl; omega
    · have g := go (sk_dg p 0) (sk_dg p 1) (sk_dg p 2 + 1) (by rw [e] at d6 ⊢; rw [sk_up_o (by omega) (by omega) (by omega) d6]) (by rw [e] at d6 ⊢; rw [sk_up_o (by omega) (by omega) (by omega) d6]) (by rw [e] at d6 ⊢; rw [sk_up_s (by omega) d6])
      have e3 : sk_dg p (xat i) = sk_dg p 2 := by rw [e]
      rw [e3] at g
      exact g
    · rw [e] at dl; omega
end
