section
variable {n na nk ns : Nat} {sec st xal : Int32} {kd fs sc sz gr ac : Nat → Nat} {vc : Nat → Int32} {xl xt xs xc xat xaa xch xtw xds xtg xnx xft : Nat → Nat}
variable {bn bna bnk bns : Nat} {bsec bst bxal : Int32} {bkd bfs bsc bsz bgr bac : Nat → Nat} {bvc : Nat → Int32} {bxl bxt bxs bxc bxat bxaa bxch bxtw bxds bxtg bxnx bxft : Nat → Nat}
variable {s0 Lg code : Nat} {mp : Nat → Nat} {post : Int32 → Prop} {L : Nat} {xss : Nat → Int32} {kc ks : Nat}
theorem st_cnt {Q : Int32 → Prop} {k c : Nat} (r : Int32) (h : (r = -1 ∧ c ≤ k) ∨ (¬ r = -1 ∧ k < c)) (hq : Q (nI (min (k + 1) c))) : (r = -1 → Q (nI (min k c))) ∧ (¬ r = -1 → ∀ y, y = nI (min k c) + 1 → Q y) := by
  rcases h with ⟨e, l⟩ | ⟨e, l⟩
  · refine br_t e ?_
    have m : min k c = min (k + 1) c := by omega
    rw [m]; exact hq
  · refine br_f e (nm_r (nI_1 _) ?_)
    have m : min k c + 1 = min (k + 1) c := by omega
    rw [m]; exact hq
theorem st_E (A : pf_A n na nk ns s0 Lg code kd fs sc sz gr ac vc xl xt xs xc xat xaa) (I' : ci_I bkd bfs bsc bsz bgr bn bna bac bvc) (H : ∀ t, t < n → hm_T kd fs sc sz bkd bfs bsc bsz bgr bn ac (cn_d code) mp t) (hp : post 1)
    (hk : bnk ≤ nk) (hl : ∀ j, j < bnk → bxl j < bn) (hK : ∀ u, u < n → sr_K xl nk xt xs 0 u → ∃ j, j < bnk ∧ bxl j = mp u) :
    ∀ d k fu, k + d = 6 → d < fu → wL_law_682 post L xss (nI n) (lN (lb_mm mp n)) kc ks (nI n) (nI na) (nI nk) (nI ns) (nI s0) 2 (nI Lg) (pu_A kd) (pu_A fs) (pu_A sc) (pu_A sz) (pu_A gr) (pu_A ac) vc (pu_A xl) (pu_A xt) (pu_A xs) (pu_A xc) (pu_A xat) (pu_A xaa) (pu_A xch) (pu_A xtw) (pu_A xds) (pu_A xtg) (pu_A xnx) (pu_A xft) (nI bn) (nI bna) (nI bnk) (nI bns) bsec bst bxal (pu_A bkd) (pu_A bfs) (pu_A bsc) (pu_A bsz) (pu_A bgr) (pu_A bac) bvc (pu_A bxl) (pu_A bxt) (pu_A bxs) (pu_A bxc) (pu_A bxat) (pu_A bxaa) (pu_A bxch) (pu_A bxtw) (pu_A bxds) (pu_A bxtg) (pu_A bxnx) (pu_A bxft) fu (nI (min k (xc 0))) (nI (min k (xc 1))) (nI (min k (xc 2))) (nI k) := by
  obtain ⟨A1, A2, A3, A4, A5, ⟨yT, yS, yR, S⟩, A7, A8, A9, A10, A11, A12⟩ := id A
  have h6 := S.1
  have hc : ∀ j, j < 3 → xc j ≤ 6 := fun j hj => Nat.le_trans (sm_xc S hj) h6
  have c0 := hc 0 (by omega)
  have c1 := hc 1 (by omega)
  have c2 := hc 2 (by omega)
  intro d
  induction d with
  | zero =>
    intro k fu hk6 hfu
    obtain ⟨fu, rfl⟩ : ∃ m', fu = m' + 1 := ⟨fu - 1, by omega⟩
    have e : k = 6 := by omega
    subst e
    rw [wL_law_682]
    refine br_t (nI_le (a := 6) (by omega) (by omega)) (br_t rfl (br_f (nI_pos (by omega)) (pk_le Lg 6 (fun _ => ⟨Lg + 1, ?_⟩) (fun l => by omega))))
    rw [Nat.min_eq_right c0, Nat.min_eq_right c1, Nat.min_eq_right c2]
    exact st_F A I' H hp Lg 0 0 (Lg + 1) bnk bxl bxtw bst bxal (by omega) (by omega) cn_ok0 A12 (by omega) hl hK
  | succ d ih =>
    intro k fu hk6 hfu
    obtain ⟨fu, rfl⟩ : ∃ m', fu = m' + 1 := ⟨fu - 1, by omega⟩
    rw [wL_law_682]
    have nx := ih (k + 1) fu (by omega) (by omega)
    have n2 : ∀ c0' c1', c0' = nI (min (k + 1) (xc 0)) → c1' = nI (min (k + 1) (xc 1)) → wL_law_717 post L xss (wL_law_682 post L xss (nI n) (lN (lb_mm mp n)) kc ks (nI n) (nI na) (nI nk) (nI ns) (nI s0) 2 (nI Lg) (pu_A kd) (pu_A fs) (pu_A sc) (pu_A sz) (pu_A gr) (pu_A ac) vc (pu_A xl) (pu_A xt) (pu_A xs) (pu_A xc) (pu_A xat) (pu_A xaa) (pu_A xch) (pu_A xtw) (pu_A xds) (pu_A xtg) (pu_A xnx) (pu_A xft) (nI bn) (nI bna) (nI bnk) (nI bns) bsec bst bxal (pu_A bkd) (pu_A bfs) (pu_A bsc) (pu_A bsz) (pu_A bgr) (pu_A bac) bvc (pu_A bxl) (pu_A bxt) (pu_A bxs) (pu_A bxc) (pu_A bxat) (pu_A bxaa) (pu_A bxch) (pu_A bxtw) (pu_A bxds) (pu_A bxtg) (pu_A bxnx) (pu_A bxft) fu) (nI n) (lN (lb_mm mp n)) c0' c1' (nI (min k (xc 2))) (nI k) kc ks (nI n) (nI na) (nI nk) (nI ns) (nI s0) 2 (nI Lg) (pu_A kd) (pu_A fs) (pu_A sc) (pu_A sz) (pu_A gr) (pu_A ac) vc (pu_A xl) (pu_A xt) (pu_A xs) (pu_A xc) (pu_A xat) (pu_A xaa) (pu_A xch) (pu_A xtw) (pu_A xds) (pu_A xtg) (pu_A xnx) (pu_A xft) (nI bn) (nI bna) (nI bnk) (nI bns) bsec bst bxal (pu_A bkd) (pu_A bfs) (pu_A bsc) (pu_A bsz) (pu_A bgr) (pu_A bac) bvc (pu_A bxl) (pu_A bxt) (pu_A bxs) (pu_A bxc) (pu_A bxat) (pu_A bxaa) (pu_A bxch) (pu_A bxtw) (pu_A bxds) (pu_A bxtg) (pu_A bxnx) (pu_A bxft) := by
      intro c0' c1' e0 e1
      subst e0 e1
      unfold wL_law_717
      refine pg_step (j := 2) S (by omega) (by omega) (by omega) (fun l t1 t2 => br_f (gw_m1 (by omega)) (nm_r (nI_1 _) (nm_r (nI_1 k) ?_))) (fun l => br_t rfl (nm_r (nI_1 k) ?_))
      · have m : min k (xc 2) + 1 = min (k + 1) (xc 2) := by omega
        rw [m]; exact nx
      · have m : min k (xc 2) = min (k + 1) (xc 2) := by omega
        rw [m]; exact nx
    have n1 : ∀ c0', c0' = nI (min (k + 1) (xc 0)) → wL_law_703 post L xss (wL_law_682 post L xss (nI n) (lN (lb_mm mp n)) kc ks (nI n) (nI na) (nI nk) (nI ns) (nI s0) 2 (nI Lg) (pu_A kd) (pu_A fs) (pu_A sc) (pu_A sz) (pu_A gr) (pu_A ac) vc (pu_A xl) (pu_A xt) (pu_A xs) (pu_A xc) (pu_A xat) (pu_A xaa) (pu_A xch) (pu_A xtw) (pu_A xds) (pu_A xtg) (pu_A xnx) (pu_A xft) (nI bn) (nI bna) (nI bnk) (nI bns) bsec bst bxal (pu_A bkd) (pu_A bfs) (pu_A bsc) (pu_A bsz) (pu_A bgr) (pu_A bac) bvc (pu_A bxl) (pu_A bxt) (pu_A bxs) (pu_A bxc) (pu_A bxat) (pu_A bxaa) (pu_A bxch) (pu_A bxtw) (pu_A bxds) (pu_A bxtg) (pu_A bxnx) (pu_A bxft) fu) (nI n) (lN (lb_mm mp n)) c0' (nI (min k (xc 1))) (nI (min k (xc 2))) (nI k) kc ks (nI n) (nI na) (nI nk) (nI ns) (nI s0) 2 (nI Lg) (pu_A kd) (pu_A fs) (pu_A sc) (pu_A sz) (pu_A gr) (pu_A ac) vc (pu_A xl) (pu_A xt) (pu_A xs) (pu_A xc) (pu_A xat) (pu_A xaa) (pu_A xch) (pu_A xtw) (pu_A xds) (pu_A xtg) (pu_A xnx) (pu_A xft) (nI bn) (nI bna) (nI bnk) (nI bns) bsec bst bxal (pu_A bkd) (pu_A bfs) (pu_A bsc) (pu_A bsz) (pu_A bgr) (pu_A bac) bvc (pu_A bxl) (pu_A bxt) (pu_A bxs) (pu_A bxc) (pu_A bxat) (pu_A bxaa) (pu_A bxch) (pu_A bxtw) (pu_A bxds) (pu_A bxtg) (pu_A bxnx) (pu_A bxft) := by
      intro c0' e0
      unfold wL_law_703
      refine pg_step (j := 1) S (by omega) (by omega) (by omega) (fun l t1 t2 => br_f (gw_m1 (by omega)) (nm_r (nI_1 _) (n2 _ _ e0 ?_))) (fun l => br_t rfl (n2 _ _ e0 ?_))
      · congr 1; omega
      · congr 1; omega
    refine br_f (nI_ge (b := 6) (by omega) (by omega)) (pg_step (j := 0) S (by omega) (by omega) (by omega) (fun l t1 t2 => br_f (gw_m1 (by omega)) (nm_r (nI_1 _) (n1 _ ?_))) (fun l => br_t rfl (n1 _ ?_)))
    · congr 1; omega
    · congr 1; omega
theorem st_D (A : pf_A n na nk ns s0 Lg code kd fs sc sz gr ac vc xl xt xs xc xat xaa) (I' : ci_I bkd bfs bsc bsz bgr bn bna bac bvc) (H : ∀ t, t < n → hm_T kd fs sc sz bkd bfs bsc bsz bgr bn ac (cn_d code) mp t) (hp : post 1) :
    ∀ (d i fu : Nat) (bxl : Nat → Nat) (bst bxal : Int32), i + d = nk → d < fu → (∀ j, j < i → bxl j = mp (xl j)) → wL_law_620 post L xss (nI n) (lN (lb_mm mp n)) kc ks fu (nI i) (nI n) (nI na) (nI nk) (nI ns) (nI s0) 2 (nI Lg) (pu_A kd) (pu_A fs) (pu_A sc) (pu_A sz) (pu_A gr) (pu_A ac) vc (pu_A xl) (pu_A xt) (pu_A xs) (pu_A xc) (pu_A xat) (pu_A xaa) (pu_A xch) (pu_A xtw) (pu_A xds) (pu_A xtg) (pu_A xnx) (pu_A xft) (nI bn) (nI bna) (nI i) (nI bns) bsec bst bxal (pu_A bkd) (pu_A bfs) (pu_A bsc) (pu_A bsz) (pu_A bgr) (pu_A bac) bvc (pu_A bxl) (pu_A bxt) (pu_A bxs) (pu_A bxc) (pu_A bxat) (pu_A bxaa) (pu_A bxch) (pu_A bxtw) (pu_A bxds) (pu_A bxtg) (pu_A bxnx) (pu_A bxft) := by
  obtain ⟨A1, A2, A3, A4, A5, A6, A7, A8, A9, A10, A11, A12⟩ := id A
  have h64 := pf_64 I' H
  intro d
  induction d with
  | zero =>
    intro i fu bxl bst bxal hi hfu hx
    obtain ⟨fu, rfl⟩ : ∃ m', fu = m' + 1 := ⟨fu - 1, by omega⟩
    have e : i = nk := by omega
    subst e
    rw [wL_law_620]
    refine br_f (nI_ge (b := 8) (by omega) (by omega)) (pg_known (by omega) (by omega) (fun l => by omega) (fun l => br_f (by decide) ⟨7, ?_⟩))
    refine st_E A I' H hp (Nat.le_refl _) (fun j hj => ?_) (fun u hu k => ?_) 6 0 7 (by omega) (by omega)
    · rw [hx j hj]; exact (H _ (A7.2 j hj).1).1
    · obtain ⟨a, h1, h2⟩ := sr_K0.mp k
      exact ⟨a, h1, by rw [hx a h1, h2]⟩
  | succ d ih =>
    intro i fu bxl bst bxal hi hfu hx
    obtain ⟨fu, rfl⟩ : ∃ m', fu = m' + 1 := ⟨fu - 1, by omega⟩
    have xi := A7.2 i (by omega)
    obtain ⟨m1, m2, m3, m4, m5, m6⟩ := H _ xi.1
    rw [wL_law_620]
    refine br_f (nI_ge (b := 8) (by omega) (by omega)) (pg_known (by omega) (by omega) (fun l => br_t (nI_pos' (by omega)) (pk_lt (xl i) n (fun _ => lb_get A2 h64 xi.1 ?_) (fun l => by omega))) (fun l => by omega))
    refine pg_learn I' (by omega) m1 (fun _ _ => nm_r (nI_1 i) (ih (i + 1) fu _ _ _ (by omega) (by omega) (fun j hj => ?_))) (fun no => absurd ⟨m3, by omega⟩ no)
    by_cases e : j = i
    · rw [e, pu_us]
    · rw [pu_un e]; exact hx j (by omega)
end
