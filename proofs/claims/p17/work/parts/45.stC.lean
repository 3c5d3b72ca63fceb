section
variable {n na nk ns : Nat} {sec st xal : Int32} {kd fs sc sz gr ac : Nat → Nat} {vc : Nat → Int32} {xl xt xs xc xat xaa xch xtw xds xtg xnx xft : Nat → Nat}
variable {bn bna bnk bns : Nat} {bsec bst bxal : Int32} {bkd bfs bsc bsz bgr bac : Nat → Nat} {bvc : Nat → Int32} {bxl bxt bxs bxc bxat bxaa bxch bxtw bxds bxtg bxnx bxft : Nat → Nat}
variable {s0 Lg code : Nat} {mp : Nat → Nat} {post : Int32 → Prop} {L : Nat} {xss : Nat → Int32} {kc ks : Nat}
theorem st_mp {t x : Nat} (A : pf_A n na nk ns s0 Lg code kd fs sc sz gr ac vc xl xt xs xc xat xaa) (ht : t < n) (H : ∀ u, u < t → hm_T kd fs sc sz bkd bfs bsc bsz bgr bn ac (cn_d code) mp u) : ∀ u, u < t → hm_T kd fs sc sz bkd bfs bsc bsz bgr bn ac (cn_d code) (pu_upd mp t x) u := by
  obtain ⟨A1, A2, A3, A4, A5, A6, A7, A8, A9, A10, A11, A12⟩ := A
  intro u hu
  obtain ⟨m1, m2, m3, m4, m5, m6⟩ := H u hu
  have e : pu_upd mp t x u = mp u := pu_un (by omega)
  refine ⟨by rw [e]; exact m1, by rw [e]; exact m2, by rw [e]; exact m3, fun k => by rw [e]; exact m4 k, fun k => ?_, fun k => ?_⟩
  · have d := (A11 u (by omega) k).1
    have a := A4 _ d
    have na1 := A5 u (by omega) (by omega)
    rw [e, pu_un (by omega)]
    exact m5 k
  · obtain ⟨c1, c2, c3, _⟩ := ci_k3 A1 (by omega : u < n) k
    rw [e, pu_un (by omega), pu_un (by omega)]
    exact m6 k
theorem st_grow {t bn' : Nat} {kd' fs' sc' sz' gr' : Nat → Nat} (hb : bn ≤ bn') (ek : ∀ t, t < bn → kd' t = bkd t) (ef : ∀ t, t < bn → fs' t = bfs t) (es : ∀ t, t < bn → sc' t = bsc t) (ez : ∀ t, t < bn → sz' t = bsz t) (eg : ∀ t, t < bn → gr' t = bgr t) (H : ∀ u, u < t → hm_T kd fs sc sz bkd bfs bsc bsz bgr bn ac (cn_d code) mp u) : ∀ u, u < t → hm_T kd fs sc sz kd' fs' sc' sz' gr' bn' ac (cn_d code) mp u := by
  intro u hu
  obtain ⟨m1, m2, m3, m4, m5, m6⟩ := H u hu
  refine ⟨by omega, by rw [ez _ m1]; exact m2, by rw [eg _ m1]; exact m3, fun k => by rw [ek _ m1, es _ m1]; exact m4 k, m5, fun k => by rw [ek _ m1, ef _ m1, es _ m1]; exact m6 k⟩
theorem st_583 {J : (Int64 → Int32 → Int32 → Int32 → Int32 → Int32 → Int32 → Int32 → Int32 → (Nat → Int32) → (Nat → Int32) → (Nat → Int32) → (Nat → Int32) → (Nat → Int32) → (Nat → Int32) → (Nat → Int32) → (Nat → Int32) → (Nat → Int32) → (Nat → Int32) → (Nat → Int32) → (Nat → Int32) → (Nat → Int32) → (Nat → Int32) → (Nat → Int32) → (Nat → Int32) → (Nat → Int32) → (Nat → Int32) → (Nat → Int32) → Int32 → Int32 → Int32 → Int32 → Int32 → Int32 → Int32 → (Nat → Int32) → (Nat → Int32) → (Nat → Int32) → (Nat → Int32) → (Nat → Int32) → (Nat → Int32) → (Nat → Int32) → (Nat → Int32) → (Nat → Int32) → (Nat → Int32) → (Nat → Int32) → (Nat → Int32) → (Nat → Int32) → (Nat → Int32) → (Nat → Int32) → (Nat → Int32) → (Nat → Int32) → (Nat → Int32) → (Nat → Int32) → Prop)} {t id : Nat} (hn : n ≤ 10) (ht : t < n) (h6 : ∀ v, v < t → mp v < 64) (hid : id < 64) (K : J (lN (lb_mm (pu_upd mp t id) (t + 1))) (nI (t + 1)) (nI n) (nI na) (nI nk) (nI ns) (nI s0) 2 (nI Lg) (pu_A kd) (pu_A fs) (pu_A sc) (pu_A sz) (pu_A gr) (pu_A ac) vc (pu_A xl) (pu_A xt) (pu_A xs) (pu_A xc) (pu_A xat) (pu_A xaa) (pu_A xch) (pu_A xtw) (pu_A xds) (pu_A xtg) (pu_A xnx) (pu_A xft) (nI bn) (nI bna) (nI bnk) (nI bns) bsec bst bxal (pu_A bkd) (pu_A bfs) (pu_A bsc) (pu_A bsz) (pu_A bgr) (pu_A bac) bvc (pu_A bxl) (pu_A bxt) (pu_A bxs) (pu_A bxc) (pu_A bxat) (pu_A bxaa) (pu_A bxch) (pu_A bxtw) (pu_A bxds) (pu_A bxtg) (pu_A bxnx) (pu_A bxft)) : wL_law_583 post L xss J (nI n) (lN (lb_mm mp t)) (nI t) (nI id) kc ks (nI n) (nI na) (nI nk) (nI ns) (nI s0) 2 (nI Lg) (pu_A kd) (pu_A fs) (pu_A sc) (pu_A sz) (pu_A gr) (pu_A ac) vc (pu_A xl) (pu_A xt) (pu_A xs) (pu_A xc) (pu_A xat) (pu_A xaa) (pu_A xch) (pu_A xtw) (pu_A xds) (pu_A xtg) (pu_A xnx) (pu_A xft) (nI bn) (nI bna) (nI bnk) (nI bns) bsec bst bxal (pu_A bkd) (pu_A bfs) (pu_A bsc) (pu_A bsz) (pu_A bgr) (pu_A bac) bvc (pu_A bxl) (pu_A bxt) (pu_A bxs) (pu_A bxc) (pu_A bxat) (pu_A bxaa) (pu_A bxch) (pu_A bxtw) (pu_A bxds) (pu_A bxtg) (pu_A bxnx) (pu_A bxft) :=
  br_f (nI_pos (by omega)) (pk_le id 63 (fun _ => nm_r (lb_or (by omega) h6 hid) (nm_r (nI_1 t) K)) (fun l => by omega))
theorem st_C (A : pf_A n na nk ns s0 Lg code kd fs sc sz gr ac vc xl xt xs xc xat xaa) (hp : post 1) :
    ∀ (d t fu bn bna : Nat) (bst bxal : Int32) (bkd bfs bsc bsz bgr bac mp : Nat → Nat), t + d = n → d < fu → bn ≤ t → bna ≤ t → ci_I bkd bfs bsc bsz bgr bn bna bac bvc → (∀ u, u < t → hm_T kd fs sc sz bkd bfs bsc bsz bgr bn ac (cn_d code) mp u) → wL_law_390 post L xss (nI n) kc ks fu (lN (lb_mm mp t)) (nI t) (nI n) (nI na) (nI nk) (nI ns) (nI s0) 2 (nI Lg) (pu_A kd) (pu_A fs) (pu_A sc) (pu_A sz) (pu_A gr) (pu_A ac) vc (pu_A xl) (pu_A xt) (pu_A xs) (pu_A xc) (pu_A xat) (pu_A xaa) (pu_A xch) (pu_A xtw) (pu_A xds) (pu_A xtg) (pu_A xnx) (pu_A xft) (nI bn) (nI bna) 0 (nI bns) bsec bst bxal (pu_A bkd) (pu_A bfs) (pu_A bsc) (pu_A bsz) (pu_A bgr) (pu_A bac) bvc (pu_A bxl) (pu_A bxt) (pu_A bxs) (pu_A bxc) (pu_A bxat) (pu_A bxaa) (pu_A bxch) (pu_A bxtw) (pu_A bxds) (pu_A bxtg) (pu_A bxnx) (pu_A bxft) := by
  obtain ⟨A1, A2, A3, A4, A5, A6, A7, A8, A9, A10, A11, A12⟩ := id A
  intro d
  induction d with
  | zero =>
    intro t fu bn bna bst bxal bkd bfs bsc bsz bgr bac mp ht hfu hbn hbna I' H
    obtain ⟨fu, rfl⟩ : ∃ m', fu = m' + 1 := ⟨fu - 1, by omega⟩
    have e : t = n := by omega
    subst e
    rw [wL_law_390]
    exact br_t (nI_le (Nat.le_refl t) (by omega)) ⟨nk + 1, st_D A I' H hp nk 0 (nk + 1) bxl bst bxal (by omega) (by omega) (fun j hj => by omega)⟩
  | succ d ih =>
    intro t fu bn bna bst bxal bkd bfs bsc bsz bgr bac mp ht hfu hbn hbna I' H
    obtain ⟨fu, rfl⟩ : ∃ m', fu = m' + 1 := ⟨fu - 1, by omega⟩
    have ht' : t < n := by omega
    have h64 : ∀ v, v < t → mp v < 64 := fun v hv => by have h := (H v hv).1; omega
    have kk := ci_kd A1 ht'
    have bb := ci_b A1 ht'
    rw [wL_law_390]
    refine br_f (nI_ge ht' (by omega)) (pg_cell0 (by omega) ht' (pk_eq (kd t) 1 (fun k1 => ?_) (fun k1 => pk_eq (kd t) 2 (fun k2 => ?_) (fun k2 => ?_))))
    · obtain ⟨f1, f2, f3, f4, f5⟩ := ci_k1 A1 ht' k1
      have t3 : t < na := by
        have h := A4 _ f1
        omega
      have go : ∀ b, b = sc t → wL_law_429 post L xss (wL_law_390 post L xss (nI n) kc ks fu) (nI n) (lN (lb_mm mp t)) (nI t) (nI b) kc ks (nI n) (nI na) (nI nk) (nI ns) (nI s0) 2 (nI Lg) (pu_A kd) (pu_A fs) (pu_A sc) (pu_A sz) (pu_A gr) (pu_A ac) vc (pu_A xl) (pu_A xt) (pu_A xs) (pu_A xc) (pu_A xat) (pu_A xaa) (pu_A xch) (pu_A xtw) (pu_A xds) (pu_A xtg) (pu_A xnx) (pu_A xft) (nI bn) (nI bna) 0 (nI bns) bsec bst bxal (pu_A bkd) (pu_A bfs) (pu_A bsc) (pu_A bsz) (pu_A bgr) (pu_A bac) bvc (pu_A bxl) (pu_A bxt) (pu_A bxs) (pu_A bxc) (pu_A bxat) (pu_A bxaa) (pu_A bxch) (pu_A bxtw) (pu_A bxds) (pu_A bxtg) (pu_A bxnx) (pu_A bxft) := by
        intro b eb
        unfold wL_law_429
        refine pg_atom (nk := 0) (b := b) (by omega) (by omega) (by omega) (st_583 A2 ht' h64 (by omega) (ih (t + 1) fu (bn + 1) (bna + 1) _ _ _ _ _ _ _ _ _ (by omega) (by omega) (by omega) (by omega) (gw_atom I' (by omega) (by omega) (by omega)) (fun u hu => ?_)))
        by_cases e : u = t
        · subst e
          refine ⟨by rw [pu_us]; omega, by rw [pu_us, pu_us]; exact f4.symm, by rw [pu_us, pu_us], fun _ => ?_, fun k => by omega, fun k => by omega⟩
          rw [pu_us, pu_us, pu_us]
          exact ⟨rfl, eb⟩
        · exact st_grow (by omega) (fun x hx => pu_un (by omega)) (fun x hx => pu_un (by omega)) (fun x hx => pu_un (by omega)) (fun x hx => pu_un (by omega)) (fun x hx => pu_un (by omega)) (st_mp A ht' H) u (by omega)
      refine pg_cell2 (by omega) ht' (pk_eq (sc t) 1 (fun s1 => ?_) (fun s1 => ?_))
      · exact go 1 s1.symm
      · exact go 0 (by omega)
    · obtain ⟨f1, f2, f3, f4, f5⟩ := ci_k2 A1 ht' k2
      obtain ⟨d1, d2⟩ := A11 t ht' k2
      have ad := A4 _ d1
      have nat := A5 t ht' (by omega)
      obtain ⟨a1, a2, a3⟩ := A1.2.2.2.1 _ d1
      have ne : ¬ vc (fs t) = -1 := by rw [f2]; exact gw_m1 (by omega)
      have Ha := H (ac (cn_d code (fs t))) (by omega)
      have sa := (ci_k1 A1 a1 a2).2.2.2.1
      refine pg_cell1 (by omega) ht' (pg_value f1 ne ?_)
      rw [d2]
      refine br_f (nI_pos (by omega)) (pk_le t (ac (cn_d code (fs t))) (fun l => by omega) (fun _ => pg_cell0 (by omega) a1 (pk_eq (kd (ac (cn_d code (fs t)))) 1 (fun _ => lb_get (by omega) h64 (by omega) (st_583 A2 ht' h64 (by have h := Ha.1; omega) (ih (t + 1) fu bn bna bst bxal bkd bfs bsc bsz bgr bac _ (by omega) (by omega) (by omega) (by omega) I' (fun u hu => ?_)))) (fun l => absurd a2 l))))
      by_cases e : u = t
      · subst e
        refine ⟨by rw [pu_us]; exact Ha.1, by rw [pu_us, Ha.2.1, sa, f4], by rw [pu_us]; exact Ha.2.2.1, fun k => by omega, fun _ => by rw [pu_us, pu_un (by omega)], fun k => by omega⟩
      · exact st_mp A ht' H u (by omega)
    · have k3 : 3 ≤ kd t := by omega
      obtain ⟨c1, c2, c3, c4, c5, c6, c7⟩ := ci_k3 A1 ht' k3
      obtain ⟨p1, p2, p3, p4, p5, p6⟩ := H (fs t) c2
      obtain ⟨q1, q2, q3, q4, q5, q6⟩ := H (sc t) c3
      have go : wL_law_511 post L xss (wL_law_390 post L xss (nI n) kc ks fu) (nI n) (lN (lb_mm mp t)) (nI t) (nI (kd t)) kc ks (nI n) (nI na) (nI nk) (nI ns) (nI s0) 2 (nI Lg) (pu_A kd) (pu_A fs) (pu_A sc) (pu_A sz) (pu_A gr) (pu_A ac) vc (pu_A xl) (pu_A xt) (pu_A xs) (pu_A xc) (pu_A xat) (pu_A xaa) (pu_A xch) (pu_A xtw) (pu_A xds) (pu_A xtg) (pu_A xnx) (pu_A xft) (nI bn) (nI bna) 0 (nI bns) bsec bst bxal (pu_A bkd) (pu_A bfs) (pu_A bsc) (pu_A bsz) (pu_A bgr) (pu_A bac) bvc (pu_A bxl) (pu_A bxt) (pu_A bxs) (pu_A bxc) (pu_A bxat) (pu_A bxaa) (pu_A bxch) (pu_A bxtw) (pu_A bxds) (pu_A bxtg) (pu_A bxnx) (pu_A bxft) := by
        unfold wL_law_511
        refine pg_cell1 (by omega) ht' (pg_cell2 (by omega) ht' (br_f (nI_pos (by omega)) (pk_le t (fs t) (fun l => by omega) (fun _ => br_f (nI_pos (by omega)) (pk_lt (sc t) t (fun _ => lb_get (by omega) h64 c2 (lb_get (by omega) h64 c3 ?_)) (fun l => by omega))))))
        refine pg_compose (nk := 0) I' (by omega) k3 c1 p1 q1 (fun l => by omega) (fun u hu m => st_583 A2 ht' h64 (by omega) (ih (t + 1) fu bn bna bst bxal bkd bfs bsc bsz bgr bac _ (by omega) (by omega) (by omega) (by omega) I' (fun v hv => ?_))) (fun l no g hg hg' => st_583 A2 ht' h64 (by omega) (ih (t + 1) fu (bn + 1) bna bst bxal _ _ _ _ _ bac _ (by omega) (by omega) (by omega) (by omega) (gw_comp I' (by omega) k3 c1 p1 q1 l hg hg' no) (fun v hv => ?_)))
        · by_cases e : v = t
          · subst e
            obtain ⟨z1, z2, z3, z4, z5, z6, z7⟩ := ci_k3 I' hu (by omega)
            refine ⟨by rw [pu_us]; exact hu, ?_, ?_, fun k => by omega, fun k => by omega, fun _ => ?_⟩
            · rw [pu_us, z4, m.2.1, m.2.2, p2, q2]; exact c4.symm
            · rw [pu_us]; exact z6.mpr ⟨by rw [m.2.1]; exact p3, by rw [m.2.2]; exact q3⟩
            · rw [pu_us, pu_un (by omega), pu_un (by omega)]; exact m
          · exact st_mp A ht' H v (by omega)
        · by_cases e : v = t
          · subst e
            refine ⟨by rw [pu_us]; omega, ?_, ?_, fun k => by omega, fun k => by omega, fun _ => ?_⟩
            · rw [pu_us, pu_us, p2, q2]; exact c4.symm
            · rw [pu_us, pu_us]; exact hg'.mpr ⟨p3, q3⟩
            · rw [pu_us, pu_us, pu_us, pu_us, pu_un (by omega), pu_un (by omega)]; exact ⟨rfl, rfl, rfl⟩
          · exact st_grow (by omega) (fun x hx => pu_un (by omega)) (fun x hx => pu_un (by omega)) (fun x hx => pu_un (by omega)) (fun x hx => pu_un (by omega)) (fun x hx => pu_un (by omega)) (st_mp A ht' H) v (by omega)
      exact pk_eq (kd t) 3 (fun _ => go) (fun e3 => pk_eq (kd t) 4 (fun _ => go) (fun e4 => pk_eq (kd t) 5 (fun _ => go) (fun e5 => by omega)))
end
