section
def sk_r (sk : Nat → Nat) : List Nat → Prop
  | [] => True
  | x :: r => sk r.length = x ∧ sk_r sk r
def sk_sum (sz : Nat → Nat) : List Nat → Nat
  | [] => 0
  | x :: r => sz x + sk_sum sz r
theorem sk_r_up {sk : Nat → Nat} {k v : Nat} : ∀ (L : List Nat), L.length ≤ k → sk_r sk L → sk_r (pu_upd sk k v) L := by
  intro L
  induction L with
  | nil => intro _ _; trivial
  | cons x r ih =>
    intro hl h
    have h' : sk r.length = x ∧ sk_r sk r := h
    rw [List.length_cons] at hl
    exact ⟨(pu_un (by omega)).trans h'.1, ih (by omega) h'.2⟩
theorem sk_sum_len {sz : Nat → Nat} {n : Nat} (hz : ∀ t, t < n → 1 ≤ sz t) : ∀ (L : List Nat), (∀ x, x ∈ L → x < n) → L.length ≤ sk_sum sz L := by
  intro L
  induction L with
  | nil => intro _; exact Nat.le_refl 0
  | cons x r ih =>
    intro h
    have h1 := ih (fun y hy => h y (by simp [hy]))
    have h2 := hz x (h x (by simp))
    have e : sk_sum sz (x :: r) = sz x + sk_sum sz r := rfl
    rw [e, List.length_cons]; omega
variable {n na nk ns : Nat} {sec st xal ybl : Int32} {yna : Nat} {kd fs sc sz gr ac : Nat → Nat} {vc : Nat → Int32} {xl xt xs xc xat xaa xch xtw xds xtg xnx xft : Nat → Nat} {yl yT yS yR ybq ybv yv yan ysk yea yeb yq ych ykl ycn : Nat → Nat}
theorem ym_ig {post : Int32 → SY → Prop} (I : ci_I kd fs sc sz gr n na ac vc) : ∀ s (L : List Nat) it m (sk : Nat → Nat), sk_sum sz L ≤ s → it + s ≤ 40 → s < m → (∀ x, x ∈ L → x < n) → sk_r sk L →
    ((∀ x, x ∈ L → gr x = 1) → ∀ sk', post 1 ((nI n), (nI na), (nI nk), (nI ns), sec, st, ybl, (nI yna), (pu_A kd), (pu_A fs), (pu_A sc), (pu_A sz), (pu_A ac), vc, (pu_A yl), (pu_A yT), (pu_A yS), (pu_A yR), (pu_A ybq), (pu_A ybv), (pu_A yv), (pu_A yan), (pu_A sk'), (pu_A yea), (pu_A yeb), (pu_A yq), (pu_A ych), (pu_A ykl), (pu_A ycn))) → ((¬ ∀ x, x ∈ L → gr x = 1) → ∀ sk', post 0 ((nI n), (nI na), (nI nk), (nI ns), sec, st, ybl, (nI yna), (pu_A kd), (pu_A fs), (pu_A sc), (pu_A sz), (pu_A ac), vc, (pu_A yl), (pu_A yT), (pu_A yS), (pu_A yR), (pu_A ybq), (pu_A ybv), (pu_A yv), (pu_A yan), (pu_A sk'), (pu_A yea), (pu_A yeb), (pu_A yq), (pu_A ych), (pu_A ykl), (pu_A ycn))) →
    wY_isGround_11 post (nI n) (nI na) (nI nk) (nI ns) sec st ybl (nI yna) m (nI L.length) (nI it) (pu_A kd) (pu_A fs) (pu_A sc) (pu_A sz) (pu_A ac) vc (pu_A yl) (pu_A yT) (pu_A yS) (pu_A yR) (pu_A ybq) (pu_A ybv) (pu_A yv) (pu_A yan) (pu_A sk) (pu_A yea) (pu_A yeb) (pu_A yq) (pu_A ych) (pu_A ykl) (pu_A ycn) := by
  have hn := I.1
  have hz : ∀ t, t < n → 1 ≤ sz t := fun t ht => (ci_sz I t ht).1
  intro s
  induction s with
  | zero =>
    intro L it m sk hs hit hm hL hr h1 h0
    obtain ⟨m, rfl⟩ : ∃ m', m = m' + 1 := ⟨m - 1, by omega⟩
    have l := sk_sum_len hz L hL
    cases L with
    | nil =>
      rw [wY_isGround_11]
      exact br_f (nI_ge (b := 64) (by omega) (by omega)) (br_t (by decide) (h1 (fun x hx => by simp at hx) sk))
    | cons x r => rw [List.length_cons] at l; omega
  | succ s ih =>
    intro L it m sk hs hit hm hL hr h1 h0
    obtain ⟨m, rfl⟩ : ∃ m', m = m' + 1 := ⟨m - 1, by omega⟩
    have l := sk_sum_len hz L hL
    cases L with
    | nil =>
      rw [wY_isGround_11]
      exact br_f (nI_ge (b := 64) (by omega) (by omega)) (br_t (by decide) (h1 (fun x hx => by simp at hx) sk))
    | cons x r =>
      have es : sk_sum sz (x :: r) = sz x + sk_sum sz r := rfl
      rw [es] at hs l
      rw [List.length_cons] at l
      have hx : x < n := hL x (by simp)
      have hr' : sk r.length = x ∧ sk_r sk r := hr
      have hLr : ∀ y, y ∈ r → y < n := fun y hy => hL y (by simp [hy])
      have lr := sk_sum_len hz r hLr
      have zx := hz x hx
      have bk := ci_kd I hx
      have bb := ci_b I hx
      have wr : vp_in (nI r.length) 64 := vp_in_nI (by omega) (by omega)
      have wx : vp_in (nI x) 64 := vp_in_nI (by omega) (by omega)
      have ex : pu_A sk (nI r.length).toNatClampNeg = nI x := by rw [pu_Ag sk (by omega), hr'.1]
      rw [wY_isGround_11, List.length_cons]
      refine br_f (nI_ge (b := 64) (by omega) (by omega)) (br_f (nI_nle (by omega) (by omega)) (nm_r (pk_m1 r.length) ⟨wr, nm_r ex ⟨wx, pk_eq (kd x) 2 (fun k2 => ?_) (fun k2 => ⟨wx, pk_lt (kd x) 3 (fun k3 => ?_) (fun k3 => ?_) (pu_Ag kd (by omega))⟩) (pu_Ag kd (by omega))⟩⟩))
      · refine h0 (fun a => ?_) sk
        have g1 := a x (by simp)
        have g2 := (ci_k2 I hx k2).2.2.2.2
        omega
      · refine nm_r (nI_1 it) (ih r (it + 1) m sk (by omega) (by omega) (by omega) hLr hr'.2 (fun a => h1 (fun y hy => ?_)) (fun a => h0 (fun b => a (fun y hy => b y (by simp [hy])))))
        rcases List.mem_cons.mp hy with e | e
        · rw [e]; exact (ci_k1 I hx (by omega)).2.2.2.2
        · exact a y e
      · obtain ⟨c1, c2, c3, c4, c5, c6, c7⟩ := ci_k3 I hx k3
        have e2 : nI r.length + 2 = nI (r.length + 2) := nI_add r.length 2
        have e1 : nI r.length + 1 = nI (r.length + 1) := nI_1 r.length
        have w1 : vp_in (nI r.length + 1) 64 := by rw [e1]; exact vp_in_nI (by omega) (by omega)
        have zf := hz (fs x) (by omega)
        have zs := hz (sc x) (by omega)
        refine br_f (by rw [e2]; exact nI_nlt (a := 64) (by omega) (by omega)) ⟨wx, wr, nm_r (rl_up (k := r.length) (x := fs x) (by omega) rfl (pu_Ag fs (by omega))) ⟨wx, w1, nm_r (rl_up (k := r.length + 1) (x := sc x) (by omega) e1 (pu_Ag sc (by omega))) (nm_r e2 (nm_r (nI_1 it) ?_))⟩⟩
        refine ih (sc x :: fs x :: r) (it + 1) m _ ?_ (by omega) (by omega) ?_ ⟨pu_us, (pu_un (by omega)).trans pu_us, sk_r_up r (by omega) (sk_r_up r (by omega) hr'.2)⟩ (fun a => h1 (fun y hy => ?_)) (fun a => h0 (fun b => a (fun y hy => ?_)))
        · show sz (sc x) + (sz (fs x) + sk_sum sz r) ≤ s
          omega
        · intro y hy
          rcases List.mem_cons.mp hy with e | e
          · omega
          · rcases List.mem_cons.mp e with e | e
            · omega
            · exact hLr y e
        · rcases List.mem_cons.mp hy with e | e
          · rw [e]; exact c6.mpr ⟨a _ (by simp), a _ (by simp)⟩
          · exact a y (by simp [e])
        · have gx := c6.mp (b x (by simp))
          rcases List.mem_cons.mp hy with e | e
          · rw [e]; exact gx.2
          · rcases List.mem_cons.mp e with e | e
            · rw [e]; exact gx.1
            · exact b y (by simp [e])
theorem ym_isGround {post : Int32 → SY → Prop} {t : Nat} (I : ci_I kd fs sc sz gr n na ac vc) (ht : t < n) (h1 : gr t = 1 → ∀ sk', post 1 ((nI n), (nI na), (nI nk), (nI ns), sec, st, ybl, (nI yna), (pu_A kd), (pu_A fs), (pu_A sc), (pu_A sz), (pu_A ac), vc, (pu_A yl), (pu_A yT), (pu_A yS), (pu_A yR), (pu_A ybq), (pu_A ybv), (pu_A yv), (pu_A yan), (pu_A sk'), (pu_A yea), (pu_A yeb), (pu_A yq), (pu_A ych), (pu_A ykl), (pu_A ycn))) (h0 : gr t ≠ 1 → ∀ sk', post 0 ((nI n), (nI na), (nI nk), (nI ns), sec, st, ybl, (nI yna), (pu_A kd), (pu_A fs), (pu_A sc), (pu_A sz), (pu_A ac), vc, (pu_A yl), (pu_A yT), (pu_A yS), (pu_A yR), (pu_A ybq), (pu_A ybv), (pu_A yv), (pu_A yan), (pu_A sk'), (pu_A yea), (pu_A yeb), (pu_A yq), (pu_A ych), (pu_A ykl), (pu_A ycn))) : wpY_isGround post ((nI n), (nI na), (nI nk), (nI ns), sec, st, ybl, (nI yna), (pu_A kd), (pu_A fs), (pu_A sc), (pu_A sz), (pu_A ac), vc, (pu_A yl), (pu_A yT), (pu_A yS), (pu_A yR), (pu_A ybq), (pu_A ybv), (pu_A yv), (pu_A yan), (pu_A ysk), (pu_A yea), (pu_A yeb), (pu_A yq), (pu_A ych), (pu_A ykl), (pu_A ycn)) (nI t) := by
  have hz := ci_sz I t ht
  refine nm_r (e' := pu_A (pu_upd ysk 0 t)) (pu_Au ysk 0 t) ⟨34, ym_ig I 32 [t] 0 34 _ ?_ (by omega) (by omega) (fun x hx => ?_) ⟨pu_us, trivial⟩ (fun a => h1 (a t (by simp))) (fun a => h0 (fun g => a (fun x hx => ?_)))⟩
  · show sz t + 0 ≤ 32
    omega
  · rcases List.mem_cons.mp hx with e | e
    · omega
    · simp at e
  · rcases List.mem_cons.mp hx with e | e
    · rw [e]; exact g
    · simp at e
theorem rl_Rlearn {t : Nat} (R : rl_R n na nk ns sec st xal ybl kd fs sc sz gr ac vc xl xt xs xc xat xaa yl yT yS yR ybq ybv) (h8 : nk < 8) (ht : t < n) (g : gr t = 1) :
    rl_R n na (nk + 1) ns sec 0 (-1) (-1) kd fs sc sz gr ac vc (pu_upd xl nk t) xt xs xc xat xaa (pu_upd yl nk t) yT yS yR ybq ybv := by
  obtain ⟨r1, r2, r3, r4, r5⟩ := R
  refine ⟨r1, r2, ⟨by omega, fun i hi => ?_⟩, r4, rl_st0⟩
  by_cases e : i = nk
  · rw [e, pu_us, pu_us]; exact ⟨rfl, ht, g⟩
  · rw [pu_un e, pu_un e]; exact r3.2 i (by omega)
theorem i_vc_learn {k : Nat} {u : SX} {v : SY} (I : i_Rel k u v) (hk : k + 4 ≤ 2048) (v1 : Int32) : wpX_learn (fun r u' => wpY_learn (fun r' v' => r' = r ∧ i_Rel (k + 4) u' v') v v1) u v1 := by
  obtain ⟨n, na, nk, ns, sec, st, xal, ybl, yna, kd, fs, sc, sz, gr, ac, vc, xl, xt, xs, xc, xat, xaa, xch, xtw, xds, xtg, xnx, xft, yl, yT, yS, yR, ybq, ybv, yv, yan, ysk, yea, yeb, yq, ych, ykl, ycn, rfl, rfl, R⟩ := I
  have hn := R.1.1
  have h8 := R.2.2.1.1
  unfold wpX_learn wpY_learn
  rcases rl_split n v1 (by omega) with b | ⟨t, ht, rfl⟩
  · refine xm_bad b (br_t rfl ?_)
    exact ym_bad b (br_t rfl ⟨rfl, rl_mk R⟩)
  · have w : vp_in (nI t) 64 := vp_in_nI (by omega) (by omega)
    have g := ci_gr R.1 ht
    refine xm_in hn ht (br_f (by decide) ⟨w, pk_eq (gr t) 0 (fun g0 => ?_) (fun g1 => pk_lt nk 8 (fun l => ⟨vp_in_nI l (by omega), nm_r (rl_up (x := t) (by omega) rfl rfl) (nm_r (nI_1 nk) (xm_reset ?_))⟩) (fun l => ?_)) (pu_Ag gr (by omega))⟩)
    · refine ym_in hn ht (br_f (by decide) (ym_isGround R.1 ht (fun h => by omega) (fun _ sk' => br_t rfl ⟨rfl, rl_mk R⟩)))
    · refine ym_in hn ht (br_f (by decide) (ym_isGround R.1 ht (fun h sk' => ?_) (fun h => by omega)))
      exact br_f (by decide) (pk_lt nk 8 (fun _ => ⟨vp_in_nI (by omega) (by omega), nm_r (rl_up (x := t) (by omega) rfl rfl) (nm_r (nI_1 nk) (ym_reset ⟨rfl, rl_mk (rl_Rlearn R l ht h)⟩))⟩) (fun h => by omega))
    · refine ym_in hn ht (br_f (by decide) (ym_isGround R.1 ht (fun h sk' => ?_) (fun h => by omega)))
      exact br_f (by decide) (pk_lt nk 8 (fun h => by omega) (fun _ => ⟨rfl, rl_mk R⟩))
end
