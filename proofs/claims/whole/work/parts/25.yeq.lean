section
def yw_W (kd fs sc sz : Nat → Nat) (n : Nat) (tw rs : Nat → Nat) (G : Nat → Prop) (yv : Nat → Nat) : Prop :=
  tc_Y kd fs sc n tw sz rs G ∧ n ≤ 64 ∧ (∀ t, t < n → kd t ≤ 5 ∧ fs t < 64 ∧ sc t < 64) ∧ (∀ t, t < n → G t → kd t = 2 → fs t < 3 ∧ yv (fs t) = rs t)
def eq_r (ea eb : Nat → Nat) : List (Nat × Nat) → Prop
  | [] => True
  | x :: r => ea r.length = x.1 ∧ eb r.length = x.2 ∧ eq_r ea eb r
def eq_sum (sz : Nat → Nat) : List (Nat × Nat) → Nat
  | [] => 0
  | x :: r => sz x.1 + eq_sum sz r
theorem eq_r_up {ea eb : Nat → Nat} {k v w : Nat} : ∀ (L : List (Nat × Nat)), L.length ≤ k → eq_r ea eb L → eq_r (pu_upd ea k v) (pu_upd eb k w) L := by
  intro L
  induction L with
  | nil => intro _ _; trivial
  | cons x r ih =>
    intro hl h
    have h' : ea r.length = x.1 ∧ eb r.length = x.2 ∧ eq_r ea eb r := h
    rw [List.length_cons] at hl
    exact ⟨(pu_un (by omega)).trans h'.1, (pu_un (by omega)).trans h'.2.1, ih (by omega) h'.2.2⟩
theorem eq_sum_len {sz : Nat → Nat} {n : Nat} {G : Nat → Prop} (hz : ∀ t, t < n → 1 ≤ sz t) : ∀ (L : List (Nat × Nat)), (∀ x, x ∈ L → x.1 < n ∧ x.2 < n ∧ G x.1 ∧ G x.2) → L.length ≤ eq_sum sz L := by
  intro L
  induction L with
  | nil => intro _; exact Nat.le_refl 0
  | cons x r ih =>
    intro h
    have h1 := ih (fun y hy => h y (by simp [hy]))
    have h2 := hz x.1 (h x (by simp)).1
    have e : eq_sum sz (x :: r) = sz x.1 + eq_sum sz r := rfl
    rw [e, List.length_cons]; omega
variable {n na nk ns : Nat} {sec st xal ybl : Int32} {yna : Nat} {kd fs sc sz gr ac : Nat → Nat} {vc : Nat → Int32} {yl yT yS yR ybq ybv yv yan ysk yea yeb yq ych ykl ycn : Nat → Nat}
variable {tw rs : Nat → Nat} {G : Nat → Prop}
theorem ym_res {post : Int32 → Prop} {t : Nat} (W : yw_W kd fs sc sz n tw rs G yv) (ht : t < n) (g : G t) (h : post (nI (rs t))) : wpY_resolve post ((nI n), (nI na), (nI nk), (nI ns), sec, st, ybl, (nI yna), (pu_A kd), (pu_A fs), (pu_A sc), (pu_A sz), (pu_A ac), vc, (pu_A yl), (pu_A yT), (pu_A yS), (pu_A yR), (pu_A ybq), (pu_A ybv), (pu_A yv), (pu_A yan), (pu_A ysk), (pu_A yea), (pu_A yeb), (pu_A yq), (pu_A ych), (pu_A ykl), (pu_A ycn)) (nI t) := by
  obtain ⟨W1, W2, W3, W4⟩ := W
  have w : vp_in (nI t) 64 := vp_in_nI (by omega) (by omega)
  obtain ⟨b1, b2, b3⟩ := W3 t ht
  have ef : pu_A fs (nI t).toNatClampNeg = nI (fs t) := pu_Ag fs (by omega)
  refine br_f (nI_pos (by omega)) (br_f (nI_ge (b := 64) (by omega) (by omega)) ⟨w, pk_eq (kd t) 2 (fun k2 => ?_) (fun k2 => ?_) (pu_Ag kd (by omega))⟩)
  · obtain ⟨f3, fv⟩ := W4 t ht g k2
    refine ⟨w, br_f (by rw [ef]; exact nI_pos (by omega)) ⟨w, br_f (by rw [ef]; exact nI_ge (b := 3) f3 (by omega)) ⟨w, by rw [ef]; exact vp_in_nI f3 (by omega), ?_⟩⟩⟩
    rw [ef, pu_Ag yv (by omega), fv]
    exact h
  · rw [W1.2.2.2.2.2.2 t ht k2] at h
    exact h
theorem ym_e19 {post : Int32 → SY → Prop} (W : yw_W kd fs sc sz n tw rs G yv) : ∀ s (L : List (Nat × Nat)) it m (ea eb : Nat → Nat), eq_sum sz L ≤ s → it + s ≤ 100 → s ≤ 40 → s < m → (∀ x, x ∈ L → x.1 < n ∧ x.2 < n ∧ G x.1 ∧ G x.2) → eq_r ea eb L →
    ((∀ x, x ∈ L → tw x.1 = tw x.2) → ∀ ea' eb', post 1 ((nI n), (nI na), (nI nk), (nI ns), sec, st, ybl, (nI yna), (pu_A kd), (pu_A fs), (pu_A sc), (pu_A sz), (pu_A ac), vc, (pu_A yl), (pu_A yT), (pu_A yS), (pu_A yR), (pu_A ybq), (pu_A ybv), (pu_A yv), (pu_A yan), (pu_A ysk), (pu_A ea'), (pu_A eb'), (pu_A yq), (pu_A ych), (pu_A ykl), (pu_A ycn))) → ((¬ ∀ x, x ∈ L → tw x.1 = tw x.2) → ∀ ea' eb', post 0 ((nI n), (nI na), (nI nk), (nI ns), sec, st, ybl, (nI yna), (pu_A kd), (pu_A fs), (pu_A sc), (pu_A sz), (pu_A ac), vc, (pu_A yl), (pu_A yT), (pu_A yS), (pu_A yR), (pu_A ybq), (pu_A ybv), (pu_A yv), (pu_A yan), (pu_A ysk), (pu_A ea'), (pu_A eb'), (pu_A yq), (pu_A ych), (pu_A ykl), (pu_A ycn))) →
    wY_eq_19 post (nI n) (nI na) (nI nk) (nI ns) sec st ybl (nI yna) m (nI L.length) (nI it) (pu_A kd) (pu_A fs) (pu_A sc) (pu_A sz) (pu_A ac) vc (pu_A yl) (pu_A yT) (pu_A yS) (pu_A yR) (pu_A ybq) (pu_A ybv) (pu_A yv) (pu_A yan) (pu_A ysk) (pu_A ea) (pu_A eb) (pu_A yq) (pu_A ych) (pu_A ykl) (pu_A ycn) := by
  obtain ⟨W1, W2, W3, W4⟩ := id W
  have hz : ∀ t, t < n → 1 ≤ sz t := fun t ht => (W1.2.2.2.2.2.1 t ht).1
  intro s
  induction s with
  | zero =>
    intro L it m ea eb hs hit h40 hm hL hr h1 h0
    obtain ⟨m, rfl⟩ : ∃ m', m = m' + 1 := ⟨m - 1, by omega⟩
    have l := eq_sum_len hz L hL
    cases L with
    | nil =>
      rw [wY_eq_19]
      exact br_f (nI_ge (b := 128) (by omega) (by omega)) (br_t (by decide) (br_t rfl (h1 (fun x hx => by simp at hx) ea eb)))
    | cons x r => rw [List.length_cons] at l; omega
  | succ s ih =>
    intro L it m ea eb hs hit h40 hm hL hr h1 h0
    obtain ⟨m, rfl⟩ : ∃ m', m = m' + 1 := ⟨m - 1, by omega⟩
    have l := eq_sum_len hz L hL
    cases L with
    | nil =>
      rw [wY_eq_19]
      exact br_f (nI_ge (b := 128) (by omega) (by omega)) (br_t (by decide) (br_t rfl (h1 (fun x hx => by simp at hx) ea eb)))
    | cons x r =>
      obtain ⟨a, b⟩ := x
      have es : eq_sum sz ((a, b) :: r) = sz a + eq_sum sz r := rfl
      rw [es] at hs l
      rw [List.length_cons] at l
      obtain ⟨ha, hb, ga, gb⟩ : a < n ∧ b < n ∧ G a ∧ G b := hL (a, b) (by simp)
      have hr' : ea r.length = a ∧ eb r.length = b ∧ eq_r ea eb r := hr
      have hLr : ∀ y, y ∈ r → y.1 < n ∧ y.2 < n ∧ G y.1 ∧ G y.2 := fun y hy => hL y (by simp [hy])
      have lr := eq_sum_len hz r hLr
      have za := hz a ha
      obtain ⟨a1, a2, a3, a4, a5, a6⟩ := W1.1 a ha ga
      obtain ⟨b1, b2, b3, b4, b5, b6⟩ := W1.1 b hb gb
      obtain ⟨ka, fa, sa⟩ := W3 _ a1
      obtain ⟨kb, fb, sb⟩ := W3 _ b1
      have wr : vp_in (nI r.length) 64 := vp_in_nI (by omega) (by omega)
      have wa : vp_in (nI (rs a)) 64 := vp_in_nI (by omega) (by omega)
      have wb : vp_in (nI (rs b)) 64 := vp_in_nI (by omega) (by omega)
      have ea1 : pu_A ea (nI r.length).toNatClampNeg = nI a := by rw [pu_Ag ea (by omega), hr'.1]
      have eb1 : pu_A eb (nI r.length).toNatClampNeg = nI b := by rw [pu_Ag eb (by omega), hr'.2.1]
      have no : tw a ≠ tw b → ∀ ea' eb', post 0 ((nI n), (nI na), (nI nk), (nI ns), sec, st, ybl, (nI yna), (pu_A kd), (pu_A fs), (pu_A sc), (pu_A sz), (pu_A ac), vc, (pu_A yl), (pu_A yT), (pu_A yS), (pu_A yR), (pu_A ybq), (pu_A ybv), (pu_A yv), (pu_A yan), (pu_A ysk), (pu_A ea'), (pu_A eb'), (pu_A yq), (pu_A ych), (pu_A ykl), (pu_A ycn)) := fun ne => h0 (fun al => ne (al (a, b) (by simp)))
      rw [wY_eq_19, List.length_cons]
      refine br_f (nI_ge (b := 128) (by omega) (by omega)) (br_f (nI_nle (by omega) (by omega)) (nm_r (pk_m1 r.length) ⟨wr, ?_⟩))
      rw [ea1, eb1]
      refine ym_res W ha ga ⟨wr, ym_res W hb gb (pk_eq (rs a) (rs b) (fun e => ?_) (fun e => ⟨wa, wb, pk_eq (kd (rs a)) (kd (rs b)) (fun k => ⟨wa, pk_lt (kd (rs a)) 3 (fun k3 => ?_) (fun k3 => ?_) (pu_Ag kd (by omega))⟩) (fun k => ?_) (pu_Ag kd (by omega)) (pu_Ag kd (by omega))⟩))⟩
      · refine nm_r (nI_1 it) (ih r (it + 1) m ea eb (by omega) (by omega) (by omega) (by omega) hLr hr'.2.2 (fun al => h1 (fun y hy => ?_)) (fun al => h0 (fun c => al (fun y hy => c y (by simp [hy])))))
        rcases List.mem_cons.mp hy with q | q
        · rw [q]; exact tc_eq1 W1 ha hb ga gb e
        · exact al y q
      · exact no (tc_eq2 W1 ha hb ga gb e (Or.inr k3)) ea eb
      · have e2 : nI r.length + 2 = nI (r.length + 2) := nI_add r.length 2
        have e1 : nI r.length + 1 = nI (r.length + 1) := nI_1 r.length
        have w1 : vp_in (nI r.length + 1) 64 := by rw [e1]; exact vp_in_nI (by omega) (by omega)
        obtain ⟨c1, c2, c3, c4⟩ := W1.2.1 _ a1 k3
        obtain ⟨d1, d2, d3, d4⟩ := W1.2.1 _ b1 (by omega)
        have zf := hz _ c1
        have zs := hz _ c2
        have q3 := tc_eq3 W1 ha hb ga gb k k3
        refine br_t (by rw [e2]; exact nI_le (b := 64) (by omega) (by omega)) ⟨wa, wr, nm_r (rl_up (k := r.length) (x := fs (rs a)) (by omega) rfl (pu_Ag fs (by omega))) ⟨wb, wr, nm_r (rl_up (k := r.length) (x := fs (rs b)) (by omega) rfl (pu_Ag fs (by omega))) ⟨wa, w1, nm_r (rl_up (k := r.length + 1) (x := sc (rs a)) (by omega) e1 (pu_Ag sc (by omega))) ⟨wb, w1, nm_r (rl_up (k := r.length + 1) (x := sc (rs b)) (by omega) e1 (pu_Ag sc (by omega))) (nm_r e2 (nm_r (nI_1 it) ?_))⟩⟩⟩⟩
        refine ih ((sc (rs a), sc (rs b)) :: (fs (rs a), fs (rs b)) :: r) (it + 1) m _ _ ?_ (by omega) (by omega) (by omega) ?_ ⟨pu_us, pu_us, (pu_un (by omega)).trans pu_us, (pu_un (by omega)).trans pu_us, eq_r_up r (by omega) (eq_r_up r (by omega) hr'.2.2)⟩ (fun al => h1 (fun y hy => ?_)) (fun al => h0 (fun c => al (fun y hy => ?_)))
        · show sz (sc (rs a)) + (sz (fs (rs a)) + eq_sum sz r) ≤ s
          omega
        · intro y hy
          rcases List.mem_cons.mp hy with q | q
          · rw [q]; exact ⟨c2, d2, (c3.mp a2).2, (d3.mp b2).2⟩
          · rcases List.mem_cons.mp q with q | q
            · rw [q]; exact ⟨c1, d1, (c3.mp a2).1, (d3.mp b2).1⟩
            · exact hLr y q
        · rcases List.mem_cons.mp hy with q | q
          · rw [q]
            exact q3.mpr ⟨al (fs (rs a), fs (rs b)) (by simp), al (sc (rs a), sc (rs b)) (by simp)⟩
          · exact al y (by simp [q])
        · have gx := q3.mp (c (a, b) (by simp))
          rcases List.mem_cons.mp hy with q | q
          · rw [q]; exact gx.2
          · rcases List.mem_cons.mp q with q | q
            · rw [q]; exact gx.1
            · exact c y (by simp [q])
      · exact no (tc_eq2 W1 ha hb ga gb e (Or.inl k)) ea eb
theorem ym_eq {post : Int32 → SY → Prop} {a b : Nat} (W : yw_W kd fs sc sz n tw rs G yv) (ha : a < n) (hb : b < n) (ga : G a) (gb : G b) (h1 : tw a = tw b → ∀ ea' eb', post 1 ((nI n), (nI na), (nI nk), (nI ns), sec, st, ybl, (nI yna), (pu_A kd), (pu_A fs), (pu_A sc), (pu_A sz), (pu_A ac), vc, (pu_A yl), (pu_A yT), (pu_A yS), (pu_A yR), (pu_A ybq), (pu_A ybv), (pu_A yv), (pu_A yan), (pu_A ysk), (pu_A ea'), (pu_A eb'), (pu_A yq), (pu_A ych), (pu_A ykl), (pu_A ycn))) (h0 : tw a ≠ tw b → ∀ ea' eb', post 0 ((nI n), (nI na), (nI nk), (nI ns), sec, st, ybl, (nI yna), (pu_A kd), (pu_A fs), (pu_A sc), (pu_A sz), (pu_A ac), vc, (pu_A yl), (pu_A yT), (pu_A yS), (pu_A yR), (pu_A ybq), (pu_A ybv), (pu_A yv), (pu_A yan), (pu_A ysk), (pu_A ea'), (pu_A eb'), (pu_A yq), (pu_A ych), (pu_A ykl), (pu_A ycn))) : wpY_eq post ((nI n), (nI na), (nI nk), (nI ns), sec, st, ybl, (nI yna), (pu_A kd), (pu_A fs), (pu_A sc), (pu_A sz), (pu_A ac), vc, (pu_A yl), (pu_A yT), (pu_A yS), (pu_A yR), (pu_A ybq), (pu_A ybv), (pu_A yv), (pu_A yan), (pu_A ysk), (pu_A yea), (pu_A yeb), (pu_A yq), (pu_A ych), (pu_A ykl), (pu_A ycn)) (nI a) (nI b) := by
  have hz := W.1.2.2.2.2.2.1 a ha
  refine nm_r (e' := pu_A (pu_upd yea 0 a)) (pu_Au yea 0 a) (nm_r (e' := pu_A (pu_upd yeb 0 b)) (pu_Au yeb 0 b) ⟨41, ym_e19 W 32 [(a, b)] 0 41 _ _ ?_ (by omega) (by omega) (by omega) (fun x hx => ?_) ⟨pu_us, pu_us, trivial⟩ (fun al => h1 (al (a, b) (by simp))) (fun al => h0 (fun g => al (fun x hx => ?_)))⟩)
  · show sz a + 0 ≤ 32
    omega
  · rcases List.mem_cons.mp hx with e | e
    · rw [e]; exact ⟨ha, hb, ga, gb⟩
    · simp at e
  · rcases List.mem_cons.mp hx with e | e
    · rw [e]; exact g
    · simp at e
theorem ym_m2 {post : Int32 → SY → Prop} {c : Nat} (W : yw_W kd fs sc sz n tw rs G yv) (hm64 : yna ≤ 64) (hf : ∀ i, i < yna → yan i < n ∧ G (yan i)) (hc : c < n) (gc : G c) (h1 : tc_M tw yan yna c → ∀ ea' eb', post 1 ((nI n), (nI na), (nI nk), (nI ns), sec, st, ybl, (nI yna), (pu_A kd), (pu_A fs), (pu_A sc), (pu_A sz), (pu_A ac), vc, (pu_A yl), (pu_A yT), (pu_A yS), (pu_A yR), (pu_A ybq), (pu_A ybv), (pu_A yv), (pu_A yan), (pu_A ysk), (pu_A ea'), (pu_A eb'), (pu_A yq), (pu_A ych), (pu_A ykl), (pu_A ycn))) (h0 : ¬ tc_M tw yan yna c → ∀ ea' eb', post 0 ((nI n), (nI na), (nI nk), (nI ns), sec, st, ybl, (nI yna), (pu_A kd), (pu_A fs), (pu_A sc), (pu_A sz), (pu_A ac), vc, (pu_A yl), (pu_A yT), (pu_A yS), (pu_A yR), (pu_A ybq), (pu_A ybv), (pu_A yv), (pu_A yan), (pu_A ysk), (pu_A ea'), (pu_A eb'), (pu_A yq), (pu_A ych), (pu_A ykl), (pu_A ycn))) : ∀ d i m (ea eb : Nat → Nat), i + d = yna → d < m → (∀ a, a < i → tw (yan a) ≠ tw c) → wY_member_2 post (nI c) m (nI i) (nI n) (nI na) (nI nk) (nI ns) sec st ybl (nI yna) (pu_A kd) (pu_A fs) (pu_A sc) (pu_A sz) (pu_A ac) vc (pu_A yl) (pu_A yT) (pu_A yS) (pu_A yR) (pu_A ybq) (pu_A ybv) (pu_A yv) (pu_A yan) (pu_A ysk) (pu_A ea) (pu_A eb) (pu_A yq) (pu_A ych) (pu_A ykl) (pu_A ycn) := by
  intro d
  induction d with
  | zero =>
    intro i m ea eb hi hm no
    obtain ⟨m, rfl⟩ : ∃ m', m = m' + 1 := ⟨m - 1, by omega⟩
    rw [wY_member_2]
    refine br_t (nI_le (by omega) (by omega)) (h0 (fun h => ?_) ea eb)
    obtain ⟨a, ha, w⟩ := h
    exact no a (by omega) w
  | succ d ih =>
    intro i m ea eb hi hm no
    obtain ⟨m, rfl⟩ : ∃ m', m = m' + 1 := ⟨m - 1, by omega⟩
    obtain ⟨f1, f2⟩ := hf i (by omega)
    rw [wY_member_2]
    refine br_f (nI_ge (by omega) (by omega)) ⟨vp_in_nI (by omega) (by omega), ?_⟩
    rw [pu_Ag yan (by omega)]
    refine ym_eq W f1 hc f2 gc (fun e ea' eb' => ?_) (fun e ea' eb' => ?_)
    · exact br_f (by decide) (h1 ⟨i, by omega, e⟩ ea' eb')
    · refine br_t rfl (nm_r (nI_1 i) (ih (i + 1) m ea' eb' (by omega) (by omega) (fun a ha => ?_)))
      by_cases q : a = i
      · rw [q]; exact e
      · exact no a (by omega)
theorem ym_member {post : Int32 → SY → Prop} {c : Nat} (W : yw_W kd fs sc sz n tw rs G yv) (hm64 : yna ≤ 64) (hf : ∀ i, i < yna → yan i < n ∧ G (yan i)) (hc : c < n) (gc : G c) (h1 : tc_M tw yan yna c → ∀ ea' eb', post 1 ((nI n), (nI na), (nI nk), (nI ns), sec, st, ybl, (nI yna), (pu_A kd), (pu_A fs), (pu_A sc), (pu_A sz), (pu_A ac), vc, (pu_A yl), (pu_A yT), (pu_A yS), (pu_A yR), (pu_A ybq), (pu_A ybv), (pu_A yv), (pu_A yan), (pu_A ysk), (pu_A ea'), (pu_A eb'), (pu_A yq), (pu_A ych), (pu_A ykl), (pu_A ycn))) (h0 : ¬ tc_M tw yan yna c → ∀ ea' eb', post 0 ((nI n), (nI na), (nI nk), (nI ns), sec, st, ybl, (nI yna), (pu_A kd), (pu_A fs), (pu_A sc), (pu_A sz), (pu_A ac), vc, (pu_A yl), (pu_A yT), (pu_A yS), (pu_A yR), (pu_A ybq), (pu_A ybv), (pu_A yv), (pu_A yan), (pu_A ysk), (pu_A ea'), (pu_A eb'), (pu_A yq), (pu_A ych), (pu_A ykl), (pu_A ycn))) : wpY_member post ((nI n), (nI na), (nI nk), (nI ns), sec, st, ybl, (nI yna), (pu_A kd), (pu_A fs), (pu_A sc), (pu_A sz), (pu_A ac), vc, (pu_A yl), (pu_A yT), (pu_A yS), (pu_A yR), (pu_A ybq), (pu_A ybv), (pu_A yv), (pu_A yan), (pu_A ysk), (pu_A yea), (pu_A yeb), (pu_A yq), (pu_A ych), (pu_A ykl), (pu_A ycn)) (nI c) :=
  ⟨yna + 1, ym_m2 W hm64 hf hc gc h1 h0 yna 0 (yna + 1) yea yeb (by omega) (by omega) (fun a ha => by omega)⟩
theorem ym_add {post : Int32 → SY → Prop} {c : Nat} {K : Nat → Prop} (W : yw_W kd fs sc sz n tw rs G yv) (I : dv_I kd fs sc n tw G K yan yna) (hc : c < n) (gc : G c) (lc : tc_L kd fs sc n tw K c) (h0 : tc_M tw yan yna c → ∀ ea' eb', post 0 ((nI n), (nI na), (nI nk), (nI ns), sec, st, ybl, (nI yna), (pu_A kd), (pu_A fs), (pu_A sc), (pu_A sz), (pu_A ac), vc, (pu_A yl), (pu_A yT), (pu_A yS), (pu_A yR), (pu_A ybq), (pu_A ybv), (pu_A yv), (pu_A yan), (pu_A ysk), (pu_A ea'), (pu_A eb'), (pu_A yq), (pu_A ych), (pu_A ykl), (pu_A ycn))) (h1 : ¬ tc_M tw yan yna c → yna < 64 → dv_I kd fs sc n tw G K (pu_upd yan yna c) (yna + 1) → ∀ ea' eb', post 1 ((nI n), (nI na), (nI nk), (nI ns), sec, st, ybl, (nI (yna + 1)), (pu_A kd), (pu_A fs), (pu_A sc), (pu_A sz), (pu_A ac), vc, (pu_A yl), (pu_A yT), (pu_A yS), (pu_A yR), (pu_A ybq), (pu_A ybv), (pu_A yv), (pu_A (pu_upd yan yna c)), (pu_A ysk), (pu_A ea'), (pu_A eb'), (pu_A yq), (pu_A ych), (pu_A ykl), (pu_A ycn))) : wpY_addAn post ((nI n), (nI na), (nI nk), (nI ns), sec, st, ybl, (nI yna), (pu_A kd), (pu_A fs), (pu_A sc), (pu_A sz), (pu_A ac), vc, (pu_A yl), (pu_A yT), (pu_A yS), (pu_A yR), (pu_A ybq), (pu_A ybv), (pu_A yv), (pu_A yan), (pu_A ysk), (pu_A yea), (pu_A yeb), (pu_A yq), (pu_A ych), (pu_A ykl), (pu_A ycn)) (nI c) := by
  have m64 := I.1
  refine pk_le 64 yna (fun l => ?_) (fun l => ym_member W m64 (fun i hi => ⟨(I.2.1 i hi).1, (I.2.1 i hi).2.1⟩) hc gc (fun h ea' eb' => br_f (by decide) (h0 h ea' eb')) (fun h ea' eb' => ?_))
  · refine h0 ?_ yea yeb
    by_cases q : tc_M tw yan yna c
    · exact q
    · have h := (dv_add W.1 I hc gc lc q).1
      omega
  · exact br_t rfl ⟨vp_in_nI l (by omega), nm_r (rl_up (x := c) (by omega) rfl rfl) (nm_r (nI_1 yna) (h1 h l (dv_add W.1 I hc gc lc h).2 ea' eb'))⟩
theorem ym_s11 {post : Int32 → SY → Prop} (W : yw_W kd fs sc sz n tw rs G yv) (hm64 : yna ≤ 64) (hf : ∀ i, i < yna → yan i < n ∧ G (yan i)) : ∀ s (L : List Nat) it m (sk ea eb : Nat → Nat), sk_sum sz L ≤ s → it + s ≤ 60 → s ≤ 40 → s < m → (∀ x, x ∈ L → x < n ∧ G x) → sk_r sk L →
    ((∀ x, x ∈ L → tc_S kd fs sc n tw G (tc_M tw yan yna) x) → ∀ sk' ea' eb', post 1 ((nI n), (nI na), (nI nk), (nI ns), sec, st, ybl, (nI yna), (pu_A kd), (pu_A fs), (pu_A sc), (pu_A sz), (pu_A ac), vc, (pu_A yl), (pu_A yT), (pu_A yS), (pu_A yR), (pu_A ybq), (pu_A ybv), (pu_A yv), (pu_A yan), (pu_A sk'), (pu_A ea'), (pu_A eb'), (pu_A yq), (pu_A ych), (pu_A ykl), (pu_A ycn))) → ((¬ ∀ x, x ∈ L → tc_S kd fs sc n tw G (tc_M tw yan yna) x) → ∀ sk' ea' eb', post 0 ((nI n), (nI na), (nI nk), (nI ns), sec, st, ybl, (nI yna), (pu_A kd), (pu_A fs), (pu_A sc), (pu_A sz), (pu_A ac), vc, (pu_A yl), (pu_A yT), (pu_A yS), (pu_A yR), (pu_A ybq), (pu_A ybv), (pu_A yv), (pu_A yan), (pu_A sk'), (pu_A ea'), (pu_A eb'), (pu_A yq), (pu_A ych), (pu_A ykl), (pu_A ycn))) →
    wY_synth_11 post m (nI L.length) (nI it) (nI n) (nI na) (nI nk) (nI ns) sec st ybl (nI yna) (pu_A kd) (pu_A fs) (pu_A sc) (pu_A sz) (pu_A ac) vc (pu_A yl) (pu_A yT) (pu_A yS) (pu_A yR) (pu_A ybq) (pu_A ybv) (pu_A yv) (pu_A yan) (pu_A sk) (pu_A ea) (pu_A eb) (pu_A yq) (pu_A ych) (pu_A ykl) (pu_A ycn) := by
  obtain ⟨W1, W2, W3, W4⟩ := id W
  have hz : ∀ t, t < n → 1 ≤ sz t := fun t ht => (W1.2.2.2.2.2.1 t ht).1
  intro s
  induction s with
  | zero =>
    intro L it m sk ea eb hs hit h40 hm hL hr h1 h0
    obtain ⟨m, rfl⟩ : ∃ m', m = m' + 1 := ⟨m - 1, by omega⟩
    have l := sk_sum_len hz L (fun x hx => (hL x hx).1)
    cases L with
    | nil =>
      rw [wY_synth_11]
      exact br_f (nI_ge (b := 64) (by omega) (by omega)) (br_t (by decide) (br_t rfl (h1 (fun x hx => by simp at hx) sk ea eb)))
    | cons x r => rw [List.length_cons] at l; omega
  | succ s ih =>
    intro L it m sk ea eb hs hit h40 hm hL hr h1 h0
    obtain ⟨m, rfl⟩ : ∃ m', m = m' + 1 := ⟨m - 1, by omega⟩
    have l := sk_sum_len hz L (fun x hx => (hL x hx).1)
    cases L with
    | nil =>
      rw [wY_synth_11]
      exact br_f (nI_ge (b := 64) (by omega) (by omega)) (br_t (by decide) (br_t rfl (h1 (fun x hx => by simp at hx) sk ea eb)))
    | cons x r =>
      have es : sk_sum sz (x :: r) = sz x + sk_sum sz r := rfl
      rw [es] at hs l
      rw [List.length_cons] at l
      obtain ⟨hx, gx⟩ := hL x (by simp)
      have hr' : sk r.length = x ∧ sk_r sk r := hr
      have hLr : ∀ y, y ∈ r → y < n ∧ G y := fun y hy => hL y (by simp [hy])
      have lr := sk_sum_len hz r (fun y hy => (hLr y hy).1)
      have zx := hz x hx
      obtain ⟨a1, a2, a3, a4, a5, a6⟩ := W1.1 x hx gx
      obtain ⟨ka, fa, sa⟩ := W3 _ a1
      have wr : vp_in (nI r.length) 64 := vp_in_nI (by omega) (by omega)
      have wx : vp_in (nI (rs x)) 64 := vp_in_nI (by omega) (by omega)
      have ex : pu_A sk (nI r.length).toNatClampNeg = nI x := by rw [pu_Ag sk (by omega), hr'.1]
      have cl := tc_S_cl (kd := kd) (fs := fs) (sc := sc) (n := n) (tw := tw) (G := G) (tc_M tw yan yna)
      have sx := tc_S_rs W1 (M := tc_M tw yan yna) hx gx
      rw [wY_synth_11, List.length_cons]
      refine br_f (nI_ge (b := 64) (by omega) (by omega)) (br_f (nI_nle (by omega) (by omega)) (nm_r (pk_m1 r.length) ⟨wr, ?_⟩))
      rw [ex]
      refine ym_res W hx gx (ym_member W hm64 hf a1 a2 (fun mm ea' eb' => ?_) (fun mm ea' eb' => ?_))
      · refine br_f (by decide) (nm_r (nI_1 it) (ih r (it + 1) m sk ea' eb' (by omega) (by omega) (by omega) (by omega) hLr hr'.2 (fun al => h1 (fun y hy => ?_)) (fun al => h0 (fun c => al (fun y hy => c y (by simp [hy]))))))
        rcases List.mem_cons.mp hy with q | q
        · rw [q]; exact sx.mpr (cl.1 _ a1 a2 mm)
        · exact al y q
      · refine br_t rfl ⟨wx, pk_lt (kd (rs x)) 3 (fun k3 => ?_) (fun k3 => ?_) (pu_Ag kd (by omega))⟩
        · refine h0 (fun c => ?_) sk ea' eb'
          have h2 := sx.mp (c x (by simp))
          refine tc_S_atom W1 tc_M_sat a1 a2 ?_ mm h2
          rw [W1.2.2.2.2.2.2 _ a1 (by omega)]
          exact k3
        · have e2 : nI r.length + 2 = nI (r.length + 2) := nI_add r.length 2
          have e1 : nI r.length + 1 = nI (r.length + 1) := nI_1 r.length
          have w1 : vp_in (nI r.length + 1) 64 := by rw [e1]; exact vp_in_nI (by omega) (by omega)
          obtain ⟨c1, c2, c3, c4⟩ := W1.2.1 _ a1 k3
          have gg := c3.mp a2
          have zf := hz _ c1
          have zs := hz _ c2
          have q3 := tc_S_comp W1 tc_M_sat a1 a2 k3 mm
          refine br_t (by rw [e2]; exact nI_le (b := 64) (by omega) (by omega)) ⟨wx, wr, nm_r (rl_up (k := r.length) (x := fs (rs x)) (by omega) rfl (pu_Ag fs (by omega))) ⟨wx, w1, nm_r (rl_up (k := r.length + 1) (x := sc (rs x)) (by omega) e1 (pu_Ag sc (by omega))) (nm_r e2 (nm_r (nI_1 it) ?_))⟩⟩
          refine ih (sc (rs x) :: fs (rs x) :: r) (it + 1) m _ ea' eb' ?_ (by omega) (by omega) (by omega) ?_ ⟨pu_us, (pu_un (by omega)).trans pu_us, sk_r_up r (by omega) (sk_r_up r (by omega) hr'.2)⟩ (fun al => h1 (fun y hy => ?_)) (fun al => h0 (fun c => al (fun y hy => ?_)))
          · show sz (sc (rs x)) + (sz (fs (rs x)) + sk_sum sz r) ≤ s
            omega
          · intro y hy
            rcases List.mem_cons.mp hy with q | q
            · rw [q]; exact ⟨c2, gg.2⟩
            · rcases List.mem_cons.mp q with q | q
              · rw [q]; exact ⟨c1, gg.1⟩
              · exact hLr y q
          · rcases List.mem_cons.mp hy with q | q
            · rw [q]
              exact sx.mpr (q3.mpr ⟨al (fs (rs x)) (by simp), al (sc (rs x)) (by simp)⟩)
            · exact al y (by simp [q])
          · have g2 := q3.mp (sx.mp (c x (by simp)))
            rcases List.mem_cons.mp hy with q | q
            · rw [q]; exact g2.2
            · rcases List.mem_cons.mp q with q | q
              · rw [q]; exact g2.1
              · exact c y (by simp [q])
theorem ym_synth {post : Int32 → SY → Prop} {t : Nat} (W : yw_W kd fs sc sz n tw rs G yv) (hm64 : yna ≤ 64) (hf : ∀ i, i < yna → yan i < n ∧ G (yan i)) (ht : t < n) (gt : G t) (h1 : tc_S kd fs sc n tw G (tc_M tw yan yna) t → ∀ sk' ea' eb', post 1 ((nI n), (nI na), (nI nk), (nI ns), sec, st, ybl, (nI yna), (pu_A kd), (pu_A fs), (pu_A sc), (pu_A sz), (pu_A ac), vc, (pu_A yl), (pu_A yT), (pu_A yS), (pu_A yR), (pu_A ybq), (pu_A ybv), (pu_A yv), (pu_A yan), (pu_A sk'), (pu_A ea'), (pu_A eb'), (pu_A yq), (pu_A ych), (pu_A ykl), (pu_A ycn))) (h0 : ¬ tc_S kd fs sc n tw G (tc_M tw yan yna) t → ∀ sk' ea' eb', post 0 ((nI n), (nI na), (nI nk), (nI ns), sec, st, ybl, (nI yna), (pu_A kd), (pu_A fs), (pu_A sc), (pu_A sz), (pu_A ac), vc, (pu_A yl), (pu_A yT), (pu_A yS), (pu_A yR), (pu_A ybq), (pu_A ybv), (pu_A yv), (pu_A yan), (pu_A sk'), (pu_A ea'), (pu_A eb'), (pu_A yq), (pu_A ych), (pu_A ykl), (pu_A ycn))) : wpY_synth post ((nI n), (nI na), (nI nk), (nI ns), sec, st, ybl, (nI yna), (pu_A kd), (pu_A fs), (pu_A sc), (pu_A sz), (pu_A ac), vc, (pu_A yl), (pu_A yT), (pu_A yS), (pu_A yR), (pu_A ybq), (pu_A ybv), (pu_A yv), (pu_A yan), (pu_A ysk), (pu_A yea), (pu_A yeb), (pu_A yq), (pu_A ych), (pu_A ykl), (pu_A ycn)) (nI t) := by
  have hz := W.1.2.2.2.2.2.1 t ht
  refine nm_r (e' := pu_A (pu_upd ysk 0 t)) (pu_Au ysk 0 t) ⟨41, ym_s11 W hm64 hf 32 [t] 0 41 _ yea yeb ?_ (by omega) (by omega) (by omega) (fun x hx => ?_) ⟨pu_us, trivial⟩ (fun al => h1 (al t (by simp))) (fun al => h0 (fun g => al (fun x hx => ?_)))⟩
  · show sz t + 0 ≤ 32
    omega
  · rcases List.mem_cons.mp hx with e | e
    · rw [e]; exact ⟨ht, gt⟩
    · simp at e
  · rcases List.mem_cons.mp hx with e | e
    · rw [e]; exact g
    · simp at e
end
