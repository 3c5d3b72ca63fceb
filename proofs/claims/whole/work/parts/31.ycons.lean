section
variable {n na nk ns : Nat} {sec st xal ybl : Int32} {yna : Nat} {kd fs sc sz gr ac : Nat → Nat} {vc : Nat → Int32} {yl yT yS yR ybq ybv yv yan ysk yea yeb yq ych ykl ycn : Nat → Nat}
theorem ym_l2 {post : Int32 → Prop} {L : Nat} (hL : L ≤ 6) (d1 : ∀ i, i < L → yq i < 3) (d2 : ∀ i, i < L → ybq i < 3) (h1 : sk_kA yq L < sk_kA ybq L → post 1) (h0 : ¬ sk_kA yq L < sk_kA ybq L → post 0) : ∀ d i m, i + d = L → d < m → (∀ a, a < i → yq a = ybq a) → wY_lexLess_2 post (nI L) (nI n) (nI na) (nI nk) (nI ns) sec st ybl (nI yna) (pu_A kd) (pu_A fs) (pu_A sc) (pu_A sz) (pu_A ac) vc (pu_A yl) (pu_A yT) (pu_A yS) (pu_A yR) (pu_A ybq) (pu_A ybv) (pu_A yv) (pu_A yan) (pu_A ysk) (pu_A yea) (pu_A yeb) (pu_A yq) (pu_A ych) (pu_A ykl) (pu_A ycn) m (nI i) := by
  intro d
  induction d with
  | zero =>
    intro i m hi hm he
    obtain ⟨m, rfl⟩ : ∃ m', m = m' + 1 := ⟨m - 1, by omega⟩
    have e : i = L := by omega
    subst e
    rw [wY_lexLess_2]
    refine br_t (nI_le (Nat.le_refl i) (by omega)) (h0 ?_)
    rw [sk_kA_cg i he]
    omega
  | succ d ih =>
    intro i m hi hm he
    obtain ⟨m, rfl⟩ : ∃ m', m = m' + 1 := ⟨m - 1, by omega⟩
    have w6 : vp_in (nI i) 6 := vp_in_nI (by omega) (by omega)
    have a1 := d1 i (by omega)
    have a2 := d2 i (by omega)
    rw [wY_lexLess_2]
    refine br_f (nI_ge (by omega) (by omega)) (br_f (nI_ge (b := 6) (by omega) (by omega)) ⟨w6, w6, pk_eq (yq i) (ybq i) (fun e => nm_r (nI_1 i) (ih (i + 1) m (by omega) (by omega) (fun a ha => ?_))) (fun e => ⟨w6, w6, pk_le (ybq i) (yq i) (fun l => h0 ?_) (fun l => h1 ?_) (pu_Ag ybq (by omega)) (pu_Ag yq (by omega))⟩) (pu_Ag yq (by omega)) (pu_Ag ybq (by omega))⟩)
    · by_cases q : a = i
      · rw [q]; exact e
      · exact he a (by omega)
    · have h := bs_lex he (by omega) e d1 d2
      omega
    · have h := bs_lex he (by omega) e d1 d2
      omega
theorem ym_c70 {post : SY → Prop} (K : ∀ V, (∀ v, v < 3 → V v = yv v) → post ((nI n), (nI na), (nI nk), (nI ns), sec, st, ybl, (nI yna), (pu_A kd), (pu_A fs), (pu_A sc), (pu_A sz), (pu_A ac), vc, (pu_A yl), (pu_A yT), (pu_A yS), (pu_A yR), (pu_A ybq), (pu_A V), (pu_A yv), (pu_A yan), (pu_A ysk), (pu_A yea), (pu_A yeb), (pu_A yq), (pu_A ych), (pu_A ykl), (pu_A ycn))) : ∀ d v m (V : Nat → Nat), v + d = 3 → d < m → (∀ a, a < v → V a = yv a) → wY_consider_70 post (nI n) (nI na) (nI nk) (nI ns) sec st ybl (nI yna) m (nI v) (pu_A kd) (pu_A fs) (pu_A sc) (pu_A sz) (pu_A ac) vc (pu_A yl) (pu_A yT) (pu_A yS) (pu_A yR) (pu_A ybq) (pu_A V) (pu_A yv) (pu_A yan) (pu_A ysk) (pu_A yea) (pu_A yeb) (pu_A yq) (pu_A ych) (pu_A ykl) (pu_A ycn) := by
  intro d
  induction d with
  | zero =>
    intro v m V hv hm hV
    obtain ⟨m, rfl⟩ : ∃ m', m = m' + 1 := ⟨m - 1, by omega⟩
    rw [wY_consider_70]
    exact br_t (nI_le (a := 3) (by omega) (by omega)) (K V (fun a ha => hV a (by omega)))
  | succ d ih =>
    intro v m V hv hm hV
    obtain ⟨m, rfl⟩ : ∃ m', m = m' + 1 := ⟨m - 1, by omega⟩
    have wv : vp_in (nI v) 3 := vp_in_nI (by omega) (by omega)
    rw [wY_consider_70]
    refine br_f (nI_ge (b := 3) (by omega) (by omega)) ⟨wv, wv, nm_r (rl_up (k := v) (x := yv v) (by omega) rfl (pu_Ag yv (by omega))) (nm_r (nI_1 v) (ih (v + 1) m _ (by omega) (by omega) (fun a ha => ?_)))⟩
    by_cases e : a = v
    · rw [e, pu_us]
    · rw [pu_un e]; exact hV a (by omega)
theorem ym_c39 {post : SY → Prop} {L : Nat} (hL : L ≤ 6) (K : ∀ Q V, (∀ i, i < L → Q i = yq i) → (∀ v, v < 3 → V v = yv v) → post ((nI n), (nI na), (nI nk), (nI ns), sec, st, ybl, (nI yna), (pu_A kd), (pu_A fs), (pu_A sc), (pu_A sz), (pu_A ac), vc, (pu_A yl), (pu_A yT), (pu_A yS), (pu_A yR), (pu_A Q), (pu_A V), (pu_A yv), (pu_A yan), (pu_A ysk), (pu_A yea), (pu_A yeb), (pu_A yq), (pu_A ych), (pu_A ykl), (pu_A ycn))) : ∀ d i m (Q : Nat → Nat), i + d = L → d < m → (∀ a, a < i → Q a = yq a) → wY_consider_39 post (nI L) (nI n) (nI na) (nI nk) (nI ns) sec st ybl (nI yna) m (nI i) (pu_A kd) (pu_A fs) (pu_A sc) (pu_A sz) (pu_A ac) vc (pu_A yl) (pu_A yT) (pu_A yS) (pu_A yR) (pu_A Q) (pu_A ybv) (pu_A yv) (pu_A yan) (pu_A ysk) (pu_A yea) (pu_A yeb) (pu_A yq) (pu_A ych) (pu_A ykl) (pu_A ycn) := by
  intro d
  induction d with
  | zero =>
    intro i m Q hi hm hQ
    obtain ⟨m, rfl⟩ : ∃ m', m = m' + 1 := ⟨m - 1, by omega⟩
    rw [wY_consider_39]
    exact br_t (nI_le (by omega) (by omega)) ⟨4, ym_c70 (fun V hV => K Q V (fun a ha => hQ a (by omega)) hV) 3 0 4 ybv (by omega) (by omega) (fun a ha => by omega)⟩
  | succ d ih =>
    intro i m Q hi hm hQ
    obtain ⟨m, rfl⟩ : ∃ m', m = m' + 1 := ⟨m - 1, by omega⟩
    have w6 : vp_in (nI i) 6 := vp_in_nI (by omega) (by omega)
    rw [wY_consider_39]
    refine br_f (nI_ge (by omega) (by omega)) (br_f (nI_ge (b := 6) (by omega) (by omega)) ⟨w6, w6, nm_r (rl_up (k := i) (x := yq i) (by omega) rfl (pu_Ag yq (by omega))) (nm_r (nI_1 i) (ih (i + 1) m _ (by omega) (by omega) (fun a ha => ?_)))⟩)
    by_cases e : a = i
    · rw [e, pu_us]
    · rw [pu_un e]; exact hQ a (by omega)
theorem ym_consider {post : SY → Prop} {L B : Nat} (hL : L ≤ 6) (d1 : ∀ i, i < L → yq i < 3) (b : bs_R ybl ybq B) (h0 : ¬ sk_kA yq L < B → post ((nI n), (nI na), (nI nk), (nI ns), sec, st, ybl, (nI yna), (pu_A kd), (pu_A fs), (pu_A sc), (pu_A sz), (pu_A ac), vc, (pu_A yl), (pu_A yT), (pu_A yS), (pu_A yR), (pu_A ybq), (pu_A ybv), (pu_A yv), (pu_A yan), (pu_A ysk), (pu_A yea), (pu_A yeb), (pu_A yq), (pu_A ych), (pu_A ykl), (pu_A ycn))) (h1 : sk_kA yq L < B → ∀ Q V, (∀ i, i < L → Q i = yq i) → (∀ v, v < 3 → V v = yv v) → post ((nI n), (nI na), (nI nk), (nI ns), sec, st, (nI L), (nI yna), (pu_A kd), (pu_A fs), (pu_A sc), (pu_A sz), (pu_A ac), vc, (pu_A yl), (pu_A yT), (pu_A yS), (pu_A yR), (pu_A Q), (pu_A V), (pu_A yv), (pu_A yan), (pu_A ysk), (pu_A yea), (pu_A yeb), (pu_A yq), (pu_A ych), (pu_A ykl), (pu_A ycn))) : wpY_consider post ((nI n), (nI na), (nI nk), (nI ns), sec, st, ybl, (nI yna), (pu_A kd), (pu_A fs), (pu_A sc), (pu_A sz), (pu_A ac), vc, (pu_A yl), (pu_A yT), (pu_A yS), (pu_A yR), (pu_A ybq), (pu_A ybv), (pu_A yv), (pu_A yan), (pu_A ysk), (pu_A yea), (pu_A yeb), (pu_A yq), (pu_A ych), (pu_A ykl), (pu_A ycn)) (nI L) := by
  have go : sk_kA yq L < B → ∃ m : Nat, wY_consider_39 post (nI L) (nI n) (nI na) (nI nk) (nI ns) sec st (nI L) (nI yna) m 0 (pu_A kd) (pu_A fs) (pu_A sc) (pu_A sz) (pu_A ac) vc (pu_A yl) (pu_A yT) (pu_A yS) (pu_A yR) (pu_A ybq) (pu_A ybv) (pu_A yv) (pu_A yan) (pu_A ysk) (pu_A yea) (pu_A yeb) (pu_A yq) (pu_A ych) (pu_A ykl) (pu_A ycn) := fun l => ⟨L + 1, ym_c39 hL (h1 l) L 0 (L + 1) ybq (by omega) (by omega) (fun a ha => by omega)⟩
  rcases b with ⟨e, q⟩ | ⟨M, m1, e, m2, m3⟩
  · subst e
    exact br_t (by decide) (go (by rw [q]; exact sk_kA_big hL d1))
  · subst e
    refine br_f (nI_pos (by omega)) (pk_lt L M (fun l => go ?_) (fun l => pk_eq L M (fun e => ?_) (fun e => h0 ?_)))
    · rw [m3]; exact sk_kA_len l d1
    · subst e
      rw [m3] at h0 go
      exact ⟨L + 1, ym_l2 hL d1 m2 (fun l2 => br_f (by decide) (go l2)) (fun l2 => br_t rfl (h0 l2)) L 0 (L + 1) (by omega) (by omega) (fun a ha => by omega)⟩
    · have h := sk_kA_len (Q := ybq) (Q' := yq) (by omega : M < L) m2
      omega
end
