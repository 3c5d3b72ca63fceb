section
variable {n na nk ns : Nat} {sec st xal : Int32} {kd fs sc sz gr ac : Nat → Nat} {vc : Nat → Int32} {xl xt xs xc xat xaa xch xtw xds xtg xnx xft : Nat → Nat} {yl yT yS yR : Nat → Nat}
def ch_c (vc : Nat → Int32) (na v : Nat) : Nat := if vc v = -1 then 1 else na
theorem ch_8 (h : na ≤ 8) (v : Nat) : ch_c vc na v ≤ 8 := by
  unfold ch_c
  by_cases q : vc v = -1
  · rw [if_pos q]; omega
  · rw [if_neg q]; exact h
theorem xm_ca1 {post : Int32 → St1 → Prop} {v rest m : Nat} {w : Nat → Nat} (ha : na ≤ 8) (hv : v < 3) (hr : rest < 1000)
    (h1 : rest % 8 < ch_c vc na v → wX_chooseAtoms_4 post (nI n) (nI na) (nI nk) (nI ns) sec st xal m (nI (rest / 8)) (nI v + (-1)) (pu_A kd) (pu_A fs) (pu_A sc) (pu_A sz) (pu_A gr) (pu_A ac) vc (pu_A xl) (pu_A xt) (pu_A xs) (pu_A xc) (pu_A xat) (pu_A xaa) (pu_A (pu_upd w v (rest % 8))) (pu_A xtw) (pu_A xds) (pu_A xtg) (pu_A xnx) (pu_A xft))
    (h0 : ¬ rest % 8 < ch_c vc na v → post 0 ((nI n), (nI na), (nI nk), (nI ns), sec, st, xal, (pu_A kd), (pu_A fs), (pu_A sc), (pu_A sz), (pu_A gr), (pu_A ac), vc, (pu_A xl), (pu_A xt), (pu_A xs), (pu_A xc), (pu_A xat), (pu_A xaa), (pu_A w), (pu_A xtw), (pu_A xds), (pu_A xtg), (pu_A xnx), (pu_A xft))) : wX_chooseAtoms_4 post (nI n) (nI na) (nI nk) (nI ns) sec st xal (m + 1) (nI rest) (nI v) (pu_A kd) (pu_A fs) (pu_A sc) (pu_A sz) (pu_A gr) (pu_A ac) vc (pu_A xl) (pu_A xt) (pu_A xs) (pu_A xc) (pu_A xat) (pu_A xaa) (pu_A w) (pu_A xtw) (pu_A xds) (pu_A xtg) (pu_A xnx) (pu_A xft) := by
  have wv : vp_in (nI v) 3 := vp_in_nI hv (by omega)
  have q : (nI v).toNatClampNeg = v := nI_clamp (by omega)
  have e8 : nI rest - nI rest / 8 * 8 = nI (rest % 8) := pk_rem (d := 8) (by omega) (by omega) (by omega)
  have d8 : nI rest / 8 = nI (rest / 8) := pk_div (d := 8) (by omega) (by omega) (by omega)
  have nz : ¬ (8 : Int32) = 0 := by decide
  rw [wX_chooseAtoms_4]
  refine br_f (nI_pos (by omega)) ⟨nz, nm_r e8 ⟨nz, nm_r d8 ⟨wv, ?_⟩⟩⟩
  rw [q]
  refine br_c (fun z => ?_) (fun z => ?_)
  · have ec : ch_c vc na v = 1 := if_pos z
    rw [ec] at h1 h0
    exact pk_lt (rest % 8) 1 (fun l => ⟨wv, nm_r (rl_up (x := rest % 8) (by omega) rfl rfl) (nm_e (h1 l))⟩) (fun l => h0 (by omega))
  · have ec : ch_c vc na v = na := if_neg z
    rw [ec] at h1 h0
    exact pk_lt (rest % 8) na (fun l => ⟨wv, nm_r (rl_up (x := rest % 8) (by omega) rfl rfl) (nm_e (h1 l))⟩) (fun l => h0 (by omega))
theorem xm_choose {post : Int32 → St1 → Prop} {code : Nat} (ha : na ≤ 8) (hc : code < 512)
    (h1 : as_V (ch_c vc na 0) (ch_c vc na 1) (ch_c vc na 2) code → ∀ w : Nat → Nat, (∀ v, v < 3 → w v = cn_d code v) → post 1 ((nI n), (nI na), (nI nk), (nI ns), sec, st, xal, (pu_A kd), (pu_A fs), (pu_A sc), (pu_A sz), (pu_A gr), (pu_A ac), vc, (pu_A xl), (pu_A xt), (pu_A xs), (pu_A xc), (pu_A xat), (pu_A xaa), (pu_A w), (pu_A xtw), (pu_A xds), (pu_A xtg), (pu_A xnx), (pu_A xft)))
    (h0 : ¬ as_V (ch_c vc na 0) (ch_c vc na 1) (ch_c vc na 2) code → ∀ w : Nat → Nat, post 0 ((nI n), (nI na), (nI nk), (nI ns), sec, st, xal, (pu_A kd), (pu_A fs), (pu_A sc), (pu_A sz), (pu_A gr), (pu_A ac), vc, (pu_A xl), (pu_A xt), (pu_A xs), (pu_A xc), (pu_A xat), (pu_A xaa), (pu_A w), (pu_A xtw), (pu_A xds), (pu_A xtg), (pu_A xnx), (pu_A xft))) : wpX_chooseAtoms post ((nI n), (nI na), (nI nk), (nI ns), sec, st, xal, (pu_A kd), (pu_A fs), (pu_A sc), (pu_A sz), (pu_A gr), (pu_A ac), vc, (pu_A xl), (pu_A xt), (pu_A xs), (pu_A xc), (pu_A xat), (pu_A xaa), (pu_A xch), (pu_A xtw), (pu_A xds), (pu_A xtg), (pu_A xnx), (pu_A xft)) (nI code) := by
  have e1 : nI 2 + (-1) = nI 1 := pk_m1 1
  have e0 : nI 1 + (-1) = nI 0 := pk_m1 0
  have em : nI 0 + (-1) < 0 := by decide
  refine ⟨4, xm_ca1 (v := 2) ha (by omega) (by omega) (fun l2 => ?_) (fun l2 => ?_)⟩
  · rw [e1]
    refine xm_ca1 (v := 1) ha (by omega) (by omega) (fun l1 => ?_) (fun l1 => ?_)
    · rw [e0]
      refine xm_ca1 (v := 0) ha (by omega) (by omega) (fun l0 => ?_) (fun l0 => ?_)
      · rw [wX_chooseAtoms_4]
        refine br_t em (h1 ⟨hc, by omega, by omega, by omega⟩ _ (fun v hv => ?_))
        rcases sk_3 hv with e | e | e
        · rw [e, pu_us]
          show code / 8 / 8 % 8 = code / 64
          omega
        · rw [e, pu_un (by omega), pu_us]
          show code / 8 % 8 = code / 8 % 8
          rfl
        · rw [e, pu_un (by omega), pu_un (by omega), pu_us]
          show code % 8 = code % 8
          rfl
      · refine h0 (fun V => l0 ?_) _
        have h := V.2.1
        omega
    · exact h0 (fun V => l1 V.2.2.1) _
  · exact h0 (fun V => l2 V.2.2.2) _
theorem xm_fe {post : Int32 → Prop} {t e : Nat} (I : ci_I kd fs sc sz gr n na ac vc) (ht : t < n) (k3 : 3 ≤ kd t) (hw : ∀ u, u < t → xtw u < n) (he : e ≤ t) (no : ∀ u, u < e → ¬ ci_R kd fs sc xtw u t) (K : (e = t ∧ post (nI t)) ∨ (e < t ∧ ci_R kd fs sc xtw e t ∧ post (nI e))) : ∀ d u m, u + d = e → d < m → wX_firstEqualCell_2 post (nI t) (nI n) (nI na) (nI nk) (nI ns) sec st xal (pu_A kd) (pu_A fs) (pu_A sc) (pu_A sz) (pu_A gr) (pu_A ac) vc (pu_A xl) (pu_A xt) (pu_A xs) (pu_A xc) (pu_A xat) (pu_A xaa) (pu_A xch) (pu_A xtw) (pu_A xds) (pu_A xtg) (pu_A xnx) (pu_A xft) m (nI u) := by
  have hn := I.1
  obtain ⟨t1, t2, t3, _⟩ := ci_k3 I ht k3
  have wt : vp_in (nI t) 64 := vp_in_nI (by omega) (by omega)
  have bt := ci_kd I ht
  have ft : pu_A fs (nI t).toNatClampNeg = nI (fs t) := pu_Ag fs (by omega)
  have stt : pu_A sc (nI t).toNatClampNeg = nI (sc t) := pu_Ag sc (by omega)
  have wf : vp_in (pu_A fs (nI t).toNatClampNeg) 64 := by rw [ft]; exact vp_in_nI (by omega) (by omega)
  have ws : vp_in (pu_A sc (nI t).toNatClampNeg) 64 := by rw [stt]; exact vp_in_nI (by omega) (by omega)
  have vf := hw (fs t) t2
  have vs := hw (sc t) t3
  have gf : pu_A xtw (pu_A fs (nI t).toNatClampNeg).toNatClampNeg = nI (xtw (fs t)) := by rw [ft]; exact pu_Ag xtw (by omega)
  have gs : pu_A xtw (pu_A sc (nI t).toNatClampNeg).toNatClampNeg = nI (xtw (sc t)) := by rw [stt]; exact pu_Ag xtw (by omega)
  have body : ∀ u m, u < t → (ci_R kd fs sc xtw u t → post (nI u)) → (¬ ci_R kd fs sc xtw u t → wX_firstEqualCell_2 post (nI t) (nI n) (nI na) (nI nk) (nI ns) sec st xal (pu_A kd) (pu_A fs) (pu_A sc) (pu_A sz) (pu_A gr) (pu_A ac) vc (pu_A xl) (pu_A xt) (pu_A xs) (pu_A xc) (pu_A xat) (pu_A xaa) (pu_A xch) (pu_A xtw) (pu_A xds) (pu_A xtg) (pu_A xnx) (pu_A xft) m (nI (u + 1))) → wX_firstEqualCell_2 post (nI t) (nI n) (nI na) (nI nk) (nI ns) sec st xal (pu_A kd) (pu_A fs) (pu_A sc) (pu_A sz) (pu_A gr) (pu_A ac) vc (pu_A xl) (pu_A xt) (pu_A xs) (pu_A xc) (pu_A xat) (pu_A xaa) (pu_A xch) (pu_A xtw) (pu_A xds) (pu_A xtg) (pu_A xnx) (pu_A xft) (m + 1) (nI u) := by
    intro u m hu yes nx
    have wu : vp_in (nI u) 64 := vp_in_nI (by omega) (by omega)
    have bu := ci_kd I (by omega : u < n)
    rw [wX_firstEqualCell_2]
    refine br_f (nI_ge hu (by omega)) ⟨wu, wt, pk_eq (kd u) (kd t) (fun k => ?_) (fun k => nm_r (nI_1 u) (nx (fun r => k r.1))) (pu_Ag kd (by omega)) (pu_Ag kd (by omega))⟩
    obtain ⟨u1, u2, u3, _⟩ := ci_k3 I (by omega : u < n) (by omega)
    have fu : pu_A fs (nI u).toNatClampNeg = nI (fs u) := pu_Ag fs (by omega)
    have su : pu_A sc (nI u).toNatClampNeg = nI (sc u) := pu_Ag sc (by omega)
    have wf' : vp_in (pu_A fs (nI u).toNatClampNeg) 64 := by rw [fu]; exact vp_in_nI (by omega) (by omega)
    have ws' : vp_in (pu_A sc (nI u).toNatClampNeg) 64 := by rw [su]; exact vp_in_nI (by omega) (by omega)
    have vf' := hw (fs u) (by omega)
    have vs' := hw (sc u) (by omega)
    have gf' : pu_A xtw (pu_A fs (nI u).toNatClampNeg).toNatClampNeg = nI (xtw (fs u)) := by rw [fu]; exact pu_Ag xtw (by omega)
    have gs' : pu_A xtw (pu_A sc (nI u).toNatClampNeg).toNatClampNeg = nI (xtw (sc u)) := by rw [su]; exact pu_Ag xtw (by omega)
    exact ⟨wu, wf', wt, wf, pk_eq (xtw (fs u)) (xtw (fs t)) (fun a => ⟨wu, ws', wt, ws, pk_eq (xtw (sc u)) (xtw (sc t)) (fun b => yes ⟨k, a, b⟩) (fun b => nm_r (nI_1 u) (nx (fun r => b r.2.2))) gs' gs⟩) (fun a => nm_r (nI_1 u) (nx (fun r => a r.2.1))) gf' gf⟩
  intro d
  induction d with
  | zero =>
    intro u m hu hm
    obtain ⟨m, rfl⟩ : ∃ m', m = m' + 1 := ⟨m - 1, by omega⟩
    have q : u = e := by omega
    subst q
    rcases K with ⟨k1, k2⟩ | ⟨k1, k2, k3'⟩
    · rw [wX_firstEqualCell_2]
      exact br_t (nI_le (by omega) (by omega)) k2
    · exact body u m k1 (fun _ => k3') (fun h => absurd k2 h)
  | succ d ih =>
    intro u m hu hm
    obtain ⟨m, rfl⟩ : ∃ m', m = m' + 1 := ⟨m - 1, by omega⟩
    exact body u m (by omega) (fun h => absurd h (no u (by omega))) (fun _ => ih (u + 1) m (by omega) (by omega))
theorem xm_j2 {post : St1 → Prop} (I : ci_I kd fs sc sz gr n na ac vc) (hc : ∀ t, t < n → kd t = 2 → xch (fs t) < na) (K : ∀ w, (∀ t, t < n → ci_X kd fs sc ac xch w t) → (∀ t, t < n → w t < n) → post ((nI n), (nI na), (nI nk), (nI ns), sec, st, xal, (pu_A kd), (pu_A fs), (pu_A sc), (pu_A sz), (pu_A gr), (pu_A ac), vc, (pu_A xl), (pu_A xt), (pu_A xs), (pu_A xc), (pu_A xat), (pu_A xaa), (pu_A xch), (pu_A w), (pu_A xds), (pu_A xtg), (pu_A xnx), (pu_A xft))) : ∀ d t m (w : Nat → Nat), t + d = n → d < m → (∀ u, u < t → ci_X kd fs sc ac xch w u) → (∀ u, u < t → w u < n) → wX_joinEqualCells_2 post (nI n) (nI na) (nI nk) (nI ns) sec st xal m (nI t) (pu_A kd) (pu_A fs) (pu_A sc) (pu_A sz) (pu_A gr) (pu_A ac) vc (pu_A xl) (pu_A xt) (pu_A xs) (pu_A xc) (pu_A xat) (pu_A xaa) (pu_A xch) (pu_A w) (pu_A xds) (pu_A xtg) (pu_A xnx) (pu_A xft) := by
  have hn := I.1
  have ha := I.2.1
  intro d
  induction d with
  | zero =>
    intro t m w ht hm hX hw
    obtain ⟨m, rfl⟩ : ∃ m', m = m' + 1 := ⟨m - 1, by omega⟩
    rw [wX_joinEqualCells_2]
    exact br_t (nI_le (by omega) (by omega)) (K w (fun u hu => hX u (by omega)) (fun u hu => hw u (by omega)))
  | succ d ih =>
    intro t m w ht hm hX hw
    obtain ⟨m, rfl⟩ : ∃ m', m = m' + 1 := ⟨m - 1, by omega⟩
    have ht' : t < n := by omega
    have bt := ci_kd I ht'
    have bb := ci_b I ht'
    have wt : vp_in (nI t) 64 := vp_in_nI (by omega) (by omega)
    have go : ∀ x, x < n → ci_X kd fs sc ac xch (pu_upd w t x) t → wX_joinEqualCells_2 post (nI n) (nI na) (nI nk) (nI ns) sec st xal m (nI (t + 1)) (pu_A kd) (pu_A fs) (pu_A sc) (pu_A sz) (pu_A gr) (pu_A ac) vc (pu_A xl) (pu_A xt) (pu_A xs) (pu_A xc) (pu_A xat) (pu_A xaa) (pu_A xch) (pu_A (pu_upd w t x)) (pu_A xds) (pu_A xtg) (pu_A xnx) (pu_A xft) := by
      intro x hx h
      refine ih (t + 1) m _ (by omega) (by omega) (fun u hu => ?_) (fun u hu => ?_)
      · by_cases e : u = t
        · rw [e]; exact h
        · exact ci_Xup I ht' hX u (by omega)
      · by_cases e : u = t
        · rw [e, pu_us]; exact hx
        · rw [pu_un e]; exact hw u (by omega)
    rw [wX_joinEqualCells_2]
    refine br_f (nI_ge ht' (by omega)) ⟨wt, nm_r (pu_Ag kd (by omega)) (pk_eq (kd t) 1 (fun k1 => ?_) (fun k1 => pk_eq (kd t) 2 (fun k2 => ?_) (fun k2 => ?_)))⟩
    · exact ⟨wt, nm_r (rl_up (x := t) (by omega) rfl rfl) (nm_r (nI_1 t) (go t ht' ⟨fun _ => pu_us, fun k => by omega, fun k => by omega⟩))⟩
    · obtain ⟨f3, _⟩ := ci_k2 I ht' k2
      have c8 := hc t ht' k2
      obtain ⟨a1, a2, a3⟩ := I.2.2.2.1 _ c8
      have e1 : pu_A fs (nI t).toNatClampNeg = nI (fs t) := pu_Ag fs (by omega)
      have e2 : pu_A xch (nI (fs t)).toNatClampNeg = nI (xch (fs t)) := pu_Ag xch (by omega)
      have e3 : pu_A ac (nI (xch (fs t))).toNatClampNeg = nI (ac (xch (fs t))) := pu_Ag ac (by omega)
      refine ⟨wt, by rw [e1]; exact vp_in_nI f3 (by omega), by rw [e1, e2]; exact vp_in_nI (by omega) (by omega), wt, nm_r (rl_up (x := ac (xch (fs t))) (by omega) rfl (by rw [e1, e2, e3])) (nm_r (nI_1 t) (go _ a1 ⟨fun k => by omega, fun _ => pu_us, fun k => by omega⟩))⟩
    · have k3 : 3 ≤ kd t := by omega
      obtain ⟨t1, t2, t3, _⟩ := ci_k3 I ht' k3
      have Rc : ∀ x a, a ≤ t → (ci_R kd fs sc (pu_upd w t x) a t ↔ ci_R kd fs sc w a t) := by
        intro x a ha
        unfold ci_R
        by_cases q : kd a = kd t
        · obtain ⟨a1, a2, a3, _⟩ := ci_k3 I (by omega : a < n) (by omega)
          rw [pu_un (by omega : fs a ≠ t), pu_un (by omega : fs t ≠ t), pu_un (by omega : sc a ≠ t), pu_un (by omega : sc t ≠ t)]
        · constructor
          · intro z; exact absurd z.1 q
          · intro z; exact absurd z.1 q
      unfold wpX_firstEqualCell
      rcases sm_first (fun u => ci_R kd fs sc w u t) t with no | ⟨a, h1, h2, h3⟩
      · refine ⟨t + 1, xm_fe (e := t) I ht' k3 hw (Nat.le_refl t) no (Or.inl ⟨rfl, ⟨wt, nm_r (rl_up (x := t) (by omega) rfl rfl) (nm_r (nI_1 t) (go t ht' ⟨fun k => by omega, fun k => by omega, fun _ => ?_⟩))⟩⟩) t 0 (t + 1) (by omega) (by omega)⟩
        rw [pu_us]
        exact ⟨Nat.le_refl t, ⟨rfl, rfl, rfl⟩, fun a ha z => no a ha ((Rc t a (by omega)).mp z)⟩
      · refine ⟨t + 1, xm_fe (e := a) I ht' k3 hw (by omega) h3 (Or.inr ⟨h1, h2, ⟨wt, nm_r (rl_up (x := a) (by omega) rfl rfl) (nm_r (nI_1 t) (go a (by omega) ⟨fun k => by omega, fun k => by omega, fun _ => ?_⟩))⟩⟩) a 0 (t + 1) (by omega) (by omega)⟩
        rw [pu_us]
        exact ⟨by omega, (Rc a a (by omega)).mpr h2, fun b hb z => h3 b hb ((Rc a b (by omega)).mp z)⟩
theorem xm_join {post : St1 → Prop} (I : ci_I kd fs sc sz gr n na ac vc) (hc : ∀ t, t < n → kd t = 2 → xch (fs t) < na) (K : ∀ w, (∀ t, t < n → ci_X kd fs sc ac xch w t) → (∀ t, t < n → w t < n) → post ((nI n), (nI na), (nI nk), (nI ns), sec, st, xal, (pu_A kd), (pu_A fs), (pu_A sc), (pu_A sz), (pu_A gr), (pu_A ac), vc, (pu_A xl), (pu_A xt), (pu_A xs), (pu_A xc), (pu_A xat), (pu_A xaa), (pu_A xch), (pu_A w), (pu_A xds), (pu_A xtg), (pu_A xnx), (pu_A xft))) : wpX_joinEqualCells post ((nI n), (nI na), (nI nk), (nI ns), sec, st, xal, (pu_A kd), (pu_A fs), (pu_A sc), (pu_A sz), (pu_A gr), (pu_A ac), vc, (pu_A xl), (pu_A xt), (pu_A xs), (pu_A xc), (pu_A xat), (pu_A xaa), (pu_A xch), (pu_A xtw), (pu_A xds), (pu_A xtg), (pu_A xnx), (pu_A xft)) :=
  ⟨n + 1, xm_j2 I hc K n 0 (n + 1) xtw (by omega) (by omega) (fun u hu => by omega) (fun u hu => by omega)⟩
end
