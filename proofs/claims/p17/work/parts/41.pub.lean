section
variable {n na nk ns : Nat} {sec st xal : Int32} {kd fs sc sz gr ac : Nat → Nat} {vc : Nat → Int32} {xl xt xs xc xat xaa xch xtw xds xtg xnx xft : Nat → Nat} {yT yS yR : Nat → Nat}
theorem pg_atom {post : Int32 → St1 → Prop} {b : Nat} (hb : b ≤ 1) (hn : n < 64) (ha : na < 8) (h : post (nI n) ((nI (n + 1)), (nI (na + 1)), (nI nk), (nI ns), sec, 0, (-1), (pu_A (pu_upd kd n 1)), (pu_A (pu_upd fs n na)), (pu_A (pu_upd sc n b)), (pu_A (pu_upd sz n 1)), (pu_A (pu_upd gr n 1)), (pu_A (pu_upd ac na n)), vc, (pu_A xl), (pu_A xt), (pu_A xs), (pu_A xc), (pu_A xat), (pu_A xaa), (pu_A xch), (pu_A xtw), (pu_A xds), (pu_A xtg), (pu_A xnx), (pu_A xft))) : wpX_atom post ((nI n), (nI na), (nI nk), (nI ns), sec, st, xal, (pu_A kd), (pu_A fs), (pu_A sc), (pu_A sz), (pu_A gr), (pu_A ac), vc, (pu_A xl), (pu_A xt), (pu_A xs), (pu_A xc), (pu_A xat), (pu_A xaa), (pu_A xch), (pu_A xtw), (pu_A xds), (pu_A xtg), (pu_A xnx), (pu_A xft)) (nI b) := by
  refine pk_le 8 na (fun l => by omega) (fun _ => pk_lt n 64 (fun _ => pk_eq b 0 (fun e => ?_) (fun e => ?_)) (fun l => by omega))
  · subst e
    exact xm_atom35 (b := 0) hn ha h
  · have e1 : b = 1 := by omega
    subst e1
    exact xm_atom35 (b := 1) hn ha h
theorem pg_var {post : Int32 → St1 → Prop} {j : Nat} (hj : j < 3) (hn : n < 64) (z : vc j = -1) (h : post (nI n) ((nI (n + 1)), (nI na), (nI nk), (nI ns), sec, 0, (-1), (pu_A (pu_upd kd n 2)), (pu_A (pu_upd fs n j)), (pu_A (pu_upd sc n 0)), (pu_A (pu_upd sz n 1)), (pu_A (pu_upd gr n 0)), (pu_A ac), (upd vc j (nI n)), (pu_A xl), (pu_A xt), (pu_A xs), (pu_A xc), (pu_A xat), (pu_A xaa), (pu_A xch), (pu_A xtw), (pu_A xds), (pu_A xtg), (pu_A xnx), (pu_A xft))) : wpX_variable post ((nI n), (nI na), (nI nk), (nI ns), sec, st, xal, (pu_A kd), (pu_A fs), (pu_A sc), (pu_A sz), (pu_A gr), (pu_A ac), vc, (pu_A xl), (pu_A xt), (pu_A xs), (pu_A xc), (pu_A xat), (pu_A xaa), (pu_A xch), (pu_A xtw), (pu_A xds), (pu_A xtg), (pu_A xnx), (pu_A xft)) (nI j) := by
  have w : vp_in (nI j) 3 := vp_in_nI hj (by omega)
  have q : (nI j).toNatClampNeg = j := nI_clamp (by omega)
  refine br_f (nI_pos (by omega)) (pk_lt j 3 (fun _ => ⟨w, br_t (by rw [q]; exact z) (pk_lt n 64 (fun _ => ?_) (fun l => by omega))⟩) (fun l => by omega))
  exact xm_make (a := 2) (b := j) (c := 0) (d := 1) (e := 0) hn (by omega) ⟨w, nm_r (e' := upd vc j (nI n)) (by rw [q]) (xm_reset h)⟩
theorem pg_c17 {post : Int32 → St1 → Prop} {o a b : Nat} (I : ci_I kd fs sc sz gr n na ac vc) (hn : n < 64) (o5 : o ≤ 5) (ha : a < n) (hb : b < n)
    (h1 : 32 < 1 + sz a + sz b → post (-1) ((nI n), (nI na), (nI nk), (nI ns), sec, st, xal, (pu_A kd), (pu_A fs), (pu_A sc), (pu_A sz), (pu_A gr), (pu_A ac), vc, (pu_A xl), (pu_A xt), (pu_A xs), (pu_A xc), (pu_A xat), (pu_A xaa), (pu_A xch), (pu_A xtw), (pu_A xds), (pu_A xtg), (pu_A xnx), (pu_A xft)))
    (h2 : ∀ t, t < n → (kd t = o ∧ fs t = a ∧ sc t = b) → post (nI t) ((nI n), (nI na), (nI nk), (nI ns), sec, st, xal, (pu_A kd), (pu_A fs), (pu_A sc), (pu_A sz), (pu_A gr), (pu_A ac), vc, (pu_A xl), (pu_A xt), (pu_A xs), (pu_A xc), (pu_A xat), (pu_A xaa), (pu_A xch), (pu_A xtw), (pu_A xds), (pu_A xtg), (pu_A xnx), (pu_A xft)))
    (h3 : 1 + sz a + sz b ≤ 32 → (∀ t, t < n → ¬ (kd t = o ∧ fs t = a ∧ sc t = b)) → ∀ g, g ≤ 1 → (g = 1 ↔ gr a = 1 ∧ gr b = 1) → post (nI n) ((nI (n + 1)), (nI na), (nI nk), (nI ns), sec, st, xal, (pu_A (pu_upd kd n o)), (pu_A (pu_upd fs n a)), (pu_A (pu_upd sc n b)), (pu_A (pu_upd sz n (1 + sz a + sz b))), (pu_A (pu_upd gr n g)), (pu_A ac), vc, (pu_A xl), (pu_A xt), (pu_A xs), (pu_A xc), (pu_A xat), (pu_A xaa), (pu_A xch), (pu_A xtw), (pu_A xds), (pu_A xtg), (pu_A xnx), (pu_A xft))) :
    wX_compose_17 post (nI o) (nI a) (nI b) (nI n) (nI na) (nI nk) (nI ns) sec st xal (pu_A kd) (pu_A fs) (pu_A sc) (pu_A sz) (pu_A gr) (pu_A ac) vc (pu_A xl) (pu_A xt) (pu_A xs) (pu_A xc) (pu_A xat) (pu_A xaa) (pu_A xch) (pu_A xtw) (pu_A xds) (pu_A xtg) (pu_A xnx) (pu_A xft) := by
  have wa : vp_in (nI a) 64 := vp_in_nI (by omega) (by omega)
  have wb : vp_in (nI b) 64 := vp_in_nI (by omega) (by omega)
  have sa := ci_sz I a ha
  have sb := ci_sz I b hb
  have ga := ci_gr I ha
  have gb := ci_gr I hb
  have es := sm_size (sz := sz) (by omega : a < 64) (by omega : b < 64)
  unfold wX_compose_17
  refine xm_in (by omega) ha (br_f (by decide) (xm_in (by omega) hb (br_f (by decide) ⟨wa, wb, nm_r es (pk_le (1 + sz a + sz b) 32 (fun l => ?_) (fun l => h1 (by omega)))⟩)))
  unfold wpX_findCell
  rcases sm_first (fun t => kd t = o ∧ fs t = a ∧ sc t = b) n with no | ⟨t, ht, pt, nt⟩
  · refine ⟨n + 1, xm_fc (e := n) I o5 (by omega) (by omega) (Nat.le_refl n) no (Or.inl ⟨rfl, ?_⟩) n 0 (n + 1) (by omega) (by omega)⟩
    refine br_t rfl (pk_lt n 64 (fun _ => ⟨wa, ?_⟩) (fun l => by omega))
    refine pk_eq (gr a) 0 (fun g0 => ?_) (fun g1 => ⟨wb, pk_eq (gr b) 0 (fun g0 => ?_) (fun g2 => ?_) (pu_Ag gr (by omega))⟩) (pu_Ag gr (by omega))
    · exact xm_c119 (g := 0) hn (by omega) (h3 l no 0 (by omega) (by omega))
    · exact xm_c119 (g := 0) hn (by omega) (h3 l no 0 (by omega) (by omega))
    · exact xm_c119 (g := 1) hn (by omega) (h3 l no 1 (by omega) (by omega))
  · refine ⟨n + 1, xm_fc (e := t) I o5 (by omega) (by omega) (by omega) nt (Or.inr ⟨ht, pt, ?_⟩) t 0 (n + 1) (by omega) (by omega)⟩
    exact br_f (gw_m1 (by omega)) (h2 t ht pt)
theorem pg_compose {post : Int32 → St1 → Prop} {o a b : Nat} (I : ci_I kd fs sc sz gr n na ac vc) (hn : n < 64) (o3 : 3 ≤ o) (o5 : o ≤ 5) (ha : a < n) (hb : b < n)
    (h1 : 32 < 1 + sz a + sz b → post (-1) ((nI n), (nI na), (nI nk), (nI ns), sec, st, xal, (pu_A kd), (pu_A fs), (pu_A sc), (pu_A sz), (pu_A gr), (pu_A ac), vc, (pu_A xl), (pu_A xt), (pu_A xs), (pu_A xc), (pu_A xat), (pu_A xaa), (pu_A xch), (pu_A xtw), (pu_A xds), (pu_A xtg), (pu_A xnx), (pu_A xft)))
    (h2 : ∀ t, t < n → (kd t = o ∧ fs t = a ∧ sc t = b) → post (nI t) ((nI n), (nI na), (nI nk), (nI ns), sec, st, xal, (pu_A kd), (pu_A fs), (pu_A sc), (pu_A sz), (pu_A gr), (pu_A ac), vc, (pu_A xl), (pu_A xt), (pu_A xs), (pu_A xc), (pu_A xat), (pu_A xaa), (pu_A xch), (pu_A xtw), (pu_A xds), (pu_A xtg), (pu_A xnx), (pu_A xft)))
    (h3 : 1 + sz a + sz b ≤ 32 → (∀ t, t < n → ¬ (kd t = o ∧ fs t = a ∧ sc t = b)) → ∀ g, g ≤ 1 → (g = 1 ↔ gr a = 1 ∧ gr b = 1) → post (nI n) ((nI (n + 1)), (nI na), (nI nk), (nI ns), sec, st, xal, (pu_A (pu_upd kd n o)), (pu_A (pu_upd fs n a)), (pu_A (pu_upd sc n b)), (pu_A (pu_upd sz n (1 + sz a + sz b))), (pu_A (pu_upd gr n g)), (pu_A ac), vc, (pu_A xl), (pu_A xt), (pu_A xs), (pu_A xc), (pu_A xat), (pu_A xaa), (pu_A xch), (pu_A xtw), (pu_A xds), (pu_A xtg), (pu_A xnx), (pu_A xft))) :
    wpX_compose post ((nI n), (nI na), (nI nk), (nI ns), sec, st, xal, (pu_A kd), (pu_A fs), (pu_A sc), (pu_A sz), (pu_A gr), (pu_A ac), vc, (pu_A xl), (pu_A xt), (pu_A xs), (pu_A xc), (pu_A xat), (pu_A xaa), (pu_A xch), (pu_A xtw), (pu_A xds), (pu_A xtg), (pu_A xnx), (pu_A xft)) (nI o) (nI a) (nI b) := by
  have k := pg_c17 (post := post) I hn o5 ha hb h1 h2 h3
  exact pk_eq o 3 (fun _ => k) (fun e3 => pk_eq o 4 (fun _ => k) (fun e4 => pk_eq o 5 (fun _ => k) (fun e5 => by omega)))
theorem pg_cell0 {post : Int32 → Prop} {t : Nat} (hn : n ≤ 64) (ht : t < n) (h : post (nI (kd t))) : wpX_cell post ((nI n), (nI na), (nI nk), (nI ns), sec, st, xal, (pu_A kd), (pu_A fs), (pu_A sc), (pu_A sz), (pu_A gr), (pu_A ac), vc, (pu_A xl), (pu_A xt), (pu_A xs), (pu_A xc), (pu_A xat), (pu_A xaa), (pu_A xch), (pu_A xtw), (pu_A xds), (pu_A xtg), (pu_A xnx), (pu_A xft)) (nI t) 0 := by
  unfold wpX_cell
  refine xm_in hn ht (br_f (by decide) (br_f (by decide) (br_f (by decide) (br_t rfl ⟨vp_in_nI (by omega) (by omega), ?_⟩))))
  rw [pu_Ag kd (by omega)]; exact h
theorem pg_cell1 {post : Int32 → Prop} {t : Nat} (hn : n ≤ 64) (ht : t < n) (h : post (nI (fs t))) : wpX_cell post ((nI n), (nI na), (nI nk), (nI ns), sec, st, xal, (pu_A kd), (pu_A fs), (pu_A sc), (pu_A sz), (pu_A gr), (pu_A ac), vc, (pu_A xl), (pu_A xt), (pu_A xs), (pu_A xc), (pu_A xat), (pu_A xaa), (pu_A xch), (pu_A xtw), (pu_A xds), (pu_A xtg), (pu_A xnx), (pu_A xft)) (nI t) 1 := by
  unfold wpX_cell
  refine xm_in hn ht (br_f (by decide) (br_f (by decide) (br_f (by decide) (br_f (by decide) (br_t rfl ⟨vp_in_nI (by omega) (by omega), ?_⟩)))))
  rw [pu_Ag fs (by omega)]; exact h
theorem pg_cell2 {post : Int32 → Prop} {t : Nat} (hn : n ≤ 64) (ht : t < n) (h : post (nI (sc t))) : wpX_cell post ((nI n), (nI na), (nI nk), (nI ns), sec, st, xal, (pu_A kd), (pu_A fs), (pu_A sc), (pu_A sz), (pu_A gr), (pu_A ac), vc, (pu_A xl), (pu_A xt), (pu_A xs), (pu_A xc), (pu_A xat), (pu_A xaa), (pu_A xch), (pu_A xtw), (pu_A xds), (pu_A xtg), (pu_A xnx), (pu_A xft)) (nI t) 2 := by
  unfold wpX_cell
  refine xm_in hn ht (br_f (by decide) (br_f (by decide) (br_f (by decide) (br_f (by decide) (br_f (by decide) (br_t rfl ⟨vp_in_nI (by omega) (by omega), ?_⟩))))))
  rw [pu_Ag sc (by omega)]; exact h
theorem pg_learn {post : Int32 → St1 → Prop} {t : Nat} (I : ci_I kd fs sc sz gr n na ac vc) (h8 : nk ≤ 8) (ht : t < n) (h1 : gr t = 1 → nk < 8 → post 1 ((nI n), (nI na), (nI (nk + 1)), (nI ns), sec, 0, (-1), (pu_A kd), (pu_A fs), (pu_A sc), (pu_A sz), (pu_A gr), (pu_A ac), vc, (pu_A (pu_upd xl nk t)), (pu_A xt), (pu_A xs), (pu_A xc), (pu_A xat), (pu_A xaa), (pu_A xch), (pu_A xtw), (pu_A xds), (pu_A xtg), (pu_A xnx), (pu_A xft))) (h0 : ¬ (gr t = 1 ∧ nk < 8) → post 0 ((nI n), (nI na), (nI nk), (nI ns), sec, st, xal, (pu_A kd), (pu_A fs), (pu_A sc), (pu_A sz), (pu_A gr), (pu_A ac), vc, (pu_A xl), (pu_A xt), (pu_A xs), (pu_A xc), (pu_A xat), (pu_A xaa), (pu_A xch), (pu_A xtw), (pu_A xds), (pu_A xtg), (pu_A xnx), (pu_A xft))) : wpX_learn post ((nI n), (nI na), (nI nk), (nI ns), sec, st, xal, (pu_A kd), (pu_A fs), (pu_A sc), (pu_A sz), (pu_A gr), (pu_A ac), vc, (pu_A xl), (pu_A xt), (pu_A xs), (pu_A xc), (pu_A xat), (pu_A xaa), (pu_A xch), (pu_A xtw), (pu_A xds), (pu_A xtg), (pu_A xnx), (pu_A xft)) (nI t) := by
  have hn := I.1
  have g := ci_gr I ht
  unfold wpX_learn
  refine xm_in hn ht (br_f (by decide) ⟨vp_in_nI (by omega) (by omega), pk_eq (gr t) 0 (fun g0 => h0 (fun a => by omega)) (fun g1 => pk_lt nk 8 (fun l => ⟨vp_in_nI l (by omega), nm_r (rl_up (x := t) (by omega) rfl rfl) (nm_r (nI_1 nk) (xm_reset (h1 (by omega) l)))⟩) (fun l => h0 (fun a => by omega))) (pu_Ag gr (by omega))⟩)
theorem pg_known {post : Int32 → Prop} {i : Nat} (h8 : nk ≤ 8) (hi : i < 1000) (h1 : i < nk → post (nI (xl i))) (h0 : nk ≤ i → post (-1)) : wpX_known post ((nI n), (nI na), (nI nk), (nI ns), sec, st, xal, (pu_A kd), (pu_A fs), (pu_A sc), (pu_A sz), (pu_A gr), (pu_A ac), vc, (pu_A xl), (pu_A xt), (pu_A xs), (pu_A xc), (pu_A xat), (pu_A xaa), (pu_A xch), (pu_A xtw), (pu_A xds), (pu_A xtg), (pu_A xnx), (pu_A xft)) (nI i) := by
  refine br_f (nI_pos (by omega)) (pk_le nk i (fun l => h0 l) (fun l => ⟨vp_in_nI (by omega) (by omega), ?_⟩))
  rw [pu_Ag xl (by omega)]; exact h1 l
theorem pg_addStep {post : Int32 → St1 → Prop} {j b t : Nat} (hn : n ≤ 64) (S : sr_I n yT yS yR ns xc xt xs) (hj : j < 3) (hb : b ≤ 1) (ht : t < n) (h1 : ns < 6 → post 1 ((nI n), (nI na), (nI nk), (nI (ns + 1)), sec, 0, (-1), (pu_A kd), (pu_A fs), (pu_A sc), (pu_A sz), (pu_A gr), (pu_A ac), vc, (pu_A xl), (pu_A (pu_upd xt (j * 6 + xc j) t)), (pu_A (pu_upd xs (j * 6 + xc j) b)), (pu_A (pu_upd xc j (xc j + 1))), (pu_A xat), (pu_A xaa), (pu_A xch), (pu_A xtw), (pu_A xds), (pu_A xtg), (pu_A xnx), (pu_A xft))) (h0 : ¬ ns < 6 → post 0 ((nI n), (nI na), (nI nk), (nI ns), sec, st, xal, (pu_A kd), (pu_A fs), (pu_A sc), (pu_A sz), (pu_A gr), (pu_A ac), vc, (pu_A xl), (pu_A xt), (pu_A xs), (pu_A xc), (pu_A xat), (pu_A xaa), (pu_A xch), (pu_A xtw), (pu_A xds), (pu_A xtg), (pu_A xnx), (pu_A xft))) : wpX_addStep post ((nI n), (nI na), (nI nk), (nI ns), sec, st, xal, (pu_A kd), (pu_A fs), (pu_A sc), (pu_A sz), (pu_A gr), (pu_A ac), vc, (pu_A xl), (pu_A xt), (pu_A xs), (pu_A xc), (pu_A xat), (pu_A xaa), (pu_A xch), (pu_A xtw), (pu_A xds), (pu_A xtg), (pu_A xnx), (pu_A xft)) (nI j) (nI b) (nI t) := by
  have h6 := S.1
  have xj := sm_xc S hj
  have w : vp_in (nI j) 3 := vp_in_nI hj (by omega)
  unfold wpX_addStep
  refine xm_tin hj (br_f (by decide) (xm_in hn ht (br_f (by decide) (pk_lt ns 6 (fun l => ?_) (fun l => h0 (by omega))))))
  have es : nI j * 6 + pu_A xc (nI j).toNatClampNeg = nI (j * 6 + xc j) := by rw [pu_Ag xc (by omega), sm_slot]
  have w18 : vp_in (nI (j * 6 + xc j)) 18 := vp_in_nI (by omega) (by omega)
  exact ⟨w, nm_r es ⟨w18, nm_r (rl_up (x := t) (by omega) rfl rfl) ⟨w18, nm_r (rl_up (x := b) (by omega) rfl (rl_nb hb)) ⟨w, w, nm_r (rl_up (k := j) (x := xc j + 1) (by omega) rfl (by rw [pu_Ag xc (by omega), nI_1])) (nm_r (nI_1 ns) (xm_reset (h1 l)))⟩⟩⟩⟩
theorem pg_step {post : Int32 → Prop} {j i : Nat} (S : sr_I n yT yS yR ns xc xt xs) (hn : n ≤ 64) (hj : j < 3) (hi : i < 1000) (h1 : i < xc j → xt (j * 6 + i) < n → xs (j * 6 + i) ≤ 1 → post (nI (2 * xt (j * 6 + i) + xs (j * 6 + i)))) (h0 : xc j ≤ i → post (-1)) : wpX_step post ((nI n), (nI na), (nI nk), (nI ns), sec, st, xal, (pu_A kd), (pu_A fs), (pu_A sc), (pu_A sz), (pu_A gr), (pu_A ac), vc, (pu_A xl), (pu_A xt), (pu_A xs), (pu_A xc), (pu_A xat), (pu_A xaa), (pu_A xch), (pu_A xtw), (pu_A xds), (pu_A xtg), (pu_A xnx), (pu_A xft)) (nI j) (nI i) := by
  have h6 := S.1
  have xj := sm_xc S hj
  have w : vp_in (nI j) 3 := vp_in_nI hj (by omega)
  unfold wpX_step
  refine xm_tin hj (br_f (by decide) (br_f (nI_pos (by omega)) ⟨w, pk_lt i (xc j) (fun l => nm_r sm_slot ?_) (fun l => h0 l) rfl (pu_Ag xc (by omega))⟩))
  obtain ⟨g, _, _, _, g4, g5, g6, g7⟩ := sr_find S hj l
  have w18 : vp_in (nI (j * 6 + i)) 18 := vp_in_nI (by omega) (by omega)
  have k := h1 l (by omega) (by omega)
  have e2 : 2 * nI (xt (j * 6 + i)) = nI (2 * xt (j * 6 + i)) := pk_mul 2 _
  refine ⟨w18, w18, pk_eq (xs (j * 6 + i)) 0 (fun z => ?_) (fun z => ?_) (pu_Ag xs (by omega))⟩
  · rw [pu_Ag xt (by omega), e2]
    rw [z] at k
    have e3 : nI (2 * xt (j * 6 + i)) + 0 = nI (2 * xt (j * 6 + i) + 0) := nI_add _ 0
    rw [e3]
    exact k
  · rw [pu_Ag xt (by omega), e2, nI_1]
    have z1 : xs (j * 6 + i) = 1 := by omega
    rw [z1] at k
    exact k
theorem pg_setSecret {post : Int32 → St1 → Prop} {t : Nat} (hn : n ≤ 64) (ht : t < n) (h : post 1 ((nI n), (nI na), (nI nk), (nI ns), (nI t), 0, (-1), (pu_A kd), (pu_A fs), (pu_A sc), (pu_A sz), (pu_A gr), (pu_A ac), vc, (pu_A xl), (pu_A xt), (pu_A xs), (pu_A xc), (pu_A xat), (pu_A xaa), (pu_A xch), (pu_A xtw), (pu_A xds), (pu_A xtg), (pu_A xnx), (pu_A xft))) : wpX_setSecret post ((nI n), (nI na), (nI nk), (nI ns), sec, st, xal, (pu_A kd), (pu_A fs), (pu_A sc), (pu_A sz), (pu_A gr), (pu_A ac), vc, (pu_A xl), (pu_A xt), (pu_A xs), (pu_A xc), (pu_A xat), (pu_A xaa), (pu_A xch), (pu_A xtw), (pu_A xds), (pu_A xtg), (pu_A xnx), (pu_A xft)) (nI t) := by
  unfold wpX_setSecret
  exact xm_in hn ht (br_f (by decide) (xm_reset h))
theorem pg_value {post : Int32 → Prop} {v : Nat} (hv : v < 3) (ne : ¬ vc v = -1) (h : post (nI (xaa v))) : wpX_value post ((nI n), (nI na), (nI nk), (nI ns), sec, 2, xal, (pu_A kd), (pu_A fs), (pu_A sc), (pu_A sz), (pu_A gr), (pu_A ac), vc, (pu_A xl), (pu_A xt), (pu_A xs), (pu_A xc), (pu_A xat), (pu_A xaa), (pu_A xch), (pu_A xtw), (pu_A xds), (pu_A xtg), (pu_A xnx), (pu_A xft)) (nI v) := by
  have w : vp_in (nI v) 3 := vp_in_nI hv (by omega)
  have q : (nI v).toNatClampNeg = v := nI_clamp (by omega)
  refine br_t rfl (br_f (nI_pos (by omega)) (br_f (nI_ge (b := 3) hv (by omega)) ⟨w, br_f (by rw [q]; exact ne) ⟨w, ?_⟩⟩))
  rw [pu_Ag xaa (by omega)]; exact h
theorem pg_thread {post : Int32 → Prop} {i L : Nat} (hL : L ≤ 6) (hi : i < L) (h : post (nI (xat i))) : wpX_traceThread post ((nI n), (nI na), (nI nk), (nI ns), sec, 2, (nI L), (pu_A kd), (pu_A fs), (pu_A sc), (pu_A sz), (pu_A gr), (pu_A ac), vc, (pu_A xl), (pu_A xt), (pu_A xs), (pu_A xc), (pu_A xat), (pu_A xaa), (pu_A xch), (pu_A xtw), (pu_A xds), (pu_A xtg), (pu_A xnx), (pu_A xft)) (nI i) := by
  refine br_t rfl (br_f (nI_pos (by omega)) (pk_lt i L (fun _ => ⟨vp_in_nI (by omega) (by omega), ?_⟩) (fun l => by omega)))
  rw [pu_Ag xat (by omega)]; exact h
theorem pg_derivable {post : Int32 → St1 → Prop} {t : Nat} (I : ci_I kd fs sc sz gr n na ac vc) (h8 : nk ≤ 8) (hl : ∀ i, i < nk → xl i < n) (ht : t < n) (gt : gr t = 1) (d : tc_L kd fs sc n (fun x => x) (fun u => ∃ i, i < nk ∧ xl i = u) t) (h : ∀ w, post 1 ((nI n), (nI na), (nI nk), (nI ns), sec, st, xal, (pu_A kd), (pu_A fs), (pu_A sc), (pu_A sz), (pu_A gr), (pu_A ac), vc, (pu_A xl), (pu_A xt), (pu_A xs), (pu_A xc), (pu_A xat), (pu_A xaa), (pu_A xch), (pu_A w), (pu_A xds), (pu_A xtg), (pu_A xnx), (pu_A xft))) : wpX_derivable post ((nI n), (nI na), (nI nk), (nI ns), sec, st, xal, (pu_A kd), (pu_A fs), (pu_A sc), (pu_A sz), (pu_A gr), (pu_A ac), vc, (pu_A xl), (pu_A xt), (pu_A xs), (pu_A xc), (pu_A xat), (pu_A xaa), (pu_A xch), (pu_A xtw), (pu_A xds), (pu_A xtg), (pu_A xnx), (pu_A xft)) (nI t) := by
  have hn := I.1
  unfold wpX_derivable
  refine xm_in hn ht (br_f (by decide) ⟨vp_in_nI (by omega) (by omega), pk_eq (gr t) 0 (fun g0 => by omega) (fun g1 => ?_) (pu_Ag gr (by omega))⟩)
  refine ⟨n + 1, xm_kca hn (fun w hw => ?_) n 0 (n + 1) xtw (by omega) (by omega) (fun u hu => by omega)⟩
  have W : xw_W kd fs sc n w := by
    refine ⟨hn, fun u hu => ⟨by rw [hw u hu]; exact hu, (ci_kd I hu).2, ci_b I hu⟩, fun u hu k3 => ?_⟩
    obtain ⟨c1, c2, c3, _⟩ := ci_k3 I hu k3
    exact ⟨by omega, by omega⟩
  refine xm_withLearned W h8 hl (fun B0 hB0 => ?_)
  have hK : xk_K n w (fun u => ∃ a, a < nk ∧ xl a = u) B0 := by
    intro b hb
    rw [hB0 b hb]
    constructor
    · intro h
      obtain ⟨a, ha, e⟩ := h
      exact ⟨xl a, hl a ha, ⟨a, ha, rfl⟩, e⟩
    · intro h
      obtain ⟨x, _, ⟨a, ha, e1⟩, e⟩ := h
      exact ⟨a, ha, by rw [e1]; exact e⟩
  refine xm_closure W hK (fun B hB => ?_)
  refine xm_holds W ht (fun _ => ⟨rl_nn (by omega : 1 ≤ 1), h w⟩) (fun no => absurd ((hB t ht).mpr ?_) no)
  rw [cn_L (tw' := fun t => t) hw (fun u hu k3 => (W.2.2 u hu k3).2)]
  exact d
end
