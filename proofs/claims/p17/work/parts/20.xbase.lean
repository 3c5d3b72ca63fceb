section
variable {n na nk ns : Nat} {sec st xal : Int32} {kd fs sc sz gr ac : Nat → Nat} {vc : Nat → Int32} {xl xt xs xc xat xaa xch xtw xds xtg xnx xft : Nat → Nat} {yl yT yS yR : Nat → Nat}
theorem rl_nb {e : Nat} (h : e ≤ 1) : vp_nar .boolean (nI e) = nI e := by
  have c : e = 0 ∨ e = 1 := by omega
  rcases c with q | q
  · rw [q]; rfl
  · rw [q]; rfl
theorem rl_nn {e : Nat} (h : e ≤ 1) : narrow .boolean (.int (nI e)) = .int (nI e) := by
  have c : e = 0 ∨ e = 1 := by omega
  rcases c with q | q
  · rw [q]; rfl
  · rw [q]; rfl
theorem rl_up {f : Nat → Nat} {k x : Nat} {i y : Int32} (hk : k < 2 ^ 31) (hi : i = nI k) (hy : y = nI x) : upd (pu_A f) i.toNatClampNeg y = pu_A (pu_upd f k x) := by
  rw [hi, nI_clamp hk, hy, pu_Au]
def rl_bad (n : Nat) (t : Int32) : Prop := t < 0 ∨ (¬ t < 0 ∧ nI n ≤ t)
theorem rl_split (n : Nat) (t : Int32) (h : n < 2 ^ 31) : rl_bad n t ∨ ∃ j, j < n ∧ t = nI j := by
  rcases pk_ix t h with a | b | c
  · exact Or.inl (Or.inl a)
  · by_cases q : t < 0
    · exact Or.inl (Or.inl q)
    · exact Or.inl (Or.inr ⟨q, b⟩)
  · exact Or.inr c
theorem xm_bad {post : Int32 → Prop} {t : Int32} (b : rl_bad n t) (h : post 0) : wpX_isCell post ((nI n), (nI na), (nI nk), (nI ns), sec, st, xal, (pu_A kd), (pu_A fs), (pu_A sc), (pu_A sz), (pu_A gr), (pu_A ac), vc, (pu_A xl), (pu_A xt), (pu_A xs), (pu_A xc), (pu_A xat), (pu_A xaa), (pu_A xch), (pu_A xtw), (pu_A xds), (pu_A xtg), (pu_A xnx), (pu_A xft)) t := by
  rcases b with b | b
  · exact br_t b h
  · exact br_f b.1 (br_t b.2 h)
theorem xm_in {post : Int32 → Prop} {j : Nat} (hn : n ≤ 64) (hj : j < n) (h : post 1) : wpX_isCell post ((nI n), (nI na), (nI nk), (nI ns), sec, st, xal, (pu_A kd), (pu_A fs), (pu_A sc), (pu_A sz), (pu_A gr), (pu_A ac), vc, (pu_A xl), (pu_A xt), (pu_A xs), (pu_A xc), (pu_A xat), (pu_A xaa), (pu_A xch), (pu_A xtw), (pu_A xds), (pu_A xtg), (pu_A xnx), (pu_A xft)) (nI j) :=
  br_f (nI_pos (by omega)) (br_f (nI_ge hj (by omega)) h)
theorem xm_make {post : Int32 → St1 → Prop} {a b c d e : Nat} (hn : n < 64) (he : e ≤ 1) (h : post (nI n) ((nI (n + 1)), (nI na), (nI nk), (nI ns), sec, st, xal, (pu_A (pu_upd kd n a)), (pu_A (pu_upd fs n b)), (pu_A (pu_upd sc n c)), (pu_A (pu_upd sz n d)), (pu_A (pu_upd gr n e)), (pu_A ac), vc, (pu_A xl), (pu_A xt), (pu_A xs), (pu_A xc), (pu_A xat), (pu_A xaa), (pu_A xch), (pu_A xtw), (pu_A xds), (pu_A xtg), (pu_A xnx), (pu_A xft))) : wpX_makeCell post ((nI n), (nI na), (nI nk), (nI ns), sec, st, xal, (pu_A kd), (pu_A fs), (pu_A sc), (pu_A sz), (pu_A gr), (pu_A ac), vc, (pu_A xl), (pu_A xt), (pu_A xs), (pu_A xc), (pu_A xat), (pu_A xaa), (pu_A xch), (pu_A xtw), (pu_A xds), (pu_A xtg), (pu_A xnx), (pu_A xft)) (nI a) (nI b) (nI c) (nI d) (nI e) := by
  have w : vp_in (nI n) 64 := vp_in_nI hn (by omega)
  have q : n < 2 ^ 31 := by omega
  exact ⟨w, nm_r (rl_up q rfl rfl) ⟨w, nm_r (rl_up q rfl rfl) ⟨w, nm_r (rl_up q rfl rfl) ⟨w, nm_r (rl_up q rfl rfl) ⟨w, nm_r (rl_up q rfl (rl_nb he)) (nm_r (nI_1 n) h)⟩⟩⟩⟩⟩
theorem xm_reset {post : St1 → Prop} (h : post ((nI n), (nI na), (nI nk), (nI ns), sec, 0, (-1), (pu_A kd), (pu_A fs), (pu_A sc), (pu_A sz), (pu_A gr), (pu_A ac), vc, (pu_A xl), (pu_A xt), (pu_A xs), (pu_A xc), (pu_A xat), (pu_A xaa), (pu_A xch), (pu_A xtw), (pu_A xds), (pu_A xtg), (pu_A xnx), (pu_A xft))) : wpX_reset post ((nI n), (nI na), (nI nk), (nI ns), sec, st, xal, (pu_A kd), (pu_A fs), (pu_A sc), (pu_A sz), (pu_A gr), (pu_A ac), vc, (pu_A xl), (pu_A xt), (pu_A xs), (pu_A xc), (pu_A xat), (pu_A xaa), (pu_A xch), (pu_A xtw), (pu_A xds), (pu_A xtg), (pu_A xnx), (pu_A xft)) := h
theorem xm_atom35 {post : Int32 → St1 → Prop} {b : Nat} (hn : n < 64) (ha : na < 8) (h : post (nI n) ((nI (n + 1)), (nI (na + 1)), (nI nk), (nI ns), sec, 0, (-1), (pu_A (pu_upd kd n 1)), (pu_A (pu_upd fs n na)), (pu_A (pu_upd sc n b)), (pu_A (pu_upd sz n 1)), (pu_A (pu_upd gr n 1)), (pu_A (pu_upd ac na n)), vc, (pu_A xl), (pu_A xt), (pu_A xs), (pu_A xc), (pu_A xat), (pu_A xaa), (pu_A xch), (pu_A xtw), (pu_A xds), (pu_A xtg), (pu_A xnx), (pu_A xft))) : wX_atom_35 post (nI b) (nI na) 1 (nI n) (nI na) (nI nk) (nI ns) sec st xal (pu_A kd) (pu_A fs) (pu_A sc) (pu_A sz) (pu_A gr) (pu_A ac) vc (pu_A xl) (pu_A xt) (pu_A xs) (pu_A xc) (pu_A xat) (pu_A xaa) (pu_A xch) (pu_A xtw) (pu_A xds) (pu_A xtg) (pu_A xnx) (pu_A xft) := by
  unfold wX_atom_35
  refine xm_make (a := 1) (b := na) (c := b) (d := 1) (e := 1) hn (by omega) ?_
  exact ⟨vp_in_nI ha (by omega), nm_r (rl_up (by omega) rfl rfl) (nm_r (nI_1 na) (xm_reset h))⟩
theorem rl_st0 {P : Prop} : (0 : Int32) = 2 → P := fun h => absurd h (by decide)
end
