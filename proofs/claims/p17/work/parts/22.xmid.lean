section
variable {n na nk ns : Nat} {sec st xal : Int32} {kd fs sc sz gr ac : Nat → Nat} {vc : Nat → Int32} {xl xt xs xc xat xaa xch xtw xds xtg xnx xft : Nat → Nat} {yl yT yS yR : Nat → Nat}
theorem sm_first (P : Nat → Prop) : ∀ m, (∀ t, t < m → ¬ P t) ∨ ∃ t, t < m ∧ P t ∧ ∀ u, u < t → ¬ P u := by
  intro m
  induction m with
  | zero => exact Or.inl (fun t h => by omega)
  | succ m ih =>
    rcases ih with h | ⟨a, h1, h2⟩
    · by_cases r : P m
      · exact Or.inr ⟨m, by omega, r, h⟩
      · refine Or.inl (fun a ha => ?_)
        by_cases e : a = m
        · rw [e]; exact r
        · exact h a (by omega)
    · exact Or.inr ⟨a, by omega, h2⟩
theorem sm_size {a b : Nat} (ha : a < 64) (hb : b < 64) : (1 + pu_A sz (nI a).toNatClampNeg) + pu_A sz (nI b).toNatClampNeg = nI (1 + sz a + sz b) := by
  rw [pu_Ag sz (by omega), pu_Ag sz (by omega)]
  have e : (1 : Int32) + nI (sz a) = nI (1 + sz a) := nI_add 1 (sz a)
  rw [e, nI_add]
theorem xm_fc {post : Int32 → Prop} {o a b e : Nat} (I : ci_I kd fs sc sz gr n na ac vc) (ho : o ≤ 5) (ha : a < 64) (hb : b < 64) (he : e ≤ n) (no : ∀ u, u < e → ¬ (kd u = o ∧ fs u = a ∧ sc u = b)) (K : (e = n ∧ post (-1)) ∨ (e < n ∧ (kd e = o ∧ fs e = a ∧ sc e = b) ∧ post (nI e))) : ∀ d t m, t + d = e → d < m → wX_findCell_3 post (nI o) (nI a) (nI b) (nI n) (nI na) (nI nk) (nI ns) sec st xal (pu_A kd) (pu_A fs) (pu_A sc) (pu_A sz) (pu_A gr) (pu_A ac) vc (pu_A xl) (pu_A xt) (pu_A xs) (pu_A xc) (pu_A xat) (pu_A xaa) (pu_A xch) (pu_A xtw) (pu_A xds) (pu_A xtg) (pu_A xnx) (pu_A xft) m (nI t) := by
  have hn := I.1
  intro d
  induction d with
  | zero =>
    intro t m ht hm
    obtain ⟨m, rfl⟩ : ∃ m', m = m' + 1 := ⟨m - 1, by omega⟩
    have q : t = e := by omega
    subst q
    rw [wX_findCell_3]
    rcases K with ⟨k1, k2⟩ | ⟨k1, k2, k3⟩
    · exact br_t (nI_le (by omega) (by omega)) k2
    · have w : vp_in (nI t) 64 := vp_in_nI (by omega) (by omega)
      have b1 := ci_kd I k1
      have b2 := ci_b I k1
      exact br_f (nI_ge k1 (by omega)) ⟨w, pk_eq (kd t) o (fun _ => ⟨w, pk_eq (fs t) a (fun _ => ⟨w, pk_eq (sc t) b (fun _ => k3) (fun h => absurd k2.2.2 h) (pu_Ag sc (by omega))⟩) (fun h => absurd k2.2.1 h) (pu_Ag fs (by omega))⟩) (fun h => absurd k2.1 h) (pu_Ag kd (by omega))⟩
  | succ d ih =>
    intro t m ht hm
    obtain ⟨m, rfl⟩ : ∃ m', m = m' + 1 := ⟨m - 1, by omega⟩
    rw [wX_findCell_3]
    have w : vp_in (nI t) 64 := vp_in_nI (by omega) (by omega)
    have b1 := ci_kd I (by omega : t < n)
    have b2 := ci_b I (by omega : t < n)
    have nx := ih (t + 1) m (by omega) (by omega)
    exact br_f (nI_ge (by omega) (by omega)) ⟨w, pk_eq (kd t) o (fun h1 => ⟨w, pk_eq (fs t) a (fun h2 => ⟨w, pk_eq (sc t) b (fun h3 => absurd ⟨h1, h2, h3⟩ (no t (by omega))) (fun _ => nm_r (nI_1 t) nx) (pu_Ag sc (by omega))⟩) (fun _ => nm_r (nI_1 t) nx) (pu_Ag fs (by omega))⟩) (fun _ => nm_r (nI_1 t) nx) (pu_Ag kd (by omega))⟩
theorem xm_c119 {post : Int32 → St1 → Prop} {o a b s g : Nat} (hn : n < 64) (hg : g ≤ 1) (h : post (nI n) ((nI (n + 1)), (nI na), (nI nk), (nI ns), sec, st, xal, (pu_A (pu_upd kd n o)), (pu_A (pu_upd fs n a)), (pu_A (pu_upd sc n b)), (pu_A (pu_upd sz n s)), (pu_A (pu_upd gr n g)), (pu_A ac), vc, (pu_A xl), (pu_A xt), (pu_A xs), (pu_A xc), (pu_A xat), (pu_A xaa), (pu_A xch), (pu_A xtw), (pu_A xds), (pu_A xtg), (pu_A xnx), (pu_A xft))) : wX_compose_119 post (nI g) (nI s) (nI b) (nI a) (nI o) (nI n) (nI na) (nI nk) (nI ns) sec st xal (pu_A kd) (pu_A fs) (pu_A sc) (pu_A sz) (pu_A gr) (pu_A ac) vc (pu_A xl) (pu_A xt) (pu_A xs) (pu_A xc) (pu_A xat) (pu_A xaa) (pu_A xch) (pu_A xtw) (pu_A xds) (pu_A xtg) (pu_A xnx) (pu_A xft) := by
  unfold wX_compose_119
  exact xm_make hn hg h
end
