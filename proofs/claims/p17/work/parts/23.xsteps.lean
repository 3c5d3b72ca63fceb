section
variable {n na nk ns : Nat} {sec st xal : Int32} {kd fs sc sz gr ac : Nat → Nat} {vc : Nat → Int32} {xl xt xs xc xat xaa xch xtw xds xtg xnx xft : Nat → Nat} {yl yT yS yR : Nat → Nat}
theorem xm_tbad {post : Int32 → Prop} {t : Int32} (b : rl_bad 3 t) (h : post 0) : wpX_isThread post () t := by
  rcases b with b | b
  · exact br_t b h
  · exact br_f b.1 (br_t b.2 h)
theorem xm_tin {post : Int32 → Prop} {j : Nat} (hj : j < 3) (h : post 1) : wpX_isThread post () (nI j) :=
  br_f (nI_pos (by omega)) (br_f (nI_ge (b := 3) hj (by omega)) h)
theorem sm_slot {j c : Nat} : nI j * 6 + nI c = nI (j * 6 + c) := by
  have e : nI j * 6 = nI (j * 6) := pk_mul j 6
  rw [e, nI_add]
theorem sm_xc (R : sr_I n yT yS yR ns xc xt xs) {j : Nat} (hj : j < 3) : xc j ≤ ns := by
  rw [R.2.2 j hj]
  exact sr_c_le yT j ns
end
