section
variable {n na nk ns : Nat} {sec st xal : Int32} {kd fs sc sz gr ac : Nat → Nat} {vc : Nat → Int32} {xl xt xs xc xat xaa xch xtw xds xtg xnx xft : Nat → Nat} {yl yT yS yR : Nat → Nat}
theorem sm_vneg (I : ci_I kd fs sc sz gr n na ac vc) {v : Nat} (hv : v < 3) : (vc v < 0 ↔ vc v = -1) ∧ (0 ≤ vc v ↔ ¬ vc v = -1) := by
  rcases I.2.2.2.2.1 v hv with h | ⟨t, h1, h2, h3, h4⟩
  · rw [h]
    exact ⟨by decide, by decide⟩
  · have hn := I.1
    rw [h2]
    have a : ¬ nI t < 0 := nI_pos (by omega)
    have b : ¬ nI t = -1 := gw_m1 (by omega)
    have c : 0 ≤ nI t := nI_pos' (by omega)
    exact ⟨⟨fun x => absurd x a, fun x => absurd x b⟩, ⟨fun _ => b, fun _ => c⟩⟩
end
