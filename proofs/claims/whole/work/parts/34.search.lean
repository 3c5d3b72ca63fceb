section
variable {n na nk ns : Nat} {sec st xal ybl : Int32} {yna : Nat} {kd fs sc sz gr ac : Nat → Nat} {vc : Nat → Int32} {xl xt xs xc xat xaa : Nat → Nat} {yl yT yS yR ybq ybv : Nat → Nat}
theorem fi_R {t : Nat} {st' al bL : Int32} {T A kL bQ bV : Nat → Nat} (R : rl_R n na nk ns (nI t) st xal ybl kd fs sc sz gr ac vc xl xt xs xc xat xaa yl yT yS yR ybq ybv) (hk : ∀ i, i < nk → kL i = yl i)
    (h : st' = 2 → ∃ L, L ≤ 6 ∧ al = nI L ∧ bL = nI L ∧ (∀ i, i < L → T i = bQ i) ∧ (∀ v, v < 3 → vc v ≠ -1 → A v = bV v)) :
    rl_R n na nk ns (nI t) st' al bL kd fs sc sz gr ac vc xl xt xs xc T A kL yT yS yR bQ bV := by
  obtain ⟨r1, r2, r3, r4, r5⟩ := R
  refine ⟨r1, r2, ⟨r3.1, fun i hi => ?_⟩, r4, h⟩
  rw [hk i hi]
  exact r3.2 i hi
theorem i_vc_search {k : Nat} {u : SX} {v : SY} (I : i_Rel k u v) (hk : k + 4 ≤ 2048) : wpX_search (fun r u' => wpY_search (fun r' v' => r' = r ∧ i_Rel (k + 4) u' v') v) u := by
  obtain ⟨n, na, nk, ns, sec, st, xal, ybl, yna, kd, fs, sc, sz, gr, ac, vc, xl, xt, xs, xc, xat, xaa, xch, xtw, xds, xtg, xnx, xft, yl, yT, yS, yR, ybq, ybv, yv, yan, ysk, yea, yeb, yq, ych, ykl, ycn, rfl, rfl, R⟩ := I
  have Ic := R.1
  have hn := Ic.1
  have S := R.2.1
  have h8 := R.2.2.1.1
  have hl := R.2.2.1.2
  rcases R.2.2.2.1 with e | ⟨t, ht, e⟩
  · subst e
    exact br_t rfl (br_f (by decide) ⟨rfl, rl_mk R⟩)
  · subst e
    refine xm_search Ic S h8 (fun i hi => ⟨(hl i hi).1, (hl i hi).2.1⟩) ht (fun B a al T A hb hi ho ch tw ds tg nx ft => ?_)
    have hl' : ∀ i, i < nk → yl i < n := fun i hi => (hl i hi).2.1
    constructor
    · intro e1
      refine ym_search Ic S h8 hl' ht (fun B' a' bL bQ bV yv' m' kL an sk ea eb q' ch' kl' cnt' hb' hi' ho' hk' => ?_)
      obtain ⟨eB, _⟩ := as_un hi hi'
      rw [e1] at hb
      have b0 := bs_m1 hb
      have bm : bL = -1 := by
        rw [← eB] at hb'
        rcases bs_same hb hb' with ⟨_, h, _⟩ | ⟨L, _, h, _⟩
        · exact h
        · rcases hb' with ⟨h2, _⟩ | ⟨L', h1', h2', h3', h4'⟩
          · exact h2
          · have h5 := sk_kA_big h1' h3'
            omega
      rw [bm]
      exact br_t (by decide) ⟨rfl, rl_mk (fi_R R hk' (fun h => absurd h (by decide)))⟩
    · intro e1
      refine ym_search Ic S h8 hl' ht (fun B' a' bL bQ bV yv' m' kL an sk ea eb q' ch' kl' cnt' hb' hi' ho' hk' => ?_)
      obtain ⟨eB, ea'⟩ := as_un hi hi'
      rw [← eB] at hb' ho'
      rcases bs_same hb hb' with ⟨h, _⟩ | ⟨L, l6, h1, h2, b1, h3⟩
      · exact absurd h e1
      · have eo := ea' b1
        refine br_f (by rw [h2]; exact nI_pos (by omega)) ⟨rfl, rl_mk (fi_R R hk' (fun _ => ⟨L, l6, h1, h2, fun i hi => (h3 i hi).1, fun v hv nv => ?_⟩))⟩
        rw [ho b1 v hv, ho' b1 v hv nv, eo]
end
