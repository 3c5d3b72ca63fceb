section
def df_ln (ns B : Nat) : Nat :=
  if B = 10000 then ns else if B < 3 then 0 else if B < 9 then 1 else if B < 27 then 2 else if B < 81 then 3 else if B < 243 then 4 else if B < 729 then 5 else 6
def df_ok (B : Nat) : Prop := B = 10000 ∨ B < 2187
theorem df_ln_no (ns : Nat) : df_ln ns 10000 = ns := if_pos rfl
theorem df_ln_at {ns L a : Nat} (hl : L ≤ 6) (h1 : 3 ^ L ≤ a) (h2 : a + 1 ≤ 2 * 3 ^ L) : df_ln ns a = L := by
  have c : L = 0 ∨ L = 1 ∨ L = 2 ∨ L = 3 ∨ L = 4 ∨ L = 5 ∨ L = 6 := by omega
  have p0 : (3 : Nat) ^ 0 = 1 := rfl
  have p1 : (3 : Nat) ^ 1 = 3 := rfl
  have p2 : (3 : Nat) ^ 2 = 9 := rfl
  have p3 : (3 : Nat) ^ 3 = 27 := rfl
  have p4 : (3 : Nat) ^ 4 = 81 := rfl
  have p5 : (3 : Nat) ^ 5 = 243 := rfl
  have p6 : (3 : Nat) ^ 6 = 729 := rfl
  unfold df_ln
  rcases c with e | e | e | e | e | e | e
  · subst e
    rw [p0] at h1 h2
    rw [if_neg (by omega), if_pos (by omega)]
  · subst e
    rw [p1] at h1 h2
    rw [if_neg (by omega), if_neg (by omega), if_pos (by omega)]
  · subst e
    rw [p2] at h1 h2
    rw [if_neg (by omega), if_neg (by omega), if_neg (by omega), if_pos (by omega)]
  · subst e
    rw [p3] at h1 h2
    rw [if_neg (by omega), if_neg (by omega), if_neg (by omega), if_neg (by omega), if_pos (by omega)]
  · subst e
    rw [p4] at h1 h2
    rw [if_neg (by omega), if_neg (by omega), if_neg (by omega), if_neg (by omega), if_neg (by omega), if_pos (by omega)]
  · subst e
    rw [p5] at h1 h2
    rw [if_neg (by omega), if_neg (by omega), if_neg (by omega), if_neg (by omega), if_neg (by omega), if_neg (by omega), if_pos (by omega)]
  · subst e
    rw [p6] at h1 h2
    rw [if_neg (by omega), if_neg (by omega), if_neg (by omega), if_neg (by omega), if_neg (by omega), if_neg (by omega), if_neg (by omega)]
theorem df_ln_kA {ns L : Nat} {Q : Nat → Nat} (hl : L ≤ 6) (hd : ∀ a, a < L → Q a < 3) : df_ln ns (sk_kA Q L) = L :=
  df_ln_at hl (sk_kA_lo L) (sk_kA_hi L hd)
theorem df_ln_lt {ns B d : Nat} (hb : B < 2187) (h : df_ln ns B ≤ d) : B < 3 ^ (d + 1) := by
  have m : 3 ^ (df_ln ns B + 1) ≤ 3 ^ (d + 1) := Nat.pow_le_pow_right (by omega) (by omega)
  refine Nat.lt_of_lt_of_le ?_ m
  have p1 : (3 : Nat) ^ (0 + 1) = 3 := rfl
  have p2 : (3 : Nat) ^ (1 + 1) = 9 := rfl
  have p3 : (3 : Nat) ^ (2 + 1) = 27 := rfl
  have p4 : (3 : Nat) ^ (3 + 1) = 81 := rfl
  have p5 : (3 : Nat) ^ (4 + 1) = 243 := rfl
  have p6 : (3 : Nat) ^ (5 + 1) = 729 := rfl
  have p7 : (3 : Nat) ^ (6 + 1) = 2187 := rfl
  unfold df_ln
  rw [if_neg (by omega)]
  by_cases a1 : B < 3
  · rw [if_pos a1, p1]; exact a1
  · rw [if_neg a1]
    by_cases a2 : B < 9
    · rw [if_pos a2, p2]; exact a2
    · rw [if_neg a2]
      by_cases a3 : B < 27
      · rw [if_pos a3, p3]; exact a3
      · rw [if_neg a3]
        by_cases a4 : B < 81
        · rw [if_pos a4, p4]; exact a4
        · rw [if_neg a4]
          by_cases a5 : B < 243
          · rw [if_pos a5, p5]; exact a5
          · rw [if_neg a5]
            by_cases a6 : B < 729
            · rw [if_pos a6, p6]; exact a6
            · rw [if_neg a6, p7]; exact hb
variable (en : Nat → Nat → Prop) (fn : Nat → Prop) (ok : Nat → Prop) (Kn : Nat → Nat → Prop) (ns : Nat)
def df_N (d p kk : Nat) (kl q cnt kL : Nat → Nat) : Prop :=
  ok p ∧ sk_dep p = d ∧ (∀ j, j < 3 → cnt j = sk_dg p j) ∧ (∀ e, e < d → q e < 3) ∧ sk_kA q d = kk ∧ (∀ u, (∃ i, i < kl d ∧ kL i = u) ↔ Kn p u) ∧ kl d ≤ 8 + d
def df_E (p kk j k : Nat) : Prop := ∃ i s, j ≤ i ∧ i < 3 ∧ en p i ∧ sk_att en fn s (p + sk_w i) ∧ k = sk_ky s (3 * kk + i)
def df_res (p kk j B ow B' ow' : Nat) : Prop :=
  ((B' = B ∧ ow' = ow) ∨ (df_E en fn p kk j B' ∧ B' < B ∧ ow' = 1)) ∧ ∀ k, df_E en fn p kk j k → B' ≤ k
def df_ag (d : Nat) (ch kl q cnt kL ch' kl' q' cnt' kL' : Nat → Nat) : Prop :=
  (∀ e, e < d → ch' e = ch e ∧ q' e = q e) ∧ (∀ e, e ≤ d → kl' e = kl e) ∧ (∀ i, i < kl d → kL' i = kL i) ∧ (∀ j, j < 3 → cnt' j = cnt j)
def df_con (p' kk' B ow B' ow' : Nat) : Prop :=
  (fn p' ∧ kk' < B ∧ B' = kk' ∧ ow' = 1) ∨ (¬ (fn p' ∧ kk' < B) ∧ B' = B ∧ ow' = ow)
variable (W : Nat → Nat → (Nat → Nat) → (Nat → Nat) → (Nat → Nat) → (Nat → Nat) → (Nat → Nat) → Nat → Nat → Prop)
def df_pop : Prop := ∀ it d ch kl q cnt kL B ow, it < 8000 → d < 6 → df_ok B → ch (d + 1) ≤ 3 → (3 ≤ ch (d + 1) ∨ df_ln ns B ≤ d + 1 ∨ 6 ≤ d + 1) → q d < 3 → 1 ≤ cnt (q d) → cnt (q d) ≤ 6 →
  W (it + 1) d ch kl q (pu_upd cnt (q d) (cnt (q d) - 1)) kL B ow → W it (d + 1) ch kl q cnt kL B ow
def df_skip : Prop := ∀ it d p kk ch kl q cnt kL B ow, it < 8000 → d < 6 → df_ok B → ch d < 3 → d < df_ln ns B → df_N ok Kn d p kk kl q cnt kL → ¬ en p (ch d) →
  W (it + 1) d (pu_upd ch d (ch d + 1)) kl q cnt kL B ow → W it d ch kl q cnt kL B ow
def df_step : Prop := ∀ it d p kk ch kl q cnt kL B ow, it < 8000 → d < 6 → df_ok B → ch d < 3 → d < df_ln ns B → df_N ok Kn d p kk kl q cnt kL → en p (ch d) →
  (∀ kl' kL' B' ow', (∀ e, e ≤ d → kl' e = kl e) → kl d ≤ kl' (d + 1) → (∀ i, i < kl d → kL' i = kL i) → (∀ u, (∃ i, i < kl' (d + 1) ∧ kL' i = u) ↔ Kn (p + sk_w (ch d)) u) → kl' (d + 1) ≤ 8 + (d + 1) →
    df_con fn (p + sk_w (ch d)) (3 * kk + ch d) B ow B' ow' →
    W (it + 1) (d + 1) (pu_upd (pu_upd ch d (ch d + 1)) (d + 1) 0) kl' (pu_upd q d (ch d)) (pu_upd cnt (ch d) (cnt (ch d) + 1)) kL' B' ow') → W it d ch kl q cnt kL B ow
def df_T : Nat → Nat
  | 0 => 0
  | r + 1 => 3 * df_T r + 2
variable {en fn ok Kn ns W}
theorem df_ag_r {d : Nat} {ch kl q cnt kL : Nat → Nat} : df_ag d ch kl q cnt kL ch kl q cnt kL :=
  ⟨fun _ _ => ⟨rfl, rfl⟩, fun _ _ => rfl, fun _ _ => rfl, fun _ _ => rfl⟩
theorem df_N_ag {d p kk : Nat} {ch kl q cnt kL ch' kl' q' cnt' kL' : Nat → Nat} (N : df_N ok Kn d p kk kl q cnt kL) (a : df_ag d ch kl q cnt kL ch' kl' q' cnt' kL') : df_N ok Kn d p kk kl' q' cnt' kL' := by
  obtain ⟨n1, n2, n3, n4, n5, n6, n7⟩ := N
  obtain ⟨a1, a2, a3, a4⟩ := a
  have ek := a2 d (Nat.le_refl d)
  refine ⟨n1, n2, fun j hj => (a4 j hj).trans (n3 j hj), fun e he => by rw [(a1 e he).2]; exact n4 e he, ?_, fun u => ?_, by rw [ek]; exact n7⟩
  · rw [← n5]; exact sk_kA_cg d (fun i hi => (a1 i hi).2)
  · rw [ek, ← n6 u]
    constructor
    · intro h
      obtain ⟨i, h1, h2⟩ := h
      exact ⟨i, h1, (a3 i h1).symm.trans h2⟩
    · intro h
      obtain ⟨i, h1, h2⟩ := h
      exact ⟨i, h1, (a3 i h1).trans h2⟩
theorem df_res_r {p kk j B ow : Nat} (h : ∀ k, df_E en fn p kk j k → B ≤ k) : df_res en fn p kk j B ow B ow := ⟨Or.inl ⟨rfl, rfl⟩, h⟩
theorem df_E_s {p kk j k : Nat} (h : df_E en fn p kk (j + 1) k) : df_E en fn p kk j k := by
  obtain ⟨i, s, h1, h2⟩ := h
  exact ⟨i, s, by omega, h2⟩
theorem df_res_skip {p kk j B ow B' ow' : Nat} (no : ¬ en p j) (h : df_res en fn p kk (j + 1) B ow B' ow') : df_res en fn p kk j B ow B' ow' := by
  refine ⟨?_, fun k hk => ?_⟩
  · rcases h.1 with a | ⟨a, b⟩
    · exact Or.inl a
    · exact Or.inr ⟨df_E_s a, b⟩
  · obtain ⟨i, s, h1, h2, h3, h4⟩ := hk
    by_cases e : i = j
    · subst e; exact absurd h3 no
    · exact h.2 k ⟨i, s, by omega, h2, h3, h4⟩
theorem df_res_comp {p kk j B ow B1 ow1 B2 ow2 B3 ow3 : Nat} (hj : j < 3) (he : en p j) (c : df_con fn (p + sk_w j) (3 * kk + j) B ow B1 ow1)
    (h2 : df_res en fn (p + sk_w j) (3 * kk + j) 0 B1 ow1 B2 ow2) (h3 : df_res en fn p kk (j + 1) B2 ow2 B3 ow3) : df_res en fn p kk j B ow B3 ow3 := by
  have E0 : fn (p + sk_w j) → df_E en fn p kk j (3 * kk + j) := fun f => ⟨j, [], Nat.le_refl j, hj, he, f, rfl⟩
  have E1 : ∀ k, df_E en fn (p + sk_w j) (3 * kk + j) 0 k → df_E en fn p kk j k := by
    intro k hk
    obtain ⟨i, s, _, a2, a3, a4, a5⟩ := hk
    exact ⟨j, i :: s, Nat.le_refl j, hj, he, ⟨a2, a3, a4⟩, a5⟩
  have l1 : B1 ≤ B := by rcases c with ⟨_, _, _, _⟩ | ⟨_, _, _⟩ <;> omega
  have l2 : B2 ≤ B1 := by rcases h2.1 with ⟨_, _⟩ | ⟨_, _, _⟩ <;> omega
  have l3 : B3 ≤ B2 := by rcases h3.1 with ⟨_, _⟩ | ⟨_, _, _⟩ <;> omega
  refine ⟨?_, fun k hk => ?_⟩
  · rcases h3.1 with ⟨e3, o3⟩ | ⟨a, b, o3⟩
    · rcases h2.1 with ⟨e2, o2⟩ | ⟨a, b, o2⟩
      · rcases c with ⟨c1, c2, c3, c4⟩ | ⟨c1, c2, c3⟩
        · refine Or.inr ⟨?_, by omega, by omega⟩
          have e : B3 = 3 * kk + j := by omega
          rw [e]; exact E0 c1
        · exact Or.inl ⟨by omega, by omega⟩
      · refine Or.inr ⟨?_, by omega, by omega⟩
        rw [e3]; exact E1 _ a
    · exact Or.inr ⟨df_E_s a, by omega, o3⟩
  · obtain ⟨i, s, a1, a2, a3, a4, a5⟩ := hk
    by_cases e : i = j
    · subst e
      cases s with
      | nil =>
        have f : fn (p + sk_w i) := a4
        have a5' : k = 3 * kk + i := a5
        rcases c with ⟨c1, c2, c3, c4⟩ | ⟨c1, c2, c3⟩
        · omega
        · by_cases l : 3 * kk + i < B
          · exact absurd ⟨f, l⟩ c1
          · omega
      | cons i' s' =>
        have a4' : i' < 3 ∧ en (p + sk_w i) i' ∧ sk_att en fn s' (p + sk_w i + sk_w i') := a4
        have h := h2.2 k ⟨i', s', by omega, a4'.1, a4'.2.1, a4'.2.2, a5⟩
        omega
    · exact h3.2 k ⟨i, s, by omega, a2, a3, a4, a5⟩
theorem df_main (Rp : df_pop ns W) (Rk : df_skip en ok Kn ns W) (Rs : df_step en fn ok Kn ns W)
    (hs : ∀ p j, ok p → j < 3 → en p j → ok (p + sk_w j) ∧ sk_dg p j < 6) (hn : ∀ p, ok p → ns ≤ sk_dep p → ∀ j, j < 3 → ¬ en p j) (hn6 : ns ≤ 6) :
    ∀ r d, d + r = 6 → ∀ m j, j + m = 3 → ∀ it p kk ch kl q cnt kL B ow, ch d = j → df_N ok Kn d p kk kl q cnt kL → df_ok B → it + m * df_T r < 8000 →
    (∀ it' ch' kl' q' cnt' kL' B' ow', it' ≤ it + m * df_T r → df_ag d ch kl q cnt kL ch' kl' q' cnt' kL' → df_ok B' → df_res en fn p kk j B ow B' ow' → ch' d ≤ 3 → (3 ≤ ch' d ∨ df_ln ns B' ≤ d ∨ 6 ≤ d) → W it' d ch' kl' q' cnt' kL' B' ow') →
    W it d ch kl q cnt kL B ow := by
  intro r
  induction r with
  | zero =>
    intro d hd m j hj it p kk ch kl q cnt kL B ow e N b hit cont
    refine cont it ch kl q cnt kL B ow (by omega) df_ag_r b (df_res_r (fun k hk => ?_)) (by omega) (Or.inr (Or.inr (by omega)))
    obtain ⟨i, s, a1, a2, a3, a4, a5⟩ := hk
    have dp := N.2.1
    exact absurd a3 (hn p N.1 (by omega) i a2)
  | succ r ihr =>
    intro d hd m
    induction m with
    | zero =>
      intro j hj it p kk ch kl q cnt kL B ow e N b hit cont
      refine cont it ch kl q cnt kL B ow (by omega) df_ag_r b (df_res_r (fun k hk => ?_)) (by omega) (Or.inl (by omega))
      obtain ⟨i, s, a1, a2, _⟩ := hk
      omega
    | succ m ihm =>
      intro j hj it p kk ch kl q cnt kL B ow e N b hit cont
      have eT : df_T (r + 1) = 3 * df_T r + 2 := rfl
      have eM : (m + 1) * df_T (r + 1) = m * df_T (r + 1) + df_T (r + 1) := Nat.succ_mul m _
      by_cases fi : df_ln ns B ≤ d
      · refine cont it ch kl q cnt kL B ow (by omega) df_ag_r b (df_res_r (fun k hk => ?_)) (by omega) (Or.inr (Or.inl fi))
        obtain ⟨i, s, a1, a2, a3, a4, a5⟩ := hk
        rcases b with b | b
        · subst b
          rw [df_ln_no] at fi
          have dp := N.2.1
          exact absurd a3 (hn p N.1 (by omega) i a2)
        · have h1 := df_ln_lt b fi
          have h2 := sk_ky_ge s (3 * kk + i)
          have h3 := sk_kA_lo (Q := q) d
          have h4 := N.2.2.2.2.1
          rw [Nat.pow_succ] at h1
          omega
      · by_cases he : en p j
        · obtain ⟨o', d6⟩ := hs p j N.1 (by omega) he
          refine Rs it d p kk ch kl q cnt kL B ow (by omega) (by omega) b (by omega) (by omega) N (by rw [e]; exact he) ?_
          rw [e]
          intro kl' kL' B1 ow1 k1 k2 k3 k4 k5 con
          obtain ⟨n1, n2, n3, n4, n5, n6, n7⟩ := N
          have cj := n3 j (by omega)
          have b1 : df_ok B1 := by
            rcases con with ⟨_, c2, c3, _⟩ | ⟨_, c2, _⟩
            · have h1 := sk_kA_hi (Q := q) d n4
              have h2 : 3 ^ d ≤ 3 ^ 5 := Nat.pow_le_pow_right (by omega) (by omega)
              have h3 : (3 : Nat) ^ 5 = 243 := rfl
              exact Or.inr (by omega)
            · rw [c2]; exact b
          have N' : df_N ok Kn (d + 1) (p + sk_w j) (3 * kk + j) kl' (pu_upd q d j) (pu_upd cnt j (cnt j + 1)) kL' := by
            refine ⟨o', by rw [sk_dep_up (by omega) d6, n2], fun i hi => ?_, fun x hx => ?_, ?_, k4, k5⟩
            · by_cases q1 : i = j
              · subst q1
                rw [pu_us, sk_up_s hi d6, cj]
              · rw [pu_un q1, sk_up_o (by omega) hi q1 d6]; exact n3 i hi
            · by_cases q1 : x = d
              · subst q1; rw [pu_us]; omega
              · rw [pu_un q1]; exact n4 x (by omega)
            · rw [sk_kA_s, pu_us, sk_kA_cg (Q' := q) d (fun i hi => pu_un (by omega)), n5]
          refine ihr (d + 1) (by omega) 3 0 rfl (it + 1) (p + sk_w j) (3 * kk + j) _ kl' _ _ kL' B1 ow1 pu_us N' b1 (by omega) ?_
          intro it2 ch2 kl2 q2 cnt2 kL2 B2 ow2 hit2 ag2 b2 res2 le2 fin2
          obtain ⟨g1, g2, g3, g4⟩ := ag2
          have qd : q2 d = j := by rw [(g1 d (by omega)).2, pu_us]
          have cd : ch2 d = j + 1 := by rw [(g1 d (by omega)).1, pu_un (by omega), pu_us]
          have c2j : cnt2 j = cnt j + 1 := by rw [g4 j (by omega), pu_us]
          refine Rp it2 d ch2 kl2 q2 cnt2 kL2 B2 ow2 (by omega) (by omega) b2 le2 fin2 (by omega) (by rw [qd, c2j]; omega) (by rw [qd, c2j]; omega) ?_
          rw [qd, c2j]
          have ag3 : df_ag d ch kl q cnt kL ch2 kl2 q2 (pu_upd cnt2 j (cnt j + 1 - 1)) kL2 := by
            refine ⟨fun x hx => ⟨?_, ?_⟩, fun x hx => ?_, fun i hi => ?_, fun i hi => ?_⟩
            · rw [(g1 x (by omega)).1, pu_un (by omega), pu_un (by omega)]
            · rw [(g1 x (by omega)).2, pu_un (by omega)]
            · rw [g2 x (by omega)]; exact k1 x hx
            · rw [g3 i (by omega)]; exact k3 i hi
            · by_cases q1 : i = j
              · subst q1; rw [pu_us]; omega
              · rw [pu_un q1, g4 i hi, pu_un q1]
          refine ihm (j + 1) (by omega) (it2 + 1) p kk ch2 kl2 q2 _ kL2 B2 ow2 cd (df_N_ag ⟨n1, n2, n3, n4, n5, n6, n7⟩ ag3) b2 (by omega) ?_
          intro it3 ch3 kl3 q3 cnt3 kL3 B3 ow3 hit3 ag4 b3 res3 le3 fin3
          refine cont it3 ch3 kl3 q3 cnt3 kL3 B3 ow3 (by omega) ?_ b3 (df_res_comp (by omega) he con res2 res3) le3 fin3
          obtain ⟨a1, a2, a3, a4⟩ := ag3
          obtain ⟨c1, c2, c3, c4⟩ := ag4
          refine ⟨fun x hx => ⟨(c1 x hx).1.trans (a1 x hx).1, (c1 x hx).2.trans (a1 x hx).2⟩, fun x hx => (c2 x hx).trans (a2 x hx), fun i hi => ?_, fun i hi => (c4 i hi).trans (a4 i hi)⟩
          have h := a2 d (Nat.le_refl d)
          exact (c3 i (by omega)).trans (a3 i hi)
        · refine Rk it d p kk ch kl q cnt kL B ow (by omega) (by omega) b (by omega) (by omega) N (by rw [e]; exact he) ?_
          rw [e]
          have ag3 : df_ag d ch kl q cnt kL (pu_upd ch d (j + 1)) kl q cnt kL :=
            ⟨fun x hx => ⟨pu_un (by omega), rfl⟩, fun _ _ => rfl, fun _ _ => rfl, fun _ _ => rfl⟩
          refine ihm (j + 1) (by omega) (it + 1) p kk _ kl q cnt kL B ow pu_us N b (by omega) ?_
          intro it3 ch3 kl3 q3 cnt3 kL3 B3 ow3 hit3 ag4 b3 res3 le3 fin3
          refine cont it3 ch3 kl3 q3 cnt3 kL3 B3 ow3 (by omega) ?_ b3 (df_res_skip he res3) le3 fin3
          obtain ⟨c1, c2, c3, c4⟩ := ag4
          exact ⟨fun x hx => ⟨(c1 x hx).1.trans (pu_un (by omega)), (c1 x hx).2⟩, c2, c3, c4⟩
end
