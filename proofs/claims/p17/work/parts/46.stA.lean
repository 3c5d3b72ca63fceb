section
def pa_I (n na nk ns : Nat) (kd fs sc sz gr ac : Nat → Nat) (vc : Nat → Int32) (xl xt xs xc : Nat → Nat) : Prop :=
  ci_I kd fs sc sz gr n na ac vc ∧ (∀ i, i < na → ac i = i) ∧ (∀ t, t < n → kd t ≠ 1 → na ≤ t) ∧ (∃ yT yS yR, sr_I n yT yS yR ns xc xt xs) ∧ (∀ i, i < nk → xl i < n ∧ gr (xl i) = 1)
variable {n na nk ns : Nat} {sec st xal : Int32} {kd fs sc sz gr ac : Nat → Nat} {vc : Nat → Int32} {xl xt xs xc xat xaa xch xtw xds xtg xnx xft : Nat → Nat}
variable {post : Int32 → Prop} {L : Nat} {xss : Nat → Int32} {kc ks : Nat}
theorem pa_atom {b : Nat} (P : pa_I n na nk ns kd fs sc sz gr ac vc xl xt xs xc) (e : n = na) (ha : na < 8) (hb : b ≤ 1) : pa_I (n + 1) (na + 1) nk ns (pu_upd kd n 1) (pu_upd fs n na) (pu_upd sc n b) (pu_upd sz n 1) (pu_upd gr n 1) (pu_upd ac na n) vc xl xt xs xc := by
  obtain ⟨P1, P2, P3, ⟨yT, yS, yR, S⟩, P5⟩ := P
  refine ⟨gw_atom P1 (by omega) ha hb, fun i hi => ?_, fun t ht k => ?_, ⟨yT, yS, yR, sr_up (by omega) S⟩, fun i hi => ?_⟩
  · by_cases q : i = na
    · rw [q, pu_us]; exact e
    · rw [pu_un q]; exact P2 i (by omega)
  · by_cases q : t = n
    · rw [q, pu_us] at k; omega
    · rw [pu_un q] at k
      have h := P3 t (by omega) k
      omega
  · obtain ⟨h1, h2⟩ := P5 i hi
    exact ⟨by omega, by rw [pu_un (by omega)]; exact h2⟩
theorem pa_var {j : Nat} (P : pa_I n na nk ns kd fs sc sz gr ac vc xl xt xs xc) (hn : n < 64) (hna : na ≤ n) (hj : j < 3) (z : vc j = -1) : pa_I (n + 1) na nk ns (pu_upd kd n 2) (pu_upd fs n j) (pu_upd sc n 0) (pu_upd sz n 1) (pu_upd gr n 0) ac (upd vc j (nI n)) xl xt xs xc := by
  obtain ⟨P1, P2, P3, ⟨yT, yS, yR, S⟩, P5⟩ := P
  refine ⟨gw_var P1 hn hj z, P2, fun t ht k => ?_, ⟨yT, yS, yR, sr_up (by omega) S⟩, fun i hi => ?_⟩
  · by_cases q : t = n
    · omega
    · rw [pu_un q] at k
      exact P3 t (by omega) k
  · obtain ⟨h1, h2⟩ := P5 i hi
    exact ⟨by omega, by rw [pu_un (by omega)]; exact h2⟩
theorem pa_comp {o a b g : Nat} (P : pa_I n na nk ns kd fs sc sz gr ac vc xl xt xs xc) (hn : n < 64) (hna : na ≤ n) (o3 : 3 ≤ o) (o5 : o ≤ 5) (ha : a < n) (hb : b < n) (hs : 1 + sz a + sz b ≤ 32) (hg : g ≤ 1) (hg' : g = 1 ↔ gr a = 1 ∧ gr b = 1) (no : ∀ t, t < n → ¬ (kd t = o ∧ fs t = a ∧ sc t = b)) : pa_I (n + 1) na nk ns (pu_upd kd n o) (pu_upd fs n a) (pu_upd sc n b) (pu_upd sz n (1 + sz a + sz b)) (pu_upd gr n g) ac vc xl xt xs xc := by
  obtain ⟨P1, P2, P3, ⟨yT, yS, yR, S⟩, P5⟩ := P
  refine ⟨gw_comp P1 hn o3 o5 ha hb hs hg hg' no, P2, fun t ht k => ?_, ⟨yT, yS, yR, sr_up (by omega) S⟩, fun i hi => ?_⟩
  · by_cases q : t = n
    · omega
    · rw [pu_un q] at k
      exact P3 t (by omega) k
  · obtain ⟨h1, h2⟩ := P5 i hi
    exact ⟨by omega, by rw [pu_un (by omega)]; exact h2⟩
theorem pg_i190 {post : St1 → Prop} {mc ms kc ks : Nat} {f1 f2 f3 f4 f5 f6 f7 : Int32} {a1 a2 a3 a4 a5 a6 a8 a9 a10 a11 a12 a13 a14 a15 a16 a17 a18 a19 : Nat → Int32} (K : ∀ w', (∀ j, j < 3 → w' j = -1) → post (f1, f2, f3, f4, f5, f6, f7, a1, a2, a3, a4, a5, a6, w', a8, a9, a10, a11, a12, a13, a14, a15, a16, a17, a18, a19)) : ∀ d i m (w : Nat → Int32), i + d = 3 → d < m → (∀ j, j < i → w j = -1) → wX_init_190 post mc ms kc ks f1 f2 f3 f4 f5 f6 f7 m (nI i) a1 a2 a3 a4 a5 a6 w a8 a9 a10 a11 a12 a13 a14 a15 a16 a17 a18 a19 := by
  intro d
  induction d with
  | zero =>
    intro i m w hi hm hw
    obtain ⟨m, rfl⟩ : ∃ m', m = m' + 1 := ⟨m - 1, by omega⟩
    have e : i = 3 := by omega
    subst e
    rw [wX_init_190]
    exact br_t (nI_le (Nat.le_refl 3) (by omega)) (K w hw)
  | succ d ih =>
    intro i m w hi hm hw
    obtain ⟨m, rfl⟩ : ∃ m', m = m' + 1 := ⟨m - 1, by omega⟩
    rw [wX_init_190]
    refine br_f (nI_ge (b := 3) (by omega) (by omega)) ⟨vp_in_nI (by omega) (by omega), nm_r (e' := upd w i (-1)) (by rw [nI_clamp (by omega)]) (nm_r (nI_1 i) (ih (i + 1) m _ (by omega) (by omega) (fun j hj => ?_)))⟩
    by_cases q : j = i
    · rw [q]; exact pk_us
    · rw [pk_un q]; exact hw j (by omega)
theorem pg_init {post : St1 → Prop} (K : ∀ vc : Nat → Int32, (∀ j, j < 3 → vc j = -1) → post ((nI 0), (nI 0), (nI 0), (nI 0), (-1), 0, (-1), (pu_A gw_0), (pu_A gw_0), (pu_A gw_0), (pu_A gw_0), (pu_A gw_0), (pu_A gw_0), vc, (pu_A gw_0), (pu_A gw_0), (pu_A gw_0), (pu_A gw_0), (pu_A gw_0), (pu_A gw_0), (pu_A gw_0), (pu_A gw_0), (pu_A gw_0), (pu_A gw_0), (pu_A gw_0), (pu_A gw_0))) : wpX_init post 19 1149 (0, 0, 0, 0, 0, 0, 0) := by
  refine ⟨by omega, by omega, by omega, by omega, by omega, by omega, by omega, by omega, by omega, by omega, by omega, by omega, by omega, by omega, by omega, by omega, by omega, by omega, by omega, by omega, by omega, by omega, by omega, by omega, by omega, by omega, by omega, by omega, by omega, by omega, by omega, by omega, by omega, by omega, by omega, by omega, by omega, by omega, 4, ?_⟩
  exact pg_i190 K 3 0 4 _ (by omega) (by omega) (fun j hj => by omega)
theorem st_B {k : Nat} (P : pa_I n na nk ns kd fs sc sz gr ac vc xl xt xs xc) (hL : L ≤ 260) (hp : post 1) (hk : k < 900) (hkc : kc ≤ 20) (hks : ks ≤ 1175) (n1 : 1 ≤ n) (n10 : n ≤ 10) (na3 : na ≤ 3) (nk2 : nk ≤ 2) {c i fu : Nat} (hc : c ≤ i) (hi : i < 1000) : wL_law_274 post L xss (nI n) (nI c) kc ks (fu + 1) (nI k) (nI i) (nI n) (nI na) (nI nk) (nI ns) sec st xal (pu_A kd) (pu_A fs) (pu_A sc) (pu_A sz) (pu_A gr) (pu_A ac) vc (pu_A xl) (pu_A xt) (pu_A xs) (pu_A xc) (pu_A xat) (pu_A xaa) (pu_A xch) (pu_A xtw) (pu_A xds) (pu_A xtg) (pu_A xnx) (pu_A xft) := by
  obtain ⟨P1, P2, P3, ⟨yT, yS, yR, S⟩, P5⟩ := P
  rw [wL_law_274]
  refine br_t (nI_le hc (by omega)) (nm_r (nI_1 k) (lb_cell hL (by omega) (fun r => lb_mod (by omega) (by omega) (fun s0 hs0 => pg_setSecret (by omega) hs0 ?_))))
  refine xm_search (yl := xl) P1 S (by omega) (fun i hi => ⟨rfl, (P5 i hi).1⟩) hs0 (fun B a al T A hb hi2 ho ch tw ds tg nx ft => ⟨fun e => ?_, fun e => ?_⟩)
  · exact br_f (by decide) hp
  · rcases hb with ⟨e1, _⟩ | ⟨Lg, l6, e1, dg, eB⟩
    · exact absurd e1 e
    · subst e1
      have bB : B < 10000 := by rw [eB]; exact sk_kA_big l6 dg
      rcases hi2 with ⟨z, _⟩ | ⟨_, V, ⟨s, at1, ek⟩, _⟩
      · omega
      · have ds1 := lb_dl_ky T Lg 0
        rw [Nat.zero_add] at ds1
        have es : s = lb_dl T 0 Lg := by
          refine lb_inj s _ 1 (by omega) (sk_att_d s _ at1) (lb_dl_d Lg 0 (fun a ha => dg a (by omega))) ?_
          have k0 : sk_kA T 0 = 1 := rfl
          rw [k0] at ds1
          rw [ds1, ← eB, ek]
        rw [es] at at1
        have Af : pf_A n na nk ns s0 Lg a kd fs sc sz gr ac vc xl xt xs xc T A := by
          refine ⟨P1, n10, na3, P2, P3, ⟨yT, yS, yR, S⟩, ⟨nk2, P5⟩, hs0, l6, dg, fun t ht k2 => ?_, at1⟩
          obtain ⟨f3, fv, _⟩ := ci_k2 P1 ht k2
          refine ⟨?_, ho bB _ f3⟩
          have ne : ¬ vc (fs t) = -1 := by rw [fv]; exact gw_m1 (by omega)
          have ec : ch_c vc na (fs t) = na := if_neg ne
          obtain ⟨v0, v1, v2, v3⟩ := V
          rcases sk_3 f3 with q | q | q
          · rw [q] at ec ⊢; exact Nat.lt_of_lt_of_eq v1 ec
          · rw [q] at ec ⊢; exact Nat.lt_of_lt_of_eq v2 ec
          · rw [q] at ec ⊢; exact Nat.lt_of_lt_of_eq v3 ec
        refine br_t rfl ⟨by omega, by omega, 19, 1149, by omega, by omega, pg_init (fun bvc hv => ⟨n + 1, ?_⟩)⟩
        exact st_C Af hp n 0 (n + 1) 0 0 0 (-1) gw_0 gw_0 gw_0 gw_0 gw_0 gw_0 gw_0 (by omega) (by omega) (by omega) (by omega) (gw_start hv) (fun u hu => by omega)
theorem st_274 (hL : L ≤ 260) (hp : post 1) (hkc : kc ≤ 20) (hks : ks ≤ 1175) (n1 : 1 ≤ n) (n10 : n ≤ 10) (na3 : na ≤ 3) (nk2 : nk ≤ 2) {c : Nat} (hc : c ≤ 6) :
    ∀ (d i k fu ns : Nat) (st xal : Int32) (xt xs xc : Nat → Nat), i + d = c → d < fu → k ≤ 100 + 3 * i → pa_I n na nk ns kd fs sc sz gr ac vc xl xt xs xc → wL_law_274 post L xss (nI n) (nI c) kc ks fu (nI k) (nI i) (nI n) (nI na) (nI nk) (nI ns) sec st xal (pu_A kd) (pu_A fs) (pu_A sc) (pu_A sz) (pu_A gr) (pu_A ac) vc (pu_A xl) (pu_A xt) (pu_A xs) (pu_A xc) (pu_A xat) (pu_A xaa) (pu_A xch) (pu_A xtw) (pu_A xds) (pu_A xtg) (pu_A xnx) (pu_A xft) := by
  intro d
  induction d with
  | zero =>
    intro i k fu ns st xal xt xs xc hi hfu hk P
    obtain ⟨fu, rfl⟩ : ∃ m', fu = m' + 1 := ⟨fu - 1, by omega⟩
    exact st_B P hL hp (by omega) hkc hks n1 n10 na3 nk2 (by omega) (by omega)
  | succ d ih =>
    intro i k fu ns st xal xt xs xc hi hfu hk P
    obtain ⟨fu, rfl⟩ : ∃ m', fu = m' + 1 := ⟨fu - 1, by omega⟩
    obtain ⟨P1, P2, P3, ⟨yT, yS, yR, S⟩, P5⟩ := id P
    rw [wL_law_274]
    refine br_f (nI_ge (by omega) (by omega)) (nm_r (nI_1 k) (lb_cell hL (by omega) (fun r1 => lb_mod (c := 3) (by omega) (by omega) (fun j hj => nm_r (nI_1 (k + 1)) (lb_cell hL (by omega) (fun r2 => ?_))))))
    have go : ∀ b, b ≤ 1 → wL_law_314 post L xss (wL_law_274 post L xss (nI n) (nI c) kc ks fu) (nI (k + 1 + 1)) (nI n) (nI c) (nI i) (nI j) (nI b) kc ks (nI n) (nI na) (nI nk) (nI ns) sec st xal (pu_A kd) (pu_A fs) (pu_A sc) (pu_A sz) (pu_A gr) (pu_A ac) vc (pu_A xl) (pu_A xt) (pu_A xs) (pu_A xc) (pu_A xat) (pu_A xaa) (pu_A xch) (pu_A xtw) (pu_A xds) (pu_A xtg) (pu_A xnx) (pu_A xft) := by
      intro b hb
      refine nm_r (nI_1 (k + 1 + 1)) (lb_cell hL (by omega) (fun r3 => lb_mod (by omega) (by omega) (fun t ht => ?_)))
      refine pg_addStep (by omega) S hj hb ht (fun l => nm_r (nI_1 i) (ih (i + 1) (k + 1 + 1 + 1) fu (ns + 1) 0 (-1) _ _ _ (by omega) (by omega) (by omega) ⟨P1, P2, P3, ⟨_, _, _, sr_add S l hj hb ht⟩, P5⟩)) (fun l => nm_r (nI_1 i) (ih (i + 1) (k + 1 + 1 + 1) fu ns st xal xt xs xc (by omega) (by omega) (by omega) P))
    exact br_c (fun _ => go 1 (by omega)) (fun _ => go 0 (by omega))
theorem st_226 (hL : L ≤ 260) (hp : post 1) (hkc : kc ≤ 20) (hks : ks ≤ 1175) (n1 : 1 ≤ n) (n10 : n ≤ 10) (na3 : na ≤ 3) {c : Nat} (hc : c ≤ 2) :
    ∀ (d i k fu nk : Nat) (st xal : Int32) (xl : Nat → Nat), i + d = c → d < fu → k ≤ 80 + i → nk ≤ i → pa_I n na nk ns kd fs sc sz gr ac vc xl xt xs xc → wL_law_226 post L xss (nI n) (nI c) kc ks fu (nI k) (nI i) (nI n) (nI na) (nI nk) (nI ns) sec st xal (pu_A kd) (pu_A fs) (pu_A sc) (pu_A sz) (pu_A gr) (pu_A ac) vc (pu_A xl) (pu_A xt) (pu_A xs) (pu_A xc) (pu_A xat) (pu_A xaa) (pu_A xch) (pu_A xtw) (pu_A xds) (pu_A xtg) (pu_A xnx) (pu_A xft) := by
  intro d
  induction d with
  | zero =>
    intro i k fu nk st xal xl hi hfu hk hnk P
    obtain ⟨fu, rfl⟩ : ∃ m', fu = m' + 1 := ⟨fu - 1, by omega⟩
    rw [wL_law_226]
    exact br_t (nI_le (by omega) (by omega)) (nm_r (nI_1 k) (lb_cell hL (by omega) (fun r => lb_mod (c := 7) (by omega) (by omega) (fun c2 hc2 => ⟨c2 + 1, st_274 hL hp hkc hks n1 n10 na3 (by omega) (by omega) c2 0 (k + 1) (c2 + 1) ns st xal xt xs xc (by omega) (by omega) (by omega) P⟩))))
  | succ d ih =>
    intro i k fu nk st xal xl hi hfu hk hnk P
    obtain ⟨fu, rfl⟩ : ∃ m', fu = m' + 1 := ⟨fu - 1, by omega⟩
    obtain ⟨P1, P2, P3, P4, P5⟩ := id P
    rw [wL_law_226]
    refine br_f (nI_ge (by omega) (by omega)) (nm_r (nI_1 k) (lb_cell hL (by omega) (fun r1 => lb_mod (by omega) (by omega) (fun t ht => pg_learn P1 (by omega) ht (fun g l => nm_r (nI_1 i) (ih (i + 1) (k + 1) fu (nk + 1) 0 (-1) _ (by omega) (by omega) (by omega) (by omega) ⟨P1, P2, P3, P4, fun a ha => ?_⟩)) (fun no => nm_r (nI_1 i) (ih (i + 1) (k + 1) fu nk st xal xl (by omega) (by omega) (by omega) (by omega) P))))))
    by_cases e : a = nk
    · rw [e, pu_us]; exact ⟨ht, g⟩
    · rw [pu_un e]; exact P5 a (by omega)
theorem st_135 (hL : L ≤ 260) (hp : post 1) (hkc : kc ≤ 20) (hks : ks ≤ 1175) (na1 : 1 ≤ na) (na3 : na ≤ 3) {c : Nat} (hc : c ≤ 5) :
    ∀ (d i k fu n : Nat) (st xal : Int32) (kd fs sc sz gr : Nat → Nat), i + d = c → d < fu → k ≤ 20 + 3 * i → na ≤ n → n ≤ 5 + i → pa_I n na 0 ns kd fs sc sz gr ac vc xl xt xs xc → wL_law_135 post L xss (nI c) kc ks fu (nI k) (nI n) (nI i) (nI n) (nI na) (nI 0) (nI ns) sec st xal (pu_A kd) (pu_A fs) (pu_A sc) (pu_A sz) (pu_A gr) (pu_A ac) vc (pu_A xl) (pu_A xt) (pu_A xs) (pu_A xc) (pu_A xat) (pu_A xaa) (pu_A xch) (pu_A xtw) (pu_A xds) (pu_A xtg) (pu_A xnx) (pu_A xft) := by
  intro d
  induction d with
  | zero =>
    intro i k fu n st xal kd fs sc sz gr hi hfu hk hn1 hn2 P
    obtain ⟨fu, rfl⟩ : ∃ m', fu = m' + 1 := ⟨fu - 1, by omega⟩
    rw [wL_law_135]
    exact br_t (nI_le (by omega) (by omega)) (nm_r (nI_1 k) (lb_cell hL (by omega) (fun r => lb_mod (c := 3) (by omega) (by omega) (fun c2 hc2 => ⟨c2 + 1, st_226 hL hp hkc hks (by omega) (by omega) na3 (by omega) c2 0 (k + 1) (c2 + 1) 0 st xal xl (by omega) (by omega) (by omega) (by omega) P⟩))))
  | succ d ih =>
    intro i k fu n st xal kd fs sc sz gr hi hfu hk hn1 hn2 P
    obtain ⟨fu, rfl⟩ : ∃ m', fu = m' + 1 := ⟨fu - 1, by omega⟩
    obtain ⟨P1, P2, P3, P4, P5⟩ := id P
    rw [wL_law_135]
    refine br_f (nI_ge (by omega) (by omega)) (nm_r (nI_1 k) (lb_cell hL (by omega) (fun r1 => lb_mod (c := 3) (by omega) (by omega) (fun o ho => nm_r (e' := nI (3 + o)) (nI_add 3 o) (nm_r (nI_1 (k + 1)) (lb_cell hL (by omega) (fun r2 => lb_mod (by omega) (by omega) (fun a ha => nm_r (nI_1 (k + 1 + 1)) (lb_cell hL (by omega) (fun r3 => lb_mod (by omega) (by omega) (fun b hb => ?_)))))))))))
    refine pg_compose P1 (by omega) (by omega) (by omega) ha hb (fun l => br_f (fun e => gw_m1 (t := n) (by omega) e.symm) (nm_r (nI_1 i) (ih (i + 1) (k + 1 + 1 + 1) fu n st xal kd fs sc sz gr (by omega) (by omega) (by omega) hn1 (by omega) P))) (fun t ht m => pk_eq t n (fun e => by omega) (fun _ => nm_r (nI_1 i) (ih (i + 1) (k + 1 + 1 + 1) fu n st xal kd fs sc sz gr (by omega) (by omega) (by omega) hn1 (by omega) P))) (fun l no g hg hg' => br_t rfl (nm_r (nI_1 n) (nm_r (nI_1 i) (ih (i + 1) (k + 1 + 1 + 1) fu (n + 1) st xal _ _ _ _ _ (by omega) (by omega) (by omega) (by omega) (by omega) (pa_comp P (by omega) hn1 (by omega) (by omega) ha hb l hg hg' no)))))
theorem st_91 (hL : L ≤ 260) (hp : post 1) (hkc : kc ≤ 20) (hks : ks ≤ 1175) (na1 : 1 ≤ na) (na3 : na ≤ 3) {c k : Nat} (hc : c ≤ 2) (hk : k ≤ 10) :
    ∀ (d v fu n : Nat) (st xal : Int32) (kd fs sc sz gr : Nat → Nat) (vc : Nat → Int32), v + d = c → d < fu → n = na + v → (∀ w, v ≤ w → w < 3 → vc w = -1) → pa_I n na 0 ns kd fs sc sz gr ac vc xl xt xs xc → wL_law_91 post L xss (nI k) (nI c) kc ks fu (nI n) (nI v) (nI n) (nI na) (nI 0) (nI ns) sec st xal (pu_A kd) (pu_A fs) (pu_A sc) (pu_A sz) (pu_A gr) (pu_A ac) vc (pu_A xl) (pu_A xt) (pu_A xs) (pu_A xc) (pu_A xat) (pu_A xaa) (pu_A xch) (pu_A xtw) (pu_A xds) (pu_A xtg) (pu_A xnx) (pu_A xft) := by
  intro d
  induction d with
  | zero =>
    intro v fu n st xal kd fs sc sz gr vc hv hfu hn hw P
    obtain ⟨fu, rfl⟩ : ∃ m', fu = m' + 1 := ⟨fu - 1, by omega⟩
    rw [wL_law_91]
    exact br_t (nI_le (by omega) (by omega)) (nm_r (nI_1 k) (lb_cell hL (by omega) (fun r => lb_mod (c := 6) (by omega) (by omega) (fun c2 hc2 => ⟨c2 + 1, st_135 hL hp hkc hks na1 na3 (by omega) c2 0 (k + 1) (c2 + 1) n st xal kd fs sc sz gr (by omega) (by omega) (by omega) (by omega) (by omega) P⟩))))
  | succ d ih =>
    intro v fu n st xal kd fs sc sz gr vc hv hfu hn hw P
    obtain ⟨fu, rfl⟩ : ∃ m', fu = m' + 1 := ⟨fu - 1, by omega⟩
    have z := hw v (Nat.le_refl v) (by omega)
    rw [wL_law_91]
    refine br_f (nI_ge (by omega) (by omega)) (pg_var (by omega) (by omega) z (br_t rfl (nm_r (nI_1 n) (nm_r (nI_1 v) (ih (v + 1) fu (n + 1) 0 (-1) _ _ _ _ _ _ (by omega) (by omega) (by omega) (fun w h1 h2 => ?_) (pa_var P (by omega) (by omega) (by omega) z))))))
    rw [pk_un (by omega)]
    exact hw w (by omega) h2
theorem st_31 (hL : L ≤ 260) (hp : post 1) (hkc : kc ≤ 20) (hks : ks ≤ 1175) {c : Nat} (hc : c ≤ 3) (c1 : 1 ≤ c) (hv : ∀ w, w < 3 → vc w = -1) :
    ∀ (d i k fu : Nat) (st xal : Int32) (kd fs sc sz gr ac : Nat → Nat), i + d = c → d < fu → k ≤ 1 + i → pa_I i i 0 ns kd fs sc sz gr ac vc xl xt xs xc → wL_law_31 post L xss (nI c) kc ks fu (nI k) (nI i) (nI i) (nI i) (nI i) (nI 0) (nI ns) sec st xal (pu_A kd) (pu_A fs) (pu_A sc) (pu_A sz) (pu_A gr) (pu_A ac) vc (pu_A xl) (pu_A xt) (pu_A xs) (pu_A xc) (pu_A xat) (pu_A xaa) (pu_A xch) (pu_A xtw) (pu_A xds) (pu_A xtg) (pu_A xnx) (pu_A xft) := by
  intro d
  induction d with
  | zero =>
    intro i k fu st xal kd fs sc sz gr ac hi hfu hk P
    obtain ⟨fu, rfl⟩ : ∃ m', fu = m' + 1 := ⟨fu - 1, by omega⟩
    rw [wL_law_31]
    exact br_t (nI_le (by omega) (by omega)) (nm_r (nI_1 k) (lb_cell hL (by omega) (fun r => lb_mod (c := 3) (by omega) (by omega) (fun c2 hc2 => ⟨c2 + 1, st_91 hL hp hkc hks (by omega) (by omega) (by omega) (by omega) c2 0 (c2 + 1) i st xal kd fs sc sz gr vc (by omega) (by omega) (by omega) (fun w _ h => hv w h) P⟩))))
  | succ d ih =>
    intro i k fu st xal kd fs sc sz gr ac hi hfu hk P
    obtain ⟨fu, rfl⟩ : ∃ m', fu = m' + 1 := ⟨fu - 1, by omega⟩
    have go : ∀ b, b ≤ 1 → wL_law_58 post L xss (wL_law_31 post L xss (nI c) kc ks fu) (nI (k + 1)) (nI i) (nI c) (nI i) (nI b) kc ks (nI i) (nI i) (nI 0) (nI ns) sec st xal (pu_A kd) (pu_A fs) (pu_A sc) (pu_A sz) (pu_A gr) (pu_A ac) vc (pu_A xl) (pu_A xt) (pu_A xs) (pu_A xc) (pu_A xat) (pu_A xaa) (pu_A xch) (pu_A xtw) (pu_A xds) (pu_A xtg) (pu_A xnx) (pu_A xft) := by
      intro b hb
      unfold wL_law_58
      exact pg_atom (n := i) (na := i) (nk := 0) hb (by omega) (by omega) (br_t rfl (nm_r (nI_1 i) (nm_r (nI_1 i) (ih (i + 1) (k + 1) fu 0 (-1) _ _ _ _ _ _ (by omega) (by omega) (by omega) (pa_atom P rfl (by omega) hb)))))
    rw [wL_law_31]
    exact br_f (nI_ge (by omega) (by omega)) (nm_r (nI_1 k) (lb_cell hL (by omega) (fun r => br_c (fun _ => go 1 (by omega)) (fun _ => go 0 (by omega)))))
theorem i_vc (xs : Nat → Int32) (L : Nat) (hL : L ≤ 260) : wpL_law (fun r => r = 1) L xs := by
  refine ⟨19, 1149, by omega, by omega, pg_init (fun vc hv => ?_)⟩
  refine nm_r (e' := nI 1) (by decide) (lb_cell (k := 0) hL (by omega) (fun r => lb_mod (c := 3) (by omega) (by omega) (fun j hj => nm_r (e' := nI (1 + j)) (nI_add 1 j) ⟨1 + j + 1, ?_⟩)))
  exact st_31 (post := fun r => r = 1) (c := 1 + j) (kc := 1 + 19) (ks := 26 + 1149) (ns := 0) (xl := gw_0) (xt := gw_0) (xs := gw_0) (xc := gw_0) hL rfl (by omega) (by omega) (by omega) (by omega) hv (1 + j) 0 1 (1 + j + 1) 0 (-1) gw_0 gw_0 gw_0 gw_0 gw_0 gw_0 (by omega) (by omega) (by omega) ⟨gw_start hv, fun i hi => by omega, fun t ht => by omega, ⟨gw_0, gw_0, gw_0, sr_0 0 gw_0 gw_0 gw_0 gw_0 gw_0⟩, fun i hi => by omega⟩
end
