section
variable {n na nk ns : Nat} {sec st xal ybl : Int32} {yna : Nat} {kd fs sc sz gr ac : Nat → Nat} {vc : Nat → Int32} {yl yT yS yR ybq ybv yv yan ysk yea yeb yq ych ykl ycn : Nat → Nat}
variable {tw rs : Nat → Nat} {G : Nat → Prop}
def yd_v (kd fs sc : Nat → Nat) (n : Nat) (tw rs : Nat → Nat) (G : Nat → Prop) (K : Nat → Prop) (f : Nat → Nat) (m m0 i c : Nat) : Prop :=
  dv_I kd fs sc n tw G K f m ∧ (∀ u, u < n → K u → G u ∧ tc_M tw f m u) ∧ ((c = 0 ∧ m = m0 ∧ ∀ a, a < i → dv_F kd fs sc n tw rs G f m a) ∨ (c = 1 ∧ m0 < m))
theorem yd_K {K : Nat → Prop} {f : Nat → Nat} {m c : Nat} (h : ∀ u, u < n → K u → G u ∧ tc_M tw f m u) : ∀ u, u < n → K u → G u ∧ tc_M tw (pu_upd f m c) (m + 1) u :=
  fun u hu k => ⟨(h u hu k).1, tc_M_up.mpr (Or.inl (h u hu k).2)⟩
theorem yd_1 {K : Nat → Prop} {f : Nat → Nat} {m m0 i c x : Nat} (v : yd_v kd fs sc n tw rs G K f m m0 i c) (I : dv_I kd fs sc n tw G K (pu_upd f m x) (m + 1)) : yd_v kd fs sc n tw rs G K (pu_upd f m x) (m + 1) m0 (i + 1) 1 := by
  refine ⟨I, yd_K v.2.1, Or.inr ⟨rfl, ?_⟩⟩
  rcases v.2.2 with ⟨_, h, _⟩ | ⟨_, h⟩
  · omega
  · omega
theorem yd_0 {K : Nat → Prop} {f : Nat → Nat} {m m0 i c : Nat} (v : yd_v kd fs sc n tw rs G K f m m0 i c) (F : dv_F kd fs sc n tw rs G f m i) : yd_v kd fs sc n tw rs G K f m m0 (i + 1) c := by
  refine ⟨v.1, v.2.1, ?_⟩
  rcases v.2.2 with ⟨h1, h2, h3⟩ | h
  · refine Or.inl ⟨h1, h2, fun a ha => ?_⟩
    by_cases e : a = i
    · rw [e]; exact F
    · exact h3 a (by omega)
  · exact Or.inr h
theorem yd_c {K : Nat → Prop} {f : Nat → Nat} {m m0 i c : Nat} (v : yd_v kd fs sc n tw rs G K f m m0 i c) : c = 0 ∨ c = 1 := by
  rcases v.2.2 with ⟨h1, h2, h3⟩ | ⟨h, _⟩
  · exact Or.inl h1
  · exact Or.inr h
theorem ym_d49 {post : Int32 → SY → Prop} {J : Int32 → Int32 → Int32 → Int32 → Int32 → Int32 → Int32 → Int32 → Int32 → (Nat → Int32) → (Nat → Int32) → (Nat → Int32) → (Nat → Int32) → (Nat → Int32) → (Nat → Int32) → (Nat → Int32) → (Nat → Int32) → (Nat → Int32) → (Nat → Int32) → (Nat → Int32) → (Nat → Int32) → (Nat → Int32) → (Nat → Int32) → (Nat → Int32) → (Nat → Int32) → (Nat → Int32) → (Nat → Int32) → (Nat → Int32) → (Nat → Int32) → (Nat → Int32) → Prop} {goal pass m0 : Nat} {K : Nat → Prop} (W : yw_W kd fs sc sz n tw rs G yv)
    (K1 : ∀ f m sk ea eb, dv_I kd fs sc n tw G K f m → (∀ u, u < n → K u → G u ∧ tc_M tw f m u) → (∀ a, a < m → dv_F kd fs sc n tw rs G f m a) → wY_derives_254 post (nI goal) (nI n) (nI na) (nI nk) (nI ns) sec st ybl (nI m) (pu_A kd) (pu_A fs) (pu_A sc) (pu_A sz) (pu_A ac) vc (pu_A yl) (pu_A yT) (pu_A yS) (pu_A yR) (pu_A ybq) (pu_A ybv) (pu_A yv) (pu_A f) (pu_A sk) (pu_A ea) (pu_A eb) (pu_A yq) (pu_A ych) (pu_A ykl) (pu_A ycn))
    (K2 : ∀ f m sk ea eb, dv_I kd fs sc n tw G K f m → (∀ u, u < n → K u → G u ∧ tc_M tw f m u) → m0 < m → J (nI (pass + 1)) (nI n) (nI na) (nI nk) (nI ns) sec st ybl (nI m) (pu_A kd) (pu_A fs) (pu_A sc) (pu_A sz) (pu_A ac) vc (pu_A yl) (pu_A yT) (pu_A yS) (pu_A yR) (pu_A ybq) (pu_A ybv) (pu_A yv) (pu_A f) (pu_A sk) (pu_A ea) (pu_A eb) (pu_A yq) (pu_A ych) (pu_A ykl) (pu_A ycn)) :
    ∀ d i fu c f m sk ea eb, i + d = 64 → d < fu → i ≤ m → yd_v kd fs sc n tw rs G K f m m0 i c → wY_derives_49 post J (nI goal) (nI pass) fu (nI c) (nI i) (nI n) (nI na) (nI nk) (nI ns) sec st ybl (nI m) (pu_A kd) (pu_A fs) (pu_A sc) (pu_A sz) (pu_A ac) vc (pu_A yl) (pu_A yT) (pu_A yS) (pu_A yR) (pu_A ybq) (pu_A ybv) (pu_A yv) (pu_A f) (pu_A sk) (pu_A ea) (pu_A eb) (pu_A yq) (pu_A ych) (pu_A ykl) (pu_A ycn) := by
  obtain ⟨W1, W2, W3, W4⟩ := id W
  have done : ∀ i c f m sk ea eb, m ≤ i → yd_v kd fs sc n tw rs G K f m m0 i c → wY_derives_240 post J (nI goal) (nI pass) (nI c) (nI n) (nI na) (nI nk) (nI ns) sec st ybl (nI m) (pu_A kd) (pu_A fs) (pu_A sc) (pu_A sz) (pu_A ac) vc (pu_A yl) (pu_A yT) (pu_A yS) (pu_A yR) (pu_A ybq) (pu_A ybv) (pu_A yv) (pu_A f) (pu_A sk) (pu_A ea) (pu_A eb) (pu_A yq) (pu_A ych) (pu_A ykl) (pu_A ycn) := by
    intro i c f m sk ea eb hi v
    rcases v.2.2 with ⟨h1, h2, h3⟩ | ⟨h1, h2⟩
    · rw [h1]
      exact br_t rfl (K1 f m sk ea eb v.1 v.2.1 (fun a ha => h3 a (by omega)))
    · rw [h1]
      exact br_f (by decide) (nm_r (nI_1 pass) (K2 f m sk ea eb v.1 v.2.1 h2))
  intro d
  induction d with
  | zero =>
    intro i fu c f m sk ea eb hi hfu him v
    obtain ⟨fu, rfl⟩ : ∃ m', fu = m' + 1 := ⟨fu - 1, by omega⟩
    have m64 := v.1.1
    rw [wY_derives_49]
    exact br_t (nI_le (by omega) (by omega)) (done i c f m sk ea eb (by omega) v)
  | succ d ih =>
    intro i fu c f m sk ea eb hi hfu him v
    obtain ⟨fu, rfl⟩ : ∃ m', fu = m' + 1 := ⟨fu - 1, by omega⟩
    have m64 := v.1.1
    rw [wY_derives_49]
    by_cases q : m ≤ i
    · exact br_t (nI_le q (by omega)) (done i c f m sk ea eb q v)
    · have him' : i < m := by omega
      obtain ⟨x1, x2, x3, x4⟩ := dv_x W1 v.1 him'
      obtain ⟨f1, f2, f3⟩ := v.1.2.1 i him'
      obtain ⟨kx, fx, sx⟩ := W3 _ x1
      have wx : vp_in (nI (rs (f i))) 64 := vp_in_nI (by omega) (by omega)
      have hf : ∀ a, a < m → f a < n ∧ G (f a) := fun a ha => ⟨(v.1.2.1 a ha).1, (v.1.2.1 a ha).2.1⟩
      have cc := yd_c v
      have nx : ∀ c' f' m' sk' ea' eb', m ≤ m' → yd_v kd fs sc n tw rs G K f' m' m0 (i + 1) c' → wY_derives_49 post J (nI goal) (nI pass) fu (nI c') (nI (i + 1)) (nI n) (nI na) (nI nk) (nI ns) sec st ybl (nI m') (pu_A kd) (pu_A fs) (pu_A sc) (pu_A sz) (pu_A ac) vc (pu_A yl) (pu_A yT) (pu_A yS) (pu_A yR) (pu_A ybq) (pu_A ybv) (pu_A yv) (pu_A f') (pu_A sk') (pu_A ea') (pu_A eb') (pu_A yq) (pu_A ych) (pu_A ykl) (pu_A ycn) :=
        fun c' f' m' sk' ea' eb' hm' v' => ih (i + 1) fu c' f' m' sk' ea' eb' (by omega) (by omega) (by omega) v'
      refine br_f (nI_ge him' (by omega)) (br_f (nI_ge (b := 64) (by omega) (by omega)) ⟨vp_in_nI (by omega) (by omega), ?_⟩)
      rw [pu_Ag f (by omega)]
      refine ym_res W f1 f2 ⟨wx, pk_eq (kd (rs (f i))) 3 (fun k3 => ⟨wx, ?_⟩) (fun k3 => ⟨wx, pk_eq (kd (rs (f i))) 4 (fun k4 => ⟨wx, ?_⟩) (fun k4 => ⟨wx, pk_eq (kd (rs (f i))) 5 (fun k5 => ⟨wx, ?_⟩) (fun k5 => ?_) (pu_Ag kd (by omega))⟩) (pu_Ag kd (by omega))⟩) (pu_Ag kd (by omega))⟩
      · obtain ⟨p1, p2, p3, p4⟩ := dv_p W1 x1 x2 (by omega)
        obtain ⟨l1, l2⟩ := dv_3 W1 x1 k3 x3
        rw [pu_Ag fs (by omega)]
        have sec2 : ∀ c' f' m' ea' eb', m ≤ m' → yd_v kd fs sc n tw rs G K f' m' m0 i c' → (m' = m → f' = f) → tc_M tw f' m' (fs (rs (f i))) → wY_derives_106 post J (wY_derives_49 post J (nI goal) (nI pass) fu) (nI goal) (nI pass) (nI c') (nI i) (nI (rs (f i))) (nI n) (nI na) (nI nk) (nI ns) sec st ybl (nI m') (pu_A kd) (pu_A fs) (pu_A sc) (pu_A sz) (pu_A ac) vc (pu_A yl) (pu_A yT) (pu_A yS) (pu_A yR) (pu_A ybq) (pu_A ybv) (pu_A yv) (pu_A f') (pu_A sk) (pu_A ea') (pu_A eb') (pu_A yq) (pu_A ych) (pu_A ykl) (pu_A ycn) := by
          intro c' f' m' ea' eb' hm' v' same mm
          refine ⟨wx, ?_⟩
          rw [pu_Ag sc (by omega)]
          refine ym_add W v'.1 p2 p4 l2 (fun h ea2 eb2 => ?_) (fun h l64 I' ea2 eb2 => ?_)
          · refine br_t rfl (nm_r (nI_1 i) (nx c' f' m' sk ea2 eb2 hm' ?_))
            rcases v'.2.2 with ⟨h1, h2, h3⟩ | ⟨h1, h2⟩
            · by_cases e : m' = m
              · have ef := same e
                refine yd_0 v' ?_
                rw [ef] at mm h ⊢
                exact ⟨fun _ => ⟨mm, h⟩, fun k => by omega, fun k => by omega⟩
              · have h4 : m0 < m' := by
                  rcases v.2.2 with ⟨_, g2, _⟩ | ⟨_, g2⟩
                  · omega
                  · omega
                omega
            · exact ⟨v'.1, v'.2.1, Or.inr ⟨h1, h2⟩⟩
          · exact br_f (by decide) (nm_r (nI_1 i) (nx 1 _ _ sk ea2 eb2 (by omega) (yd_1 v' I')))
        refine ym_add W v.1 p1 p3 l1 (fun h ea2 eb2 => ?_) (fun h l64 I' ea2 eb2 => ?_)
        · exact br_t rfl (sec2 c f m ea2 eb2 (Nat.le_refl m) v (fun _ => rfl) h)
        · refine br_f (by decide) (sec2 1 _ _ ea2 eb2 (by omega) ?_ (fun e => by omega) (tc_M_up.mpr (Or.inr rfl)))
          have v1 := yd_1 v I'
          refine ⟨v1.1, v1.2.1, ?_⟩
          rcases v1.2.2 with ⟨g, _, _⟩ | g
          · omega
          · exact Or.inr g
      · obtain ⟨p1, p2, p3, p4⟩ := dv_p W1 x1 x2 (by omega)
        rw [pu_Ag sc (by omega)]
        refine ym_synth W m64 hf p2 p4 (fun h sk' ea' eb' => ?_) (fun h sk' ea' eb' => ?_)
        · refine br_f (by decide) ⟨wx, ?_⟩
          rw [pu_Ag fs (by omega)]
          have l1 := dv_4 W1 x1 k4 x3 (dv_S W1 v.1 h)
          refine ym_add W v.1 p1 p3 l1 (fun h2 ea2 eb2 => ?_) (fun h2 l64 I' ea2 eb2 => ?_)
          · exact br_t rfl (nm_r (nI_1 i) (nx c f m sk' ea2 eb2 (Nat.le_refl m) (yd_0 v ⟨fun k => by omega, fun _ _ => h2, fun k => by omega⟩)))
          · exact br_f (by decide) (nm_r (nI_1 i) (nx 1 _ _ sk' ea2 eb2 (by omega) (yd_1 v I')))
        · exact br_t rfl (nm_r (nI_1 i) (nx c f m sk' ea' eb' (Nat.le_refl m) (yd_0 v ⟨fun k => by omega, fun _ hs => absurd hs h, fun k => by omega⟩)))
      · obtain ⟨p1, p2, p3, p4⟩ := dv_p W1 x1 x2 (by omega)
        rw [pu_Ag sc (by omega)]
        obtain ⟨y1, y2, y3, y4, y5, y6⟩ := W1.1 _ p2 p4
        obtain ⟨ky, fy, sy⟩ := W3 _ y1
        have wy : vp_in (nI (rs (sc (rs (f i))))) 64 := vp_in_nI (by omega) (by omega)
        refine ym_res W p2 p4 ⟨wy, pk_eq (kd (rs (sc (rs (f i))))) 1 (fun k1 => ⟨wy, pk_eq (sc (rs (sc (rs (f i))))) 1 (fun s1 => ⟨wx, ?_⟩) (fun s1 => ?_) (pu_Ag sc (by omega))⟩) (fun k1 => ?_) (pu_Ag kd (by omega))⟩
        · rw [pu_Ag fs (by omega)]
          have l1 := dv_5 W1 x1 x2 k5 x3 k1 s1
          refine ym_add W v.1 p1 p3 l1 (fun h2 ea2 eb2 => ?_) (fun h2 l64 I' ea2 eb2 => ?_)
          · exact br_t rfl (nm_r (nI_1 i) (nx c f m sk ea2 eb2 (Nat.le_refl m) (yd_0 v ⟨fun k => by omega, fun k => by omega, fun _ _ _ => h2⟩)))
          · exact br_f (by decide) (nm_r (nI_1 i) (nx 1 _ _ sk ea2 eb2 (by omega) (yd_1 v I')))
        · exact nm_r (nI_1 i) (nx c f m sk ea eb (Nat.le_refl m) (yd_0 v ⟨fun k => by omega, fun k => by omega, fun _ _ h => absurd h s1⟩))
        · exact nm_r (nI_1 i) (nx c f m sk ea eb (Nat.le_refl m) (yd_0 v ⟨fun k => by omega, fun k => by omega, fun _ h => absurd h k1⟩))
      · exact nm_r (nI_1 i) (nx c f m sk ea eb (Nat.le_refl m) (yd_0 v ⟨fun k => by omega, fun k => by omega, fun k => by omega⟩))
theorem ym_d37 {post : Int32 → SY → Prop} {goal : Nat} {K : Nat → Prop} (W : yw_W kd fs sc sz n tw rs G yv)
    (K1 : ∀ f m sk ea eb, dv_I kd fs sc n tw G K f m → (∀ u, u < n → K u → G u ∧ tc_M tw f m u) → (∀ a, a < m → dv_F kd fs sc n tw rs G f m a) → wY_derives_254 post (nI goal) (nI n) (nI na) (nI nk) (nI ns) sec st ybl (nI m) (pu_A kd) (pu_A fs) (pu_A sc) (pu_A sz) (pu_A ac) vc (pu_A yl) (pu_A yT) (pu_A yS) (pu_A yR) (pu_A ybq) (pu_A ybv) (pu_A yv) (pu_A f) (pu_A sk) (pu_A ea) (pu_A eb) (pu_A yq) (pu_A ych) (pu_A ykl) (pu_A ycn)) :
    ∀ d p fu f m sk ea eb, p + d = 65 → d < fu → p ≤ m → dv_I kd fs sc n tw G K f m → (∀ u, u < n → K u → G u ∧ tc_M tw f m u) → wY_derives_37 post (nI goal) fu (nI p) (nI n) (nI na) (nI nk) (nI ns) sec st ybl (nI m) (pu_A kd) (pu_A fs) (pu_A sc) (pu_A sz) (pu_A ac) vc (pu_A yl) (pu_A yT) (pu_A yS) (pu_A yR) (pu_A ybq) (pu_A ybv) (pu_A yv) (pu_A f) (pu_A sk) (pu_A ea) (pu_A eb) (pu_A yq) (pu_A ych) (pu_A ykl) (pu_A ycn) := by
  intro d
  induction d with
  | zero =>
    intro p fu f m sk ea eb hp hfu hpm I hK
    have m64 := I.1
    omega
  | succ d ih =>
    intro p fu f m sk ea eb hp hfu hpm I hK
    obtain ⟨fu, rfl⟩ : ∃ m', fu = m' + 1 := ⟨fu - 1, by omega⟩
    have m64 := I.1
    rw [wY_derives_37]
    refine br_f (nI_ge (b := 70) (by omega) (by omega)) ⟨65, ym_d49 W (m0 := m) K1 (fun f' m' sk' ea' eb' I' hK' h => ih (p + 1) fu f' m' sk' ea' eb' (by omega) (by omega) (by omega) I' hK') 64 0 65 0 f m sk ea eb (by omega) (by omega) (by omega) ⟨I, hK, Or.inl ⟨rfl, rfl, fun a ha => by omega⟩⟩⟩
theorem ym_d7 {post : Int32 → SY → Prop} {goal kn : Nat} (W : yw_W kd fs sc sz n tw rs G yv) (hkn : kn ≤ 16) (hl : ∀ i, i < kn → yl i < n ∧ G (yl i))
    (K1 : ∀ f m sk ea eb, dv_I kd fs sc n tw G (fun u => ∃ i, i < kn ∧ yl i = u) f m → (∀ u, u < n → (∃ i, i < kn ∧ yl i = u) → G u ∧ tc_M tw f m u) → (∀ a, a < m → dv_F kd fs sc n tw rs G f m a) → wY_derives_254 post (nI goal) (nI n) (nI na) (nI nk) (nI ns) sec st ybl (nI m) (pu_A kd) (pu_A fs) (pu_A sc) (pu_A sz) (pu_A ac) vc (pu_A yl) (pu_A yT) (pu_A yS) (pu_A yR) (pu_A ybq) (pu_A ybv) (pu_A yv) (pu_A f) (pu_A sk) (pu_A ea) (pu_A eb) (pu_A yq) (pu_A ych) (pu_A ykl) (pu_A ycn)) :
    ∀ d i fu f m sk ea eb, i + d = kn → d < fu → dv_I kd fs sc n tw G (fun u => ∃ i, i < kn ∧ yl i = u) f m → (∀ a, a < i → tc_M tw f m (yl a)) → wY_derives_7 post (nI goal) (nI kn) fu (nI i) (nI n) (nI na) (nI nk) (nI ns) sec st ybl (nI m) (pu_A kd) (pu_A fs) (pu_A sc) (pu_A sz) (pu_A ac) vc (pu_A yl) (pu_A yT) (pu_A yS) (pu_A yR) (pu_A ybq) (pu_A ybv) (pu_A yv) (pu_A f) (pu_A sk) (pu_A ea) (pu_A eb) (pu_A yq) (pu_A ych) (pu_A ykl) (pu_A ycn) := by
  intro d
  induction d with
  | zero =>
    intro i fu f m sk ea eb hi hfu I hK
    obtain ⟨fu, rfl⟩ : ∃ m', fu = m' + 1 := ⟨fu - 1, by omega⟩
    rw [wY_derives_7]
    refine br_t (nI_le (by omega) (by omega)) ⟨66, ym_d37 W K1 65 0 66 f m sk ea eb (by omega) (by omega) (by omega) I (fun u hu k => ?_)⟩
    obtain ⟨a, ha, e⟩ := k
    rw [← e]
    exact ⟨(hl a ha).2, hK a (by omega)⟩
  | succ d ih =>
    intro i fu f m sk ea eb hi hfu I hK
    obtain ⟨fu, rfl⟩ : ∃ m', fu = m' + 1 := ⟨fu - 1, by omega⟩
    rw [wY_derives_7]
    obtain ⟨l1, l2⟩ := hl i (by omega)
    have lc : tc_L kd fs sc n tw (fun u => ∃ i, i < kn ∧ yl i = u) (yl i) := tc_L_in kd fs sc n tw l1 ⟨i, by omega, rfl⟩
    refine br_f (nI_ge (by omega) (by omega)) (br_f (nI_ge (b := 16) (by omega) (by omega)) ⟨vp_in_nI (by omega) (by omega), ?_⟩)
    rw [pu_Ag yl (by omega)]
    refine ym_add W I l1 l2 lc (fun h ea' eb' => nm_r (nI_1 i) (ih (i + 1) fu f m sk ea' eb' (by omega) (by omega) I (fun a ha => ?_))) (fun h l64 I' ea' eb' => nm_r (nI_1 i) (ih (i + 1) fu _ _ sk ea' eb' (by omega) (by omega) I' (fun a ha => ?_)))
    · by_cases e : a = i
      · rw [e]; exact h
      · exact hK a (by omega)
    · by_cases e : a = i
      · rw [e]; exact tc_M_up.mpr (Or.inr rfl)
      · exact tc_M_up.mpr (Or.inl (hK a (by omega)))
theorem ym_derives {post : Int32 → SY → Prop} {goal kn : Nat} (W : yw_W kd fs sc sz n tw rs G yv) (hg : goal < n) (gg : G goal) (hkn : kn ≤ 16) (hl : ∀ i, i < kn → yl i < n ∧ G (yl i))
    (h1 : tc_L kd fs sc n tw (fun u => ∃ i, i < kn ∧ yl i = u) goal → ∀ m f sk ea eb, post 1 ((nI n), (nI na), (nI nk), (nI ns), sec, st, ybl, (nI m), (pu_A kd), (pu_A fs), (pu_A sc), (pu_A sz), (pu_A ac), vc, (pu_A yl), (pu_A yT), (pu_A yS), (pu_A yR), (pu_A ybq), (pu_A ybv), (pu_A yv), (pu_A f), (pu_A sk), (pu_A ea), (pu_A eb), (pu_A yq), (pu_A ych), (pu_A ykl), (pu_A ycn)))
    (h0 : ¬ tc_L kd fs sc n tw (fun u => ∃ i, i < kn ∧ yl i = u) goal → ∀ m f sk ea eb, post 0 ((nI n), (nI na), (nI nk), (nI ns), sec, st, ybl, (nI m), (pu_A kd), (pu_A fs), (pu_A sc), (pu_A sz), (pu_A ac), vc, (pu_A yl), (pu_A yT), (pu_A yS), (pu_A yR), (pu_A ybq), (pu_A ybv), (pu_A yv), (pu_A f), (pu_A sk), (pu_A ea), (pu_A eb), (pu_A yq), (pu_A ych), (pu_A ykl), (pu_A ycn))) : wpY_derives post ((nI n), (nI na), (nI nk), (nI ns), sec, st, ybl, (nI yna), (pu_A kd), (pu_A fs), (pu_A sc), (pu_A sz), (pu_A ac), vc, (pu_A yl), (pu_A yT), (pu_A yS), (pu_A yR), (pu_A ybq), (pu_A ybv), (pu_A yv), (pu_A yan), (pu_A ysk), (pu_A yea), (pu_A yeb), (pu_A yq), (pu_A ych), (pu_A ykl), (pu_A ycn)) (nI goal) (nI kn) := by
  refine ⟨kn + 1, ym_d7 W hkn hl (fun f m sk ea eb I hK F => ?_) kn 0 (kn + 1) yan 0 ysk yea yeb (by omega) (by omega) (dv_0 _ _) (fun a ha => by omega)⟩
  have e := dv_end W.1 I hK F hg gg
  refine ym_synth W I.1 (fun a ha => ⟨(I.2.1 a ha).1, (I.2.1 a ha).2.1⟩) hg gg (fun h sk' ea' eb' => ⟨rl_nn (by omega : 1 ≤ 1), h1 (e.mp h) m f sk' ea' eb'⟩) (fun h sk' ea' eb' => ⟨rl_nn (by omega : 0 ≤ 1), h0 (fun g => h (e.mpr g)) m f sk' ea' eb'⟩)
end
