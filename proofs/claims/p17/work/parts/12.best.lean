section
theorem bs_lex {Q Q' : Nat → Nat} {i L : Nat} (e : ∀ a, a < i → Q a = Q' a) (hi : i < L) (ne : Q i ≠ Q' i) (d : ∀ a, a < L → Q a < 3) (d' : ∀ a, a < L → Q' a < 3) : Q i < Q' i ↔ sk_kA Q L < sk_kA Q' L := by
  have ek : sk_kA Q i = sk_kA Q' i := sk_kA_cg i e
  constructor
  · intro h
    refine sk_kA_lt (i := i + 1) ?_ L hi d
    rw [sk_kA_s, sk_kA_s, ek]; omega
  · intro h
    by_cases l : Q i < Q' i
    · exact l
    · have h2 : sk_kA Q' L < sk_kA Q L := by
        refine sk_kA_lt (i := i + 1) ?_ L hi d'
        rw [sk_kA_s, sk_kA_s, ek]; omega
      omega
def bs_R (aL : Int32) (aT : Nat → Nat) (B : Nat) : Prop :=
  (aL = -1 ∧ B = 10000) ∨ ∃ L, L ≤ 6 ∧ aL = nI L ∧ (∀ i, i < L → aT i < 3) ∧ B = sk_kA aT L
theorem bs_no {aT : Nat → Nat} : bs_R (-1) aT 10000 := Or.inl ⟨rfl, rfl⟩
theorem bs_ok {aL : Int32} {aT : Nat → Nat} {B : Nat} (h : bs_R aL aT B) : df_ok B := by
  rcases h with ⟨_, e⟩ | ⟨L, h1, h2, h3, h4⟩
  · exact Or.inl e
  · have h5 := sk_kA_hi L h3
    have h6 : 3 ^ L ≤ 3 ^ 6 := Nat.pow_le_pow_right (by omega) h1
    have h7 : (3 : Nat) ^ 6 = 729 := rfl
    exact Or.inr (by omega)
theorem bs_m1 {aT : Nat → Nat} {B : Nat} (h : bs_R (-1) aT B) : B = 10000 := by
  rcases h with ⟨_, e⟩ | ⟨L, h1, h2, _⟩
  · exact e
  · exact absurd h2.symm (gw_m1 (by omega))
theorem bs_at {aT : Nat → Nat} {B M : Nat} (hM : M < 64) (h : bs_R (nI M) aT B) : M ≤ 6 ∧ (∀ i, i < M → aT i < 3) ∧ B = sk_kA aT M ∧ B < 10000 := by
  rcases h with ⟨e, _⟩ | ⟨L, h1, h2, h3, h4⟩
  · exact absurd e (gw_m1 hM)
  · have e : M = L := (nI_eq (by omega) (by omega)).mp h2
    subst e
    exact ⟨h1, h3, h4, by rw [h4]; exact sk_kA_big h1 h3⟩
theorem bs_new {F F' : Nat → Nat} {L : Nat} (hl : L ≤ 6) (d : ∀ i, i < L → F i < 3) (e : ∀ i, i < L → F' i = F i) : bs_R (nI L) F' (sk_kA F L) :=
  Or.inr ⟨L, hl, rfl, fun i hi => by rw [e i hi]; exact d i hi, (sk_kA_cg L e).symm⟩
theorem bs_same {aL bL : Int32} {aT bT : Nat → Nat} {B : Nat} (h : bs_R aL aT B) (h2 : bs_R bL bT B) : (aL = -1 ∧ bL = -1 ∧ B = 10000) ∨ ∃ L, L ≤ 6 ∧ aL = nI L ∧ bL = nI L ∧ B < 10000 ∧ ∀ i, i < L → aT i = bT i ∧ aT i < 3 := by
  rcases h with ⟨e, f⟩ | ⟨L, h1, e, h3, h4⟩
  · rcases h2 with ⟨e', f'⟩ | ⟨L', h1', e', h3', h4'⟩
    · exact Or.inl ⟨e, e', f⟩
    · have h5 := sk_kA_big h1' h3'
      omega
  · rcases h2 with ⟨e', f'⟩ | ⟨L', h1', e', h3', h4'⟩
    · have h5 := sk_kA_big h1 h3
      omega
    · obtain ⟨q1, q2⟩ := sk_kA_inj L L' h3 h3' (by rw [← h4, ← h4'])
      subst q1
      exact Or.inr ⟨L, h1, e, e', by rw [h4]; exact sk_kA_big h1 h3, fun i hi => ⟨q2 i hi, h3 i hi⟩⟩
end
