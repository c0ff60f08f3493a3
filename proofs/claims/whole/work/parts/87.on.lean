/-! a picture put back -/
noncomputable def bI (p : Prop) : Int32 := @ite Int32 p (Classical.propDecidable p) 1 0
theorem bI_t {p : Prop} (h : p) : bI p = 1 := by
  unfold bI
  exact if_pos h
theorem bI_f {p : Prop} (h : ¬ p) : bI p = 0 := by
  unfold bI
  exact if_neg h
theorem bI_0 (p : Prop) : bI p &&& 0 = 0 := by
  by_cases h : p
  · rw [bI_t h]
    decide
  · rw [bI_f h]
    decide
theorem bI_1 (p : Prop) : bI p &&& 1 = bI p := by
  by_cases h : p
  · rw [bI_t h]
    decide
  · rw [bI_f h]
    decide
theorem bI_c {p q : Prop} (h : p ↔ q) : bI p = bI q := by
  rw [propext h]
theorem bI_01 (p : Prop) : bI p = 0 ∨ bI p = 1 := by
  by_cases h : p
  · exact Or.inr (bI_t h)
  · exact Or.inl (bI_f h)
def okC (B : Nat → Nat) (i : Nat) : Prop := B (2 + 3 * i) ≤ 9 ∧ B (2 + 3 * i + 1) ≤ 1 ∧ B (2 + 3 * i + 2) ≤ 99
def OkI (P : Pl) (n : Nat) (B : Nat → Nat) : Prop := pc P ≠ 0 ∧ n = 2 + 3 * (pc P * pr P) + pf P + 1 ∧ B (n - 1) = ck B (n - 1) ∧ 256 * B 0 + B 1 ≤ 999 ∧ (∀ i, i < pc P * pr P → okC B i) ∧ ∀ f, f < pf P → B (2 + 3 * (pc P * pr P) + f) ≤ 9
theorem okc_s {B : Nat → Nat} {i : Nat} {p : Prop} (h : okC B i) : (p ∧ ∀ j, j < i → okC B j) ↔ (p ∧ ∀ j, j < i + 1 → okC B j) := by
  refine ⟨fun g => ⟨g.1, fun j hj => ?_⟩, fun g => ⟨g.1, fun j hj => g.2 j (by omega)⟩⟩
  by_cases e : j = i
  · rw [e]
    exact h
  · exact g.2 j (by omega)
theorem q_rest {c f : Nat} {B : Nat → Nat} {p : Prop} {Q : Int32 → St → Prop} {u : St} (hc : c ≤ 36) (hf : f ≤ 6) (hB : ∀ k, k < 2 + 3 * c + f + 1 → u.1 2 k = nI (B k) ∧ B k < 256) (hQ : Q (bI (p ∧ (∀ i, i < c → okC B i) ∧ ∀ j, j < f → B (2 + 3 * c + j) ≤ 9)) u) : sX4_isOf_p67 (nI (2 + 3 * c)) (nI (2 + 3 * c + f)) (bI p) Q u := by
  unfold sX4_isOf_p67 sX4_isOf_p72
  have key := for_g (fun i => nI (2 + 3 * i)) (fun m i (s : Int32 × St) => sX4_isOf_p72n (nI (2 + 3 * c)) (nI (2 + 3 * c + f)) Q m s.1 i s.2) c (fun i s => s.2 = u ∧ s.1 = bI (p ∧ ∀ j, j < i → okC B j)) ?_ 0 (bI p, u) (by omega) ⟨rfl, bI_c ⟨fun h => ⟨h, fun j hj => absurd hj (by omega)⟩, fun h => h.1⟩⟩
  · exact key
  rintro m i ⟨v, w⟩ hi ⟨hw, hv⟩ hnext
  simp only at hw hv
  rw [hw, hv]
  show sX4_isOf_p72b (nI (2 + 3 * c)) (nI (2 + 3 * c + f)) Q (sX4_isOf_p72n (nI (2 + 3 * c)) (nI (2 + 3 * c + f)) Q m) (bI (p ∧ ∀ j, j < i → okC B j)) (nI (2 + 3 * i)) u
  unfold sX4_isOf_p72b
  by_cases hie : i = c
  · rw [hie]
    refine i_pos (nI_le (Nat.le_refl _) (by omega)) ?_
    unfold sX4_isOf_p136
    have key2 := for_g (fun j => nI (2 + 3 * c + j)) (fun m j (s : Int32 × St) => sX4_isOf_p136n (nI (2 + 3 * c + f)) Q m s.1 j s.2) f (fun j s => s.2 = u ∧ s.1 = bI (p ∧ (∀ x, x < c → okC B x) ∧ ∀ x, x < j → B (2 + 3 * c + x) ≤ 9)) ?_ 0 (bI (p ∧ ∀ j, j < c → okC B j), u) (by omega) ⟨rfl, bI_c ⟨fun h => ⟨h.1, h.2, fun j hj => absurd hj (by omega)⟩, fun h => ⟨h.1, h.2.1⟩⟩⟩
    · exact key2
    rintro m2 j ⟨v2, w2⟩ hj ⟨hw2, hv2⟩ hnext2
    simp only at hw2 hv2
    rw [hw2, hv2]
    show sX4_isOf_p136b (nI (2 + 3 * c + f)) Q (sX4_isOf_p136n (nI (2 + 3 * c + f)) Q m2) (bI (p ∧ (∀ x, x < c → okC B x) ∧ ∀ x, x < j → B (2 + 3 * c + x) ≤ 9)) (nI (2 + 3 * c + j)) u
    unfold sX4_isOf_p136b
    by_cases hje : j = f
    · rw [hje]
      exact i_pos (nI_le (Nat.le_refl _) (by omega)) ⟨bI_01 _, hQ⟩
    · refine i_neg (nI_ge (by omega) (by omega)) ?_
      refine ⟨vp_in_nI (by omega) (by omega), ?_⟩
      obtain ⟨b1, b2⟩ := hB (2 + 3 * c + j) (by omega)
      rw [nI_clamp (by omega), b1]
      have e1 : nI (2 + 3 * c + j) + 1 = nI (2 + 3 * c + (j + 1)) := nI_add _ 1
      unfold sX4_isOf_p161
      rw [e1]
      by_cases hb : B (2 + 3 * c + j) ≤ 9
      · have h9 : ¬ nI 9 < nI (B (2 + 3 * c + j)) := nI_nlt (by omega) (by omega)
        refine i_neg h9 ?_
        refine hnext2 (by omega) (_, u) ⟨rfl, (bI_1 _).trans (bI_c ⟨fun g => ⟨g.1, g.2.1, fun x hx => ?_⟩, fun g => ⟨g.1, g.2.1, fun x hx => g.2.2 x (by omega)⟩⟩)⟩
        by_cases e : x = j
        · rw [e]
          exact hb
        · exact g.2.2 x (by omega)
      · have h9 : nI 9 < nI (B (2 + 3 * c + j)) := nI_lt (by omega) (by omega)
        refine i_pos h9 ?_
        exact hnext2 (by omega) (_, u) ⟨rfl, (bI_0 _).trans (bI_f (fun g => hb (g.2.2 j (by omega)))).symm⟩
  · refine i_neg (nI_ge (by omega) (by omega)) ?_
    obtain ⟨b1, c1⟩ := hB (2 + 3 * i) (by omega)
    obtain ⟨b2, c2⟩ := hB (2 + 3 * i + 1) (by omega)
    obtain ⟨b3, c3⟩ := hB (2 + 3 * i + 2) (by omega)
    have e1 : nI (2 + 3 * i) + 1 = nI (2 + 3 * i + 1) := nI_add _ 1
    have e2 : nI (2 + 3 * i) + 2 = nI (2 + 3 * i + 2) := nI_add _ 2
    have e3 : nI (2 + 3 * i) + 3 = nI (2 + 3 * (i + 1)) := nI_add _ 3
    unfold sX4_isOf_p123 sX4_isOf_p124
    rw [e1, e2, e3, nI_clamp (by omega), nI_clamp (by omega), nI_clamp (by omega), b1, b2, b3]
    have hbad : ¬ okC B i → sX4_isOf_p72n (nI (2 + 3 * c)) (nI (2 + 3 * c + f)) Q m (bI (p ∧ ∀ j, j < i → okC B j) &&& 0) (nI (2 + 3 * (i + 1))) u := fun hno => hnext (by omega) (_, u) ⟨rfl, (bI_0 _).trans (bI_f (fun g => hno (g.2 i (by omega)))).symm⟩
    refine ⟨vp_in_nI (by omega) (by omega), ?_⟩
    by_cases h1 : B (2 + 3 * i) ≤ 9
    · have h9 : ¬ nI 9 < nI (B (2 + 3 * i)) := nI_nlt (by omega) (by omega)
      refine i_neg h9 ⟨vp_in_nI (by omega) (by omega), ?_⟩
      by_cases h2 : B (2 + 3 * i + 1) ≤ 1
      · have h9 : ¬ nI 1 < nI (B (2 + 3 * i + 1)) := nI_nlt (by omega) (by omega)
        refine i_neg h9 ⟨vp_in_nI (by omega) (by omega), ?_⟩
        by_cases h3 : B (2 + 3 * i + 2) ≤ 99
        · have h9 : ¬ nI 99 < nI (B (2 + 3 * i + 2)) := nI_nlt (by omega) (by omega)
          refine i_neg h9 ?_
          exact hnext (by omega) (_, u) ⟨rfl, (bI_1 _).trans (bI_c (okc_s ⟨h1, h2, h3⟩))⟩
        · have h9 : nI 99 < nI (B (2 + 3 * i + 2)) := nI_lt (by omega) (by omega)
          exact i_pos h9 (hbad (fun g => h3 g.2.2))
      · have h9 : nI 1 < nI (B (2 + 3 * i + 1)) := nI_lt (by omega) (by omega)
        exact i_pos h9 (hbad (fun g => h2 g.2.1))
    · have h9 : nI 9 < nI (B (2 + 3 * i)) := nI_lt (by omega) (by omega)
      exact i_pos h9 (hbad (fun g => h1 g.1))
theorem nI_un {a b : Nat} (ha : a < 1000000) (hb : b < 1000000) (h : nI a = nI b) : a = b := by
  by_cases e : a = b
  · exact e
  · by_cases l : a < b
    · exact absurd (h ▸ nI_le (Nat.le_refl a) (by omega) : nI b ≤ nI a) (nI_ge (by omega) (by omega))
    · exact absurd (h ▸ nI_le (Nat.le_refl a) (by omega) : nI a ≤ nI b) (nI_ge (by omega) (by omega))
theorem yr_eq (a b : Nat) : (256 : Int32) * nI a + nI b = nI (256 * a + b) := by
  rw [show (256 : Int32) * nI a = nI (256 * a) from pk_mul 256 _, nI_add]
theorem at_eq (c : Nat) : (2 : Int32) + 3 * nI c = nI (2 + 3 * c) := by
  rw [show (3 : Int32) * nI c = nI (3 * c) from pk_mul 3 _]
  exact nI_add 2 _
theorem q_isOf {P : Pl} {t n : Nat} {B : Nat → Nat} {Q : Int32 → St → Prop} {u : St} (hP : VP P) (hT : cPl u t P) (hn : n ≤ 1600) (hl : u.1 1 1 = nI n) (hB : ∀ k, k < n → u.1 2 k = nI (B k) ∧ B k < 256) (hy : OkI P n B → Q 1 u) (hno : ¬ OkI P n B → Q 0 u) : s_X4_isOf t Q u := by
  have har := area_le hP
  have hpf := hP.2.2.2.2.1
  have h6 := hP.1
  have hs2 : SH[2]? = some (100, 1600) := rfl
  have hfin : ∀ q : Prop, (q ↔ OkI P n B) → Q (bI q) u := by
    intro q hq
    by_cases h : OkI P n B
    · rw [bI_t (hq.2 h)]
      exact hy h
    · rw [bI_f (fun g => h (hq.1 g))]
      exact hno h
  unfold s_X4_isOf s_X5_places
  dsimp only
  rw [hT.1.1, hT.1.2.1, pk_mul, hT.1.2.2.2.1, hl, at_eq, nI_add]
  by_cases h0 : pc P = 0
  · refine i_pos (by rw [h0]; rfl) (hno (fun g => g.1 h0))
  refine i_neg (nI_ne0 (by omega) (by omega)) ?_
  have e1 : nI (2 + 3 * (pc P * pr P) + pf P) + 1 = nI (2 + 3 * (pc P * pr P) + pf P + 1) := nI_add _ 1
  rw [e1]
  by_cases hne : n ≠ 2 + 3 * (pc P * pr P) + pf P + 1
  · exact i_neg (fun h => hne (nI_un (by omega) (by omega) h)) (hno (fun g => hne g.2.1))
  have hne : n = 2 + 3 * (pc P * pr P) + pf P + 1 := by omega
  refine i_pos (congrArg nI hne) ?_
  have hB2 : ∀ k, k < 2 + 3 * (pc P * pr P) + pf P + 1 → u.1 2 k = nI (B k) ∧ B k < 256 := fun k hk => hB k (by omega)
  obtain ⟨b0, c0⟩ := hB 0 (by omega)
  obtain ⟨b1, c1⟩ := hB 1 (by omega)
  unfold s_X4_yearOf
  dsimp only
  rw [show ((0 : Int32)).toNatClampNeg = 0 by first | decide | (unfold vp_in; decide), show ((1 : Int32)).toNatClampNeg = 1 by first | decide | (unfold vp_in; decide), b0, b1, yr_eq]
  refine ⟨by first | decide | (unfold vp_in; decide), by first | decide | (unfold vp_in; decide), ?_⟩
  have en : n - 1 = 2 + 3 * (pc P * pr P) + pf P := by omega
  have hback : ∀ p : Prop, (p ↔ (B (n - 1) = ck B (n - 1) ∧ 256 * B 0 + B 1 ≤ 999)) → sX4_isOf_p67 (nI (2 + 3 * (pc P * pr P))) (nI (2 + 3 * (pc P * pr P) + pf P)) (bI p) Q u := fun p hp => q_rest (by omega) (by omega) hB2 (hfin _ ⟨fun g => ⟨h0, hne, (hp.1 g.1).1, (hp.1 g.1).2, g.2.1, g.2.2⟩, fun g => ⟨hp.2 ⟨g.2.2.1, g.2.2.2.1⟩, g.2.2.2.2.1, g.2.2.2.2.2⟩⟩)
  have hbad : ¬ (B (n - 1) = ck B (n - 1) ∧ 256 * B 0 + B 1 ≤ 999) → sX4_isOf_p66 (nI (2 + 3 * (pc P * pr P))) (nI (2 + 3 * (pc P * pr P) + pf P)) Q u := by
    intro h
    have := hback False ⟨fun g => absurd g id, h⟩
    rw [bI_f id] at this
    exact this
  by_cases hyr : 999 < 256 * B 0 + B 1
  · have h9 : nI 999 < nI (256 * B 0 + B 1) := nI_lt (by omega) (by omega)
    exact i_pos h9 (hbad (fun g => by omega))
  have hyr : 256 * B 0 + B 1 ≤ 999 := by omega
  have h9 : ¬ nI 999 < nI (256 * B 0 + B 1) := nI_nlt (by omega) (by omega)
  refine i_neg h9 ⟨vp_in_nI (by omega) (by omega), ?_⟩
  refine q_check (B := B) hs2 (by omega) (by omega) (fun k hk => hB k (by omega)) ?_
  rw [nI_clamp (by omega), (hB2 _ (by omega)).1]
  have hck := ck_lt B (2 + 3 * (pc P * pr P) + pf P)
  by_cases hc : B (2 + 3 * (pc P * pr P) + pf P) = ck B (2 + 3 * (pc P * pr P) + pf P)
  · refine i_pos (congrArg nI hc) ?_
    have := hback True ⟨fun _ => ⟨by rw [en]; exact hc, hyr⟩, fun _ => trivial⟩
    rw [bI_t trivial] at this
    exact this
  · exact i_neg (fun h => hc (nI_un (by have := (hB2 (2 + 3 * (pc P * pr P) + pf P) (by omega)).2; omega) (by omega) h)) (hbad (fun g => hc (by rw [en] at g; exact g.1)))
theorem r_isImage {P : Pl} {n : Nat} {B : Nat → Nat} {Q : Int32 → St → Prop} {u : St} (hP : VP P) (hM : mPl u P) (hn : n ≤ 1600) (hB : ∀ k, k < n → u.1 199 k = nI (B k) ∧ B k < 256) (hy : OkI P n B → Q 1 u) (hno : ¬ OkI P n B → Q 0 u) : s_X12_isImage (nI n) Q u := by
  have har := area_le hP
  have hpf := hP.2.2.2.2.1
  have h6 := hP.1
  have hs2 : SH[199]? = some (100, 1600) := rfl
  unfold s_X12_isImage s_X12_cellMany
  dsimp only
  rw [show ((2 : Int32)).toNatClampNeg = 2 by first | decide | (unfold vp_in; decide), show ((3 : Int32)).toNatClampNeg = 3 by first | decide | (unfold vp_in; decide), hM.1.2.2.1, hM.1.2.2.2.1, pk_mul, hM.1.1]
  refine ⟨by first | decide | (unfold vp_in; decide), by first | decide | (unfold vp_in; decide), ?_⟩
  by_cases h0 : pc P = 0
  · first | refine i_pos h0 ?_ | rw [if_pos h0]
    try (with_reducible rfl)
    exact i_pos rfl (hno (fun g => g.1 h0))
  first | refine i_neg h0 ?_ | rw [if_neg h0]
  try (with_reducible rfl)
  refine i_neg (by first | decide | (unfold vp_in; decide)) ?_
  refine r_farmMany hM ?_
  rw [at_eq, nI_add]
  have e1 : nI (2 + 3 * (pc P * pr P) + pf P) + 1 = nI (2 + 3 * (pc P * pr P) + pf P + 1) := nI_add _ 1
  rw [e1]
  by_cases hne : n ≠ 2 + 3 * (pc P * pr P) + pf P + 1
  · exact i_neg (fun h => hne (nI_un (by omega) (by omega) h)) (hno (fun g => hne g.2.1))
  have hne : n = 2 + 3 * (pc P * pr P) + pf P + 1 := by omega
  refine i_pos (congrArg nI hne) ?_
  have e2 : nI n - 1 = nI (n - 1) := pk_sub (b := 1) (by omega)
  rw [e2]
  refine ⟨vp_in_nI (by omega) (by omega), ?_⟩
  refine r_check (B := B) hs2 (by omega) (by omega) (fun k hk => hB k (by omega)) ?_
  have hck := ck_lt B (n - 1)
  obtain ⟨bl, cl⟩ := hB (n - 1) (by omega)
  rw [nI_clamp (by omega), bl]
  by_cases hc : B (n - 1) ≠ ck B (n - 1)
  · exact i_neg (fun h => hc (nI_un (by omega) (by omega) h)) (hno (fun g => hc g.2.2.1))
  have hc : B (n - 1) = ck B (n - 1) := by omega
  refine i_pos (congrArg nI hc) ?_
  obtain ⟨b0, c0⟩ := hB 0 (by omega)
  obtain ⟨b1, c1⟩ := hB 1 (by omega)
  rw [show ((0 : Int32)).toNatClampNeg = 0 by first | decide | (unfold vp_in; decide), show ((1 : Int32)).toNatClampNeg = 1 by first | decide | (unfold vp_in; decide), b0, b1, yr_eq]
  refine ⟨by first | decide | (unfold vp_in; decide), by first | decide | (unfold vp_in; decide), ?_⟩
  by_cases hyr : 999 < 256 * B 0 + B 1
  · have h9 : ¬ nI (256 * B 0 + B 1) ≤ nI 999 := nI_ge (by omega) (by omega)
    exact i_neg h9 (hno (fun g => by have := g.2.2.2.1; omega))
  have h9 : nI (256 * B 0 + B 1) ≤ nI 999 := nI_le (by omega) (by omega)
  refine i_pos h9 ?_
  unfold sX12_isImage_p76
  refine for_g (fun i => nI (2 + 3 * i)) (fun m i s => sX12_isImage_p76n (nI n) (nI (2 + 3 * (pc P * pr P))) Q m i s) (pc P * pr P) (fun i s => s = u ∧ ∀ j, j < i → okC B j) ?_ 0 u (by omega) ⟨rfl, fun j hj => absurd hj (by omega)⟩
  rintro m i w hi ⟨hw, hok⟩ hnext
  rw [hw]
  show sX12_isImage_p76b (nI n) (nI (2 + 3 * (pc P * pr P))) Q (sX12_isImage_p76n (nI n) (nI (2 + 3 * (pc P * pr P))) Q m) (nI (2 + 3 * i)) u
  unfold sX12_isImage_p76b
  by_cases hie : i = pc P * pr P
  · rw [hie]
    rw [hie] at hok
    refine i_pos (nI_le (Nat.le_refl _) (by omega)) ?_
    unfold sX12_isImage_p127
    refine for_g (fun j => nI (2 + 3 * (pc P * pr P) + j)) (fun m j s => sX12_isImage_p127n (nI n) Q m j s) (pf P) (fun j s => s = u ∧ ∀ x, x < j → B (2 + 3 * (pc P * pr P) + x) ≤ 9) ?_ 0 u (by omega) ⟨rfl, fun j hj => absurd hj (by omega)⟩
    rintro m2 j w2 hj ⟨hw2, hok2⟩ hnext2
    rw [hw2]
    show sX12_isImage_p127b (nI n) Q (sX12_isImage_p127n (nI n) Q m2) (nI (2 + 3 * (pc P * pr P) + j)) u
    unfold sX12_isImage_p127b
    rw [e2]
    by_cases hje : j = pf P
    · rw [hje] at hok2 ⊢
      refine i_pos (nI_le (by omega) (by omega)) (hy ⟨h0, hne, hc, by omega, hok, hok2⟩)
    · refine i_neg (nI_ge (by omega) (by omega)) ⟨vp_in_nI (by omega) (by omega), ?_⟩
      obtain ⟨b3, c3⟩ := hB (2 + 3 * (pc P * pr P) + j) (by omega)
      have e4 : nI (2 + 3 * (pc P * pr P) + j) + 1 = nI (2 + 3 * (pc P * pr P) + (j + 1)) := nI_add _ 1
      rw [nI_clamp (by omega), b3, e4]
      by_cases hb : B (2 + 3 * (pc P * pr P) + j) ≤ 9
      · have h9 : nI (B (2 + 3 * (pc P * pr P) + j)) ≤ nI 9 := nI_le hb (by omega)
        refine i_pos h9 (hnext2 (by omega) u ⟨rfl, fun x hx => ?_⟩)
        by_cases e : x = j
        · rw [e]
          exact hb
        · exact hok2 x (by omega)
      · have h9 : ¬ nI (B (2 + 3 * (pc P * pr P) + j)) ≤ nI 9 := nI_ge (by omega) (by omega)
        exact i_neg h9 (hno (fun g => hb (g.2.2.2.2.2 j (by omega))))
  · refine i_neg (nI_ge (by omega) (by omega)) ?_
    obtain ⟨b1, c1⟩ := hB (2 + 3 * i) (by omega)
    obtain ⟨b2, c2⟩ := hB (2 + 3 * i + 1) (by omega)
    obtain ⟨b3, c3⟩ := hB (2 + 3 * i + 2) (by omega)
    have e1 : nI (2 + 3 * i) + 1 = nI (2 + 3 * i + 1) := nI_add _ 1
    have e2 : nI (2 + 3 * i) + 2 = nI (2 + 3 * i + 2) := nI_add _ 2
    have e3 : nI (2 + 3 * i) + 3 = nI (2 + 3 * (i + 1)) := nI_add _ 3
    rw [e1, e2, e3, nI_clamp (by omega), nI_clamp (by omega), nI_clamp (by omega), b1, b2, b3]
    have hbad : ¬ okC B i → Q 0 u := fun hx => hno (fun g => hx (g.2.2.2.2.1 i (by omega)))
    refine ⟨vp_in_nI (by omega) (by omega), ?_⟩
    by_cases h1 : B (2 + 3 * i) ≤ 9
    · have h9 : ¬ nI 9 < nI (B (2 + 3 * i)) := nI_nlt (by omega) (by omega)
      refine i_neg h9 ⟨vp_in_nI (by omega) (by omega), ?_⟩
      by_cases h2 : B (2 + 3 * i + 1) ≤ 1
      · have h9 : ¬ nI 1 < nI (B (2 + 3 * i + 1)) := nI_nlt (by omega) (by omega)
        refine i_neg h9 ⟨vp_in_nI (by omega) (by omega), ?_⟩
        by_cases h3 : B (2 + 3 * i + 2) ≤ 99
        · have h9 : nI (B (2 + 3 * i + 2)) ≤ nI 99 := nI_le h3 (by omega)
          refine i_pos h9 (hnext (by omega) u ⟨rfl, fun j hj => ?_⟩)
          by_cases e : j = i
          · rw [e]
            exact ⟨h1, h2, h3⟩
          · exact hok j (by omega)
        · have h9 : ¬ nI (B (2 + 3 * i + 2)) ≤ nI 99 := nI_ge (by omega) (by omega)
          exact i_neg h9 (hbad (fun g => h3 g.2.2))
      · have h9 : nI 1 < nI (B (2 + 3 * i + 1)) := nI_lt (by omega) (by omega)
        exact i_pos h9 (hbad (fun g => h2 g.2.1))
    · have h9 : nI 9 < nI (B (2 + 3 * i)) := nI_lt (by omega) (by omega)
      exact i_pos h9 (hbad (fun g => h1 g.1))
def nwN (P : Pl) (N B : Nat → Nat) : Nat → Nat := fun k => if k = 0 then 256 * B 0 + B 1 else if k = 115 then 0 else if 109 ≤ k ∧ k < 109 + pf P then B (2 + 3 * (pc P * pr P) + (k - 109)) else if 1 ≤ k ∧ k < 109 ∧ (k - 1) / 3 % 6 < pc P ∧ (k - 1) / 3 / 6 < pr P then B (2 + 3 * pl P ((k - 1) / 3) + (k - 1) % 3) else N k
theorem nw_cell {P : Pl} {N B : Nat → Nat} (hP : VP P) {c j : Nat} (hc : cel P c) (hj : j < 3) : nwN P N B (1 + 3 * c + j) = B (2 + 3 * pl P c + j) := by
  have h36 := cel_lt hP hc
  unfold nwN
  have e1 : (1 + 3 * c + j - 1) / 3 = c := by omega
  have e2 : (1 + 3 * c + j - 1) % 3 = j := by omega
  first | refine i_neg (by omega) ?_ | rw [if_neg (by omega)]
  first | refine i_neg (by omega) ?_ | rw [if_neg (by omega)]
  first | refine i_neg (by omega) ?_ | rw [if_neg (by omega)]
  rw [e1, e2]
  first | refine i_pos ⟨by omega, by omega, hc.1, hc.2⟩ ?_ | rw [if_pos ⟨by omega, by omega, hc.1, hc.2⟩]
  try (with_reducible rfl)
theorem nw_pie {P : Pl} {N B : Nat → Nat} (hP : VP P) {f : Nat} (hf : f < pf P) : nwN P N B (109 + f) = B (2 + 3 * (pc P * pr P) + f) := by
  have hpf := hP.2.2.2.2.1
  unfold nwN
  first | refine i_neg (by omega) ?_ | rw [if_neg (by omega)]
  first | refine i_neg (by omega) ?_ | rw [if_neg (by omega)]
  first | refine i_pos (by omega) ?_ | rw [if_pos (by omega)]
  rw [show 109 + f - 109 = f by omega]
theorem nw_old {P : Pl} {N B : Nat → Nat} {k : Nat} (h0 : k ≠ 0) (h1 : k ≠ 115) (h2 : ¬ (109 ≤ k ∧ k < 109 + pf P)) (h3 : ¬ (1 ≤ k ∧ k < 109 ∧ cel P ((k - 1) / 3))) : nwN P N B k = N k := by
  unfold nwN
  first | refine i_neg h0 ?_ | rw [if_neg h0]
  first | refine i_neg h1 ?_ | rw [if_neg h1]
  first | refine i_neg h2 ?_ | rw [if_neg h2]
  first | refine i_neg (fun g => h3 ⟨g.1, g.2.1, g.2.2.1, g.2.2.2⟩) ?_ | rw [if_neg (fun g => h3 ⟨g.1, g.2.1, g.2.2.1, g.2.2.2⟩)]
  try (with_reducible rfl)
theorem nw_vn {P : Pl} {N B : Nat → Nat} {n : Nat} (hP : VP P) (hN : VN P N) (h : OkI P n B) : VN P (nwN P N B) := by
  have hpf := hP.2.2.2.2.1
  refine ⟨?_, fun c hc => ?_, fun c hc h2 => ?_, fun f hf => ?_, fun f h1 h2 => ?_, ?_, fun k hk => ?_⟩
  · unfold nwN
    first | refine i_pos rfl ?_ | rw [if_pos rfl]
    try (with_reducible rfl)
    exact h.2.2.2.1
  · have hl := pl_lt hc
    have ho := h.2.2.2.2.1 _ hl
    have a0 := nw_cell (N := N) (B := B) hP hc (j := 0) (by omega)
    have a1 := nw_cell (N := N) (B := B) hP hc (j := 1) (by omega)
    have a2 := nw_cell (N := N) (B := B) hP hc (j := 2) (by omega)
    rw [show 1 + 3 * c + 0 = 1 + 3 * c by omega, show 2 + 3 * pl P c + 0 = 2 + 3 * pl P c by omega] at a0
    rw [show 1 + 3 * c + 1 = 2 + 3 * c by omega] at a1
    rw [show 1 + 3 * c + 2 = 3 + 3 * c by omega] at a2
    rw [a0, a1, a2]
    exact ho
  · rw [nw_old (by omega) (by omega) (by omega) (fun g => h2 (by have := g.2.2; rw [show (2 + 3 * c - 1) / 3 = c by omega] at this; exact this))]
    exact hN.2.2.1 c hc h2
  · rw [nw_pie hP hf]
    exact h.2.2.2.2.2 f hf
  · rw [nw_old (by omega) (by omega) (by omega) (fun g => by omega)]
    exact hN.2.2.2.2.1 f h1 h2
  · have : nwN P N B 115 = 0 := by
      unfold nwN
      first | refine i_neg (by omega) ?_ | rw [if_neg (by omega)]
      first | refine i_pos rfl ?_ | rw [if_pos rfl]
      try (with_reducible rfl)
    omega
  · rw [nw_old (by omega) (by omega) (by omega) (fun g => by omega)]
    exact hN.2.2.2.2.2.2 k hk
def SShow (P : Pl) (a k : Nat) : Prop := ¬ (a = 42 ∧ k < 2) ∧ ¬ (43 ≤ a ∧ a ≤ 45 ∧ k < pc P * pr P) ∧ ¬ (a = 46 ∧ k < pf P)
theorem q_show {P : Pl} {t n : Nat} {B : Nat → Nat} {Q : St → Prop} {u : St} (hP : VP P) (ht : 7 ≤ t ∧ t + 16 ≤ 40) (hT : cPl u t P) (hn : n = 2 + 3 * (pc P * pr P) + pf P + 1) (hB : ∀ k, k < n → u.1 2 k = nI (B k) ∧ B k < 256) (hQ : ∀ u', Kp (SShow P) u u' → u'.1 42 0 = nI (256 * B 0 + B 1) → u'.1 42 1 = 0 → (∀ i, i < pc P * pr P → u'.1 43 i = nI (B (2 + 3 * i)) ∧ u'.1 44 i = nI (B (2 + 3 * i + 1)) ∧ u'.1 45 i = nI (B (2 + 3 * i + 2))) → (∀ f, f < pf P → u'.1 46 f = nI (B (2 + 3 * (pc P * pr P) + f))) → Q u') : s_X4_show t 42 Q u := by
  have har := area_le hP
  have hpf := hP.2.2.2.2.1
  obtain ⟨b0, c0⟩ := hB 0 (by omega)
  obtain ⟨b1, c1⟩ := hB 1 (by omega)
  unfold s_X4_show s_X4_yearOf
  dsimp only
  simp only [bnd]
  rw [show ((0 : Int32)).toNatClampNeg = 0 by first | decide | (unfold vp_in; decide), show ((1 : Int32)).toNatClampNeg = 1 by first | decide | (unfold vp_in; decide), b0, b1, yr_eq]
  refine ⟨by first | decide | (unfold vp_in; decide), by first | decide | (unfold vp_in; decide), ?_⟩
  unfold sX4_show_p15
  refine for_up (fun m i s => sX4_show_p15n t 42 Q m i s) (pc P * pr P) (fun i s => Kp (SShow P) u s ∧ s.1 42 0 = nI (256 * B 0 + B 1) ∧ s.1 42 1 = 0 ∧ ∀ j, j < i → s.1 43 j = nI (B (2 + 3 * j)) ∧ s.1 44 j = nI (B (2 + 3 * j + 1)) ∧ s.1 45 j = nI (B (2 + 3 * j + 2))) ?_ 0 _ (by omega) ⟨kp_I (kp_I (kp_r u) (by unfold SShow; omega)) (by unfold SShow; omega), by rw [t_n _ _ (by omega), t_s], t_s _ _ _ _, fun j hj => absurd hj (by omega)⟩
  rintro m i s hi ⟨hK, hy, hz, hc⟩ hnext
  show sX4_show_p15b t 42 Q (sX4_show_p15n t 42 Q m) (nI i) s
  unfold sX4_show_p15b s_X5_places
  dsimp only
  rw [hK.1 t 0 (by unfold SShow; omega), hK.1 t 1 (by unfold SShow; omega), hT.1.1, hT.1.2.1, pk_mul, at_eq, at_eq]
  by_cases hie : i = pc P * pr P
  · rw [hie] at hc ⊢
    refine i_pos (nI_le (Nat.le_refl _) (by omega)) ?_
    unfold sX4_show_p91
    refine for_up (fun m f s => sX4_show_p91n t 42 (nI (2 + 3 * (pc P * pr P))) Q m f s) (pf P) (fun f s => Kp (SShow P) u s ∧ s.1 42 0 = nI (256 * B 0 + B 1) ∧ s.1 42 1 = 0 ∧ (∀ j, j < pc P * pr P → s.1 43 j = nI (B (2 + 3 * j)) ∧ s.1 44 j = nI (B (2 + 3 * j + 1)) ∧ s.1 45 j = nI (B (2 + 3 * j + 2))) ∧ ∀ g, g < f → s.1 46 g = nI (B (2 + 3 * (pc P * pr P) + g))) ?_ 0 _ (by omega) ⟨hK, hy, hz, hc, fun j hj => absurd hj (by omega)⟩
    rintro m2 f s2 hf ⟨hK2, hy2, hz2, hc2, hg2⟩ hnext2
    show sX4_show_p91b t 42 (nI (2 + 3 * (pc P * pr P))) Q (sX4_show_p91n t 42 (nI (2 + 3 * (pc P * pr P))) Q m2) (nI f) s2
    unfold sX4_show_p91b
    rw [hK2.1 t 3 (by unfold SShow; omega), hT.1.2.2.2.1]
    by_cases hfe : f = pf P
    · rw [hfe] at hg2 ⊢
      exact i_pos (nI_le (Nat.le_refl _) (by omega)) (hQ s2 hK2 hy2 hz2 hc2 hg2)
    · refine i_neg (nI_ge (by omega) (by omega)) ?_
      rw [nI_add, nI_clamp (by omega), nI_clamp (by omega), hK2.1 2 _ (by unfold SShow; omega), (hB _ (by omega)).1]
      simp only [bnd]
      rw [nI_1]
      refine ⟨vp_in_nI (by omega) (by omega), vp_in_nI (by omega) (by omega), ?_⟩
      refine hnext2 (by omega) _ ⟨kp_I hK2 (by unfold SShow; omega), by rw [t_n _ _ (by omega)]; exact hy2, by rw [t_n _ _ (by omega)]; exact hz2, fun j hj => ?_, fun g hg => ?_⟩
      · rw [t_n _ _ (by omega), t_n _ _ (by omega), t_n _ _ (by omega)]
        exact hc2 j hj
      · by_cases e : g = f
        · rw [e, t_s]
        · rw [t_n _ _ (by omega)]
          exact hg2 g (by omega)
  · refine i_neg (nI_ge (by omega) (by omega)) ?_
    have e1 : nI (2 + 3 * i) + 1 = nI (2 + 3 * i + 1) := nI_add _ 1
    have e2 : nI (2 + 3 * i) + 2 = nI (2 + 3 * i + 2) := nI_add _ 2
    rw [e1, e2, nI_clamp (by omega), nI_clamp (by omega), nI_clamp (by omega), nI_clamp (by omega)]
    simp only [bnd]
    rw [t_n (a' := 2) _ _ (by omega), t_n (a' := 2) _ _ (by omega), t_n (a' := 2) _ _ (by omega), nI_1, hK.1 2 _ (by unfold SShow; omega), hK.1 2 _ (by unfold SShow; omega), hK.1 2 _ (by unfold SShow; omega), (hB _ (by omega)).1, (hB _ (by omega)).1, (hB _ (by omega)).1]
    refine ⟨vp_in_nI (by omega) (by omega), vp_in_nI (by omega) (by omega), vp_in_nI (by omega) (by omega), vp_in_nI (by omega) (by omega), vp_in_nI (by omega) (by omega), vp_in_nI (by omega) (by omega), ?_⟩
    refine hnext (by omega) _ ⟨kp_I (kp_I (kp_I hK (by unfold SShow; omega)) (by unfold SShow; omega)) (by unfold SShow; omega), by rw [t_n _ _ (by omega), t_n _ _ (by omega), t_n _ _ (by omega)]; exact hy, by rw [t_n _ _ (by omega), t_n _ _ (by omega), t_n _ _ (by omega)]; exact hz, fun j hj => ?_⟩
    by_cases e : j = i
    · rw [e]
      refine ⟨?_, ?_, ?_⟩
      · rw [t_n _ _ (by omega), t_n _ _ (by omega), t_s]
      · rw [t_n _ _ (by omega), t_s]
      · rw [t_s]
    · rw [t_n _ _ (by omega), t_n _ _ (by omega), t_n _ _ (by omega), t_n _ _ (by omega), t_n _ _ (by omega), t_n _ _ (by omega), t_n _ _ (by omega), t_n _ _ (by omega), t_n _ _ (by omega)]
      exact hc j (by omega)
def RcN (P : Pl) (q k : Nat) : Prop := k = 115 ∨ (109 ≤ k ∧ k < 109 + pf P) ∨ (1 ≤ k ∧ k < 109 ∧ cel P ((k - 1) / 3) ∧ q ≤ 3 * pl P ((k - 1) / 3) + (k - 1) % 3)
def RfN (P : Pl) (f k : Nat) : Prop := k = 115 ∨ (109 + f ≤ k ∧ k < 109 + pf P)
def Dn (P : Pl) (N B : Nat → Nat) (R : Nat → Prop) (s : St) : Prop := ∀ k, k < 236 → ¬ R k → s.1 241 k = nI (nwN P N B k)
theorem dn_s {P : Pl} {N B : Nat → Nat} {R R' : Nat → Prop} {s : St} {k0 : Nat} {x : Int32} (h : Dn P N B R s) (hx : x = nI (nwN P N B k0)) (hR : ∀ k, R k → k ≠ k0 → R' k) : Dn P N B R' (tI s 241 k0 x) := by
  intro k hk hn
  by_cases e : k = k0
  · rw [e, t_s, hx]
  · rw [t_n _ _ (by omega)]
    exact h k hk (fun g => hn (hR k g e))
theorem call_on : Call (s_X11_on) (s_X12_on) := by
  rintro u ⟨P, N, hC⟩
  have hC : Ctx u P N := hC
  have hP := ctx_vp hC
  have hN := ctx_vn hC
  have har := area_le hP
  have hpf := hP.2.2.2.2.1
  have h6 := hP.1
  have h7 := hP.2.1
  have ht := ctx_t hC
  have hT := ctx_c hC
  have hL := ctx_l hC
  have hcc := hC.1
  obtain ⟨n, B, hn, l1, l2, hb⟩ := hC.1.1
  have hB1 : ∀ k, k < n → u.1 2 k = nI (B k) ∧ B k < 256 := fun k hk => ⟨(hb k hk).1, (hb k hk).2.2⟩
  have hB2 : ∀ k, k < n → u.1 199 k = nI (B k) ∧ B k < 256 := fun k hk => (hb k hk).2
  unfold s_X11_on
  refine q_isOf hP hT hn l1 hB1 (fun hok => ?_) (fun hno => ?_)
  · refine i_neg (by first | decide | (unfold vp_in; decide)) ?_
    refine q_show hP ht hT hok.2.1 hB1 (fun u1 k1 y1 z1 c1 p1 => ?_)
    unfold s_X3_forget
    simp only [bnd]
    refine q_forget (fun u2 k2 w2 => ?_)
    unfold sX11_on_p51
    simp only [bnd]
    refine ⟨by first | exact Or.inr rfl | exact Or.inr trivial, ?_⟩
    have kc : Kp (fun a k => SShow P a k ∧ ¬ (a = 52 ∧ k = 0) ∧ ¬ (178 ≤ a ∧ a ≤ 194 ∧ (a - 178) % 4 = 0 ∧ k = 5) ∧ ¬ (a = 1 ∧ k = 1)) u (tI u2 1 1 0) := kp_I (kp_t (kp_I (kp_m k1 (fun a k h => h.1)) (by omega)) (kp_m k2 (fun a k h => h.2.2.1))) (by omega)
    have k12 : Kp (fun a k => ¬ (a = 52 ∧ k = 0) ∧ ¬ (178 ≤ a ∧ a ≤ 194 ∧ (a - 178) % 4 = 0 ∧ k = 5) ∧ ¬ (a = 1 ∧ k = 1)) u1 (tI u2 1 1 0) := kp_I (kp_t (kp_I (kp_r u1) (by omega)) (kp_m k2 (fun a k h => h.2.1))) (by omega)
    have w3 : ∀ k, k < 5 → (tI u2 1 1 0).1 (178 + 4 * k) 5 = 0 := fun k hk => by
      rw [t_n _ _ (by omega)]
      exact w2 k hk
    have f3 : (tI u2 1 1 0).1 52 0 = 0 := by
      rw [t_n _ _ (by omega), k2.1 52 0 (by omega), t_s]
    have g3 : (tI u2 1 1 0).1 1 1 = 0 := t_s _ _ _ _
    generalize tI u2 1 1 0 = u3 at kc k12 w3 f3 g3
    have hM3 : mPl u3 P := mPl_K (ctx_m hC) kc (fun a k h => by unfold SShow; omega)
    have hL3 : mLa u3 N := mLa_K (ctx_n hC) kc (fun k => by unfold SShow; omega)
    unfold s_X12_on
    simp only [bnd]
    rw [kc.1 198 1 (by unfold SShow; omega), l2]
    have hB3 : ∀ k, k < n → (tI u3 198 1 0).1 199 k = nI (B k) ∧ B k < 256 := fun k hk => by
      rw [t_n _ _ (by omega), kc.1 199 k (by unfold SShow; omega)]
      exact hB2 k hk
    have kx : Kp (fun a k => ¬ (a = 198 ∧ k = 1)) u3 (tI u3 198 1 0) := kp_I (kp_r u3) (by omega)
    refine r_isImage hP (mPl_K hM3 kx (fun a k h => by omega)) hn hB3 (fun _ => ?_) (fun hno => absurd hok hno)
    refine i_neg (by first | decide | (unfold vp_in; decide)) ?_
    have hne := hok.2.1
    rw [show ((0 : Int32)).toNatClampNeg = 0 by first | decide | (unfold vp_in; decide), show ((1 : Int32)).toNatClampNeg = 1 by first | decide | (unfold vp_in; decide), (hB3 0 (by omega)).1, (hB3 1 (by omega)).1, yr_eq]
    refine ⟨by first | decide | (unfold vp_in; decide), by first | decide | (unfold vp_in; decide), by first | decide | (unfold vp_in; decide), ?_⟩
    have hfr : ∀ z : St, Kp (fun a k => ¬ (a = 198 ∧ (k = 1 ∨ k = 78)) ∧ a ≠ 241) u3 z → mPl z P ∧ ∀ k, k < n → z.1 199 k = nI (B k) := fun z hz => ⟨mPl_K hM3 hz (fun a k h => by omega), fun k hk => by rw [hz.1 199 k (by omega), kc.1 199 k (by unfold SShow; omega)]; exact (hB2 k hk).1⟩
    have d0 : Dn P N B (fun k => k = 0 ∨ RcN P 0 k) (tI u3 198 1 0) := by
      intro k hk hr
      rw [t_n _ _ (by omega), hL3 k hk, nw_old (fun g => hr (Or.inl g)) (fun g => hr (Or.inr (Or.inl g))) (fun g => hr (Or.inr (Or.inr (Or.inl g)))) (fun g => hr (Or.inr (Or.inr (Or.inr ⟨g.1, g.2.1, g.2.2, by omega⟩))))]
    have d1 : Dn P N B (RcN P 0) (tI (tI u3 198 1 0) 241 0 (nI (256 * B 0 + B 1))) := dn_s d0 (by unfold nwN; rw [if_pos rfl]) (fun k h hk => h.resolve_left hk)
    unfold sX12_on_p55
    refine for_up (fun m i s => sX12_on_p55n (fun r2 u2 => 1 = r2 ∧ Inv u2) m i s) (pc P * pr P) (fun i s => Kp (fun a k => ¬ (a = 198 ∧ (k = 1 ∨ k = 78)) ∧ a ≠ 241) u3 s ∧ s.1 198 1 = 0 ∧ Dn P N B (RcN P (3 * i)) s) ?_ 0 _ (by omega) ⟨kp_I (kp_I (kp_r u3) (by omega)) (by omega), by rw [t_n _ _ (by omega), t_s], d1⟩
    rintro m i s hi ⟨hK, hl, hD⟩ hnext
    show sX12_on_p55b (fun r2 u2 => 1 = r2 ∧ Inv u2) (sX12_on_p55n (fun r2 u2 => 1 = r2 ∧ Inv u2) m) (nI i) s
    unfold sX12_on_p55b s_X12_cellMany
    dsimp only
    obtain ⟨hMs, hBs⟩ := hfr s hK
    rw [show ((2 : Int32)).toNatClampNeg = 2 by first | decide | (unfold vp_in; decide), show ((3 : Int32)).toNatClampNeg = 3 by first | decide | (unfold vp_in; decide), hMs.1.2.2.1, hMs.1.2.2.2.1, pk_mul]
    refine ⟨by first | decide | (unfold vp_in; decide), by first | decide | (unfold vp_in; decide), ?_⟩
    by_cases hie : i = pc P * pr P
    · rw [hie] at hD ⊢
      refine i_pos (nI_le (Nat.le_refl _) (by omega)) ?_
      have hD0 : Dn P N B (RfN P 0) s := fun k hk hr => hD k hk (fun g => by
        rcases g with g | g | g
        · exact hr (Or.inl g)
        · exact hr (Or.inr ⟨by omega, g.2⟩)
        · have := pl_lt g.2.2.1
          have := g.2.2.2
          omega)
      unfold sX12_on_p112
      refine for_up (fun m f s => sX12_on_p112n (fun r2 u2 => 1 = r2 ∧ Inv u2) m f s) (pf P) (fun f s => Kp (fun a k => ¬ (a = 198 ∧ (k = 1 ∨ k = 78)) ∧ a ≠ 241) u3 s ∧ s.1 198 1 = 0 ∧ Dn P N B (RfN P f) s) ?_ 0 _ (by omega) ⟨hK, hl, hD0⟩
      rintro m2 f s2 hf ⟨hK2, hl2, hD2⟩ hnext2
      show sX12_on_p112b (fun r2 u2 => 1 = r2 ∧ Inv u2) (sX12_on_p112n (fun r2 u2 => 1 = r2 ∧ Inv u2) m2) (nI f) s2
      unfold sX12_on_p112b
      obtain ⟨hM2, hBs2⟩ := hfr s2 hK2
      refine r_farmMany hM2 ?_
      by_cases hfe : f = pf P
      · rw [hfe] at hD2 ⊢
        refine i_pos (nI_le (Nat.le_refl _) (by omega)) ?_
        simp only [bnd]
        rw [show ((115 : Int32)).toNatClampNeg = 115 by first | decide | (unfold vp_in; decide)]
        refine ⟨by first | decide | (unfold vp_in; decide), by first | rfl | trivial, ?_⟩
        have d4 : Dn P N B (fun _ => False) (tI s2 241 115 0) := dn_s hD2 (by unfold nwN; rw [if_neg (by omega), if_pos rfl]; rfl) (fun k h hk => by
          rcases h with h | h
          · exact hk h
          · omega)
        have k4 : Kp (fun a k => ¬ (a = 198 ∧ (k = 1 ∨ k = 78)) ∧ a ≠ 241) u3 (tI (tI s2 241 115 0) 198 78 0) := kp_I (kp_I hK2 (by omega)) (by omega)
        have m4 : mLa (tI (tI s2 241 115 0) 198 78 0) (nwN P N B) := fun k hk => by
          rw [t_n _ _ (by omega)]
          exact d4 k hk (fun h => h)
        have t4 : (tI (tI s2 241 115 0) 198 78 0).1 198 1 = 0 := by
          rw [t_n _ _ (by omega), t_n _ _ (by omega)]
          exact hl2
        have s4 : (tI (tI s2 241 115 0) 198 78 0).1 198 78 = 0 := t_s _ _ _ _
        generalize tI (tI s2 241 115 0) 198 78 0 = u4 at k4 m4 t4 s4
        have kall : Kp (fun a k => SShow P a k ∧ ¬ (a = 52 ∧ k = 0) ∧ ¬ (178 ≤ a ∧ a ≤ 194 ∧ (a - 178) % 4 = 0 ∧ k = 5) ∧ ¬ (a = 1 ∧ k = 1) ∧ ¬ (a = 198 ∧ (k = 1 ∨ k = 78)) ∧ a ≠ 241) u u4 := kp_t (kp_m kc (fun a k h => ⟨h.1, h.2.1, h.2.2.1, h.2.2.2.1⟩)) (kp_m k4 (fun a k h => h.2.2.2.2))
        have k14 : Kp (fun a _ => 42 ≤ a ∧ a ≤ 46) u1 u4 := kp_t (kp_m k12 (fun a k h => by omega)) (kp_m k4 (fun a k h => by omega))
        have hnv := nw_vn hP hN hok
        have e115 : nwN P N B 115 = 0 := by
          unfold nwN
          first | refine i_neg (by omega) ?_ | rw [if_neg (by omega)]
          first | refine i_pos rfl ?_ | rw [if_pos rfl]
          try (with_reducible rfl)
        have hla : cLa u4 42 P (nwN P N B) := by
          refine ⟨?_, fun c hc => ?_, fun f hf6 => ?_, fun p hp hpa => ?_⟩
          · rw [k14.1 42 0 (by omega), y1]
            unfold nwN
            first | refine i_pos rfl ?_ | rw [if_pos rfl]
            try (with_reducible rfl)
          · have hlt := pl_lt hc
            have a0 := nw_cell (N := N) (B := B) hP hc (j := 0) (by omega)
            have a1 := nw_cell (N := N) (B := B) hP hc (j := 1) (by omega)
            have a2 := nw_cell (N := N) (B := B) hP hc (j := 2) (by omega)
            rw [show 1 + 3 * c + 0 = 1 + 3 * c by omega, show 2 + 3 * pl P c + 0 = 2 + 3 * pl P c by omega] at a0
            rw [show 1 + 3 * c + 1 = 2 + 3 * c by omega] at a1
            rw [show 1 + 3 * c + 2 = 3 + 3 * c by omega] at a2
            rw [a0, a1, a2, k14.1 (42 + 1) _ (by omega), k14.1 (42 + 2) _ (by omega), k14.1 (42 + 3) _ (by omega)]
            exact c1 _ hlt
          · rw [k14.1 (42 + 4) _ (by omega)]
            by_cases hfp : f < pf P
            · rw [nw_pie hP hfp]
              exact p1 f hfp
            · rw [nw_old (by omega) (by omega) (by omega) (fun g => by omega)]
              have := k1.1 46 f (by unfold SShow; omega)
              rw [show 42 + 4 = 46 from rfl, this]
              exact hL.2.2.1 f hf6
          · rw [k14.1 (42 + 2) _ (by omega)]
            have := k1.1 44 p (by unfold SShow; omega)
            rw [show 42 + 2 = 44 from rfl, this]
            exact hL.2.2.2 p hp hpa
        obtain ⟨Y, E, n0, o, w, Sk, ys, g1, g2, g3', g4, g5, g6, g7, g8, g9, g10⟩ := past_of hcc.2.2.2.2.2.2.2.2.2.1
        refine inv_gen (N' := nwN P N B) hC kall ⟨0, fun _ => 0, by omega, ?_, t4, fun k hk => absurd hk (by omega)⟩ (k_fault hcc.2.1 kall (fun a k h => by unfold DFault at h; unfold SShow; omega)) (k_ref hcc.2.2.1 kall (fun a k h => by unfold DRef at h; unfold SShow; omega)) (k_pic hcc.2.2.2.2.1 kall (fun a k h => by unfold DPic at h; unfold SShow; omega)) (k_sight hcc.2.2.2.2.2.2.2.1 kall (fun a k h => by unfold DSight at h; unfold SShow; omega)) ⟨hnv, hla, m4⟩ ?_ (fun k hk => ⟨Or.inl ?_, fb_K (hC.2.1 k hk).2 kall (fun j => by unfold SShow; omega)⟩) (k_facts hC.2.2 kall (fun a k h => by unfold SShow; omega)) (fun a k h => ?_)
        · rw [k4.1 1 1 (by omega)]
          exact g3
        · refine past_to (Y := 0) (E := E) (n := 0) (o := o) (w := w) (S := Sk) (ys := ys) (by omega) ?_ (fun k hk => absurd hk (by omega)) ⟨e115, fun k hk => absurd hk (by omega)⟩ (by omega) g6 g7 ⟨?_, ?_, fun i hi => absurd hi (by omega)⟩ ⟨s4, ?_, fun i hi => absurd hi (by omega)⟩ (fun i hi => absurd hi (by omega))
          · rw [k14.1 42 1 (by omega)]
            exact z1
          · rw [k4.1 52 0 (by omega)]
            exact f3
          · rw [kall.1 52 1 (by unfold SShow; omega)]
            exact g8.2.1
          · rw [kall.1 198 79 (by unfold SShow; omega)]
            exact g9.2.1
        · rw [k4.1 _ _ (by omega)]
          exact w3 k hk
        · unfold DWords DTold DPlan DNo at h
          unfold SShow
          omega
      · refine i_neg (nI_ge (by omega) (by omega)) ?_
        unfold s_X12_cellMany
        dsimp only
        rw [show ((2 : Int32)).toNatClampNeg = 2 by first | decide | (unfold vp_in; decide), show ((3 : Int32)).toNatClampNeg = 3 by first | decide | (unfold vp_in; decide), hM2.1.2.2.1, hM2.1.2.2.2.1, pk_mul, at_eq, nI_add]
        have e9 : (109 : Int32) + nI f = nI (109 + f) := nI_add 109 f
        simp only [bnd]
        rw [e9, nI_clamp (by omega), nI_clamp (by omega), hBs2 _ (by omega), nI_1]
        refine ⟨by first | decide | (unfold vp_in; decide), by first | decide | (unfold vp_in; decide), vp_in_nI (by omega) (by omega), vp_in_nI (by omega) (by omega), ?_⟩
        refine hnext2 (by omega) _ ⟨kp_I hK2 (by omega), by rw [t_n _ _ (by omega)]; exact hl2, dn_s hD2 (by rw [nw_pie hP (by omega)]) (fun k h hk => ?_)⟩
        unfold RfN at h ⊢
        omega
    · have hil : i < pc P * pr P := by omega
      have hpc0 := hok.1
      have hce := (ce_cel hP hil).1
      have hc36 := cel_lt hP hce
      have hplc := pl_ce hP hil
      refine i_neg (nI_ge (by omega) (by omega)) ?_
      unfold sX12_on_p65
      refine for_up (fun m3 j s => sX12_on_p65n (nI i) (fun r2 u2 => 1 = r2 ∧ Inv u2) (sX12_on_p55n (fun r2 u2 => 1 = r2 ∧ Inv u2) m) m3 j s) 3 (fun j s => Kp (fun a k => ¬ (a = 198 ∧ (k = 1 ∨ k = 78)) ∧ a ≠ 241) u3 s ∧ s.1 198 1 = 0 ∧ Dn P N B (RcN P (3 * i + j)) s) ?_ 0 s (by omega) ⟨hK, hl, hD⟩
      rintro m3 j s3 hj ⟨hK3, hl3, hD3⟩ hnext3
      show sX12_on_p65b (nI i) (fun r2 u2 => 1 = r2 ∧ Inv u2) (sX12_on_p55n (fun r2 u2 => 1 = r2 ∧ Inv u2) m) (sX12_on_p65n (nI i) (fun r2 u2 => 1 = r2 ∧ Inv u2) (sX12_on_p55n (fun r2 u2 => 1 = r2 ∧ Inv u2) m) m3) (nI j) s3
      unfold sX12_on_p65b
      obtain ⟨hM3s, hBs3⟩ := hfr s3 hK3
      by_cases hje : j = 3
      · subst hje
        refine i_pos (show nI 3 ≤ nI 3 from nI_le (Nat.le_refl _) (by omega)) ?_
        rw [nI_1]
        exact hnext hil _ ⟨hK3, hl3, hD3⟩
      · have h4 : ¬ nI 3 ≤ nI j := nI_ge (by omega) (by omega)
        refine i_neg h4 ?_
        unfold s_X12_cellOfNumber
        rw [show ((2 : Int32)).toNatClampNeg = 2 by first | decide | (unfold vp_in; decide), hM3s.1.2.2.1]
        refine ⟨by first | decide | (unfold vp_in; decide), nI_ne0 (by omega) (by omega), nI_ne0 (by omega) (by omega), ?_⟩
        have ed : nI i - nI i / nI (pc P) * nI (pc P) + 6 * (nI i / nI (pc P)) = nI (ce P i) := by
          rw [pk_rem (by omega) (by omega) (by omega), pk_div (by omega) (by omega) (by omega), show (6 : Int32) * nI (i / pc P) = nI (6 * (i / pc P)) from pk_mul 6 _, nI_add]
          rfl
        dsimp only
        have e5 : (1 : Int32) + 3 * nI (ce P i) = nI (1 + 3 * ce P i) := by
          rw [show (3 : Int32) * nI (ce P i) = nI (3 * ce P i) from pk_mul 3 _]
          exact nI_add 1 _
        simp only [bnd]
        rw [ed, e5, at_eq, nI_add, nI_add, nI_clamp (by omega), nI_clamp (by omega), hBs3 _ (by omega), nI_1]
        refine ⟨vp_in_nI (by omega) (by omega), vp_in_nI (by omega) (by omega), ?_⟩
        refine hnext3 (by omega) _ ⟨kp_I hK3 (by omega), by rw [t_n _ _ (by omega)]; exact hl3, dn_s hD3 (by rw [nw_cell hP hce (by omega), hplc]) (fun k h hk => ?_)⟩
        rcases h with h | h | h
        · exact Or.inl h
        · exact Or.inr (Or.inl h)
        · refine Or.inr (Or.inr ⟨h.1, h.2.1, h.2.2.1, ?_⟩)
          have hq := h.2.2.2
          by_cases e : 3 * i + j = 3 * pl P ((k - 1) / 3) + (k - 1) % 3
          · have e1 : pl P ((k - 1) / 3) = i := by omega
            have e2 := ce_pl h.2.2.1
            rw [e1] at e2
            omega
          · omega
  · refine i_pos rfl ?_
    refine q_refuse (k := 5) (by omega) ?_
    unfold sX11_on_p51
    simp only [bnd]
    refine ⟨by first | exact Or.inl rfl | exact Or.inl trivial, ?_⟩
    have kc : Kp (fun a k => ¬ (a = 177 ∧ k = 5) ∧ ¬ (a = 1 ∧ k = 1)) u (tI (tI u 177 5 (u.1 177 5 + 1)) 1 1 0) := kp_I (kp_I (kp_r u) (by omega)) (by omega)
    have r3 : (tI (tI u 177 5 (u.1 177 5 + 1)) 1 1 0).1 177 5 = u.1 177 5 + 1 := by
      rw [t_n _ _ (by omega), t_s]
    have g3 : (tI (tI u 177 5 (u.1 177 5 + 1)) 1 1 0).1 1 1 = 0 := t_s _ _ _ _
    generalize tI (tI u 177 5 (u.1 177 5 + 1)) 1 1 0 = u3 at kc r3 g3
    unfold s_X12_on
    simp only [bnd]
    rw [kc.1 198 1 (by omega), l2]
    have hM3 : mPl u3 P := mPl_K (ctx_m hC) kc (fun a k h => by omega)
    have kx : Kp (fun a k => ¬ (a = 198 ∧ k = 1)) u3 (tI u3 198 1 0) := kp_I (kp_r u3) (by omega)
    refine r_isImage hP (mPl_K hM3 kx (fun a k h => by omega)) hn (fun k hk => by rw [t_n _ _ (by omega), kc.1 199 k (by omega)]; exact hB2 k hk) (fun hok => absurd hok hno) (fun _ => ?_)
    refine i_pos (by first | rfl | trivial) ?_
    rw [show ((5 : Int32)).toNatClampNeg = 5 by first | decide | (unfold vp_in; decide), t_n _ _ (by omega)]
    refine ⟨by first | decide | (unfold vp_in; decide), by first | rfl | trivial, ?_⟩
    have k4 : Kp (fun a k => ¬ (a = 198 ∧ k = 1) ∧ ¬ (a = 200 ∧ k = 5)) u3 (tI (tI u3 198 1 0) 200 5 (u3.1 200 5 + 1)) := kp_I (kp_I (kp_r u3) (by omega)) (by omega)
    have t4 : (tI (tI u3 198 1 0) 200 5 (u3.1 200 5 + 1)).1 198 1 = 0 := by
      rw [t_n _ _ (by omega), t_s]
    have s4 : (tI (tI u3 198 1 0) 200 5 (u3.1 200 5 + 1)).1 200 5 = u3.1 200 5 + 1 := t_s _ _ _ _
    generalize tI (tI u3 198 1 0) 200 5 (u3.1 200 5 + 1) = u4 at k4 t4 s4
    have kall : Kp (fun a k => ¬ (a = 177 ∧ k = 5) ∧ ¬ (a = 1 ∧ k = 1) ∧ ¬ (a = 198 ∧ k = 1) ∧ ¬ (a = 200 ∧ k = 5)) u u4 := kp_t (kp_m kc (fun a k h => ⟨h.1, h.2.1⟩)) (kp_m k4 (fun a k h => h.2.2))
    refine inv_gen (N' := N) hC kall ⟨0, fun _ => 0, by omega, ?_, t4, fun k hk => absurd hk (by omega)⟩ (k_fault hcc.2.1 kall (fun a k h => by unfold DFault at h; omega)) (fun k hk => ?_) (k_pic hcc.2.2.2.2.1 kall (fun a k h => by unfold DPic at h; omega)) (k_sight hcc.2.2.2.2.2.2.2.1 kall (fun a k h => by unfold DSight at h; omega)) (k_land hcc.2.2.2.2.2.2.2.2.1 kall (fun a k h => by unfold DLand at h; omega)) (k_past hcc.2.2.2.2.2.2.2.2.2.1 kall (by omega) (fun a k h => by unfold DPast at h; omega)) (k_ways hC.2.1 kall (fun a k h => by omega)) (k_facts hC.2.2 kall (fun a k h => by omega)) (fun a k h => ?_)
    · rw [k4.1 1 1 (by omega)]
      exact g3
    · have hr := hcc.2.2.1 k hk
      by_cases e : k = 5
      · rw [e] at hr ⊢
        rw [s4, kc.1 200 5 (by omega), k4.1 177 5 (by omega), r3, hr]
      · rw [kall.1 200 k (by omega), kall.1 177 k (by omega)]
        exact hr
    · unfold DWords DTold DPlan DNo at h
      omega
