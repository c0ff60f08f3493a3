/-! ===== tells ===== -/
noncomputable def alk (P : Pl) (N : Nat → Nat) (w s a : Nat) : Nat → Nat
  | 0 => 0
  | b + 1 => if w.testBit a = true ∧ w.testBit b = true ∧ cb P N a s = cb P N b s then alk P N w s a b + 1 else alk P N w s a b
noncomputable def mxa (P : Pl) (N : Nat → Nat) (w s : Nat) : Nat → Nat
  | 0 => 0
  | a + 1 => max (mxa P N w s a) (alk P N w s a (pk P))
theorem alk_le (P : Pl) (N : Nat → Nat) (w s a : Nat) : ∀ b, alk P N w s a b ≤ b
  | 0 => by
    unfold alk
    omega
  | b + 1 => by
    have := alk_le P N w s a b
    unfold alk
    split <;> omega
theorem mxa_le (P : Pl) (N : Nat → Nat) (w s : Nat) : ∀ a, mxa P N w s a ≤ pk P
  | 0 => by
    unfold mxa
    omega
  | a + 1 => by
    have h1 := mxa_le P N w s a
    have h2 := alk_le P N w s a (pk P)
    unfold mxa
    omega
theorem bit_rd : ∀ w, w < 64 → ∀ k, k < 6 → ((nI w >>> (nI k &&& 31)) &&& 1 = 1) = (w.testBit k = true) := by first | decide | (unfold vp_in; decide)
theorem max_nI {a b : Nat} {Q : Int32 → St → Prop} {u : St} (ha : a < 1000) (hb : b < 1000) (hQ : Q (nI (max a b)) u) : s_J9_max_7cf53 (nI a) (nI b) Q u := by
  unfold s_J9_max_7cf53
  by_cases h : a < b
  · first | refine i_pos (nI_lt h (by omega)) ?_ | rw [if_pos (nI_lt h (by omega))]
    try (with_reducible rfl)
    rw [show max a b = b by omega] at hQ
    exact hQ
  · first | refine i_neg (nI_nlt (by omega) (by omega)) ?_ | rw [if_neg (nI_nlt (by omega) (by omega))]
    try (with_reducible rfl)
    rw [show max a b = a by omega] at hQ
    exact hQ
theorem q_most {P : Pl} {N : Nat → Nat} {w s n : Nat} {R C : Nat → Nat} {Q : Int32 → St → Prop} {u : St} (hC : Ctx u P N) (hSn : Seen u P n R C) (hw : w < 32) (hs : s ≤ 40) (hQ : ∀ u', Ctx u' P N → Seen u' P n R C → Q (nI (mxa P N w s (pk P))) u') : s_X11_mostLeftBy (nI s) (nI w) Q u := by
  have hP := ctx_vp hC
  have hpk := hP.2.2.2.2.2.1
  unfold s_X11_mostLeftBy sX11_mostLeftBy_p5
  have key := for_up (fun m i (z : Int32 × St) => sX11_mostLeftBy_p5n (nI s) (nI w) Q m z.1 i z.2) (pk P) (fun i z => (Ctx z.2 P N ∧ Seen z.2 P n R C) ∧ z.1 = nI (mxa P N w s i)) ?_ 0 (0, u) (by omega) ⟨⟨hC, hSn⟩, rfl⟩
  · exact key
  rintro m i ⟨a, z⟩ hi ⟨⟨hCz, hSz⟩, rfl⟩ hnext
  simp only at hCz hSz
  show sX11_mostLeftBy_p5b (nI s) (nI w) Q (sX11_mostLeftBy_p5n (nI s) (nI w) Q m) (nI (mxa P N w s i)) (nI i) z
  unfold sX11_mostLeftBy_p5b
  rw [(ctx_c hCz).1.2.2.2.2]
  by_cases he : i = pk P
  · first | refine i_pos (by rw [he]; exact nI_le (Nat.le_refl _) (by omega)) ?_ | rw [if_pos (by rw [he]; exact nI_le (Nat.le_refl _) (by omega))]
    rw [he]
    exact hQ z hCz hSz
  first | refine i_neg (nI_ge (by omega) (by omega)) ?_ | rw [if_neg (nI_ge (by omega) (by omega))]
  try (with_reducible rfl)
  have hil : i < pk P := by omega
  have hmx := mxa_le P N w s i
  unfold sX11_mostLeftBy_p23
  have key2 := for_up (fun m2 j (y : Int32 × St) => sX11_mostLeftBy_p23n (nI s) (nI w) (nI (mxa P N w s i)) (nI i) Q (sX11_mostLeftBy_p5n (nI s) (nI w) Q m) m2 y.1 j y.2) (pk P) (fun j y => (Ctx y.2 P N ∧ Seen y.2 P n R C) ∧ y.1 = nI (alk P N w s i j)) ?_ 0 (0, z) (by omega) ⟨⟨hCz, hSz⟩, rfl⟩
  · exact key2
  rintro m2 j ⟨b, y⟩ hj ⟨⟨hCy, hSy⟩, rfl⟩ hnext2
  simp only at hCy hSy
  show sX11_mostLeftBy_p23b (nI s) (nI w) (nI (mxa P N w s i)) (nI i) Q (sX11_mostLeftBy_p5n (nI s) (nI w) Q m) (sX11_mostLeftBy_p23n (nI s) (nI w) (nI (mxa P N w s i)) (nI i) Q (sX11_mostLeftBy_p5n (nI s) (nI w) Q m) m2) (nI (alk P N w s i j)) (nI j) y
  unfold sX11_mostLeftBy_p23b
  rw [(ctx_c hCy).1.2.2.2.2]
  have hal := alk_le P N w s i j
  by_cases hje : j = pk P
  · first | refine i_pos (by rw [hje]; exact nI_le (Nat.le_refl _) (by omega)) ?_ | rw [if_pos (by rw [hje]; exact nI_le (Nat.le_refl _) (by omega))]
    try (with_reducible rfl)
    refine max_nI (by omega) (by omega) ?_
    rw [nI_1, hje]
    exact hnext (by omega) (nI (mxa P N w s (i + 1)), y) ⟨⟨hCy, hSy⟩, rfl⟩
  first | refine i_neg (nI_ge (by omega) (by omega)) ?_ | rw [if_neg (nI_ge (by omega) (by omega))]
  try (with_reducible rfl)
  have hjl : j < pk P := by omega
  have hgo : ∀ (x : Nat) (y2 : St), (Ctx y2 P N ∧ Seen y2 P n R C) → x = alk P N w s i (j + 1) → sX11_mostLeftBy_p93 (nI s) (nI w) (nI (mxa P N w s i)) (nI i) (nI x) (nI j) Q (sX11_mostLeftBy_p5n (nI s) (nI w) Q m) (sX11_mostLeftBy_p23n (nI s) (nI w) (nI (mxa P N w s i)) (nI i) Q (sX11_mostLeftBy_p5n (nI s) (nI w) Q m) m2) y2 := by
    rintro x y2 hy2 rfl
    show sX11_mostLeftBy_p23n (nI s) (nI w) (nI (mxa P N w s i)) (nI i) Q (sX11_mostLeftBy_p5n (nI s) (nI w) Q m) m2 (nI (alk P N w s i (j + 1))) (nI j + 1) y2
    rw [nI_1]
    exact hnext2 (by omega) (nI (alk P N w s i (j + 1)), y2) ⟨hy2, rfl⟩
  have hskip : ¬ (w.testBit i = true ∧ w.testBit j = true) → sX11_mostLeftBy_p59 (nI s) (nI w) (nI (mxa P N w s i)) (nI i) (nI (alk P N w s i j)) (nI j) Q (sX11_mostLeftBy_p5n (nI s) (nI w) Q m) (sX11_mostLeftBy_p23n (nI s) (nI w) (nI (mxa P N w s i)) (nI i) Q (sX11_mostLeftBy_p5n (nI s) (nI w) Q m) m2) y := by
    intro hn
    unfold sX11_mostLeftBy_p59 sX11_mostLeftBy_p60
    first | refine i_pos rfl ?_ | rw [if_pos rfl]
    try (with_reducible rfl)
    refine hgo _ y ⟨hCy, hSy⟩ ?_
    show _ = (if _ then _ else _)
    first | refine i_neg (fun h => hn ⟨h.1, h.2.1⟩) ?_ | rw [if_neg (fun h => hn ⟨h.1, h.2.1⟩)]
    try (with_reducible rfl)
  by_cases hb1 : w.testBit i = true
  · refine i_pos (by rw [bit_rd w (by omega) i (by omega)]; exact hb1) ?_
    by_cases hb2 : w.testBit j = true
    · refine i_pos (by rw [bit_rd w (by omega) j (by omega)]; exact hb2) ?_
      unfold sX11_mostLeftBy_p60
      first | refine i_neg (by first | decide | (unfold vp_in; decide)) ?_ | rw [if_neg (by first | decide | (unfold vp_in; decide))]
      try (with_reducible rfl)
      refine q_wayOf hCy (fun k u6 hk e hC6 hW6 hK6 => ?_) (fun hn => absurd ⟨i, hil, rfl⟩ hn)
      rw [nI_eq (by omega) (by omega)] at e
      subst e
      have h0 := pk_pc hP hk
      refine q_pb hP h0 hW6 (by omega) ?_
      refine q_wayOf hC6 (fun k u8 hk8 e8 hC8 hW8 hK8 => ?_) (fun hn => absurd ⟨j, hjl, rfl⟩ hn)
      rw [nI_eq (by omega) (by omega)] at e8
      subst e8
      have ht6 := ctx_t hCy
      have ht8 := ctx_t hC6
      have hS8 : Seen u8 P n R C := seen_K (seen_K hSy hK6 (fun a k h => by unfold DSight at h; omega)) hK8 (fun a k h => by unfold DSight at h; omega)
      refine q_pb hP h0 hW8 (by omega) ?_
      have hiff := oI_pl (o := cb P N i s) (o' := cb P N j s) hP (fun d e => cb_cel hP h0 hW6.1 e) (fun d e => cb_cel hP h0 hW8.1 e)
      by_cases hy : cb P N i s = cb P N j s
      · refine i_pos (hiff.mpr hy) ?_
        rw [nI_1]
        refine hgo _ u8 ⟨hC8, hS8⟩ ?_
        show _ = (if _ then _ else _)
        first | refine i_pos ⟨hb1, hb2, hy⟩ ?_ | rw [if_pos ⟨hb1, hb2, hy⟩]
        try (with_reducible rfl)
      · refine i_neg (fun e => hy (hiff.mp e)) ?_
        refine hgo _ u8 ⟨hC8, hS8⟩ ?_
        show _ = (if _ then _ else _)
        first | refine i_neg (fun h => hy h.2.2) ?_ | rw [if_neg (fun h => hy h.2.2)]
        try (with_reducible rfl)
    · refine i_neg (by rw [bit_rd w (by omega) j (by omega)]; exact hb2) ?_
      exact hskip (fun h => hb2 h.2)
  · refine i_neg (by rw [bit_rd w (by omega) i (by omega)]; exact hb1) ?_
    exact hskip (fun h => hb1 h.1)
theorem r_most {P : Pl} {N : Nat → Nat} {w s : Nat} {Q : Int32 → St → Prop} {u : St} (hC : Ctx u P N) (hB : CB u P N (pk P)) (hW : ∀ c, c < pk P → IsWay P N c (wp P N c) (wm P N c)) (hw : w < 32) (hs : s ≤ 40) (hQ : Q (nI (mxa P N w s (pk P))) u) : s_X12_mostAlike (nI w) (nI s) Q u := by
  have hP := ctx_vp hC
  have hpk := hP.2.2.2.2.2.1
  have hM := ctx_m hC
  unfold s_X12_mostAlike sX12_mostAlike_p5
  have key := for_up (fun m i (z : Int32 × St) => sX12_mostAlike_p5n (nI w) (nI s) Q m z.1 i z.2) (pk P) (fun i z => z.2 = u ∧ z.1 = nI (mxa P N w s i)) ?_ 0 (0, u) (by omega) ⟨rfl, rfl⟩
  · exact key
  rintro m i ⟨a, z⟩ hi ⟨rfl, rfl⟩ hnext
  show sX12_mostAlike_p5b (nI w) (nI s) Q (sX12_mostAlike_p5n (nI w) (nI s) Q m) (nI (mxa P N w s i)) (nI i) z
  unfold sX12_mostAlike_p5b
  refine r_callerMany hM ?_
  by_cases he : i = pk P
  · first | refine i_pos (by rw [he]; exact nI_le (Nat.le_refl _) (by omega)) ?_ | rw [if_pos (by rw [he]; exact nI_le (Nat.le_refl _) (by omega))]
    rw [he]
    exact hQ
  first | refine i_neg (nI_ge (by omega) (by omega)) ?_ | rw [if_neg (nI_ge (by omega) (by omega))]
  try (with_reducible rfl)
  have hil : i < pk P := by omega
  have hmx := mxa_le P N w s i
  unfold sX12_mostAlike_p20
  have key2 := for_up (fun m2 j (y : Int32 × St) => sX12_mostAlike_p20n (nI w) (nI s) (nI (mxa P N w s i)) (nI i) Q (sX12_mostAlike_p5n (nI w) (nI s) Q m) m2 y.1 j y.2) (pk P) (fun j y => y.2 = z ∧ y.1 = nI (alk P N w s i j)) ?_ 0 (0, z) (by omega) ⟨rfl, rfl⟩
  · exact key2
  rintro m2 j ⟨b, y⟩ hj ⟨rfl, rfl⟩ hnext2
  show sX12_mostAlike_p20b (nI w) (nI s) (nI (mxa P N w s i)) (nI i) Q (sX12_mostAlike_p5n (nI w) (nI s) Q m) (sX12_mostAlike_p20n (nI w) (nI s) (nI (mxa P N w s i)) (nI i) Q (sX12_mostAlike_p5n (nI w) (nI s) Q m) m2) (nI (alk P N w s i j)) (nI j) y
  unfold sX12_mostAlike_p20b
  refine r_callerMany hM ?_
  have hal := alk_le P N w s i j
  by_cases hje : j = pk P
  · first | refine i_pos (by rw [hje]; exact nI_le (Nat.le_refl _) (by omega)) ?_ | rw [if_pos (by rw [hje]; exact nI_le (Nat.le_refl _) (by omega))]
    try (with_reducible rfl)
    subst hje
    have hnx : ∀ x, x = mxa P N w s (i + 1) → sX12_mostAlike_p94 (nI w) (nI s) (nI x) (nI i) Q (sX12_mostAlike_p5n (nI w) (nI s) Q m) y := by
      rintro x rfl
      show sX12_mostAlike_p5n (nI w) (nI s) Q m (nI (mxa P N w s (i + 1))) (nI i + 1) y
      rw [nI_1]
      exact hnext (by omega) (nI (mxa P N w s (i + 1)), y) ⟨rfl, rfl⟩
    by_cases hle : alk P N w s i (pk P) ≤ mxa P N w s i
    · first | refine i_pos (nI_le hle (by omega)) ?_ | rw [if_pos (nI_le hle (by omega))]
      try (with_reducible rfl)
      refine hnx _ ?_
      show _ = max _ _
      omega
    · first | refine i_neg (nI_ge (by omega) (by omega)) ?_ | rw [if_neg (nI_ge (by omega) (by omega))]
      try (with_reducible rfl)
      refine hnx _ ?_
      show _ = max _ _
      omega
  first | refine i_neg (nI_ge (by omega) (by omega)) ?_ | rw [if_neg (nI_ge (by omega) (by omega))]
  try (with_reducible rfl)
  have hjl : j < pk P := by omega
  have hgo : ∀ (x : Nat), x = alk P N w s i (j + 1) → sX12_mostAlike_p79 (nI w) (nI s) (nI (mxa P N w s i)) (nI i) (nI x) (nI j) Q (sX12_mostAlike_p5n (nI w) (nI s) Q m) (sX12_mostAlike_p20n (nI w) (nI s) (nI (mxa P N w s i)) (nI i) Q (sX12_mostAlike_p5n (nI w) (nI s) Q m) m2) y := by
    rintro x rfl
    show sX12_mostAlike_p20n (nI w) (nI s) (nI (mxa P N w s i)) (nI i) Q (sX12_mostAlike_p5n (nI w) (nI s) Q m) m2 (nI (alk P N w s i (j + 1))) (nI j + 1) y
    rw [nI_1]
    exact hnext2 (by omega) (nI (alk P N w s i (j + 1)), y) ⟨rfl, rfl⟩
  have hskip : ¬ (w.testBit i = true ∧ w.testBit j = true ∧ cb P N i s = cb P N j s) → alk P N w s i j = alk P N w s i (j + 1) := by
    intro hn
    show _ = (if _ then _ else _)
    first | refine i_neg hn ?_ | rw [if_neg hn]
    try (with_reducible rfl)
  by_cases hb1 : w.testBit i = true
  · refine i_pos (by rw [bit_rd w (by omega) i (by omega)]; exact hb1) ?_
    by_cases hb2 : w.testBit j = true
    · refine i_pos (by rw [bit_rd w (by omega) j (by omega)]; exact hb2) ?_
      have ei : (41 : Int32) * nI i + nI s = nI (41 * i + s) := by
        rw [show (41 : Int32) * nI i = nI (41 * i) from pk_mul 41 i, nI_add]
      have ej : (41 : Int32) * nI j + nI s = nI (41 * j + s) := by
        rw [show (41 : Int32) * nI j = nI (41 * j) from pk_mul 41 j, nI_add]
      rw [ei, ej, nI_clamp (by omega), nI_clamp (by omega), hB i hil s hs, hB j hjl s hs]
      refine ⟨vp_in_nI (by omega) (by omega), vp_in_nI (by omega) (by omega), ?_⟩
      have h0 := pk_pc hP hil
      have hiff : (oI (cb P N i s) = oI (cb P N j s)) ↔ cb P N i s = cb P N j s := by
        constructor
        · intro e
          cases eb : cb P N j s with
          | none =>
            rw [eb] at e
            rw [show oI (none : Option Nat) = -1 from rfl, oI_m1 (fun x hx => by have := cel_lt hP (cb_cel hP h0 (hW i hil) hx); omega)] at e
            exact e
          | some d =>
            have hd := cel_lt hP (cb_cel hP h0 (hW j hjl) eb)
            rw [eb] at e
            rw [show oI (some d) = nI d from rfl, oI_eq (fun x hx => by have := cel_lt hP (cb_cel hP h0 (hW i hil) hx); omega) (by omega)] at e
            exact e
        · intro e
          rw [e]
      by_cases hy : cb P N i s = cb P N j s
      · refine i_pos (hiff.mpr hy) ?_
        rw [nI_1]
        refine hgo _ ?_
        show _ = (if _ then _ else _)
        first | refine i_pos ⟨hb1, hb2, hy⟩ ?_ | rw [if_pos ⟨hb1, hb2, hy⟩]
        try (with_reducible rfl)
      · refine i_neg (fun e => hy (hiff.mp e)) ?_
        exact hgo _ (hskip (fun h => hy h.2.2))
    · refine i_neg (by rw [bit_rd w (by omega) j (by omega)]; exact hb2) ?_
      exact hgo _ (hskip (fun h => hb2 h.2.1))
  · refine i_neg (by rw [bit_rd w (by omega) i (by omega)]; exact hb1) ?_
    exact hgo _ (hskip (fun h => hb1 h.1))
/-- the first of the least -/
def Fst (f : Nat → Nat) (i b : Nat) : Prop := b < i ∧ (∀ j, j < b → f b < f j) ∧ ∀ j, b < j → j < i → f b ≤ f j
theorem fst_u {f : Nat → Nat} {i b b' : Nat} (h : Fst f i b) (h' : Fst f i b') : b = b' := by
  by_cases h1 : b < b'
  · have a1 := h'.2.1 b h1
    have a2 := h.2.2 b' h1 h'.1
    omega
  · by_cases h2 : b' < b
    · have a1 := h.2.1 b' h2
      have a2 := h'.2.2 b h2 h.1
      omega
    · omega
theorem fst_s {f : Nat → Nat} {i b : Nat} (h : Fst f i b) : (f i < f b → Fst f (i + 1) i) ∧ (f b ≤ f i → Fst f (i + 1) b) := by
  constructor
  · intro hl
    refine ⟨by omega, fun j hj => ?_, fun j h1 h2 => absurd h1 (by omega)⟩
    by_cases h1 : j < b
    · have := h.2.1 j h1
      omega
    · by_cases h2 : j = b
      · rw [h2]
        exact hl
      · have := h.2.2 j (by omega) hj
        omega
  · intro hl
    refine ⟨by have := h.1; omega, h.2.1, fun j h1 h2 => ?_⟩
    by_cases h3 : j = i
    · rw [h3]
      exact hl
    · exact h.2.2 j h1 (by omega)
theorem call_tells (v : Int32) : Call (s_X11_tells v) (s_X12_tells v) := by
  rintro u ⟨P, N, hC⟩
  have hC : Ctx u P N := hC
  have hP := ctx_vp hC
  have hpk := hP.2.2.2.2.2.1
  obtain ⟨n, R, C, h1, h2, h3, h4⟩ := hC.1.2.2.2.2.2.2.2.1
  have hS : Seen u P n R C := ⟨h1, h2, h3, h4⟩
  unfold s_X11_tells
  refine q_left hC hS (fun w u2 hw hC2 hS2 => ?_)
  have hbad : ∀ z : St, Ctx z P N → v ≠ 0 → v ≠ 1 → s_X12_tells v (fun r2 u2 => (-1 : Int32) = r2 ∧ Inv u2) z := by
    intro z hz b0 b1
    unfold s_X12_tells
    rw [(ctx_m hz).1.1]
    by_cases h0 : pc P = 0
    · have e1 : (if pc P = 0 then (0 : Int32) else 1) = 0 := if_pos h0
      rw [e1]
      first | refine i_pos rfl ?_ | rw [if_pos rfl]
      try (with_reducible rfl)
      exact ⟨rfl, inv_of hz⟩
    · have e1 : (if pc P = 0 then (0 : Int32) else 1) = 1 := if_neg h0
      rw [e1]
      first | refine i_neg (by first | decide | (unfold vp_in; decide)) ?_ | rw [if_neg (by first | decide | (unfold vp_in; decide))]
      try (with_reducible rfl)
      refine r_two (fun h => absurd h b0) (fun h => absurd h b1) (fun _ _ => ?_)
      first | refine i_pos rfl ?_ | rw [if_pos rfl]
      try (with_reducible rfl)
      exact ⟨rfl, inv_of hz⟩
  by_cases hw0 : w = 0
  · rw [hw0]
    first | refine i_pos (by rfl) ?_ | rw [if_pos (by rfl)]
    try (with_reducible rfl)
    unfold s_X12_tells
    dsimp only
    rw [(ctx_m hC2).1.1]
    by_cases h0 : pc P = 0
    · have e1 : (if pc P = 0 then (0 : Int32) else 1) = 0 := if_pos h0
      rw [e1]
      first | refine i_pos rfl ?_ | rw [if_pos rfl]
      try (with_reducible rfl)
      exact ⟨rfl, inv_of hC2⟩
    · have e1 : (if pc P = 0 then (0 : Int32) else 1) = 1 := if_neg h0
      rw [e1]
      first | refine i_neg (by first | decide | (unfold vp_in; decide)) ?_ | rw [if_neg (by first | decide | (unfold vp_in; decide))]
      try (with_reducible rfl)
      have hgo : s_X12_whoCan (fun r3 u4 => sX12_tells_p32 v r3 (fun r2 u2 => (-1 : Int32) = r2 ∧ Inv u2) (-1) 0 0 u4) u2 := by
        refine r_who hC2 hS2 (fun w' u3 hw' hC3 _ _ => ?_)
        rw [who_u hw' hw, hw0]
        refine ⟨1, ?_⟩
        show sX12_tells_p32b v (nI 0) (fun r2 u2 => (-1 : Int32) = r2 ∧ Inv u2) (sX12_tells_p32n v (nI 0) (fun r2 u2 => (-1 : Int32) = r2 ∧ Inv u2) 0) (-1) 0 0 u3
        unfold sX12_tells_p32b sX12_tells_p80
        first | refine i_neg (by first | decide | (unfold vp_in; decide)) ?_ | rw [if_neg (by first | decide | (unfold vp_in; decide))]
        first | refine i_pos (by rfl) ?_ | rw [if_pos (by rfl)]
        first | refine i_pos rfl ?_ | rw [if_pos rfl]
        try (with_reducible rfl)
        exact ⟨rfl, inv_of hC3⟩
      refine r_two (fun _ => ?_) (fun _ => ?_) (fun _ _ => ?_)
      · first | refine i_neg (by first | decide | (unfold vp_in; decide)) ?_ | rw [if_neg (by first | decide | (unfold vp_in; decide))]
        try (with_reducible rfl)
        exact hgo
      · first | refine i_neg (by first | decide | (unfold vp_in; decide)) ?_ | rw [if_neg (by first | decide | (unfold vp_in; decide))]
        try (with_reducible rfl)
        exact hgo
      · first | refine i_pos rfl ?_ | rw [if_pos rfl]
        try (with_reducible rfl)
        exact ⟨rfl, inv_of hC2⟩
  have hwl := hw.1
  first | refine i_neg (nI_ne0 (by omega) (by omega)) ?_ | rw [if_neg (nI_ne0 (by omega) (by omega))]
  try (with_reducible rfl)
  have h0 : pc P ≠ 0 := by
    intro e
    apply hw0
    have hpk0 : pk P = 0 := (hP.2.2.1 e).2.2.1
    exact bit_ext (p := fun c => c < pk P ∧ Fit P N n R C c) hw.2 (fun f => by rw [hpk0]; simp)
  by_cases hv : v < 0
  · first | refine i_pos hv ?_ | rw [if_pos hv]
    try (with_reducible rfl)
    exact hbad u2 hC2 (fun e => by rw [e] at hv; exact absurd hv (by first | decide | (unfold vp_in; decide))) (fun e => by rw [e] at hv; exact absurd hv (by first | decide | (unfold vp_in; decide)))
  first | refine i_neg hv ?_ | rw [if_neg hv]
  try (with_reducible rfl)
  obtain ⟨x, hx31, rfl⟩ := nI_of hv
  by_cases hx1 : x ≤ 1
  · first | refine i_pos (nI_le (b := 1) hx1 (by omega)) ?_ | rw [if_pos (nI_le (b := 1) hx1 (by omega))]
    try (with_reducible rfl)
    have hf : ∀ s, mxa P N w s (pk P) ≤ 5 := fun s => Nat.le_trans (mxa_le P N w s (pk P)) hpk
    have href : ∀ (b : Nat) (z : St), Fst (fun s => mxa P N w s (pk P)) 41 b → Ctx z P N → Seen z P n R C → s_X12_tells (nI x) (fun r2 u2 => (if x = 0 then nI b else nI (mxa P N w b (pk P))) = r2 ∧ Inv u2) z := by
      intro b z hb hz hSz
      unfold s_X12_tells
      rw [(ctx_m hz).1.1]
      have e1 : (if pc P = 0 then (0 : Int32) else 1) = 1 := if_neg h0
      rw [e1]
      first | refine i_neg (by first | decide | (unfold vp_in; decide)) ?_ | rw [if_neg (by first | decide | (unfold vp_in; decide))]
      try (with_reducible rfl)
      refine r_below (v := nI x) (n := 2) (by omega) (fun _ _ _ => ?_) (fun hn => absurd ⟨x, by omega, rfl⟩ hn)
      first | refine i_neg (by first | decide | (unfold vp_in; decide)) ?_ | rw [if_neg (by first | decide | (unfold vp_in; decide))]
      try (with_reducible rfl)
      refine r_who hz hSz (fun w' u3 hw' hC3 hB3 hW3 => ?_)
      rw [who_u hw' hw]
      unfold sX12_tells_p32
      have key := for_up (fun m i (s : Int32 × Int32 × St) => sX12_tells_p32n (nI x) (nI w) (fun r2 u2 => (if x = 0 then nI b else nI (mxa P N w b (pk P))) = r2 ∧ Inv u2) m s.1 s.2.1 i s.2.2) 41 (fun i s => s.2.2 = u3 ∧ ((i = 0 ∧ s.1 = -1) ∨ ∃ c, s.1 = nI c ∧ s.2.1 = nI (mxa P N w c (pk P)) ∧ Fst (fun s => mxa P N w s (pk P)) i c)) ?_ 0 (-1, 0, u3) (by omega) ⟨rfl, Or.inl ⟨rfl, rfl⟩⟩
      · exact key
      rintro m i ⟨p, q, s⟩ hi ⟨rfl, hor⟩ hnext
      simp only at hor
      show sX12_tells_p32b (nI x) (nI w) (fun r2 u2 => (if x = 0 then nI b else nI (mxa P N w b (pk P))) = r2 ∧ Inv u2) (sX12_tells_p32n (nI x) (nI w) (fun r2 u2 => (if x = 0 then nI b else nI (mxa P N w b (pk P))) = r2 ∧ Inv u2) m) p q (nI i) s
      unfold sX12_tells_p32b
      by_cases h41 : i = 41
      · subst h41
        first | refine i_pos (nI_lt (a := 40) (by omega) (by omega)) ?_ | rw [if_pos (nI_lt (a := 40) (by omega) (by omega))]
        try (with_reducible rfl)
        rcases hor with ⟨a, _⟩ | ⟨c, rfl, rfl, hc⟩
        · omega
        · have hcb := fst_u hb hc
          subst hcb
          have hb41 := hb.1
          unfold sX12_tells_p80
          first | refine i_neg (by rw [x_ne1 (by omega)]; exact id) ?_ | rw [if_neg (by rw [x_ne1 (by omega)]; exact id)]
          try (with_reducible rfl)
          by_cases hx0 : x = 0
          · first | refine i_pos (by rw [hx0]; rfl) ?_ | rw [if_pos (by rw [hx0]; rfl)]
            try (with_reducible rfl)
            exact ⟨if_pos hx0, inv_of hC3⟩
          · first | refine i_neg (nI_ne0 (by omega) (by omega)) ?_ | rw [if_neg (nI_ne0 (by omega) (by omega))]
            try (with_reducible rfl)
            exact ⟨if_neg hx0, inv_of hC3⟩
      first | refine i_neg (nI_nlt (a := 40) (by omega) (by omega)) ?_ | rw [if_neg (nI_nlt (a := 40) (by omega) (by omega))]
      first | refine i_neg (nI_ne0 (by omega) (by omega)) ?_ | rw [if_neg (nI_ne0 (by omega) (by omega))]
      try (with_reducible rfl)
      refine r_most hC3 hB3 hW3 hwl (by omega) ?_
      have hfi := hf i
      have htake : Fst (fun s => mxa P N w s (pk P)) (i + 1) i → sX12_tells_p67 (nI x) (nI w) (nI i) (nI (mxa P N w i (pk P))) (fun r2 u2 => (if x = 0 then nI b else nI (mxa P N w b (pk P))) = r2 ∧ Inv u2) (sX12_tells_p32n (nI x) (nI w) (fun r2 u2 => (if x = 0 then nI b else nI (mxa P N w b (pk P))) = r2 ∧ Inv u2) m) s := by
        intro hfst
        show sX12_tells_p32n (nI x) (nI w) (fun r2 u2 => (if x = 0 then nI b else nI (mxa P N w b (pk P))) = r2 ∧ Inv u2) m (nI i) (nI (mxa P N w i (pk P))) (nI i + 1) s
        rw [nI_1]
        exact hnext (by omega) (nI i, nI (mxa P N w i (pk P)), s) ⟨rfl, Or.inr ⟨i, rfl, rfl, hfst⟩⟩
      rcases hor with ⟨a, e⟩ | ⟨c, rfl, rfl, hc⟩
      · first | refine i_pos e ?_ | rw [if_pos e]
        try (with_reducible rfl)
        exact htake ⟨by omega, fun j hj => absurd hj (by omega), fun j h1 h2 => absurd h1 (by omega)⟩
      · have hci := hc.1
        have hfc := hf c
        have hs := fst_s hc
        first | refine i_neg (by rw [x_ne1 (by omega)]; exact id) ?_ | rw [if_neg (by rw [x_ne1 (by omega)]; exact id)]
        try (with_reducible rfl)
        by_cases hl : mxa P N w i (pk P) < mxa P N w c (pk P)
        · first | refine i_pos (nI_lt hl (by omega)) ?_ | rw [if_pos (nI_lt hl (by omega))]
          try (with_reducible rfl)
          exact htake (hs.1 hl)
        · first | refine i_neg (nI_nlt (by omega) (by omega)) ?_ | rw [if_neg (nI_nlt (by omega) (by omega))]
          try (with_reducible rfl)
          show sX12_tells_p32n (nI x) (nI w) (fun r2 u2 => (if x = 0 then nI b else nI (mxa P N w b (pk P))) = r2 ∧ Inv u2) m (nI c) (nI (mxa P N w c (pk P))) (nI i + 1) s
          rw [nI_1]
          exact hnext (by omega) (nI c, nI (mxa P N w c (pk P)), s) ⟨rfl, Or.inr ⟨c, rfl, rfl, hs.2 (by omega)⟩⟩
    refine q_most (s := 0) hC2 hS2 hwl (by omega) (fun u4 hC4 hS4 => ?_)
    unfold sX11_tells_p33
    have key := for_up (fun m i (s : Int32 × Int32 × St) => sX11_tells_p33n (nI x) (nI w) (fun r u1 => s_X12_tells (nI x) (fun r2 u2 => r = r2 ∧ Inv u2) u1) m s.1 s.2.1 i s.2.2) 41 (fun i s => Ctx s.2.2 P N ∧ Seen s.2.2 P n R C ∧ ∃ c, s.1 = nI c ∧ s.2.1 = nI (mxa P N w c (pk P)) ∧ Fst (fun s => mxa P N w s (pk P)) i c) ?_ 1 (0, nI (mxa P N w 0 (pk P)), u4) (by omega) ⟨hC4, hS4, 0, rfl, rfl, by omega, fun j hj => absurd hj (by omega), fun j h1 h2 => absurd h1 (by omega)⟩
    · exact key
    rintro m i ⟨p, q, s⟩ hi ⟨hCs, hSs, c, rfl, rfl, hc⟩ hnext
    simp only at hCs hSs
    show sX11_tells_p33b (nI x) (nI w) (fun r u1 => s_X12_tells (nI x) (fun r2 u2 => r = r2 ∧ Inv u2) u1) (sX11_tells_p33n (nI x) (nI w) (fun r u1 => s_X12_tells (nI x) (fun r2 u2 => r = r2 ∧ Inv u2) u1) m) (nI c) (nI (mxa P N w c (pk P))) (nI i) s
    unfold sX11_tells_p33b
    by_cases h41 : i = 41
    · subst h41
      first | refine i_pos (nI_lt (a := 40) (by omega) (by omega)) ?_ | rw [if_pos (nI_lt (a := 40) (by omega) (by omega))]
      try (with_reducible rfl)
      have hr := href c s hc hCs hSs
      by_cases hx0 : x = 0
      · first | refine i_pos (by rw [hx0]; rfl) ?_ | rw [if_pos (by rw [hx0]; rfl)]
        try (with_reducible rfl)
        simp only [if_pos hx0] at hr
        exact hr
      · first | refine i_neg (nI_ne0 (by omega) (by omega)) ?_ | rw [if_neg (nI_ne0 (by omega) (by omega))]
        try (with_reducible rfl)
        simp only [if_neg hx0] at hr
        exact hr
    first | refine i_neg (nI_nlt (a := 40) (by omega) (by omega)) ?_ | rw [if_neg (nI_nlt (a := 40) (by omega) (by omega))]
    try (with_reducible rfl)
    refine q_most hCs hSs hwl (by omega) (fun u6 hC6 hS6 => ?_)
    have hfi := hf i
    have hfc := hf c
    have hst := fst_s hc
    by_cases hl : mxa P N w c (pk P) ≤ mxa P N w i (pk P)
    · first | refine i_pos (nI_le hl (by omega)) ?_ | rw [if_pos (nI_le hl (by omega))]
      try (with_reducible rfl)
      show sX11_tells_p33n (nI x) (nI w) (fun r u1 => s_X12_tells (nI x) (fun r2 u2 => r = r2 ∧ Inv u2) u1) m (nI c) (nI (mxa P N w c (pk P))) (nI i + 1) u6
      rw [nI_1]
      exact hnext (by omega) (nI c, nI (mxa P N w c (pk P)), u6) ⟨hC6, hS6, c, rfl, rfl, hst.2 hl⟩
    · first | refine i_neg (nI_ge (by omega) (by omega)) ?_ | rw [if_neg (nI_ge (by omega) (by omega))]
      try (with_reducible rfl)
      show sX11_tells_p33n (nI x) (nI w) (fun r u1 => s_X12_tells (nI x) (fun r2 u2 => r = r2 ∧ Inv u2) u1) m (nI i) (nI (mxa P N w i (pk P))) (nI i + 1) u6
      rw [nI_1]
      exact hnext (by omega) (nI i, nI (mxa P N w i (pk P)), u6) ⟨hC6, hS6, i, rfl, rfl, hst.1 (by omega)⟩
  · first | refine i_neg (nI_ge (a := 1) (by omega) (by omega)) ?_ | rw [if_neg (nI_ge (a := 1) (by omega) (by omega))]
    try (with_reducible rfl)
    exact hbad u2 hC2 (fun e => by rw [show (0 : Int32) = nI 0 from rfl, nI_eq (by omega) (by omega)] at e; omega) (fun e => by rw [show (1 : Int32) = nI 1 from rfl, nI_eq (by omega) (by omega)] at e; omega)
