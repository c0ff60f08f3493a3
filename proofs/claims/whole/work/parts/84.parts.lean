/-! ===== parts ===== -/
/-- how far two rows of cells are alike -/
def Lik (p p' : Nat → Nat) (m m' l : Nat) : Prop := l ≤ m ∧ l ≤ m' ∧ (∀ j, j < l → p j = p' j) ∧ (l = m ∨ l = m' ∨ p l ≠ p' l)
theorem lik_u {p p' : Nat → Nat} {m m' l l' : Nat} (h : Lik p p' m m' l) (h' : Lik p p' m m' l') : l = l' := by
  obtain ⟨a1, a2, a3, a4⟩ := h
  obtain ⟨b1, b2, b3, b4⟩ := h'
  by_cases h1 : l < l'
  · rcases a4 with e | e | e
    · omega
    · omega
    · exact absurd (b3 l h1) e
  · by_cases h2 : l' < l
    · rcases b4 with e | e | e
      · omega
      · omega
      · exact absurd (a3 l' h2) e
    · omega
/-- the first meets the other behind the parting -/
def Mts (p p' : Nat → Nat) (m' l k : Nat) : Prop := ∃ s, stp p' m' (p k) = some s ∧ l ≤ s
def Mt (p p' : Nat → Nat) (m m' l : Nat) : Option Nat → Prop
  | none => ∀ k, l ≤ k → k < m → ¬ Mts p p' m' l k
  | some k => l ≤ k ∧ k < m ∧ Mts p p' m' l k ∧ ∀ j, l ≤ j → j < k → ¬ Mts p p' m' l j
def mtv (v3 : Int32) (p : Nat → Nat) : Option Nat → Int32
  | none => -1
  | some k => if v3 = 1 then nI (p k % 6) else nI (p k / 6)
theorem mt_u {p p' : Nat → Nat} {m m' l : Nat} {r r' : Option Nat} (h : Mt p p' m m' l r) (h' : Mt p p' m m' l r') : r = r' := by
  cases r with
  | none =>
    cases r' with
    | none => rfl
    | some k => exact absurd h'.2.2.1 (h k h'.1 h'.2.1)
  | some k =>
    cases r' with
    | none => exact absurd h.2.2.1 (h' k h.1 h.2.1)
    | some j =>
      by_cases h1 : k < j
      · exact absurd h.2.2.1 (h'.2.2.2 k h.1 h1)
      · by_cases h2 : j < k
        · exact absurd h'.2.2.1 (h.2.2.2 j h'.1 h2)
        · rw [show k = j by omega]
theorem q_part {P : Pl} {a b m m' : Nat} {p p' : Nat → Nat} {Q : Int32 → St → Prop} {u : St} (hP : VP P) (hm : 0 < m ∧ m ≤ 36) (hm' : 0 < m' ∧ m' ≤ 36) (hW : WayM u a P p m) (hW' : WayM u b P p' m') (hc : ∀ i, i < m → cel P (p i)) (hc' : ∀ i, i < m' → cel P (p' i)) (h0 : p 0 = p' 0) (hQ : ∀ l, Lik p p' m m' l → 0 < l → Q (if l = m ∧ l = m' then -1 else nI (l - 1)) u) : s_X10_partingFrom a b Q u := by
  have ea : u.1 a 2 = nI (m - 1) := by
    rw [hW.1]
    exact if_neg (by omega)
  have eb : u.1 b 2 = nI (m' - 1) := by
    rw [hW'.1]
    exact if_neg (by omega)
  have hrun : ∀ t, t = min m m' - 1 → sX10_partingFrom_p14 a b (nI t) Q 0 u := by
    rintro t rfl
    unfold sX10_partingFrom_p14
    refine for_up (fun n i s => sX10_partingFrom_p14n a b (nI (min m m' - 1)) Q n i s) (min m m') (fun i s => s = u ∧ ∀ j, j < i → p j = p' j) ?_ 0 u (by omega) ⟨rfl, fun j hj => absurd hj (by omega)⟩
    rintro n i s hi ⟨rfl, hf⟩ hnext
    show sX10_partingFrom_p14b a b (nI (min m m' - 1)) Q (sX10_partingFrom_p14n a b (nI (min m m' - 1)) Q n) (nI i) s
    unfold sX10_partingFrom_p14b
    by_cases he : i = min m m'
    · first | refine i_pos (nI_lt (by omega) (by omega)) ?_ | rw [if_pos (nI_lt (by omega) (by omega))]
      rw [ea, eb]
      first | rw [ite_c (nI_eq (by omega) (by omega))] | rw [nI_eq (by omega) (by omega)]
      try (with_reducible rfl)
      rw [he] at hf
      have hl := hQ (min m m') ⟨by omega, by omega, hf, by omega⟩ (by omega)
      by_cases hmm : m = m'
      · first | refine i_pos (by omega) ?_ | rw [if_pos (by omega)]
        try (with_reducible rfl)
        rw [if_pos (by omega)] at hl
        exact hl
      · first | refine i_neg (by omega) ?_ | rw [if_neg (by omega)]
        try (with_reducible rfl)
        rw [if_neg (by omega)] at hl
        exact hl
    first | refine i_neg (nI_nlt (by omega) (by omega)) ?_ | rw [if_neg (nI_nlt (by omega) (by omega))]
    rw [nI_clamp (by omega), hW.2.1 i (by omega), hW'.2.1 i (by omega)]
    have k1 := pl_36 hP (hc i (by omega))
    have k2 := pl_36 hP (hc' i (by omega))
    refine ⟨vp_in_nI (by omega) (by omega), vp_in_nI (by omega) (by omega), ?_⟩
    first | rw [ite_c (nI_eq (by omega) (by omega))] | rw [nI_eq (by omega) (by omega)]
    try (with_reducible rfl)
    by_cases hpp : pl P (p i) = pl P (p' i)
    · first | refine i_pos hpp ?_ | rw [if_pos hpp]
      try (with_reducible rfl)
      have e := pl_inj (hc i (by omega)) (hc' i (by omega)) hpp
      show sX10_partingFrom_p14n a b (nI (min m m' - 1)) Q n (nI i + 1) s
      rw [nI_1]
      refine hnext (by omega) s ⟨rfl, fun j hj => ?_⟩
      by_cases ej : j = i
      · rw [ej]
        exact e
      · exact hf j (by omega)
    · first | refine i_neg hpp ?_ | rw [if_neg hpp]
      try (with_reducible rfl)
      have hne : p i ≠ p' i := fun e => hpp (by rw [e])
      have hi0 : i ≠ 0 := fun e => hne (by rw [e]; exact h0)
      have hl := hQ i ⟨by omega, by omega, hf, Or.inr (Or.inr hne)⟩ (by omega)
      rw [if_neg (by omega)] at hl
      rw [show nI i - 1 = nI (i - 1) from pk_sub (b := 1) (by omega)]
      exact hl
  unfold s_X10_partingFrom s_J9_min_7cf53
  rw [ea, eb]
  by_cases hmm : m' - 1 < m - 1
  · first | refine i_pos (nI_lt hmm (by omega)) ?_ | rw [if_pos (nI_lt hmm (by omega))]
    try (with_reducible rfl)
    exact hrun _ (by omega)
  · first | refine i_neg (nI_nlt (by omega) (by omega)) ?_ | rw [if_neg (nI_nlt (by omega) (by omega))]
    try (with_reducible rfl)
    exact hrun _ (by omega)
theorem q_meet {P : Pl} {a b m m' l : Nat} {p p' : Nat → Nat} {Q : Int32 → St → Prop} {u : St} (hP : VP P) (hm : 0 < m ∧ m ≤ 36) (hm' : m' ≤ 36) (hW : WayM u a P p m) (hW' : WayM u b P p' m') (hc : ∀ i, i < m → cel P (p i)) (hl : 0 < l ∧ l ≤ m) (hQ : ∀ r, Mt p p' m m' l r → Q (oI ((r.map p).map (pl P))) u) : s_X10_meetingWith a b (nI (l - 1)) Q u := by
  have ea : u.1 a 2 = nI (m - 1) := by
    rw [hW.1]
    exact if_neg (by omega)
  unfold s_X10_meetingWith sX10_meetingWith_p4
  rw [nI_1, show l - 1 + 1 = l by omega]
  refine for_up (fun n i s => sX10_meetingWith_p4n a b (nI (l - 1)) Q n i s) m (fun i s => s = u ∧ l ≤ i ∧ ∀ j, l ≤ j → j < i → ¬ Mts p p' m' l j) ?_ l u hl.2 ⟨rfl, by omega, fun j h1 h2 => absurd h1 (by omega)⟩
  rintro n i s hi ⟨rfl, hli, hf⟩ hnext
  show sX10_meetingWith_p4b a b (nI (l - 1)) Q (sX10_meetingWith_p4n a b (nI (l - 1)) Q n) (nI i) s
  unfold sX10_meetingWith_p4b
  rw [ea]
  by_cases he : i = m
  · first | refine i_pos (nI_lt (by omega) (by omega)) ?_ | rw [if_pos (nI_lt (by omega) (by omega))]
    try (with_reducible rfl)
    rw [he] at hf
    exact hQ none hf
  first | refine i_neg (nI_nlt (by omega) (by omega)) ?_ | rw [if_neg (nI_nlt (by omega) (by omega))]
  rw [nI_clamp (by omega), hW.2.1 i (by omega)]
  have hci := hc i (by omega)
  have k1 := pl_36 hP hci
  rw [nI_clamp (by omega), hW'.2.2.1 _ hci]
  refine ⟨vp_in_nI (by omega) (by omega), vp_in_nI (by omega) (by omega), ?_⟩
  have hgo : ¬ Mts p p' m' l i → sX10_meetingWith_p4n a b (nI (l - 1)) Q n (nI i + 1) s := by
    intro hn
    rw [nI_1]
    refine hnext (by omega) s ⟨rfl, by omega, fun j h1 h2 => ?_⟩
    by_cases ej : j = i
    · rw [ej]
      exact hn
    · exact hf j h1 (by omega)
  cases e : stp p' m' (p i) with
  | none =>
    first | refine i_pos (by show (-1 : Int32) ≤ nI (l - 1); rw [x_m1le (by omega)]; trivial) ?_ | rw [if_pos (by show (-1 : Int32) ≤ nI (l - 1); rw [x_m1le (by omega)]; trivial)]
    try (with_reducible rfl)
    refine hgo ?_
    rintro ⟨s', h1, _⟩
    rw [e] at h1
    exact absurd h1 (by simp)
  | some s' =>
    have hs := (stp_some e).1
    rw [show oI (some s') = nI s' from rfl]
    by_cases hls : s' ≤ l - 1
    · first | refine i_pos (nI_le hls (by omega)) ?_ | rw [if_pos (nI_le hls (by omega))]
      try (with_reducible rfl)
      refine hgo ?_
      rintro ⟨s'', h1, h2⟩
      rw [e] at h1
      have := Option.some.inj h1
      omega
    · first | refine i_neg (nI_ge (by omega) (by omega)) ?_ | rw [if_neg (nI_ge (by omega) (by omega))]
      try (with_reducible rfl)
      exact hQ (some i) ⟨hli, by omega, ⟨s', e, by omega⟩, hf⟩
theorem w_0 {P : Pl} {N : Nat → Nat} {k : Nat} (h : IsWay P N k (wp P N k) (wm P N k)) (h0 : wm P N k ≠ 0) : wp P N k 0 = ps P := by
  have h3 := h.1 0 (by omega)
  unfold Nx at h3
  rw [if_pos rfl] at h3
  by_cases e : N (2 + 3 * ps P) = 1
  · rw [if_pos e] at h3
    exact absurd h3 (by simp)
  · rw [if_neg e] at h3
    exact Option.some.inj h3
theorem call_parts (v1 v2 v3 : Int32) : Call (s_X11_parts v1 v2 v3) (s_X12_parts v1 v2 v3) := by
  rintro u ⟨P, N, hC⟩
  have hC : Ctx u P N := hC
  have hP := ctx_vp hC
  have hN := ctx_vn hC
  have hpk := hP.2.2.2.2.2.1
  -- where there is nothing to tell
  have hnone : ∀ z : St, Ctx z P N → ((¬ ∃ k, k < pk P ∧ v1 = nI k) ∨ (¬ ∃ k, k < pk P ∧ v2 = nI k) ∨ v1 = v2 ∨ (¬ ∃ x, x < 3 ∧ v3 = nI x) ∨ N (2 + 3 * ps P) = 1) → s_X12_parts v1 v2 v3 (fun r2 u2 => (-1 : Int32) = r2 ∧ Inv u2) z := by
    intro z hz hor
    unfold s_X12_parts
    refine r_isCaller hP (ctx_m hz) (fun k hk e => ?_) (fun _ => ?_)
    · first | refine i_neg (by first | decide | (unfold vp_in; decide)) ?_ | rw [if_neg (by first | decide | (unfold vp_in; decide))]
      try (with_reducible rfl)
      refine r_isCaller hP (ctx_m hz) (fun k2 hk2 e2 => ?_) (fun _ => ?_)
      · first | refine i_neg (by first | decide | (unfold vp_in; decide)) ?_ | rw [if_neg (by first | decide | (unfold vp_in; decide))]
        try (with_reducible rfl)
        by_cases h12 : v1 = v2
        · first | refine i_pos h12 ?_ | rw [if_pos h12]
          try (with_reducible rfl)
          exact ⟨rfl, inv_of hz⟩
        first | refine i_neg h12 ?_ | rw [if_neg h12]
        try (with_reducible rfl)
        refine r_three (fun x hx ex => ?_) (fun _ => ?_)
        · first | refine i_neg (by first | decide | (unfold vp_in; decide)) ?_ | rw [if_neg (by first | decide | (unfold vp_in; decide))]
          try (with_reducible rfl)
          refine r_hasWay hP hN (ctx_m hz) (ctx_n hz) (fun _ hs => ?_) (fun _ => ?_)
          · rcases hor with h | h | h | h | h
            · exact absurd ⟨k, hk, e⟩ h
            · exact absurd ⟨k2, hk2, e2⟩ h
            · exact absurd h h12
            · exact absurd ⟨x, hx, ex⟩ h
            · exact absurd h hs
          · first | refine i_pos rfl ?_ | rw [if_pos rfl]
            try (with_reducible rfl)
            exact ⟨rfl, inv_of hz⟩
        · first | refine i_pos rfl ?_ | rw [if_pos rfl]
          try (with_reducible rfl)
          exact ⟨rfl, inv_of hz⟩
      · first | refine i_pos rfl ?_ | rw [if_pos rfl]
        try (with_reducible rfl)
        exact ⟨rfl, inv_of hz⟩
    · first | refine i_pos rfl ?_ | rw [if_pos rfl]
      try (with_reducible rfl)
      exact ⟨rfl, inv_of hz⟩
  -- the reference, for two ways
  have href : ∀ (z : St) (i j : Nat) (r : Int32), Ctx z P N → i < pk P → j < pk P → i ≠ j → v1 = nI i → v2 = nI j → N (2 + 3 * ps P) ≠ 1 → (∃ x, x < 3 ∧ v3 = nI x) → (∀ l, Lik (wp P N i) (wp P N j) (wm P N i) (wm P N j) l → l = wm P N i ∧ l = wm P N j → r = -1) → (∀ l, Lik (wp P N i) (wp P N j) (wm P N i) (wm P N j) l → ¬ (l = wm P N i ∧ l = wm P N j) → v3 = 0 → r = nI (l - 1)) → (∀ l q, Lik (wp P N i) (wp P N j) (wm P N i) (wm P N j) l → ¬ (l = wm P N i ∧ l = wm P N j) → v3 ≠ 0 → Mt (wp P N i) (wp P N j) (wm P N i) (wm P N j) l q → r = mtv v3 (wp P N i) q) → s_X12_parts v1 v2 v3 (fun r2 u2 => r = r2 ∧ Inv u2) z := by
    intro z i j r hz hi hj hij e1 e2 hs hx3 q1 q2 q3
    have hp0 := pk_pc hP hi
    have hne : v1 ≠ v2 := by
      intro e
      rw [e1, e2, nI_eq (by omega) (by omega)] at e
      exact hij e
    unfold s_X12_parts
    refine r_isCaller hP (ctx_m hz) (fun _ _ _ => ?_) (fun hn => absurd ⟨i, hi, e1⟩ hn)
    first | refine i_neg (by first | decide | (unfold vp_in; decide)) ?_ | rw [if_neg (by first | decide | (unfold vp_in; decide))]
    try (with_reducible rfl)
    refine r_isCaller hP (ctx_m hz) (fun _ _ _ => ?_) (fun hn => absurd ⟨j, hj, e2⟩ hn)
    first | refine i_neg (by first | decide | (unfold vp_in; decide)) ?_ | rw [if_neg (by first | decide | (unfold vp_in; decide))]
    first | refine i_neg hne ?_ | rw [if_neg hne]
    try (with_reducible rfl)
    refine r_three (fun _ _ _ => ?_) (fun hn => absurd hx3 hn)
    first | refine i_neg (by first | decide | (unfold vp_in; decide)) ?_ | rw [if_neg (by first | decide | (unfold vp_in; decide))]
    try (with_reducible rfl)
    refine r_hasWay hP hN (ctx_m hz) (ctx_n hz) (fun _ _ => ?_) (fun h => absurd ⟨hp0, hs⟩ h)
    first | refine i_neg (by first | decide | (unfold vp_in; decide)) ?_ | rw [if_neg (by first | decide | (unfold vp_in; decide))]
    rw [e1]
    refine r_lays hz hi (fun u10 hWi hN10 hC10 _ => ?_)
    have hwi := w_cel hP hp0 hWi
    have hmi : wm P N i ≠ 0 := fun e => hs ((w_zero hWi).mp e)
    rw [hN10.1]
    unfold sX12_parts_p58
    refine for_up (fun n a s => sX12_parts_p58n v2 v3 (nI (wm P N i)) (fun r2 u2 => r = r2 ∧ Inv u2) n a s) (wm P N i) (fun a s => Kp (fun b _ => b ≠ 250) u10 s ∧ ∀ k, k < a → s.1 250 k = nI (wp P N i k)) ?_ 0 u10 (by omega) ⟨kp_r u10, fun k hk => absurd hk (by omega)⟩
    rintro n a s ha ⟨hKs, hcp⟩ hnext
    show sX12_parts_p58b v2 v3 (nI (wm P N i)) (fun r2 u2 => r = r2 ∧ Inv u2) (sX12_parts_p58n v2 v3 (nI (wm P N i)) (fun r2 u2 => r = r2 ∧ Inv u2) n) (nI a) s
    unfold sX12_parts_p58b
    by_cases hae : a = wm P N i
    · first | refine i_pos (by rw [hae]; exact nI_le (Nat.le_refl _) (by omega)) ?_ | rw [if_pos (by rw [hae]; exact nI_le (Nat.le_refl _) (by omega))]
      rw [e2]
      rw [hae] at hcp
      have hCs : Ctx s P N := ctx_SM hC10 (kp_m hKs (fun a k h => by unfold SM at h; omega))
      refine r_lays hCs hj (fun u12 hWj hN12 hC12 hK12 => ?_)
      have hwj := w_cel hP hp0 hWj
      have hmj : wm P N j ≠ 0 := fun e => hs ((w_zero hWj).mp e)
      have hcp2 : ∀ k, k < wm P N i → u12.1 250 k = nI (wp P N i k) := fun k hk => by rw [hK12.1 250 k (by unfold SW; omega)]; exact hcp k hk
      have hI12 := inv_of hC12
      have hci : ∀ k, k < wm P N i → wp P N i k < 36 := fun k hk => cel_lt hP (hwi.2.1 k hk)
      have hcj : ∀ k, k < wm P N j → wp P N j k < 36 := fun k hk => cel_lt hP (hwj.2.1 k hk)
      have h132 : ∀ l, Lik (wp P N i) (wp P N j) (wm P N i) (wm P N j) l → sX12_parts_p132 v3 (nI (wm P N i)) (nI l) (fun r2 u2 => r = r2 ∧ Inv u2) u12 := by
        intro l hl
        have hl1 := hl.1
        have hl2 := hl.2.1
        have h150 : ¬ (l = wm P N i ∧ l = wm P N j) → sX12_parts_p150 v3 (nI (wm P N i)) (nI l) (fun r2 u2 => r = r2 ∧ Inv u2) u12 := by
          intro hnn
          unfold sX12_parts_p150
          by_cases hv0 : v3 = 0
          · first | refine i_pos hv0 ?_ | rw [if_pos hv0]
            try (with_reducible rfl)
            have hlpos : l ≠ 0 := by
              intro e
              rcases hl.2.2.2 with h | h | h
              · omega
              · omega
              · rw [e, w_0 hWi hmi, w_0 hWj hmj] at h
                exact h rfl
            rw [show nI l - 1 = nI (l - 1) from pk_sub (b := 1) (by omega)]
            exact ⟨q2 l hl hnn hv0, hI12⟩
          first | refine i_neg hv0 ?_ | rw [if_neg hv0]
          try (with_reducible rfl)
          unfold sX12_parts_p163
          refine for_up (fun n a s => sX12_parts_p163n v3 (nI (wm P N i)) (nI l) (fun r2 u2 => r = r2 ∧ Inv u2) n a s) (wm P N i) (fun a s => s = u12 ∧ l ≤ a ∧ ∀ k, l ≤ k → k < a → ¬ Mts (wp P N i) (wp P N j) (wm P N j) l k) ?_ l u12 hl1 ⟨rfl, by omega, fun k h1 h2 => absurd h1 (by omega)⟩
          rintro n2 a2 s2 ha2 ⟨rfl, hla, hfa⟩ hnext2
          show sX12_parts_p163b v3 (nI (wm P N i)) (nI l) (fun r2 u2 => r = r2 ∧ Inv u2) (sX12_parts_p163n v3 (nI (wm P N i)) (nI l) (fun r2 u2 => r = r2 ∧ Inv u2) n2) (nI a2) s2
          unfold sX12_parts_p163b
          by_cases hae2 : a2 = wm P N i
          · first | refine i_pos (by rw [hae2]; exact nI_le (Nat.le_refl _) (by omega)) ?_ | rw [if_pos (by rw [hae2]; exact nI_le (Nat.le_refl _) (by omega))]
            try (with_reducible rfl)
            rw [hae2] at hfa
            exact ⟨q3 l none hl hnn hv0 hfa, hI12⟩
          have hk36 := hci a2 (by omega)
          first | refine i_neg (nI_ge (by omega) (by omega)) ?_ | rw [if_neg (nI_ge (by omega) (by omega))]
          rw [nI_clamp (by omega), hcp2 a2 (by omega), nI_clamp (by omega), hN12.2.2 _ hk36]
          refine ⟨vp_in_nI (by omega) (by omega), vp_in_nI (by omega) (by omega), ?_⟩
          have hgo : ¬ Mts (wp P N i) (wp P N j) (wm P N j) l a2 → sX12_parts_p163n v3 (nI (wm P N i)) (nI l) (fun r2 u2 => r = r2 ∧ Inv u2) n2 (nI a2 + 1) s2 := by
            intro hno
            rw [nI_1]
            refine hnext2 (by omega) s2 ⟨rfl, by omega, fun k h1 h2 => ?_⟩
            by_cases ek : k = a2
            · rw [ek]
              exact hno
            · exact hfa k h1 (by omega)
          cases est : stp (wp P N j) (wm P N j) (wp P N i a2) with
          | none =>
            first | refine i_pos (by show (-1 : Int32) < nI l; rw [x_m1lt (by omega)]; trivial) ?_ | rw [if_pos (by show (-1 : Int32) < nI l; rw [x_m1lt (by omega)]; trivial)]
            try (with_reducible rfl)
            refine hgo ?_
            rintro ⟨s', h1, _⟩
            rw [est] at h1
            exact absurd h1 (by simp)
          | some s' =>
            have hs' := (stp_some est).1
            rw [show oI (some s') = nI s' from rfl]
            by_cases hls : s' < l
            · first | refine i_pos (nI_lt hls (by omega)) ?_ | rw [if_pos (nI_lt hls (by omega))]
              try (with_reducible rfl)
              refine hgo ?_
              rintro ⟨s'', h1, h2⟩
              rw [est] at h1
              have := Option.some.inj h1
              omega
            · first | refine i_neg (nI_nlt (by omega) (by omega)) ?_ | rw [if_neg (nI_nlt (by omega) (by omega))]
              try (with_reducible rfl)
              have hq : r = (if v3 = 1 then nI (wp P N i a2 % 6) else nI (wp P N i a2 / 6)) := q3 l (some a2) hl hnn hv0 ⟨hla, by omega, ⟨s', est, by omega⟩, hfa⟩
              by_cases hv1 : v3 = 1
              · first | refine i_pos hv1 ?_ | rw [if_pos hv1]
                try (with_reducible rfl)
                rw [if_pos hv1] at hq
                refine ⟨?_, hI12⟩
                rw [hq, show nI (wp P N i a2) - nI (wp P N i a2) / 6 * 6 = nI (wp P N i a2 % 6) from pk_rem (d := 6) (by omega) (by omega) (by omega)]
              · first | refine i_neg hv1 ?_ | rw [if_neg hv1]
                try (with_reducible rfl)
                rw [if_neg hv1] at hq
                refine ⟨?_, hI12⟩
                rw [hq, show nI (wp P N i a2) / 6 = nI (wp P N i a2 / 6) from pk_div (d := 6) (by omega) (by omega) (by omega)]
        unfold sX12_parts_p132
        rw [hN12.1]
        first | rw [ite_c (nI_eq (by omega) (by omega))] | rw [nI_eq (by omega) (by omega)]
        try (with_reducible rfl)
        by_cases hlm : l = wm P N i
        · first | refine i_pos hlm ?_ | rw [if_pos hlm]
          first | rw [ite_c (nI_eq (by omega) (by omega))] | rw [nI_eq (by omega) (by omega)]
          try (with_reducible rfl)
          by_cases hlm2 : l = wm P N j
          · first | refine i_pos hlm2 ?_ | rw [if_pos hlm2]
            try (with_reducible rfl)
            exact ⟨q1 l hl ⟨hlm, hlm2⟩, hI12⟩
          · first | refine i_neg hlm2 ?_ | rw [if_neg hlm2]
            try (with_reducible rfl)
            exact h150 (fun h => hlm2 h.2)
        · first | refine i_neg hlm ?_ | rw [if_neg hlm]
          try (with_reducible rfl)
          exact h150 (fun h => hlm h.1)
      unfold sX12_parts_p93
      refine for_up (fun n a s => sX12_parts_p93n v3 (nI (wm P N i)) (fun r2 u2 => r = r2 ∧ Inv u2) n a s) (min (wm P N i) (wm P N j)) (fun a s => s = u12 ∧ ∀ k, k < a → wp P N i k = wp P N j k) ?_ 0 u12 (by omega) ⟨rfl, fun k hk => absurd hk (by omega)⟩
      rintro n3 a3 s3 ha3 ⟨rfl, hf3⟩ hnext3
      show sX12_parts_p93b v3 (nI (wm P N i)) (fun r2 u2 => r = r2 ∧ Inv u2) (sX12_parts_p93n v3 (nI (wm P N i)) (fun r2 u2 => r = r2 ∧ Inv u2) n3) (nI a3) s3
      unfold sX12_parts_p93b
      rw [hN12.1]
      by_cases g1 : a3 = wm P N i
      · first | refine i_pos (by rw [g1]; exact nI_le (Nat.le_refl _) (by omega)) ?_ | rw [if_pos (by rw [g1]; exact nI_le (Nat.le_refl _) (by omega))]
        try (with_reducible rfl)
        exact h132 a3 ⟨by omega, by omega, hf3, Or.inl g1⟩
      first | refine i_neg (nI_ge (by omega) (by omega)) ?_ | rw [if_neg (nI_ge (by omega) (by omega))]
      try (with_reducible rfl)
      by_cases g2 : a3 = wm P N j
      · first | refine i_pos (by rw [g2]; exact nI_le (Nat.le_refl _) (by omega)) ?_ | rw [if_pos (by rw [g2]; exact nI_le (Nat.le_refl _) (by omega))]
        try (with_reducible rfl)
        exact h132 a3 ⟨by omega, by omega, hf3, Or.inr (Or.inl g2)⟩
      have k1 := hci a3 (by omega)
      have k2 := hcj a3 (by omega)
      first | refine i_neg (nI_ge (by omega) (by omega)) ?_ | rw [if_neg (nI_ge (by omega) (by omega))]
      rw [nI_clamp (by omega), hcp2 a3 (by omega), hN12.2.1 a3 (by omega)]
      refine ⟨vp_in_nI (by omega) (by omega), vp_in_nI (by omega) (by omega), ?_⟩
      first | rw [ite_c (nI_eq (by omega) (by omega))] | rw [nI_eq (by omega) (by omega)]
      try (with_reducible rfl)
      by_cases hpp : wp P N i a3 = wp P N j a3
      · first | refine i_pos hpp ?_ | rw [if_pos hpp]
        try (with_reducible rfl)
        show sX12_parts_p93n v3 (nI (wm P N i)) (fun r2 u2 => r = r2 ∧ Inv u2) n3 (nI a3 + 1) s3
        rw [nI_1]
        refine hnext3 (by omega) s3 ⟨rfl, fun k hk => ?_⟩
        by_cases ek : k = a3
        · rw [ek]
          exact hpp
        · exact hf3 k (by omega)
      · first | refine i_neg hpp ?_ | rw [if_neg hpp]
        try (with_reducible rfl)
        exact h132 a3 ⟨by omega, by omega, hf3, Or.inr (Or.inr hpp)⟩
    · first | refine i_neg (nI_ge (by omega) (by omega)) ?_ | rw [if_neg (nI_ge (by omega) (by omega))]
      rw [nI_clamp (by omega), hKs.1 242 a (by omega), hN10.2.1 a (by omega)]
      refine ⟨vp_in_nI (by omega) (by omega), vp_in_nI (by omega) (by omega), ?_⟩
      simp only [bnd]
      rw [nI_1]
      refine hnext (by omega) _ ⟨kp_I hKs (by omega), fun k hk => ?_⟩
      by_cases ek : k = a
      · rw [ek, t_s]
      · rw [t_n _ _ (by omega)]
        exact hcp k (by omega)
  -- the class
  unfold s_X11_parts
  refine q_wayOf hC (fun i u2 hi e1 hC2 hW2 hK2 => ?_) (fun hn => ?_)
  · refine q_wayOf hC2 (fun j u4 hj e2 hC4 hW4 hK4 => ?_) (fun hn => ?_)
    · by_cases h12 : v1 = v2
      · first | refine i_pos h12 ?_ | rw [if_pos h12]
        try (with_reducible rfl)
        exact hnone u4 hC4 (Or.inr (Or.inr (Or.inl h12)))
      first | refine i_neg h12 ?_ | rw [if_neg h12]
      try (with_reducible rfl)
      have hij : i ≠ j := fun e => h12 (by rw [e1, e2, e])
      have ht2 := ctx_t hC2
      have hWi : WayM u4 (178 + 4 * i) P (wp P N i) (wm P N i) := way_K hW2.2 hK4 (fun y j a b => by omega)
      have hp0 := pk_pc hP hi
      have hwi := w_cel hP hp0 hW2.1
      have hwj := w_cel hP hp0 hW4.1
      by_cases hs : N (2 + 3 * ps P) = 1
      · have e2' : u4.1 (178 + 4 * i) 2 = -1 := by
          rw [hWi.1]
          exact if_pos ((w_zero hW2.1).mpr hs)
        rw [e2']
        first | refine i_pos rfl ?_ | rw [if_pos rfl]
        try (with_reducible rfl)
        exact hnone u4 hC4 (Or.inr (Or.inr (Or.inr (Or.inr hs))))
      have hmi : wm P N i ≠ 0 := fun e => hs ((w_zero hW2.1).mp e)
      have hmj : wm P N j ≠ 0 := fun e => hs ((w_zero hW4.1).mp e)
      have ei : u4.1 (178 + 4 * i) 2 = nI (wm P N i - 1) := by
        rw [hWi.1]
        exact if_neg hmi
      have ej : u4.1 (178 + 4 * j) 2 = nI (wm P N j - 1) := by
        rw [hW4.2.1]
        exact if_neg hmj
      rw [ei, ej]
      first | refine i_neg (by rw [x_ne1 (by omega)]; exact id) ?_ | rw [if_neg (by rw [x_ne1 (by omega)]; exact id)]
      first | refine i_neg (by rw [x_ne1 (by omega)]; exact id) ?_ | rw [if_neg (by rw [x_ne1 (by omega)]; exact id)]
      try (with_reducible rfl)
      refine q_part hP ⟨by omega, hwi.1⟩ ⟨by omega, hwj.1⟩ hWi hW4.2 hwi.2.1 hwj.2.1 (by rw [w_0 hW2.1 hmi, w_0 hW4.1 hmj]) (fun l hl hl0 => ?_)
      have hl1 := hl.1
      have hq1 : ∀ (r : Int32) (l' : Nat), Lik (wp P N i) (wp P N j) (wm P N i) (wm P N j) l' → l' = l := fun r l' h => lik_u h hl
      by_cases hx3 : ∃ x, x < 3 ∧ v3 = nI x
      · by_cases hv0 : v3 = 0
        · first | refine i_pos hv0 ?_ | rw [if_pos hv0]
          try (with_reducible rfl)
          refine href u4 i j _ hC4 hi hj hij e1 e2 hs hx3 (fun l' h' hh => ?_) (fun l' h' hh _ => ?_) (fun l' q h' hh hv => absurd hv0 hv)
          · rw [← lik_u h' hl]
            exact if_pos hh
          · rw [← lik_u h' hl]
            exact if_neg hh
        first | refine i_neg hv0 ?_ | rw [if_neg hv0]
        try (with_reducible rfl)
        by_cases hall : l = wm P N i ∧ l = wm P N j
        · have e3 : (if l = wm P N i ∧ l = wm P N j then (-1 : Int32) else nI (l - 1)) = -1 := if_pos hall
          rw [e3]
          first | refine i_pos rfl ?_ | rw [if_pos rfl]
          try (with_reducible rfl)
          refine href u4 i j _ hC4 hi hj hij e1 e2 hs hx3 (fun l' h' hh => rfl) (fun l' h' hh _ => absurd hall (by rw [← lik_u h' hl]; exact hh)) (fun l' q h' hh _ _ => absurd hall (by rw [← lik_u h' hl]; exact hh))
        · have e3 : (if l = wm P N i ∧ l = wm P N j then (-1 : Int32) else nI (l - 1)) = nI (l - 1) := if_neg hall
          rw [e3]
          first | refine i_neg (by rw [x_ne1 (by omega)]; exact id) ?_ | rw [if_neg (by rw [x_ne1 (by omega)]; exact id)]
          try (with_reducible rfl)
          refine q_meet hP ⟨by omega, hwi.1⟩ hwj.1 hWi hW4.2 hwi.2.1 ⟨hl0, hl1⟩ (fun q hq => ?_)
          obtain ⟨x, hx, ex⟩ := hx3
          have hx0 : x ≠ 0 := fun e => hv0 (by rw [ex, e]; rfl)
          have em : v3 - 1 = nI (x - 1) := by
            rw [ex]
            exact pk_sub (b := 1) (by omega)
          have hfin : ∀ r : Int32, r = mtv v3 (wp P N i) q → s_X12_parts v1 v2 v3 (fun r2 u2 => r = r2 ∧ Inv u2) u4 := by
            intro r hr
            refine href u4 i j r hC4 hi hj hij e1 e2 hs ⟨x, hx, ex⟩ (fun l' h' hh => absurd (by rw [← lik_u h' hl]; exact hh) hall) (fun l' h' hh hv => absurd hv hv0) (fun l' q' h' hh _ hq' => ?_)
            rw [lik_u h' hl] at hq'
            rw [mt_u hq' hq]
            exact hr
          rw [em]
          refine q_placePart hP (ctx_c hC4) (fun c hc => ?_) (fun hno => ?_) (fun c hc e0 => ?_) (fun c hc e1' => ?_) (fun a b => ?_)
          · cases q with
            | none => exact absurd hc (by simp)
            | some k =>
              rw [← Option.some.inj hc]
              exact hwi.2.1 k hq.2.1
          · cases q with
            | none => exact hfin _ rfl
            | some k => exact absurd hno (by simp)
          · cases q with
            | none => exact absurd hc (by simp)
            | some k =>
              refine hfin _ ?_
              rw [show (0 : Int32) = nI 0 from rfl, nI_eq (by omega) (by omega)] at e0
              show _ = (if v3 = 1 then nI (wp P N i k % 6) else nI (wp P N i k / 6))
              first | refine i_pos (by rw [ex, show x = 1 by omega]; rfl) ?_ | rw [if_pos (by rw [ex, show x = 1 by omega]; rfl)]
              rw [← Option.some.inj hc]
          · cases q with
            | none => exact absurd hc (by simp)
            | some k =>
              refine hfin _ ?_
              rw [show (1 : Int32) = nI 1 from rfl, nI_eq (by omega) (by omega)] at e1'
              show _ = (if v3 = 1 then nI (wp P N i k % 6) else nI (wp P N i k / 6))
              first | refine i_neg (by rw [ex]; exact x_ne (k := 1) (by omega) (by omega) (by omega)) ?_ | rw [if_neg (by rw [ex]; exact x_ne (k := 1) (by omega) (by omega) (by omega))]
              rw [← Option.some.inj hc]
          · have : x = 1 ∨ x = 2 := by omega
            rcases this with rfl | rfl
            · exact absurd rfl a
            · exact absurd rfl b
      · have hbad := hnone u4 hC4 (Or.inr (Or.inr (Or.inr (Or.inl hx3))))
        have hv0 : v3 ≠ 0 := fun e => hx3 ⟨0, by omega, e⟩
        have hv1 : v3 ≠ 1 := fun e => hx3 ⟨1, by omega, e⟩
        have hv2 : v3 ≠ 2 := fun e => hx3 ⟨2, by omega, e⟩
        first | refine i_neg hv0 ?_ | rw [if_neg hv0]
        try (with_reducible rfl)
        by_cases hall : l = wm P N i ∧ l = wm P N j
        · have e3 : (if l = wm P N i ∧ l = wm P N j then (-1 : Int32) else nI (l - 1)) = -1 := if_pos hall
          rw [e3]
          first | refine i_pos rfl ?_ | rw [if_pos rfl]
          try (with_reducible rfl)
          exact hbad
        · have e3 : (if l = wm P N i ∧ l = wm P N j then (-1 : Int32) else nI (l - 1)) = nI (l - 1) := if_neg hall
          rw [e3]
          first | refine i_neg (by rw [x_ne1 (by omega)]; exact id) ?_ | rw [if_neg (by rw [x_ne1 (by omega)]; exact id)]
          try (with_reducible rfl)
          refine q_meet hP ⟨by omega, hwi.1⟩ hwj.1 hWi hW4.2 hwi.2.1 ⟨hl0, hl1⟩ (fun q hq => ?_)
          have n0 : v3 - 1 ≠ 0 := by
            intro e
            apply hv1
            have : v3 = 0 + 1 := by
              have h := Int32.sub_add_cancel v3 1
              rw [e] at h
              exact h.symm
            rw [this]
            rfl
          have n1 : v3 - 1 ≠ 1 := by
            intro e
            apply hv2
            have : v3 = 1 + 1 := by
              have h := Int32.sub_add_cancel v3 1
              rw [e] at h
              exact h.symm
            rw [this]
            rfl
          refine q_placePart hP (ctx_c hC4) (fun c hc => ?_) (fun _ => hbad) (fun c hc e0 => absurd e0 n0) (fun c hc e1' => absurd e1' n1) (fun _ _ => hbad)
          cases q with
          | none => exact absurd hc (by simp)
          | some k =>
            rw [← Option.some.inj hc]
            exact hwi.2.1 k hq.2.1
    · have hbad := hnone u2 hC2 (Or.inr (Or.inl hn))
      by_cases h12 : v1 = v2
      · first | refine i_pos h12 ?_ | rw [if_pos h12]
        try (with_reducible rfl)
        exact hbad
      first | refine i_neg h12 ?_ | rw [if_neg h12]
      rw [(ctx_no hC2).1]
      by_cases hx : u2.1 (178 + 4 * i) 2 = -1
      · first | refine i_pos hx ?_ | rw [if_pos hx]
        try (with_reducible rfl)
        exact hbad
      · first | refine i_neg hx ?_ | rw [if_neg hx]
        first | refine i_pos rfl ?_ | rw [if_pos rfl]
        try (with_reducible rfl)
        exact hbad
  · refine q_wayOf hC (fun j u4 hj e2 hC4 hW4 hK4 => ?_) (fun hn2 => ?_)
    · have hbad := hnone u4 hC4 (Or.inl hn)
      by_cases h12 : v1 = v2
      · first | refine i_pos h12 ?_ | rw [if_pos h12]
        try (with_reducible rfl)
        exact hbad
      first | refine i_neg h12 ?_ | rw [if_neg h12]
      rw [(ctx_no hC4).1]
      first | refine i_pos rfl ?_ | rw [if_pos rfl]
      try (with_reducible rfl)
      exact hbad
    · have hbad := hnone u hC (Or.inl hn)
      by_cases h12 : v1 = v2
      · first | refine i_pos h12 ?_ | rw [if_pos h12]
        try (with_reducible rfl)
        exact hbad
      first | refine i_neg h12 ?_ | rw [if_neg h12]
      rw [(ctx_no hC).1]
      first | refine i_pos rfl ?_ | rw [if_pos rfl]
      try (with_reducible rfl)
      exact hbad
