/-! ===== letter ===== -/
theorem nmC_lt {l : Nat → Nat} (h : ∀ k, l k ≤ 26) : nmC l < 1073741824 := by
  have h0 := h 0
  have h1 := h 1
  have h2 := h 2
  have h3 := h 3
  have h4 := h 4
  have h5 := h 5
  unfold nmC
  omega
theorem nmC_k {l : Nat → Nat} (h : ∀ k, l k ≤ 26) {k : Nat} (hk : k < 6) : nmC l / 2 ^ (5 * k) % 2 ^ 5 = l k := by
  have h0 := h 0
  have h1 := h 1
  have h2 := h 2
  have h3 := h 3
  have h4 := h 4
  have h5 := h 5
  unfold nmC
  have : k = 0 ∨ k = 1 ∨ k = 2 ∨ k = 3 ∨ k = 4 ∨ k = 5 := by omega
  rcases this with rfl | rfl | rfl | rfl | rfl | rfl
  · show _ / 1 % 32 = _
    omega
  · show _ / 32 % 32 = _
    omega
  · show _ / 1024 % 32 = _
    omega
  · show _ / 32768 % 32 = _
    omega
  · show _ / 1048576 % 32 = _
    omega
  · show _ / 33554432 % 32 = _
    omega
theorem x_sm : ∀ n, n < 32 → ((nI n &&& 31).toBitVec.smod 32).toNat = n := by first | decide | (unfold vp_in; decide)
theorem q_letterOf {l : Nat → Nat} {k : Nat} {Q : Int32 → St → Prop} {u : St} (h : ∀ k, l k ≤ 26) (hk : k < 6) (hQ : Q (nI (l k)) u) : s_X9_letterOf (nI (nmC l)) (nI k) Q u := by
  have hl := nmC_lt h
  unfold s_X9_letterOf
  rw [show (5 : Int32) * nI k = nI (5 * k) from pk_mul 5 k, pk_shrN (by omega) _ (5 * k) (x_sm _ (by omega))]
  have h2 : nmC l / 2 ^ (5 * k) ≤ nmC l := Nat.div_le_self _ _
  rw [pk_andN (by omega) 5 (by first | decide | (unfold vp_in; decide)), nmC_k h hk]
  exact hQ
theorem nmL_lt {l : Nat → Nat} (h : ∀ k, l k ≤ 26) : ∀ n, nmL l n < 27 ^ n
  | 0 => by
    unfold nmL
    omega
  | n + 1 => by
    have ih := nmL_lt h n
    have h1 := h n
    have h2 : 27 ^ (n + 1) = 27 ^ n * 27 := Nat.pow_succ 27 n
    unfold nmL
    omega
theorem nmL_pos {l : Nat → Nat} (h0 : 1 ≤ l 0) : ∀ n, 0 < n → 0 < nmL l n
  | 0, h => absurd h (by omega)
  | n + 1, _ => by
    unfold nmL
    by_cases hn : n = 0
    · subst hn
      omega
    · have := nmL_pos h0 n (by omega)
      omega
theorem nmL_dm {l : Nat → Nat} (h : ∀ k, l k ≤ 26) (n : Nat) : nmL l (n + 1) / 27 = nmL l n ∧ nmL l (n + 1) % 27 = l n := by
  have h1 := h n
  show (27 * nmL l n + l n) / 27 = _ ∧ (27 * nmL l n + l n) % 27 = _
  omega
theorem nmK_ok {l : Nat → Nat} (h : NmV l) : 1 ≤ nmK l 6 ∧ nmK l 6 ≤ 6 ∧ ∀ k, k < 6 → (k < nmK l 6 ↔ l k ≠ 0) := by
  obtain ⟨a, b, c, d⟩ := h
  have c0 : l 0 = 0 → l 1 = 0 := c 0
  have c1 : l 1 = 0 → l 2 = 0 := c 1
  have c2 : l 2 = 0 → l 3 = 0 := c 2
  have c3 : l 3 = 0 → l 4 = 0 := c 3
  have c4 : l 4 = 0 → l 5 = 0 := c 4
  have e : ∀ n, nmK l (n + 1) = if l n = 0 then nmK l n else n + 1 := fun n => rfl
  have e0 : nmK l 0 = 0 := rfl
  have e6 : nmK l 6 = (if l 5 = 0 then (if l 4 = 0 then (if l 3 = 0 then (if l 2 = 0 then (if l 1 = 0 then (if l 0 = 0 then 0 else 1) else 2) else 3) else 4) else 5) else 6) := by
    rw [e 5, e 4, e 3, e 2, e 1, e 0, e0]
  have key : ∀ k, k < 6 → (k < nmK l 6 ↔ l k ≠ 0) := by
    intro k hk
    rw [e6]
    have hk6 : k = 0 ∨ k = 1 ∨ k = 2 ∨ k = 3 ∨ k = 4 ∨ k = 5 := by omega
    by_cases g5 : l 5 = 0
    · first | refine i_pos g5 ?_ | rw [if_pos g5]
      try (with_reducible rfl)
      by_cases g4 : l 4 = 0
      · first | refine i_pos g4 ?_ | rw [if_pos g4]
        try (with_reducible rfl)
        by_cases g3 : l 3 = 0
        · first | refine i_pos g3 ?_ | rw [if_pos g3]
          try (with_reducible rfl)
          by_cases g2 : l 2 = 0
          · first | refine i_pos g2 ?_ | rw [if_pos g2]
            try (with_reducible rfl)
            by_cases g1 : l 1 = 0
            · first | refine i_pos g1 ?_ | rw [if_pos g1]
              first | refine i_neg (by omega) ?_ | rw [if_neg (by omega)]
              try (with_reducible rfl)
              rcases hk6 with rfl | rfl | rfl | rfl | rfl | rfl <;> omega
            · first | refine i_neg g1 ?_ | rw [if_neg g1]
              try (with_reducible rfl)
              rcases hk6 with rfl | rfl | rfl | rfl | rfl | rfl <;> omega
          · first | refine i_neg g2 ?_ | rw [if_neg g2]
            try (with_reducible rfl)
            rcases hk6 with rfl | rfl | rfl | rfl | rfl | rfl <;> omega
        · first | refine i_neg g3 ?_ | rw [if_neg g3]
          try (with_reducible rfl)
          rcases hk6 with rfl | rfl | rfl | rfl | rfl | rfl <;> omega
      · first | refine i_neg g4 ?_ | rw [if_neg g4]
        try (with_reducible rfl)
        rcases hk6 with rfl | rfl | rfl | rfl | rfl | rfl <;> omega
    · first | refine i_neg g5 ?_ | rw [if_neg g5]
      try (with_reducible rfl)
      rcases hk6 with rfl | rfl | rfl | rfl | rfl | rfl <;> omega
  refine ⟨?_, ?_, key⟩
  · have := (key 0 (by omega)).mpr (by omega)
    omega
  · rw [e6]
    repeat' split
    all_goals omega
theorem r_letters {l : Nat → Nat} {k : Nat} {Q : Int32 → St → Prop} {u : St} (h : NmV l) (hk : k < 6) (hQ : Q (nI (l k)) u) : sX12_letter_p67 (nI k) (lN (nmL l (nmK l 6))) Q 0 (lN (nmL l (nmK l 6))) u := by
  obtain ⟨n1, n6, hkey⟩ := nmK_ok h
  have hb : ∀ j, j ≤ 6 → nmL l j < 387420489 := by
    intro j hj
    have h1 := nmL_lt h.1 j
    have h2 : 27 ^ j ≤ 27 ^ 6 := Nat.pow_le_pow_right (by omega) hj
    have h3 : 27 ^ 6 = 387420489 := by first | decide | (unfold vp_in; decide)
    omega
  generalize nmK l 6 = n at n1 n6 hkey
  have hdown : k < n → sX12_letter_p102 (nI k) Q (lN (nmL l n)) (nI (n - 1)) u := by
    intro hkn
    unfold sX12_letter_p102
    refine lp3 (fun m (a : Int64) (b : Int32) (c : St) => sX12_letter_p102n (nI k) Q m a b c) (fun a b c => ∃ q, k ≤ q ∧ q < n ∧ b = nI q ∧ a = lN (nmL l (q + 1)) ∧ c = u) (fun _ b _ => b.toNatClampNeg) ?_ (lN (nmL l n)) (nI (n - 1)) u ⟨n - 1, by omega, by omega, rfl, by rw [show n - 1 + 1 = n by omega], rfl⟩
    rintro m a b c ⟨q, q1, q2, rfl, rfl, rfl⟩ hnext
    show sX12_letter_p102b (nI k) Q (sX12_letter_p102n (nI k) Q m) (lN (nmL l (q + 1))) (nI q) c
    unfold sX12_letter_p102b
    have hdm := nmL_dm h.1 q
    have hbq := hb (q + 1) (by omega)
    by_cases hq : q = k
    · first | refine i_pos (by rw [hq]; exact nI_le (Nat.le_refl _) (by omega)) ?_ | rw [if_pos (by rw [hq]; exact nI_le (Nat.le_refl _) (by omega))]
      try (with_reducible rfl)
      rw [show lN (nmL l (q + 1)) - lN (nmL l (q + 1)) / 27 * 27 = lN (nmL l (q + 1) % 27) from pk_lRem (b := 27) (by omega) (by omega) (by omega), hdm.2, lN_i, hq]
      exact hQ
    · first | refine i_neg (nI_ge (by omega) (by omega)) ?_ | rw [if_neg (nI_ge (by omega) (by omega))]
      rw [show lN (nmL l (q + 1)) / 27 = lN (nmL l (q + 1) / 27) from pk_lDiv (b := 27) (by omega) (by omega) (by omega), hdm.1, sb_m1 (by omega)]
      refine hnext _ _ _ ⟨q - 1, by omega, by omega, rfl, by rw [show q - 1 + 1 = q by omega], rfl⟩ ?_
      rw [nI_clamp (by omega), nI_clamp (by omega)]
      omega
  unfold sX12_letter_p67
  have key := for_up (fun m i (s : Int64 × St) => sX12_letter_p67n (nI k) (lN (nmL l n)) Q m i s.1 s.2) n (fun i s => s.1 = lN (nmL l (n - i)) ∧ s.2 = u) ?_ 0 (lN (nmL l n), u) (by omega) ⟨rfl, rfl⟩
  · exact key
  rintro m i ⟨z, s⟩ hi ⟨rfl, rfl⟩ hnext
  show sX12_letter_p67b (nI k) (lN (nmL l n)) Q (sX12_letter_p67n (nI k) (lN (nmL l n)) Q m) (nI i) (lN (nmL l (n - i))) s
  unfold sX12_letter_p67b
  have hbi := hb (n - i) (by omega)
  have hc : (lg_cmp (lN (nmL l (n - i))) 0 ≤ 0) ↔ nmL l (n - i) = 0 := by
    simp only [lg_cmp_le]
    rw [lN_lI (by omega), l_0]
    have := lI_le (a := (nmL l (n - i) : Int)) (b := 0) (by omega) (by omega) (by omega) (by omega)
    rw [this]
    omega
  by_cases hin : i = n
  · have hz : nmL l (n - i) = 0 := by
      rw [hin, Nat.sub_self]
      rfl
    refine i_pos (hc.mpr hz) ?_
    rw [hin]
    by_cases hkn : k < n
    · first | refine i_pos (nI_lt hkn (by omega)) ?_ | rw [if_pos (nI_lt hkn (by omega))]
      rw [show nI n - 1 = nI (n - 1) from pk_sub (b := 1) (by omega)]
      exact hdown hkn
    · first | refine i_neg (nI_nlt (by omega) (by omega)) ?_ | rw [if_neg (nI_nlt (by omega) (by omega))]
      try (with_reducible rfl)
      have : l k = 0 := by
        by_cases e : l k = 0
        · exact e
        · exact absurd ((hkey k hk).mpr e) hkn
      rw [this] at hQ
      exact hQ
  · have hp := nmL_pos h.2.1 (n - i) (by omega)
    refine i_neg (fun e => by have := hc.mp e; omega) ?_
    have hdm := (nmL_dm h.1 (n - i - 1)).1
    rw [show n - i - 1 + 1 = n - i by omega] at hdm
    rw [show lN (nmL l (n - i)) / 27 = lN (nmL l (n - i) / 27) from pk_lDiv (b := 27) (by omega) (by omega) (by omega), hdm, nI_1]
    exact hnext (by omega) (lN (nmL l (n - i - 1)), s) ⟨by rw [show n - (i + 1) = n - i - 1 by omega], rfl⟩
theorem call_letter (v1 v2 v3 : Int32) : Call (s_X11_letter v1 v2 v3) (s_X12_letter v1 v2 v3) := by
  rintro u ⟨P, N, hC⟩
  have hC : Ctx u P N := hC
  have hP := ctx_vp hC
  have hT := ctx_c hC
  have hM := ctx_m hC
  have hI := inv_of hC
  have hpf := hP.2.2.2.2.1
  have hpk := hP.2.2.2.2.2.1
  have href : ∀ r : Int32, (∀ f k, f < pf P → k < 6 → v1 = 0 → v2 = nI f → v3 = nI k → r = nI (fnm P f k)) → (∀ c k, c < pk P → k < 6 → v1 = 1 → v2 = nI c → v3 = nI k → r = nI (cnm P c k)) → ((¬ ∃ k, k < 6 ∧ v3 = nI k) → r = -1) → (v1 ≠ 0 → v1 ≠ 1 → r = -1) → (v1 = 0 → (¬ ∃ f, f < pf P ∧ v2 = nI f) → r = -1) → (v1 = 1 → (¬ ∃ c, c < pk P ∧ v2 = nI c) → r = -1) → s_X12_letter v1 v2 v3 (fun r2 u2 => r = r2 ∧ Inv u2) u := by
    intro r q1 q2 q3 q4 q5 q6
    unfold s_X12_letter
    have two : ∀ (w m : Nat) (nm : Nat → Nat → Nat), w < 2 → v1 = nI w → u.1 232 (2 + w) = nI m → m < 100 → m ≤ 8 → (∀ f, f < m → NmV (nm f) ∧ u.2.1 233 (16 + 8 * w + f) = lN (nmL (nm f) (nmK (nm f) 6))) → (∀ f k, f < m → k < 6 → v2 = nI f → v3 = nI k → r = nI (nm f k)) → ((¬ ∃ f, f < m ∧ v2 = nI f) → r = -1) → (fun r1 u2 => if r1 = (0 : Int32) then r = -1 ∧ Inv u2 else vp_in (2 + v1) 4 ∧ s_X12_isIn v2.toInt64 0 (u2.1 232 ((2 : Int32) + v1).toNatClampNeg - 1).toInt64 (fun r5 u6 => if r5 = 0 then r = -1 ∧ Inv u6 else s_X12_isIn v3.toInt64 0 5 (fun r7 u8 => if r7 = 0 then r = -1 ∧ Inv u8 else vp_in (16 + 8 * v1 + v2) 32 ∧ sX12_letter_p67 v3 (u8.2.1 233 (16 + 8 * v1 + v2).toNatClampNeg) (fun r2 u2 => r = r2 ∧ Inv u2) 0 (u8.2.1 233 (16 + 8 * v1 + v2).toNatClampNeg) u8) u6) u2) 1 u := by
      intro w m nm hw e1 e2 hm hm8 hnm k1 k2
      have ew : (2 : Int32) + v1 = nI (2 + w) := by
        rw [e1]
        exact nI_add 2 w
      show (if (1 : Int32) = 0 then _ else _)
      first | refine i_neg (by first | decide | (unfold vp_in; decide)) ?_ | rw [if_neg (by first | decide | (unfold vp_in; decide))]
      rw [ew, nI_clamp (by omega), e2]
      refine ⟨vp_in_nI (by omega) (by omega), ?_⟩
      refine r_below (by omega) (fun f hf ef => ?_) (fun hn => ?_)
      · first | refine i_neg (by first | decide | (unfold vp_in; decide)) ?_ | rw [if_neg (by first | decide | (unfold vp_in; decide))]
        try (with_reducible rfl)
        refine r_below (v := v3) (n := 6) (by omega) (fun k hk ek => ?_) (fun hn => ?_)
        · first | refine i_neg (by first | decide | (unfold vp_in; decide)) ?_ | rw [if_neg (by first | decide | (unfold vp_in; decide))]
          try (with_reducible rfl)
          have e3 : (16 : Int32) + 8 * v1 + v2 = nI (16 + 8 * w + f) := by
            rw [e1, ef, show (8 : Int32) * nI w = nI (8 * w) from pk_mul 8 w, show (16 : Int32) + nI (8 * w) = nI (16 + 8 * w) from nI_add 16 _, nI_add]
          rw [e3, nI_clamp (by omega), (hnm f hf).2, ek]
          exact ⟨vp_in_nI (by omega) (by omega), r_letters (hnm f hf).1 hk ⟨k1 f k hf hk ef ek, hI⟩⟩
        · first | refine i_pos rfl ?_ | rw [if_pos rfl]
          try (with_reducible rfl)
          exact ⟨q3 hn, hI⟩
      · first | refine i_pos rfl ?_ | rw [if_pos rfl]
        try (with_reducible rfl)
        exact ⟨k2 hn, hI⟩
    refine r_two (fun e => ?_) (fun e => ?_) (fun a b => ?_)
    · exact two 0 (pf P) (fnm P) (by omega) e hM.1.2.2.2.2.1 (by omega) (by omega) (fun f hf => ⟨hP.2.2.2.2.2.2.2.2.2.1 f hf, (hM.2.1 f hf).2.2⟩) (fun f k hf hk e2 e3 => q1 f k hf hk e e2 e3) (fun hn => q5 e hn)
    · exact two 1 (pk P) (cnm P) (by omega) e hM.1.2.2.2.2.2 (by omega) (by omega) (fun f hf => ⟨hP.2.2.2.2.2.2.2.2.2.2 f hf, (hM.2.2.1 f hf).2.2⟩) (fun f k hf hk e2 e3 => q2 f k hf hk e e2 e3) (fun hn => q6 e hn)
    · first | refine i_pos rfl ?_ | rw [if_pos rfl]
      try (with_reducible rfl)
      exact ⟨q4 a b, hI⟩
  have hinj : ∀ (v : Int32) (a b : Nat), a < 100 → b < 100 → v = nI a → v = nI b → a = b := by
    intro v a b ha hb e1 e2
    rw [e1, nI_eq (by omega) (by omega)] at e2
    exact e2
  unfold s_X11_letter
  by_cases hv : v3 < 0
  · first | refine i_pos hv ?_ | rw [if_pos hv]
    try (with_reducible rfl)
    have hn : ∀ k, k < 6 → v3 = nI k → False := by
      intro k hk e
      rw [e] at hv
      exact nI_pos (by omega) hv
    exact href _ (fun f k _ hk _ _ e => (hn k hk e).elim) (fun f k _ hk _ _ e => (hn k hk e).elim) (fun _ => rfl) (fun _ _ => rfl) (fun _ _ => rfl) (fun _ _ => rfl)
  first | refine i_neg hv ?_ | rw [if_neg hv]
  try (with_reducible rfl)
  obtain ⟨k, hk31, rfl⟩ := nI_of hv
  by_cases hk6 : k < 6
  · first | refine i_pos (nI_lt (b := 6) hk6 (by omega)) ?_ | rw [if_pos (nI_lt (b := 6) hk6 (by omega))]
    try (with_reducible rfl)
    have hke : ∀ k', k' < 6 → nI k = nI k' → k' = k := fun k' h e => (hinj _ k k' (by omega) (by omega) rfl e).symm
    have h41 : ∀ w : St, w = u → v1 ≠ 0 ∨ (¬ ∃ f, f < pf P ∧ v2 = nI f) → sX11_letter_p41 v1 v2 (nI k) (fun r u1 => s_X12_letter v1 v2 (nI k) (fun r2 u2 => r = r2 ∧ Inv u2) u1) w := by
      rintro w rfl hor
      unfold sX11_letter_p41
      by_cases e1 : v1 = 1
      · first | refine i_pos e1 ?_ | rw [if_pos e1]
        try (with_reducible rfl)
        have e0 : v1 ≠ 0 := by
          rw [e1]
          decide
        refine q_isCaller hP hT (fun c hc e => ?_) (fun hn => ?_)
        · first | refine i_neg (by first | decide | (unfold vp_in; decide)) ?_ | rw [if_neg (by first | decide | (unfold vp_in; decide))]
          rw [e, nI_clamp (by omega), (hT.2.2.2.1 c hc).1]
          refine ⟨vp_in_nI (by omega) (by omega), ?_⟩
          refine q_letterOf (hP.2.2.2.2.2.2.2.2.2.2 c hc).1 hk6 ?_
          rw [← e]
          exact href _ (fun _ _ _ _ h => absurd h e0) (fun c' k' hc' hk' _ ec ek => by rw [hinj v2 c' c (by omega) (by omega) ec e, hke k' hk' ek]) (fun hn => absurd ⟨k, hk6, rfl⟩ hn) (fun _ h => absurd e1 h) (fun h => absurd h e0) (fun _ hn => absurd ⟨c, hc, e⟩ hn)
        · first | refine i_pos rfl ?_ | rw [if_pos rfl]
          try (with_reducible rfl)
          exact href _ (fun _ _ _ _ h => absurd h e0) (fun c' _ hc' _ _ ec _ => absurd ⟨c', hc', ec⟩ hn) (fun hn => absurd ⟨k, hk6, rfl⟩ hn) (fun _ _ => rfl) (fun _ _ => rfl) (fun _ _ => rfl)
      · first | refine i_neg e1 ?_ | rw [if_neg e1]
        try (with_reducible rfl)
        refine href _ (fun f _ hf _ h0 ef _ => ?_) (fun _ _ _ _ h => absurd h e1) (fun hn => absurd ⟨k, hk6, rfl⟩ hn) (fun _ _ => rfl) (fun _ _ => rfl) (fun _ _ => rfl)
        rcases hor with h | h
        · exact absurd h0 h
        · exact absurd ⟨f, hf, ef⟩ h
    by_cases e0 : v1 = 0
    · first | refine i_pos e0 ?_ | rw [if_pos e0]
      try (with_reducible rfl)
      refine q_isFarm hP hT (fun f hf e => ?_) (fun hn => ?_)
      · first | refine i_neg (by first | decide | (unfold vp_in; decide)) ?_ | rw [if_neg (by first | decide | (unfold vp_in; decide))]
        rw [e, nI_clamp (by omega), (hT.2.2.1 f hf).1]
        refine ⟨vp_in_nI (by omega) (by omega), ?_⟩
        refine q_letterOf (hP.2.2.2.2.2.2.2.2.2.1 f hf).1 hk6 ?_
        rw [← e]
        exact href _ (fun f' k' hf' hk' _ ef ek => by rw [hinj v2 f' f (by omega) (by omega) ef e, hke k' hk' ek]) (fun _ _ _ _ h => by rw [e0] at h; exact absurd h (by first | decide | (unfold vp_in; decide))) (fun hn => absurd ⟨k, hk6, rfl⟩ hn) (fun h => absurd e0 h) (fun _ hn => absurd ⟨f, hf, e⟩ hn) (fun h => by rw [e0] at h; exact absurd h (by first | decide | (unfold vp_in; decide)))
      · first | refine i_pos rfl ?_ | rw [if_pos rfl]
        try (with_reducible rfl)
        exact h41 u rfl (Or.inr hn)
    · first | refine i_neg e0 ?_ | rw [if_neg e0]
      try (with_reducible rfl)
      exact h41 u rfl (Or.inl e0)
  · first | refine i_neg (nI_nlt (b := 6) (by omega) (by omega)) ?_ | rw [if_neg (nI_nlt (b := 6) (by omega) (by omega))]
    try (with_reducible rfl)
    have hn : ∀ k', k' < 6 → nI k = nI k' → False := by
      intro k' hk' e
      rw [nI_eq (by omega) (by omega)] at e
      omega
    exact href _ (fun f k _ hk _ _ e => (hn k hk e).elim) (fun f k _ hk _ _ e => (hn k hk e).elim) (fun _ => rfl) (fun _ _ => rfl) (fun _ _ => rfl) (fun _ _ => rfl)
