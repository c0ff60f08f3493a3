/-! ===== bits; best ===== -/
def pop (s : Nat) : Nat := s % 2 + s / 2 % 2 + s / 4 % 2 + s / 8 % 2 + s / 16 % 2 + s / 32 % 2
theorem pop_le (s : Nat) : pop s ≤ 6 := by
  unfold pop
  omega
theorem pop_st : ∀ s, s < 64 → s ≠ 0 → pop (s &&& (s - 1)) + 1 = pop s ∧ (s &&& (s - 1)) < s := by first | decide | (unfold vp_in; decide)
theorem x_and (a b : Nat) : nI a &&& nI b = nI (a &&& b) := by
  apply Int32.toBitVec.inj
  rw [Int32.toBitVec_and]
  show BitVec.ofNat 32 a &&& BitVec.ofNat 32 b = BitVec.ofNat 32 (a &&& b)
  rw [BitVec.ofNat_and]
theorem r_bits {s : Nat} {Q : Int32 → St → Prop} {u : St} (hs : s < 64) (hQ : Q (nI (pop s)) u) : s_X12_bits (nI s) Q u := by
  unfold s_X12_bits sX12_bits_p4
  refine lp3 (fun n (a b : Int32) (c : St) => sX12_bits_p4n Q n a b c) (fun a b c => ∃ x y : Nat, a = nI x ∧ b = nI y ∧ c = u ∧ y < 64 ∧ x + pop y = pop s) (fun _ b _ => b.toNatClampNeg) ?_ 0 (nI s) u ⟨0, s, rfl, rfl, rfl, hs, by omega⟩
  rintro n a b c ⟨x, y, rfl, rfl, rfl, hy, he⟩ hnext
  show sX12_bits_p4b Q (sX12_bits_p4n Q n) (nI x) (nI y) c
  unfold sX12_bits_p4b
  by_cases h0 : y = 0
  · rw [h0]
    first | refine i_pos (by rfl) ?_ | rw [if_pos (by rfl)]
    try (with_reducible rfl)
    rw [h0, show pop 0 = 0 by first | decide | (unfold vp_in; decide), Nat.add_zero] at he
    rw [he]
    exact hQ
  · have h1 := pop_st y hy h0
    first | refine i_neg (nI_ne0 (by omega) (by omega)) ?_ | rw [if_neg (nI_ne0 (by omega) (by omega))]
    rw [nI_1, show nI y - 1 = nI (y - 1) from pk_sub (b := 1) (by omega), x_and]
    refine hnext _ _ _ ⟨x + 1, y &&& (y - 1), rfl, rfl, rfl, by omega, by omega⟩ ?_
    rw [nI_clamp (by omega), nI_clamp (by omega)]
    exact h1.2
theorem q_bits {s : Nat} {Q : Int32 → St → Prop} {u : St} (hs : s < 64) (hQ : Q (nI (pop s)) u) : s_J6_bitCount_0f7a4 (nI s) Q u := by
  have key : ∀ s, s < 64 → s_J6_bitCount_0f7a4 (nI s) (fun x _ => x = nI (pop s)) u := by
    simp only [s_J6_bitCount_0f7a4]
    decide
  have k := key s hs
  unfold s_J6_bitCount_0f7a4 at k ⊢
  rw [k]
  exact hQ
theorem ww_lt {P : Pl} (hP : VP P) (N : Nat → Nat) (k : Nat) : ww P N k < 64 := wb_lt hP _
def btr (f m : Nat → Nat) (i b : Nat) : Prop := f b < f i ∨ (f b = f i ∧ m i < m b)
def BstC (f m : Nat → Nat) (i : Nat) : Option Nat → Prop
  | none => i = 0
  | some b => b < i ∧ (∀ j, j < b → btr f m b j) ∧ ∀ j, b < j → j < i → ¬ btr f m j b
theorem bstC_u {f m : Nat → Nat} {i : Nat} {r r' : Option Nat} (h : BstC f m i r) (h' : BstC f m i r') : r = r' := by
  cases r with
  | none =>
    cases r' with
    | none => rfl
    | some b =>
      have h1 : i = 0 := h
      have := h'.1
      omega
  | some a =>
    cases r' with
    | none =>
      have h1 : i = 0 := h'
      have := h.1
      omega
    | some b =>
      by_cases h1 : a < b
      · exact absurd (h'.2.1 a h1) (h.2.2 b h1 h'.1)
      · by_cases h2 : b < a
        · exact absurd (h.2.1 b h2) (h'.2.2 a h2 h.1)
        · rw [show a = b by omega]
theorem bstC_s {f m : Nat → Nat} {i b : Nat} (h : BstC f m i (some b)) : (btr f m i b → BstC f m (i + 1) (some i)) ∧ (¬ btr f m i b → BstC f m (i + 1) (some b)) := by
  constructor
  · intro hb
    refine ⟨by omega, fun j hj => ?_, fun j h1 h2 => absurd h1 (by omega)⟩
    by_cases h1 : j < b
    · have := h.2.1 j h1
      unfold btr at this hb ⊢
      omega
    · by_cases h2 : j = b
      · rw [h2]
        exact hb
      · have := h.2.2 j (by omega) hj
        unfold btr at this hb ⊢
        omega
  · intro hb
    refine ⟨by have := h.1; omega, h.2.1, fun j h1 h2 => ?_⟩
    by_cases h3 : j = i
    · rw [h3]
      exact hb
    · exact h.2.2 j h1 (by omega)
theorem call_best : Call (s_X11_best) (s_X12_best) := by
  rintro u ⟨P, N, hC⟩
  have hC : Ctx u P N := hC
  have hP := ctx_vp hC
  have hpk := hP.2.2.2.2.2.1
  by_cases hway : pc P ≠ 0 ∧ N (2 + 3 * ps P) ≠ 1
  · -- there is a way
    have hr : ∀ (r : Option Nat) (w : St), BstC (fun k => pop (ww P N k)) (wm P N) (pk P) r → Ctx w P N → s_X12_best (fun r2 u2 => oI r = r2 ∧ Inv u2) w := by
      intro r w hB hCw
      unfold s_X12_best
      refine r_hasWay hP (ctx_vn hCw) (ctx_m hCw) (ctx_n hCw) (fun _ _ => ?_) (fun h => absurd hway h)
      first | refine i_neg (by first | decide | (unfold vp_in; decide)) ?_ | rw [if_neg (by first | decide | (unfold vp_in; decide))]
      try (with_reducible rfl)
      unfold sX12_best_p18
      have key := for_up (fun n i (s : Int32 × Int32 × Int32 × St) => sX12_best_p18n (fun r2 u2 => oI r = r2 ∧ Inv u2) n s.1 s.2.1 s.2.2.1 i s.2.2.2) (pk P) (fun i s => Ctx s.2.2.2 P N ∧ ∃ q : Option Nat, s.1 = oI q ∧ BstC (fun k => pop (ww P N k)) (wm P N) i q ∧ ∀ b, q = some b → s.2.1 = nI (pop (ww P N b)) ∧ s.2.2.1 = nI (wm P N b) ∧ wm P N b ≤ 36) ?_ 0 (-1, 0, 0, w) (by omega) ⟨hCw, none, rfl, rfl, fun b hb => absurd hb (by simp)⟩
      · exact key
      rintro n i ⟨a, b, c, s⟩ hi ⟨hCs, q, rfl, hq, hqb⟩ hnext
      simp only at hCs hqb
      show sX12_best_p18b (fun r2 u2 => oI r = r2 ∧ Inv u2) (sX12_best_p18n (fun r2 u2 => oI r = r2 ∧ Inv u2) n) (oI q) b c (nI i) s
      unfold sX12_best_p18b
      refine r_callerMany (ctx_m hCs) ?_
      by_cases he : i = pk P
      · first | refine i_pos (by rw [he]; exact nI_le (Nat.le_refl _) (by omega)) ?_ | rw [if_pos (by rw [he]; exact nI_le (Nat.le_refl _) (by omega))]
        try (with_reducible rfl)
        rw [he] at hq
        rw [bstC_u hB hq]
        exact ⟨rfl, inv_of hCs⟩
      first | refine i_neg (nI_ge (by omega) (by omega)) ?_ | rw [if_neg (nI_ge (by omega) (by omega))]
      try (with_reducible rfl)
      refine r_lays hCs (k := i) (by omega) (fun u6 hW hN6 hC6 _ => ?_)
      have h0 := hway.1
      have hw := w_cel hP h0 hW
      refine r_wset hP (ctx_m hC6) hN6 hw.1 hw.2.2 ?_
      rw [show wb P (wp P N i) (wm P N i) = ww P N i from rfl]
      refine r_bits (ww_lt hP N i) ?_
      have hpi := pop_le (ww P N i)
      have htake : BstC (fun k => pop (ww P N k)) (wm P N) (i + 1) (some i) → sX12_best_p70 (nI i) (nI (pop (ww P N i))) (fun r2 u2 => oI r = r2 ∧ Inv u2) (sX12_best_p18n (fun r2 u2 => oI r = r2 ∧ Inv u2) n) u6 := by
        intro hb
        unfold sX12_best_p70
        rw [hN6.1]
        show sX12_best_p18n (fun r2 u2 => oI r = r2 ∧ Inv u2) n (nI i) (nI (pop (ww P N i))) (nI (wm P N i)) (nI i + 1) u6
        rw [nI_1]
        exact hnext (by omega) (nI i, nI (pop (ww P N i)), nI (wm P N i), u6) ⟨hC6, some i, rfl, hb, fun b hb => by rw [← Option.some.inj hb]; exact ⟨rfl, rfl, hw.1⟩⟩
      cases q with
      | none =>
        first | refine i_pos (by rfl) ?_ | rw [if_pos (by rfl)]
        try (with_reducible rfl)
        have hi0 : i = 0 := hq
        exact htake ⟨by omega, fun j hj => absurd hj (by omega), fun j h1 h2 => absurd h1 (by omega)⟩
      | some x =>
        obtain ⟨eb, ec, hx36⟩ := hqb x rfl
        have hxi := hq.1
        have hpx := pop_le (ww P N x)
        have hs := bstC_s hq
        rw [show oI (some x) = nI x from rfl]
        first | refine i_neg (by rw [x_ne1 (by omega)]; exact id) ?_ | rw [if_neg (by rw [x_ne1 (by omega)]; exact id)]
        rw [eb, ec, hN6.1]
        have hkeep : ¬ btr (fun k => pop (ww P N k)) (wm P N) i x → sX12_best_p81 (nI x) (nI (pop (ww P N x))) (nI (wm P N x)) (nI i) (fun r2 u2 => oI r = r2 ∧ Inv u2) (sX12_best_p18n (fun r2 u2 => oI r = r2 ∧ Inv u2) n) u6 := by
          intro hb
          show sX12_best_p18n (fun r2 u2 => oI r = r2 ∧ Inv u2) n (nI x) (nI (pop (ww P N x))) (nI (wm P N x)) (nI i + 1) u6
          rw [nI_1]
          exact hnext (by omega) (nI x, nI (pop (ww P N x)), nI (wm P N x), u6) ⟨hC6, some x, rfl, hs.2 hb, fun b hb => by rw [← Option.some.inj hb]; exact ⟨rfl, rfl, hx36⟩⟩
        by_cases l1 : pop (ww P N i) < pop (ww P N x)
        · first | refine i_pos (nI_lt l1 (by omega)) ?_ | rw [if_pos (nI_lt l1 (by omega))]
          try (with_reducible rfl)
          exact hkeep (by unfold btr; dsimp only; omega)
        first | refine i_neg (nI_nlt (by omega) (by omega)) ?_ | rw [if_neg (nI_nlt (by omega) (by omega))]
        first | rw [ite_c (nI_eq (by omega) (by omega))] | rw [nI_eq (by omega) (by omega)]
        try (with_reducible rfl)
        by_cases l2 : pop (ww P N i) = pop (ww P N x)
        · first | refine i_pos l2 ?_ | rw [if_pos l2]
          try (with_reducible rfl)
          by_cases l3 : wm P N i < wm P N x
          · first | refine i_pos (nI_lt l3 (by omega)) ?_ | rw [if_pos (nI_lt l3 (by omega))]
            try (with_reducible rfl)
            exact htake (hs.1 (by unfold btr; dsimp only; omega))
          · first | refine i_neg (nI_nlt (by omega) (by omega)) ?_ | rw [if_neg (nI_nlt (by omega) (by omega))]
            try (with_reducible rfl)
            exact hkeep (by unfold btr; dsimp only; omega)
        · first | refine i_neg l2 ?_ | rw [if_neg l2]
          try (with_reducible rfl)
          exact htake (hs.1 (by unfold btr; dsimp only; omega))
    unfold s_X11_best sX11_best_p4
    have key := for_up (fun n i (s : Int32 × St) => sX11_best_p4n (fun r u1 => s_X12_best (fun r2 u2 => r = r2 ∧ Inv u2) u1) n s.1 i s.2) (pk P) (fun i s => Ctx s.2 P N ∧ ∃ q : Option Nat, s.1 = oI q ∧ BstC (fun k => pop (ww P N k)) (wm P N) i q) ?_ 0 (-1, u) (by omega) ⟨hC, none, rfl, rfl⟩
    · exact key
    rintro n i ⟨a, s⟩ hi ⟨hCs, q, rfl, hq⟩ hnext
    simp only at hCs
    show sX11_best_p4b (fun r u1 => s_X12_best (fun r2 u2 => r = r2 ∧ Inv u2) u1) (sX11_best_p4n (fun r u1 => s_X12_best (fun r2 u2 => r = r2 ∧ Inv u2) u1) n) (oI q) (nI i) s
    unfold sX11_best_p4b
    rw [(ctx_c hCs).1.2.2.2.2]
    by_cases he : i = pk P
    · first | refine i_pos (by rw [he]; exact nI_le (Nat.le_refl _) (by omega)) ?_ | rw [if_pos (by rw [he]; exact nI_le (Nat.le_refl _) (by omega))]
      try (with_reducible rfl)
      rw [he] at hq
      exact hr q s hq hCs
    first | refine i_neg (nI_ge (by omega) (by omega)) ?_ | rw [if_neg (nI_ge (by omega) (by omega))]
    try (with_reducible rfl)
    have hil : i < pk P := by omega
    have hself : ∀ (w : St) (F : Nat → St → Prop), Ctx w P N → (∀ w', Ctx w' P N → WayC w' (178 + 4 * i) P N i → F (178 + 4 * i) w') → s_X11_wayOf (nI i) F w := by
      intro w F hw hF
      refine q_wayOf hw (fun k w' hk e hC' hW' _ => ?_) (fun hn => absurd ⟨i, hil, rfl⟩ hn)
      rw [nI_eq (by omega) (by omega)] at e
      subst e
      exact hF w' hC' hW'
    refine hself s _ hCs (fun u3 hC3 hW3 => ?_)
    have h0 := hway.1
    have hw3 := w_cel hP h0 hW3.1
    have hz3 := w_zero hW3.1
    have hm0 : wm P N i ≠ 0 := fun e => hway.2 (hz3.mp e)
    have e2 : u3.1 (178 + 4 * i) 2 = nI (wm P N i - 1) := by
      rw [hW3.2.1]
      exact if_neg hm0
    rw [e2]
    first | refine i_neg (by rw [x_ne1 (by omega)]; exact id) ?_ | rw [if_neg (by rw [x_ne1 (by omega)]; exact id)]
    try (with_reducible rfl)
    have htake : ∀ w : St, Ctx w P N → BstC (fun k => pop (ww P N k)) (wm P N) (i + 1) (some i) → sX11_best_p48 (nI i) (fun r u1 => s_X12_best (fun r2 u2 => r = r2 ∧ Inv u2) u1) (sX11_best_p4n (fun r u1 => s_X12_best (fun r2 u2 => r = r2 ∧ Inv u2) u1) n) w := by
      intro w hw hb
      show sX11_best_p4n (fun r u1 => s_X12_best (fun r2 u2 => r = r2 ∧ Inv u2) u1) n (nI i) (nI i + 1) w
      rw [nI_1]
      exact hnext (by omega) (nI i, w) ⟨hw, some i, rfl, hb⟩
    cases q with
    | none =>
      first | refine i_pos (by rfl) ?_ | rw [if_pos (by rfl)]
      try (with_reducible rfl)
      have hi0 : i = 0 := hq
      exact htake u3 hC3 ⟨by omega, fun j hj => absurd hj (by omega), fun j h1 h2 => absurd h1 (by omega)⟩
    | some x =>
      have hxi := hq.1
      have hs := bstC_s hq
      rw [show oI (some x) = nI x from rfl]
      first | refine i_neg (by rw [x_ne1 (by omega)]; exact id) ?_ | rw [if_neg (by rw [x_ne1 (by omega)]; exact id)]
      try (with_reducible rfl)
      refine hself u3 _ hC3 (fun u5 hC5 hW5 => ?_)
      refine q_wayOf hC5 (fun k u7 hk e hC7 hW7 hK7 => ?_) (fun hn => absurd ⟨x, by omega, rfl⟩ hn)
      rw [nI_eq (by omega) (by omega)] at e
      subst e
      have hwx := w_cel hP h0 hW7.1
      have hzx := w_zero hW7.1
      have hmx : wm P N x ≠ 0 := fun e => hway.2 (hzx.mp e)
      have ht5 := ctx_t hC5
      have hWi : WayM u7 (178 + 4 * i) P (wp P N i) (wm P N i) := way_K hW5.2 hK7 (fun y j a b => by omega)
      have hpi := pop_le (ww P N i)
      have hpx := pop_le (ww P N x)
      unfold s_X10_isBetterThan
      rw [hWi.2.2.2.2.1, show nI (wb P (wp P N i) (wm P N i)) = nI (ww P N i) from rfl]
      refine q_bits (ww_lt hP N i) ?_
      rw [hW7.2.2.2.2.2.1, show nI (wb P (wp P N x) (wm P N x)) = nI (ww P N x) from rfl]
      refine q_bits (ww_lt hP N x) ?_
      have ei : u7.1 (178 + 4 * i) 2 = nI (wm P N i - 1) := by
        rw [hWi.1]
        exact if_neg hm0
      have ex : u7.1 (178 + 4 * x) 2 = nI (wm P N x - 1) := by
        rw [hW7.2.1]
        exact if_neg hmx
      have d1 : nI (pop (ww P N i)) - nI (pop (ww P N x)) = iI ((pop (ww P N i) : Int) - pop (ww P N x)) := by
        rw [nI_iI (by omega), nI_iI (by omega), iI_sub]
      have d2 : (0 < nI (pop (ww P N i)) - nI (pop (ww P N x))) ↔ pop (ww P N x) < pop (ww P N i) := by
        rw [d1, i_0]
        have := iI_lt (a := 0) (b := (pop (ww P N i) : Int) - pop (ww P N x)) (by omega) (by omega) (by omega) (by omega)
        rw [this]
        omega
      have d3 : (nI (pop (ww P N i)) - nI (pop (ww P N x)) = 0) ↔ pop (ww P N i) = pop (ww P N x) := by
        rw [d1, i_0]
        have := iI_inj (a := (pop (ww P N i) : Int) - pop (ww P N x)) (b := 0) (by omega) (by omega) (by omega) (by omega)
        rw [this]
        omega
      have hkeep : ¬ btr (fun k => pop (ww P N k)) (wm P N) i x → sX11_best_p50 (nI x) (nI i) (fun r u1 => s_X12_best (fun r2 u2 => r = r2 ∧ Inv u2) u1) (sX11_best_p4n (fun r u1 => s_X12_best (fun r2 u2 => r = r2 ∧ Inv u2) u1) n) u7 := by
        intro hb
        show sX11_best_p4n (fun r u1 => s_X12_best (fun r2 u2 => r = r2 ∧ Inv u2) u1) n (nI x) (nI i + 1) u7
        rw [nI_1]
        exact hnext (by omega) (nI x, u7) ⟨hC7, some x, rfl, hs.2 hb⟩
      by_cases l1 : pop (ww P N x) < pop (ww P N i)
      · refine i_pos (d2.mpr l1) ?_
        first | refine i_neg (by first | decide | (unfold vp_in; decide)) ?_ | rw [if_neg (by first | decide | (unfold vp_in; decide))]
        try (with_reducible rfl)
        exact htake u7 hC7 (hs.1 (by unfold btr; dsimp only; omega))
      refine i_neg (fun e => l1 (d2.mp e)) ?_
      by_cases l2 : pop (ww P N i) = pop (ww P N x)
      · refine i_pos (d3.mpr l2) ?_
        rw [ei, ex]
        by_cases l3 : wm P N i < wm P N x
        · first | refine i_neg (nI_ge (by omega) (by omega)) ?_ | rw [if_neg (nI_ge (by omega) (by omega))]
          first | refine i_neg (by first | decide | (unfold vp_in; decide)) ?_ | rw [if_neg (by first | decide | (unfold vp_in; decide))]
          try (with_reducible rfl)
          exact htake u7 hC7 (hs.1 (by unfold btr; dsimp only; omega))
        · first | refine i_pos (nI_le (by omega) (by omega)) ?_ | rw [if_pos (nI_le (by omega) (by omega))]
          first | refine i_pos rfl ?_ | rw [if_pos rfl]
          try (with_reducible rfl)
          exact hkeep (by unfold btr; dsimp only; omega)
      · refine i_neg (fun e => l2 (d3.mp e)) ?_
        first | refine i_pos rfl ?_ | rw [if_pos rfl]
        try (with_reducible rfl)
        exact hkeep (by unfold btr; dsimp only; omega)
  · -- there is none
    have hr : ∀ w : St, Ctx w P N → s_X12_best (fun r2 u2 => (-1 : Int32) = r2 ∧ Inv u2) w := by
      intro w hCw
      unfold s_X12_best
      refine r_hasWay hP (ctx_vn hCw) (ctx_m hCw) (ctx_n hCw) (fun h1 h2 => absurd ⟨h1, h2⟩ hway) (fun _ => ?_)
      first | refine i_pos rfl ?_ | rw [if_pos rfl]
      try (with_reducible rfl)
      exact ⟨rfl, inv_of hCw⟩
    unfold s_X11_best sX11_best_p4
    refine for_up (fun n i (s : St) => sX11_best_p4n (fun r u1 => s_X12_best (fun r2 u2 => r = r2 ∧ Inv u2) u1) n (-1) i s) (pk P) (fun i s => Ctx s P N) ?_ 0 u (by omega) hC
    rintro n i s hi hCs hnext
    show sX11_best_p4b (fun r u1 => s_X12_best (fun r2 u2 => r = r2 ∧ Inv u2) u1) (sX11_best_p4n (fun r u1 => s_X12_best (fun r2 u2 => r = r2 ∧ Inv u2) u1) n) (-1) (nI i) s
    unfold sX11_best_p4b
    rw [(ctx_c hCs).1.2.2.2.2]
    by_cases he : i = pk P
    · first | refine i_pos (by rw [he]; exact nI_le (Nat.le_refl _) (by omega)) ?_ | rw [if_pos (by rw [he]; exact nI_le (Nat.le_refl _) (by omega))]
      try (with_reducible rfl)
      exact hr s hCs
    first | refine i_neg (nI_ge (by omega) (by omega)) ?_ | rw [if_neg (nI_ge (by omega) (by omega))]
    try (with_reducible rfl)
    refine q_wayOf hCs (fun k u3 hk e hC3 hW3 _ => ?_) (fun hn => absurd ⟨i, by omega, rfl⟩ hn)
    have h0 := pk_pc hP hk
    have hz := w_zero hW3.1
    have hm0 : wm P N k = 0 := hz.mpr (by
      by_cases e2 : N (2 + 3 * ps P) = 1
      · exact e2
      · exact absurd ⟨h0, e2⟩ hway)
    have e2 : u3.1 (178 + 4 * k) 2 = -1 := by
      rw [hW3.2.1]
      exact if_pos hm0
    rw [e2]
    first | refine i_pos rfl ?_ | rw [if_pos rfl]
    try (with_reducible rfl)
    show sX11_best_p4n (fun r u1 => s_X12_best (fun r2 u2 => r = r2 ∧ Inv u2) u1) n (-1) (nI i + 1) u3
    rw [nI_1]
    exact hnext (by omega) u3 hC3
