/-! ===== way, leads ===== -/
theorem q_placeBy {P : Pl} {a m : Nat} {p : Nat → Nat} {v : Int32} {Q : Int32 → St → Prop} {u : St} (h1 : u.1 a 2 = (if m = 0 then -1 else nI (m - 1))) (h2 : ∀ i, i < m → u.1 (a + 1) i = nI (pl P (p i))) (hm : m ≤ 36) (q1 : ∀ i, i < m → v = nI i → Q (nI (pl P (p i))) u) (q2 : (¬ ∃ i, i < m ∧ v = nI i) → Q (-1) u) : s_X10_placeBy a v Q u := by
  unfold s_X10_placeBy
  by_cases hv : v < 0
  · first | refine i_pos hv ?_ | rw [if_pos hv]
    try (with_reducible rfl)
    refine q2 ?_
    rintro ⟨i, hi, rfl⟩
    exact nI_pos (by omega) hv
  first | refine i_neg hv ?_ | rw [if_neg hv]
  try (with_reducible rfl)
  obtain ⟨j, hj, rfl⟩ := nI_of hv
  by_cases hjm : j < m
  · have e : u.1 a 2 = nI (m - 1) := by
      rw [h1]
      exact if_neg (by omega)
    rw [e]
    first | refine i_neg (nI_nlt (by omega) (by omega)) ?_ | rw [if_neg (nI_nlt (by omega) (by omega))]
    rw [nI_clamp hj, h2 j hjm]
    exact ⟨vp_in_nI (by omega) (by omega), q1 j hjm rfl⟩
  · have hq : Q (-1) u := q2 (by
      rintro ⟨i, hi, e⟩
      rw [nI_eq hj (by omega)] at e
      omega)
    by_cases h0 : m = 0
    · have e : u.1 a 2 = -1 := by
        rw [h1]
        exact if_pos h0
      rw [e]
      first | refine i_pos (by rw [x_m1lt (by omega)]; trivial) ?_ | rw [if_pos (by rw [x_m1lt (by omega)]; trivial)]
      try (with_reducible rfl)
      exact hq
    · have e : u.1 a 2 = nI (m - 1) := by
        rw [h1]
        exact if_neg h0
      rw [e]
      first | refine i_pos (nI_lt (by omega) (by omega)) ?_ | rw [if_pos (nI_lt (by omega) (by omega))]
      try (with_reducible rfl)
      exact hq
theorem q_placePart {P : Pl} {o : Option Nat} {v : Int32} {Q : Int32 → St → Prop} {u : St} (hP : VP P) (hT : cPl u u.2.2.1 P) (ho : ∀ c, o = some c → cel P c) (q0 : o = none → Q (-1) u) (q1 : ∀ c, o = some c → v = 0 → Q (nI (c % 6)) u) (q2 : ∀ c, o = some c → v = 1 → Q (nI (c / 6)) u) (q3 : v ≠ 0 → v ≠ 1 → Q (-1) u) : s_X11_placePart (oI (o.map (pl P))) v Q u := by
  unfold s_X11_placePart
  have h6 := hP.1
  cases o with
  | none =>
    first | refine i_pos (by rfl) ?_ | rw [if_pos (by rfl)]
    try (with_reducible rfl)
    exact q0 rfl
  | some c =>
    have hc := ho c rfl
    have h36 := pl_36 hP hc
    have h0 := cel_pc hc
    rw [show oI (Option.map (pl P) (some c)) = nI (pl P c) from rfl]
    first | refine i_neg (by rw [x_ne1 (by omega)]; exact id) ?_ | rw [if_neg (by rw [x_ne1 (by omega)]; exact id)]
    try (with_reducible rfl)
    by_cases e0 : v = 0
    · first | refine i_pos e0 ?_ | rw [if_pos e0]
      try (with_reducible rfl)
      refine q_columnOf (n := pc P) hT.1.1 (by omega) (by omega) (by omega) ?_
      rw [pl_mod hc]
      exact q1 c rfl e0
    first | refine i_neg e0 ?_ | rw [if_neg e0]
    try (with_reducible rfl)
    by_cases e1 : v = 1
    · first | refine i_pos e1 ?_ | rw [if_pos e1]
      try (with_reducible rfl)
      refine q_rowOf (n := pc P) hT.1.1 (by omega) (by omega) (by omega) ?_
      rw [pl_div hc]
      exact q2 c rfl e1
    · first | refine i_neg e1 ?_ | rw [if_neg e1]
      try (with_reducible rfl)
      exact q3 e0 e1
theorem inv_of {u : St} {P : Pl} {N : Nat → Nat} (h : Ctx u P N) : Inv u := ⟨P, N, h⟩
theorem r_two {v : Int32} {Q : Int32 → St → Prop} {u : St} (h0 : v = 0 → Q 1 u) (h1 : v = 1 → Q 1 u) (h2 : v ≠ 0 → v ≠ 1 → Q 0 u) : s_X12_isIn v.toInt64 (0 : Int64) (1 : Int64) Q u := by
  refine r_below (v := v) (n := 2) (by omega) (fun x hx e => ?_) (fun hn => ?_)
  · have : x = 0 ∨ x = 1 := by omega
    rcases this with rfl | rfl
    · exact h0 e
    · exact h1 e
  · exact h2 (fun e => hn ⟨0, by omega, e⟩) (fun e => hn ⟨1, by omega, e⟩)
theorem call_way (v1 v2 v3 : Int32) : Call (s_X11_way v1 v2 v3) (s_X12_way v1 v2 v3) := by
  rintro u ⟨P, N, hC⟩
  have hC : Ctx u P N := hC
  have hP := ctx_vp hC
  unfold s_X11_way
  have hno : (¬ ∃ k, k < pk P ∧ v1 = nI k) → ∀ u1, Ctx u1 P N → s_X12_way v1 v2 v3 (fun r2 u2 => (-1 : Int32) = r2 ∧ Inv u2) u1 := by
    intro hn u1 hC1
    unfold s_X12_way
    refine r_isCaller hP (ctx_m hC1) (fun k hk e => absurd ⟨k, hk, e⟩ hn) (fun _ => ?_)
    first | refine i_pos rfl ?_ | rw [if_pos rfl]
    try (with_reducible rfl)
    exact ⟨rfl, inv_of hC1⟩
  refine q_wayOf hC (fun k u1 hk e hC1 hW hK => ?_) (fun hn => ?_)
  · have h0 := pk_pc hP hk
    have hw := w_cel hP h0 hW.1
    have hout : v3 ≠ 0 → v3 ≠ 1 → s_X12_way v1 v2 v3 (fun r2 u2 => (-1 : Int32) = r2 ∧ Inv u2) u1 := by
      intro e0 e1
      unfold s_X12_way
      refine r_isCaller hP (ctx_m hC1) (fun _ _ _ => ?_) (fun hn => absurd ⟨k, hk, e⟩ hn)
      first | refine i_neg (by first | decide | (unfold vp_in; decide)) ?_ | rw [if_neg (by first | decide | (unfold vp_in; decide))]
      try (with_reducible rfl)
      refine r_two (fun h => absurd h e0) (fun h => absurd h e1) (fun _ _ => ?_)
      first | refine i_pos rfl ?_ | rw [if_pos rfl]
      try (with_reducible rfl)
      exact ⟨rfl, inv_of hC1⟩
    have hlay : (v3 = 0 ∨ v3 = 1) → ∀ r : Int32, (∀ u2, Ctx u2 P N → WayN u2 (wp P N k) (wm P N k) → s_X12_isIn v2.toInt64 0 (u2.1 198 64 - 1).toInt64 (fun r7 u8 => if r7 = 0 then r = -1 ∧ Inv u8 else (if v3 = 0 then vp_in v2 36 ∧ r = u8.1 242 v2.toNatClampNeg - u8.1 242 v2.toNatClampNeg / 6 * 6 ∧ Inv u8 else vp_in v2 36 ∧ r = u8.1 242 v2.toNatClampNeg / 6 ∧ Inv u8)) u2) → s_X12_way v1 v2 v3 (fun r2 u2 => r = r2 ∧ Inv u2) u1 := by
      intro h01 r hr
      unfold s_X12_way
      refine r_isCaller hP (ctx_m hC1) (fun _ _ _ => ?_) (fun hn => absurd ⟨k, hk, e⟩ hn)
      first | refine i_neg (by first | decide | (unfold vp_in; decide)) ?_ | rw [if_neg (by first | decide | (unfold vp_in; decide))]
      try (with_reducible rfl)
      have hgo : ∀ w : St, Ctx w P N → s_X12_laysWay v1 (fun u6 => s_X12_isIn v2.toInt64 0 (u6.1 198 64 - 1).toInt64 (fun r7 u8 => if r7 = 0 then r = -1 ∧ Inv u8 else (if v3 = 0 then vp_in v2 36 ∧ r = u8.1 242 v2.toNatClampNeg - u8.1 242 v2.toNatClampNeg / 6 * 6 ∧ Inv u8 else vp_in v2 36 ∧ r = u8.1 242 v2.toNatClampNeg / 6 ∧ Inv u8)) u6) w := by
        intro w hw
        rw [e]
        exact r_lays hw hk (fun u2 _ b c _ => hr u2 c b)
      refine r_two (fun _ => ?_) (fun _ => ?_) (fun a b => ?_)
      · first | refine i_neg (by first | decide | (unfold vp_in; decide)) ?_ | rw [if_neg (by first | decide | (unfold vp_in; decide))]
        try (with_reducible rfl)
        exact hgo u1 hC1
      · first | refine i_neg (by first | decide | (unfold vp_in; decide)) ?_ | rw [if_neg (by first | decide | (unfold vp_in; decide))]
        try (with_reducible rfl)
        exact hgo u1 hC1
      · rcases h01 with x | x
        · exact absurd x a
        · exact absurd x b
    refine q_placeBy (P := P) (p := wp P N k) (m := wm P N k) hW.2.1 hW.2.2.1 hw.1 (fun i hi ei => ?_) (fun hn => ?_)
    · have hci := hw.2.1 i hi
      have hc36 := cel_lt hP hci
      have hres : ∀ r : Int32, (v3 = 0 → r = nI (wp P N k i % 6)) → (v3 = 1 → r = nI (wp P N k i / 6)) → (v3 = 0 ∨ v3 = 1) → s_X12_way v1 v2 v3 (fun r2 u2 => r = r2 ∧ Inv u2) u1 := by
        intro r r0 r1 h01
        refine hlay h01 r (fun u2 hC2 hN2 => ?_)
        rw [hN2.1]
        refine r_below (by omega) (fun x hx ex => ?_) (fun hn => absurd ⟨i, hi, ei⟩ hn)
        first | refine i_neg (by first | decide | (unfold vp_in; decide)) ?_ | rw [if_neg (by first | decide | (unfold vp_in; decide))]
        rw [ei, nI_clamp (by omega), hN2.2.1 i hi]
        by_cases e0 : v3 = 0
        · first | refine i_pos e0 ?_ | rw [if_pos e0]
          try (with_reducible rfl)
          refine ⟨vp_in_nI (by omega) (by omega), ?_, inv_of hC2⟩
          rw [r0 e0, show nI (wp P N k i) - nI (wp P N k i) / 6 * 6 = nI (wp P N k i % 6) from pk_rem (d := 6) (by omega) (by omega) (by omega)]
        · first | refine i_neg e0 ?_ | rw [if_neg e0]
          try (with_reducible rfl)
          refine ⟨vp_in_nI (by omega) (by omega), ?_, inv_of hC2⟩
          rw [r1 (by rcases h01 with x | x; exact absurd x e0; exact x), show nI (wp P N k i) / 6 = nI (wp P N k i / 6) from pk_div (d := 6) (by omega) (by omega) (by omega)]
      exact q_placePart (o := some (wp P N k i)) hP (ctx_c hC1) (fun c hc => by rw [← Option.some.inj hc]; exact hci) (fun h => absurd h (by simp)) (fun c hc e0 => by rw [← Option.some.inj hc]; exact hres _ (fun _ => rfl) (fun e1 => by rw [e0] at e1; exact absurd e1 (by first | decide | (unfold vp_in; decide))) (Or.inl e0)) (fun c hc e1 => by rw [← Option.some.inj hc]; exact hres _ (fun e0 => by rw [e0] at e1; exact absurd e1 (by first | decide | (unfold vp_in; decide))) (fun _ => rfl) (Or.inr e1)) (fun e0 e1 => hout e0 e1)
    · have hl : (v3 = 0 ∨ v3 = 1) → s_X12_way v1 v2 v3 (fun r2 u2 => (-1 : Int32) = r2 ∧ Inv u2) u1 := by
        intro h01
        refine hlay h01 (-1) (fun u2 hC2 hN2 => ?_)
        rw [hN2.1]
        refine r_below (by omega) (fun x hx ex => absurd ⟨x, hx, ex⟩ hn) (fun _ => ?_)
        first | refine i_pos rfl ?_ | rw [if_pos rfl]
        try (with_reducible rfl)
        exact ⟨rfl, inv_of hC2⟩
      refine q_placePart (o := none) hP (ctx_c hC1) (fun c hc => absurd hc (by simp)) (fun _ => ?_) (fun c hc => absurd hc (by simp)) (fun c hc => absurd hc (by simp)) (fun e0 e1 => hout e0 e1)
      by_cases e0 : v3 = 0
      · exact hl (Or.inl e0)
      · by_cases e1 : v3 = 1
        · exact hl (Or.inr e1)
        · exact hout e0 e1
  · refine q_placeBy (P := P) (p := fun _ => 0) (m := 0) (by rw [if_pos rfl]; exact (ctx_no hC).1) (fun i hi => absurd hi (by omega)) (by omega) (fun i hi => absurd hi (by omega)) (fun _ => ?_)
    exact q_placePart (o := none) hP (ctx_c hC) (fun c hc => absurd hc (by simp)) (fun _ => hno hn u hC) (fun c hc => absurd hc (by simp)) (fun c hc => absurd hc (by simp)) (fun _ _ => hno hn u hC)
theorem stp_eq {p : Nat → Nat} : ∀ {m j : Nat}, (∀ i j, i < j → j < m → p i ≠ p j) → j < m → stp p m (p j) = some j
  | 0, j, _, h => absurd h (by omega)
  | m + 1, j, hd, h => by
    unfold stp
    by_cases e : j = m
    · rw [e]
      first | refine i_pos rfl ?_ | rw [if_pos rfl]
      try (with_reducible rfl)
    · first | refine i_neg (fun x => hd j m (by omega) (by omega) x.symm) ?_ | rw [if_neg (fun x => hd j m (by omega) (by omega) x.symm)]
      try (with_reducible rfl)
      exact stp_eq (fun i j h1 h2 => hd i j h1 (by omega)) (by omega)
theorem wb_bit {P : Pl} {p : Nat → Nat} : ∀ (m f : Nat), (wb P p m).testBit f = true ↔ ∃ j, j < m ∧ fAt P (p j) = some f ∧ j ≤ fda P f
  | 0, f => by
    constructor
    · intro h
      exact absurd h (by simp [wb])
    · rintro ⟨j, hj, _⟩
      omega
  | m + 1, f => by
    have ih := wb_bit (P := P) (p := p) m f
    have hback : (∃ j, j < m ∧ fAt P (p j) = some f ∧ j ≤ fda P f) → ∃ j, j < m + 1 ∧ fAt P (p j) = some f ∧ j ≤ fda P f := fun ⟨j, a, b⟩ => ⟨j, by omega, b⟩
    unfold wb
    cases e : fAt P (p m) with
    | none =>
      simp only
      rw [ih]
      refine ⟨hback, ?_⟩
      rintro ⟨j, a, b, c⟩
      by_cases hj : j = m
      · rw [hj, e] at b
        exact absurd b (by simp)
      · exact ⟨j, by omega, b, c⟩
    | some g =>
      by_cases hd : m ≤ fda P g
      · simp only [if_pos hd, Nat.testBit_or, Bool.or_eq_true, Nat.testBit_two_pow, decide_eq_true_eq]
        rw [ih]
        constructor
        · rintro (h | rfl)
          · exact hback h
          · exact ⟨m, by omega, e, hd⟩
        · rintro ⟨j, a, b, c⟩
          by_cases hj : j = m
          · rw [hj, e] at b
            exact Or.inr (Option.some.inj b)
          · exact Or.inl ⟨j, by omega, b, c⟩
      · simp only [if_neg hd]
        rw [ih]
        refine ⟨hback, ?_⟩
        rintro ⟨j, a, b, c⟩
        by_cases hj : j = m
        · rw [hj, e] at b
          rw [Option.some.inj b] at hd
          omega
        · exact ⟨j, by omega, b, c⟩
/-- watered, as the reference asks it -/
def isW (P : Pl) (p : Nat → Nat) (m f : Nat) : Prop := ∃ s, stp p m (fce P f) = some s ∧ s ≤ fda P f
theorem isW_bit {P : Pl} {p : Nat → Nat} {m f : Nat} (hP : VP P) (hd : ∀ i j, i < j → j < m → p i ≠ p j) (hf : f < pf P) : (wb P p m).testBit f = true ↔ isW P p m f := by
  rw [wb_bit]
  constructor
  · rintro ⟨j, a, b, c⟩
    have h1 := (fAt_some b).2
    refine ⟨j, ?_, c⟩
    rw [h1]
    exact stp_eq hd a
  · rintro ⟨s, a, b⟩
    have h1 := stp_some a
    refine ⟨s, h1.1, ?_, b⟩
    rw [h1.2]
    exact fAt_fce hP hf
theorem wb_ge {P : Pl} {p : Nat → Nat} {m f : Nat} (hf : pf P ≤ f) : (wb P p m).testBit f = false := by
  cases e : (wb P p m).testBit f with
  | false => rfl
  | true =>
    obtain ⟨j, a, b, c⟩ := (wb_bit m f).mp e
    have := (fAt_some b).1
    omega
theorem r_isWatered {P : Pl} {p : Nat → Nat} {m f : Nat} {Q : Int32 → St → Prop} {u : St} (hP : VP P) (hM : mPl u P) (hW : WayN u p m) (hm : m ≤ 36) (hf : f < pf P) (h1 : isW P p m f → Q 1 u) (h2 : ¬ isW P p m f → Q 0 u) : s_X12_isWatered (nI f) Q u := by
  have hfa := hP.2.2.2.2.2.2.1 f hf
  have h36 := cel_lt hP hfa.1
  unfold s_X12_isWatered
  refine r_cellOf hP hM hf ⟨vp_in_nI h36 (by omega), ?_⟩
  rw [nI_clamp (by omega), hW.2.2 _ h36]
  cases e : stp p m (fce P f) with
  | none =>
    first | refine i_pos (by rfl) ?_ | rw [if_pos (by rfl)]
    try (with_reducible rfl)
    refine h2 ?_
    rintro ⟨s, a, b⟩
    rw [e] at a
    exact absurd a (by simp)
  | some s =>
    have hs := (stp_some e).1
    rw [show oI (some s) = nI s from rfl]
    first | refine i_neg (by rw [x_ne1 (by omega)]; exact id) ?_ | rw [if_neg (by rw [x_ne1 (by omega)]; exact id)]
    try (with_reducible rfl)
    refine r_dayOf hP hM hf ?_
    by_cases hd : fda P f < s
    · first | refine i_pos (nI_lt hd (by omega)) ?_ | rw [if_pos (nI_lt hd (by omega))]
      try (with_reducible rfl)
      refine h2 ?_
      rintro ⟨s', a, b⟩
      rw [e] at a
      have := Option.some.inj a
      omega
    · first | refine i_neg (nI_nlt (by omega) (by omega)) ?_ | rw [if_neg (nI_nlt (by omega) (by omega))]
      try (with_reducible rfl)
      exact h1 ⟨s, e, by omega⟩
theorem r_wset {P : Pl} {p : Nat → Nat} {m : Nat} {Q : Int32 → St → Prop} {u : St} (hP : VP P) (hM : mPl u P) (hW : WayN u p m) (hm : m ≤ 36) (hd : ∀ i j, i < j → j < m → p i ≠ p j) (hQ : Q (nI (wb P p m)) u) : s_X12_wateredSet Q u := by
  have h6 := hP.2.2.2.2.1
  unfold s_X12_wateredSet sX12_wateredSet_p4
  have key := for_up (fun n i (s : Int32 × St) => sX12_wateredSet_p4n Q n s.1 i s.2) (pf P) (fun i s => s.2 = u ∧ ∃ w : Nat, s.1 = nI w ∧ w < 64 ∧ ∀ f, w.testBit f = true ↔ f < i ∧ isW P p m f) ?_ 0 (0, u) (by omega) ⟨rfl, 0, rfl, by omega, fun f => by simp⟩
  · exact key
  rintro n i ⟨v, s⟩ hi ⟨rfl, w, rfl, hw, hb⟩ hnext
  show sX12_wateredSet_p4b Q (sX12_wateredSet_p4n Q n) (nI w) (nI i) s
  unfold sX12_wateredSet_p4b
  refine r_farmMany hM ?_
  by_cases he : i = pf P
  · first | refine i_pos (by rw [he]; exact nI_le (Nat.le_refl _) (by omega)) ?_ | rw [if_pos (by rw [he]; exact nI_le (Nat.le_refl _) (by omega))]
    try (with_reducible rfl)
    have e : w = wb P p m := by
      apply Nat.eq_of_testBit_eq
      intro f
      by_cases hf : f < pf P
      · have h1 := hb f
        have h2 := isW_bit (m := m) (p := p) hP hd hf
        cases a : w.testBit f <;> cases b : (wb P p m).testBit f
        · rfl
        · have := h1.mpr ⟨by omega, h2.mp b⟩
          rw [a] at this
          exact absurd this (by simp)
        · have := h2.mpr (h1.mp a).2
          rw [b] at this
          exact absurd this (by simp)
        · rfl
      · rw [wb_ge (by omega)]
        cases a : w.testBit f with
        | false => rfl
        | true =>
          have := (hb f).mp a
          omega
    rw [e]
    exact hQ
  first | refine i_neg (nI_ge (by omega) (by omega)) ?_ | rw [if_neg (nI_ge (by omega) (by omega))]
  try (with_reducible rfl)
  refine r_isWatered hP hM hW hm (by omega) (fun hy => ?_) (fun hn => ?_)
  · first | refine i_neg (by first | decide | (unfold vp_in; decide)) ?_ | rw [if_neg (by first | decide | (unfold vp_in; decide))]
    rw [x_shl i (by omega), x_or]
    show sX12_wateredSet_p4n Q n (nI (w ||| 2 ^ i)) (nI i + 1) s
    rw [nI_1]
    refine hnext (by omega) (nI (w ||| 2 ^ i), s) ⟨rfl, w ||| 2 ^ i, rfl, ?_, fun f => ?_⟩
    · have h2 : 2 ^ i < 2 ^ 6 := Nat.pow_lt_pow_right (by omega) (by omega)
      exact Nat.or_lt_two_pow (n := 6) hw h2
    · simp only [Nat.testBit_or, Bool.or_eq_true, Nat.testBit_two_pow, decide_eq_true_eq]
      rw [hb f]
      constructor
      · rintro (⟨a, b⟩ | rfl)
        · exact ⟨by omega, b⟩
        · exact ⟨by omega, hy⟩
      · rintro ⟨a, b⟩
        by_cases hfi : f = i
        · exact Or.inr hfi.symm
        · exact Or.inl ⟨by omega, b⟩
  · first | refine i_pos rfl ?_ | rw [if_pos rfl]
    try (with_reducible rfl)
    show sX12_wateredSet_p4n Q n (nI w) (nI i + 1) s
    rw [nI_1]
    refine hnext (by omega) (nI w, s) ⟨rfl, w, rfl, hw, fun f => ?_⟩
    rw [hb f]
    constructor
    · rintro ⟨a, b⟩
      exact ⟨by omega, b⟩
    · rintro ⟨a, b⟩
      by_cases hfi : f = i
      · rw [hfi] at b
        exact absurd b hn
      · exact ⟨by omega, b⟩
theorem call_leads (v1 v2 : Int32) : Call (s_X11_leads v1 v2) (s_X12_leads v1 v2) := by
  rintro u ⟨P, N, hC⟩
  have hC : Ctx u P N := hC
  have hP := ctx_vp hC
  unfold s_X11_leads
  refine q_wayOf hC (fun k u1 hk e hC1 hW hK => ?_) (fun hn => ?_)
  · have h0 := pk_pc hP hk
    have hw := w_cel hP h0 hW.1
    have hz := w_zero hW.1
    have hwl := wb_lt hP (p := wp P N k) (wm P N k)
    by_cases hm0 : wm P N k = 0
    · have e2 : u1.1 (178 + 4 * k) 2 = -1 := by
        rw [hW.2.1]
        exact if_pos hm0
      rw [e2]
      first | refine i_pos rfl ?_ | rw [if_pos rfl]
      try (with_reducible rfl)
      unfold s_X12_leads
      refine r_isCaller hP (ctx_m hC1) (fun _ _ _ => ?_) (fun hn => absurd ⟨k, hk, e⟩ hn)
      first | refine i_neg (by first | decide | (unfold vp_in; decide)) ?_ | rw [if_neg (by first | decide | (unfold vp_in; decide))]
      try (with_reducible rfl)
      refine r_hasWay hP (ctx_vn hC1) (ctx_m hC1) (ctx_n hC1) (fun _ hs => absurd (hz.mp hm0) hs) (fun _ => ?_)
      first | refine i_pos rfl ?_ | rw [if_pos rfl]
      try (with_reducible rfl)
      exact ⟨rfl, inv_of hC1⟩
    · have e2 : u1.1 (178 + 4 * k) 2 = nI (wm P N k - 1) := by
        rw [hW.2.1]
        exact if_neg hm0
      rw [e2]
      first | refine i_neg (by rw [x_ne1 (by omega)]; exact id) ?_ | rw [if_neg (by rw [x_ne1 (by omega)]; exact id)]
      try (with_reducible rfl)
      have hlay : ∀ (r : Int32) (F : St → Prop), (∀ u2, Ctx u2 P N → WayN u2 (wp P N k) (wm P N k) → F u2) → (∀ w, s_X12_leads v1 v2 (fun r2 u2 => r = r2 ∧ Inv u2) w = s_X12_isCaller v1.toInt64 (fun r1 u2 => if r1 = 0 then r = -1 ∧ Inv u2 else s_X12_hasWay (fun r3 u4 => if r3 = 0 then r = -1 ∧ Inv u4 else s_X12_laysWay v1 F u4) u2) w) → s_X12_leads v1 v2 (fun r2 u2 => r = r2 ∧ Inv u2) u1 := by
        intro r F hF hE
        rw [hE]
        refine r_isCaller hP (ctx_m hC1) (fun _ _ _ => ?_) (fun hn => absurd ⟨k, hk, e⟩ hn)
        first | refine i_neg (by first | decide | (unfold vp_in; decide)) ?_ | rw [if_neg (by first | decide | (unfold vp_in; decide))]
        try (with_reducible rfl)
        refine r_hasWay hP (ctx_vn hC1) (ctx_m hC1) (ctx_n hC1) (fun _ hs => ?_) (fun hs => absurd ⟨h0, fun x => hm0 (hz.mpr x)⟩ hs)
        first | refine i_neg (by first | decide | (unfold vp_in; decide)) ?_ | rw [if_neg (by first | decide | (unfold vp_in; decide))]
        rw [e]
        exact r_lays hC1 hk (fun u2 _ b c _ => hF u2 c b)
      have hmk : wm P N k - 1 < wm P N k := by omega
      have hcl := cel_lt hP (hw.2.1 _ hmk)
      by_cases a0 : v2 = 0
      · first | refine i_pos a0 ?_ | rw [if_pos a0]
        try (with_reducible rfl)
        refine hlay _ (fun u6 => nI (wm P N k - 1) = u6.1 198 64 - 1 ∧ Inv u6) (fun u2 hC2 hN2 => ⟨?_, inv_of hC2⟩) (fun w => ?_)
        · rw [hN2.1]
          exact (pk_sub (b := 1) (by omega)).symm
        · unfold s_X12_leads
          simp only [a0, if_true]
      first | refine i_neg a0 ?_ | rw [if_neg a0]
      try (with_reducible rfl)
      by_cases a1 : v2 = 1
      · first | refine i_pos a1 ?_ | rw [if_pos a1]
        rw [hW.2.2.2.2.1]
        have hb : ∀ r : Int32, (wp P N k (wm P N k - 1) / 6 + 1 = pr P → r = 1) → (wp P N k (wm P N k - 1) / 6 + 1 ≠ pr P → r = 0) → s_X12_leads v1 v2 (fun r2 u2 => r = r2 ∧ Inv u2) u1 := by
          intro r r1 r0
          refine hlay r (fun u6 => vp_in (u6.1 198 64 - 1) 36 ∧ vp_in 3 4 ∧ if u6.1 242 (u6.1 198 64 - 1).toNatClampNeg / 6 = u6.1 231 (3 : Int32).toNatClampNeg - 1 then r = 1 ∧ Inv u6 else r = 0 ∧ Inv u6) (fun u2 hC2 hN2 => ?_) (fun w => ?_)
          · have hpr := (hP.2.2.2.1 h0).2.1
            have h7 := hP.2.1
            rw [hN2.1, show nI (wm P N k) - 1 = nI (wm P N k - 1) from pk_sub (b := 1) (by omega), nI_clamp (by omega), hN2.2.1 _ hmk, show ((3 : Int32)).toNatClampNeg = 3 by first | decide | (unfold vp_in; decide), (ctx_m hC2).1.2.2.2.1]
            refine ⟨vp_in_nI (by omega) (by omega), by first | decide | (unfold vp_in; decide), ?_⟩
            rw [show nI (wp P N k (wm P N k - 1)) / 6 = nI (wp P N k (wm P N k - 1) / 6) from pk_div (d := 6) (by omega) (by omega) (by omega), show nI (pr P) - 1 = nI (pr P - 1) from pk_sub (b := 1) (by omega)]
            first | rw [ite_c (nI_eq (by omega) (by omega))] | rw [nI_eq (by omega) (by omega)]
            try (with_reducible rfl)
            by_cases hs : wp P N k (wm P N k - 1) / 6 + 1 = pr P
            · first | refine i_pos (by omega) ?_ | rw [if_pos (by omega)]
              try (with_reducible rfl)
              exact ⟨r1 hs, inv_of hC2⟩
            · first | refine i_neg (by omega) ?_ | rw [if_neg (by omega)]
              try (with_reducible rfl)
              exact ⟨r0 hs, inv_of hC2⟩
          · unfold s_X12_leads
            simp only [a1, if_true, if_false, show ¬ (1 : Int32) = 0 by first | decide | (unfold vp_in; decide)]
        by_cases hs : wp P N k (wm P N k - 1) / 6 + 1 = pr P
        · have e3 : (if wm P N k ≠ 0 ∧ wp P N k (wm P N k - 1) / 6 + 1 = pr P then (1 : Int32) else 0) = 1 := if_pos ⟨hm0, hs⟩
          rw [e3]
          first | refine i_neg (by first | decide | (unfold vp_in; decide)) ?_ | rw [if_neg (by first | decide | (unfold vp_in; decide))]
          try (with_reducible rfl)
          exact hb 1 (fun _ => rfl) (fun x => absurd hs x)
        · have e3 : (if wm P N k ≠ 0 ∧ wp P N k (wm P N k - 1) / 6 + 1 = pr P then (1 : Int32) else 0) = 0 := if_neg (by omega)
          rw [e3]
          first | refine i_pos rfl ?_ | rw [if_pos rfl]
          try (with_reducible rfl)
          exact hb 0 (fun x => absurd x hs) (fun _ => rfl)
      first | refine i_neg a1 ?_ | rw [if_neg a1]
      try (with_reducible rfl)
      by_cases a2 : v2 = 2
      · first | refine i_pos a2 ?_ | rw [if_pos a2]
        rw [hW.2.2.2.2.2.1]
        refine hlay _ (fun u6 => s_X12_wateredSet (fun r11 u12 => nI (wb P (wp P N k) (wm P N k)) = r11 ∧ Inv u12) u6) (fun u2 hC2 hN2 => ?_) (fun w => ?_)
        · exact r_wset hP (ctx_m hC2) hN2 hw.1 hw.2.2 ⟨rfl, inv_of hC2⟩
        · unfold s_X12_leads
          simp only [a2, if_true, if_false, show ¬ (2 : Int32) = 0 by first | decide | (unfold vp_in; decide), show ¬ (2 : Int32) = 1 by first | decide | (unfold vp_in; decide)]
      · first | refine i_neg a2 ?_ | rw [if_neg a2]
        try (with_reducible rfl)
        refine hlay _ (fun u6 => (-1 : Int32) = -1 ∧ Inv u6) (fun u2 hC2 hN2 => ⟨rfl, inv_of hC2⟩) (fun w => ?_)
        unfold s_X12_leads
        simp only [a0, a1, a2, if_false]
  · rw [(ctx_no hC).1]
    first | refine i_pos rfl ?_ | rw [if_pos rfl]
    try (with_reducible rfl)
    unfold s_X12_leads
    refine r_isCaller hP (ctx_m hC) (fun k hk e => absurd ⟨k, hk, e⟩ hn) (fun _ => ?_)
    first | refine i_pos rfl ?_ | rw [if_pos rfl]
    try (with_reducible rfl)
    exact ⟨rfl, inv_of hC⟩
