/-! CalledRiver$SumReader.begin -/
set_option maxHeartbeats 4000000 in
set_option maxRecDepth 100000 in
def s_X8_begin (v1 : Int32) (v2 : Nat) (Q : St → Prop) (u : St) : Prop :=
  bnd (tI u 6 2 v1) (fun u1 => bnd (tD3 u1 v2) (fun u2 => s_X0_clear u2.2.2.2.2.1 (fun u5 => Q u5) u2))
set_option maxHeartbeats 4000000 in
set_option maxRecDepth 100000 in
theorem t_X8_begin {ρ : Nat → Nat → Option Nat} (hR : RfH ρ) {v1 : Int32} {v2 : Nat} (o2 : Ob SH v2 0) {Q : St → Prop} {QW : Mem → Prop} (hQ : ∀ (u : St), DK u → Q u → QW (emb ρ u)) {u : St} (hd : DK u) (h : s_X8_begin v1 v2 Q u) : wp_X8_begin SH 6 v1 v2 QW (emb ρ u) := by
  unfold wp_X8_begin
  unfold s_X8_begin at h
  refine ⟨on_6, ?_⟩
  refine bnd_I ?_
  replace h := bnd_e h
  refine bnd_D3 ?_
  replace h := bnd_e h
  replace hd := dk_3 hd o2
  refine ⟨_, rfl, ?_⟩
  have db3 := hd.2.2.1
  refine ⟨db3, ?_⟩
  refine t_X0_clear hR db3 (fun u5 hd h => ?_) hd h
  exact hQ _ hd h
/-! CalledRiver$SumReader.opens -/
set_option maxHeartbeats 4000000 in
set_option maxRecDepth 100000 in
def s_X8_opens (v1 : Int32) (Q : Int32 → St → Prop) (u : St) : Prop :=
  if v1 < (6 : Int32) then (s_X9_advance  (fun u3 => Q (1 : Int32) u3) u) else (s_X9_fail (4 : Int32) (u.1 1 3) (fun u6 => Q (0 : Int32) u6) u)
set_option maxHeartbeats 4000000 in
set_option maxRecDepth 100000 in
theorem t_X8_opens {ρ : Nat → Nat → Option Nat} (hR : RfH ρ) {v1 : Int32} {Q : Int32 → St → Prop} {QW : Int32 → Mem → Prop} (hQ : ∀ (r : Int32) (u : St), DK u → Q r u → QW r (emb ρ u)) {u : St} (hd : DK u) (h : s_X8_opens v1 Q u) : wp_X8_opens SH 6 v1 QW (emb ρ u) := by
  unfold wp_X8_opens
  unfold s_X8_opens at h
  refine ite_mono (fun hc h => ?_) (fun hc h => ?_) h
  · refine ⟨on_6, ?_⟩
    refine ⟨_, rn_6_0 hR _, ?_⟩
    refine ⟨on_1, ?_⟩
    refine t_X9_advance hR (fun u3 hd h => ?_) hd h
    exact hQ _ _ hd h
  · refine ⟨on_6, ?_⟩
    refine ⟨_, rn_6_0 hR _, ?_⟩
    refine ⟨on_1, ?_⟩
    refine t_X9_fail hR (fun u6 hd h => ?_) hd h
    exact hQ _ _ hd h
/-! CalledRiver$SumReader.readBoth -/
set_option maxHeartbeats 4000000 in
set_option maxRecDepth 100000 in
def sX8_readBoth_p7b (RS : Nat → Int32 → (St → Prop) → St → Prop) (v1 : Int32) (Q : St → Prop) (K7 : Int32 → St → Prop) (v2 : Int32) (u : St) : Prop :=
  if (1600 : Int32) ≤ v2 then (Q u) else (s_X9_wordIn 17 (fun r4 u5 => if r4 = 0 then (s_X9_advance  (fun u8 => RS 2 v1 (fun u10 => s_X0_add u10.2.2.2.2.1 (10030 : Int32) (fun u13 => K7 (v2 + (1 : Int32)) u13) u10) u8) u5) else (Q u5)) u)
set_option maxHeartbeats 4000000 in
set_option maxRecDepth 100000 in
def sX8_readBoth_p7n (RS : Nat → Int32 → (St → Prop) → St → Prop) (v1 : Int32) (Q : St → Prop) : Nat → Int32 → St → Prop
  | 0 => fun _ _ => False
  | n + 1 => sX8_readBoth_p7b RS v1 Q (sX8_readBoth_p7n RS v1 Q n)
set_option maxHeartbeats 4000000 in
set_option maxRecDepth 100000 in
def sX8_readBoth_p7 (RS : Nat → Int32 → (St → Prop) → St → Prop) (v1 : Int32) (Q : St → Prop) (v2 : Int32) (u : St) : Prop := ∃ n, sX8_readBoth_p7n RS v1 Q n v2 u
set_option maxHeartbeats 4000000 in
set_option maxRecDepth 100000 in
def s_X8_readBoth (RS : Nat → Int32 → (St → Prop) → St → Prop) (v1 : Int32) (Q : St → Prop) (u : St) : Prop :=
  RS 2 v1 (fun u2 => sX8_readBoth_p7 RS v1 Q (0 : Int32) u2) u
set_option maxHeartbeats 4000000 in
set_option maxRecDepth 100000 in
theorem t_X8_readBoth_p7b {ρ : Nat → Nat → Option Nat} {RS : Nat → Int32 → (St → Prop) → St → Prop} {RW : Nat → Shp → Nat → Int32 → (Mem → Prop) → Mem → Prop} (hR : RfH ρ) (hS : ∀ {w : Nat} {x : Int32} {Q : St → Prop} {QW : Mem → Prop} {u : St}, (∀ u, DK u → Q u → QW (emb ρ u)) → DK u → RS w x Q u → RW w SH 6 x QW (emb ρ u)) {v1 : Int32} {v2 : Int32} {Q : St → Prop} {QW : Mem → Prop} (hQ : ∀ (u : St), DK u → Q u → QW (emb ρ u)) {K7 : Int32 → St → Prop} {KW7 : Int32 → Mem → Prop} (hK7 : ∀ (x2 : Int32) (u : St), DK u → K7 x2 u → KW7 x2 (emb ρ u)) {u : St} (hd : DK u) (h : sX8_readBoth_p7b RS v1 Q K7 v2 u) : X8_readBoth_p7b RW SH 6 v1 QW KW7 v2 (emb ρ u) := by
  unfold X8_readBoth_p7b
  unfold sX8_readBoth_p7b at h
  refine ite_mono (fun hc h => ?_) (fun hc h => ?_) h
  · exact hQ _ hd h
  · refine ⟨on_6, ?_⟩
    refine ⟨_, rn_6_0 hR _, ?_⟩
    refine ⟨on_1, ?_⟩
    refine t_X9_wordIn hR (fun r4 u5 hd h => ?_) hd h
    refine ite_mono (fun hc h => ?_) (fun hc h => ?_) h
    · refine ⟨_, rn_6_0 hR _, ?_⟩
      refine ⟨on_1, ?_⟩
      refine t_X9_advance hR (fun u8 hd h => ?_) hd h
      refine hS (fun u10 hd h => ?_) hd h
      refine ⟨_, rfl, ?_⟩
      have db11 := hd.2.2.1
      refine ⟨db11, ?_⟩
      refine t_X0_add hR db11 (fun u13 hd h => ?_) hd h
      exact hK7 _ _ hd h
    · exact hQ _ hd h
set_option maxHeartbeats 4000000 in
set_option maxRecDepth 100000 in
theorem t_X8_readBoth_p7n {ρ : Nat → Nat → Option Nat} {RS : Nat → Int32 → (St → Prop) → St → Prop} {RW : Nat → Shp → Nat → Int32 → (Mem → Prop) → Mem → Prop} (hR : RfH ρ) (hS : ∀ {w : Nat} {x : Int32} {Q : St → Prop} {QW : Mem → Prop} {u : St}, (∀ u, DK u → Q u → QW (emb ρ u)) → DK u → RS w x Q u → RW w SH 6 x QW (emb ρ u)) {v1 : Int32} {Q : St → Prop} {QW : Mem → Prop} (hQ : ∀ (u : St), DK u → Q u → QW (emb ρ u)) : ∀ (n : Nat) (v2 : Int32) (u : St), DK u → sX8_readBoth_p7n RS v1 Q n v2 u → X8_readBoth_p7n RW SH 6 v1 QW n v2 (emb ρ u)
  | 0, _, _,  _, h => h.elim
  | n + 1, v2,  u,  hd, h => t_X8_readBoth_p7b hR @hS hQ (fun v2 u  hd h => t_X8_readBoth_p7n hR @hS hQ n v2 u  hd h) hd h
set_option maxHeartbeats 4000000 in
set_option maxRecDepth 100000 in
theorem t_X8_readBoth_p7 {ρ : Nat → Nat → Option Nat} {RS : Nat → Int32 → (St → Prop) → St → Prop} {RW : Nat → Shp → Nat → Int32 → (Mem → Prop) → Mem → Prop} (hR : RfH ρ) (hS : ∀ {w : Nat} {x : Int32} {Q : St → Prop} {QW : Mem → Prop} {u : St}, (∀ u, DK u → Q u → QW (emb ρ u)) → DK u → RS w x Q u → RW w SH 6 x QW (emb ρ u)) {v1 : Int32} {v2 : Int32} {Q : St → Prop} {QW : Mem → Prop} (hQ : ∀ (u : St), DK u → Q u → QW (emb ρ u)) {u : St} (hd : DK u) (h : sX8_readBoth_p7 RS v1 Q v2 u) : X8_readBoth_p7 RW SH 6 v1 QW v2 (emb ρ u) := h.elim (fun n h => ⟨n, t_X8_readBoth_p7n hR @hS hQ n _ _ hd h⟩)
set_option maxHeartbeats 4000000 in
set_option maxRecDepth 100000 in
theorem t_X8_readBoth {ρ : Nat → Nat → Option Nat} {RS : Nat → Int32 → (St → Prop) → St → Prop} {RW : Nat → Shp → Nat → Int32 → (Mem → Prop) → Mem → Prop} (hR : RfH ρ) (hS : ∀ {w : Nat} {x : Int32} {Q : St → Prop} {QW : Mem → Prop} {u : St}, (∀ u, DK u → Q u → QW (emb ρ u)) → DK u → RS w x Q u → RW w SH 6 x QW (emb ρ u)) {v1 : Int32} {Q : St → Prop} {QW : Mem → Prop} (hQ : ∀ (u : St), DK u → Q u → QW (emb ρ u)) {u : St} (hd : DK u) (h : s_X8_readBoth RS v1 Q u) : wp_X8_readBoth RW SH 6 v1 QW (emb ρ u) := by
  unfold wp_X8_readBoth
  unfold s_X8_readBoth at h
  refine ⟨on_6, ?_⟩
  refine hS (fun u2 hd h => ?_) hd h
  exact t_X8_readBoth_p7 hR @hS hQ hd h
/-! CalledRiver$SumReader.readComparison -/
set_option maxHeartbeats 4000000 in
set_option maxRecDepth 100000 in
def sX8_readComparison_p60 (RS : Nat → Int32 → (St → Prop) → St → Prop) (v1 : Int32) (s0 : Int32) (Q : St → Prop) (u : St) : Prop :=
  if s0 = (-1 : Int32) then (s_X9_fail (1 : Int32) (u.1 1 3) (fun u22 => Q u22) u) else (s_X9_advance  (fun u14 => RS 4 v1 (fun u16 => s_X0_add u16.2.2.2.2.1 s0 (fun u19 => Q u19) u16) u14) u)
set_option maxHeartbeats 4000000 in
set_option maxRecDepth 100000 in
def s_X8_readComparison (RS : Nat → Int32 → (St → Prop) → St → Prop) (v1 : Int32) (Q : St → Prop) (u : St) : Prop :=
  RS 4 v1 (fun u2 => s_X9_isSign (60 : Int32) (fun r4 u5 => if r4 = 0 then (s_X9_isSign (62 : Int32) (fun r7 u8 => if r7 = 0 then (s_X9_isSign (61 : Int32) (fun r10 u11 => if r10 = 0 then (sX8_readComparison_p60 RS v1 (-1 : Int32) Q u11) else (sX8_readComparison_p60 RS v1 (10034 : Int32) Q u11)) u8) else (sX8_readComparison_p60 RS v1 (10033 : Int32) Q u8)) u5) else (sX8_readComparison_p60 RS v1 (10032 : Int32) Q u5)) u2) u
set_option maxHeartbeats 4000000 in
set_option maxRecDepth 100000 in
theorem t_X8_readComparison_p60 {ρ : Nat → Nat → Option Nat} {RS : Nat → Int32 → (St → Prop) → St → Prop} {RW : Nat → Shp → Nat → Int32 → (Mem → Prop) → Mem → Prop} (hR : RfH ρ) (hS : ∀ {w : Nat} {x : Int32} {Q : St → Prop} {QW : Mem → Prop} {u : St}, (∀ u, DK u → Q u → QW (emb ρ u)) → DK u → RS w x Q u → RW w SH 6 x QW (emb ρ u)) {v1 : Int32} {s0 : Int32} {Q : St → Prop} {QW : Mem → Prop} (hQ : ∀ (u : St), DK u → Q u → QW (emb ρ u)) {u : St} (hd : DK u) (h : sX8_readComparison_p60 RS v1 s0 Q u) : X8_readComparison_p60 RW SH 6 v1 s0 QW (emb ρ u) := by
  unfold X8_readComparison_p60
  unfold sX8_readComparison_p60 at h
  refine ite_mono (fun hc h => ?_) (fun hc h => ?_) h
  · refine ⟨on_6, ?_⟩
    refine ⟨_, rn_6_0 hR _, ?_⟩
    refine ⟨on_1, ?_⟩
    refine t_X9_fail hR (fun u22 hd h => ?_) hd h
    exact hQ _ hd h
  · refine ⟨on_6, ?_⟩
    refine ⟨_, rn_6_0 hR _, ?_⟩
    refine ⟨on_1, ?_⟩
    refine t_X9_advance hR (fun u14 hd h => ?_) hd h
    refine hS (fun u16 hd h => ?_) hd h
    refine ⟨_, rfl, ?_⟩
    have db17 := hd.2.2.1
    refine ⟨db17, ?_⟩
    refine t_X0_add hR db17 (fun u19 hd h => ?_) hd h
    exact hQ _ hd h
set_option maxHeartbeats 4000000 in
set_option maxRecDepth 100000 in
theorem t_X8_readComparison {ρ : Nat → Nat → Option Nat} {RS : Nat → Int32 → (St → Prop) → St → Prop} {RW : Nat → Shp → Nat → Int32 → (Mem → Prop) → Mem → Prop} (hR : RfH ρ) (hS : ∀ {w : Nat} {x : Int32} {Q : St → Prop} {QW : Mem → Prop} {u : St}, (∀ u, DK u → Q u → QW (emb ρ u)) → DK u → RS w x Q u → RW w SH 6 x QW (emb ρ u)) {v1 : Int32} {Q : St → Prop} {QW : Mem → Prop} (hQ : ∀ (u : St), DK u → Q u → QW (emb ρ u)) {u : St} (hd : DK u) (h : s_X8_readComparison RS v1 Q u) : wp_X8_readComparison RW SH 6 v1 QW (emb ρ u) := by
  unfold wp_X8_readComparison
  unfold s_X8_readComparison at h
  refine ⟨on_6, ?_⟩
  refine hS (fun u2 hd h => ?_) hd h
  refine ⟨_, rn_6_0 hR _, ?_⟩
  refine ⟨on_1, ?_⟩
  refine t_X9_isSign hR (fun r4 u5 hd h => ?_) hd h
  refine ite_mono (fun hc h => ?_) (fun hc h => ?_) h
  · refine ⟨_, rn_6_0 hR _, ?_⟩
    refine ⟨on_1, ?_⟩
    refine t_X9_isSign hR (fun r7 u8 hd h => ?_) hd h
    refine ite_mono (fun hc h => ?_) (fun hc h => ?_) h
    · refine ⟨_, rn_6_0 hR _, ?_⟩
      refine ⟨on_1, ?_⟩
      refine t_X9_isSign hR (fun r10 u11 hd h => ?_) hd h
      refine ite_mono (fun hc h => ?_) (fun hc h => ?_) h
      · exact t_X8_readComparison_p60 hR @hS hQ hd h
      · exact t_X8_readComparison_p60 hR @hS hQ hd h
    · exact t_X8_readComparison_p60 hR @hS hQ hd h
  · exact t_X8_readComparison_p60 hR @hS hQ hd h
/-! CalledRiver$SumReader.readFact -/
set_option maxHeartbeats 4000000 in
set_option maxRecDepth 100000 in
def s_X8_readFact (RS : Nat → Int32 → (St → Prop) → St → Prop) (v1 : Int32) (Q : St → Prop) (u : St) : Prop :=
  s_X9_wordIn 15 (fun r2 u3 => if r2 = 0 then (s_X8_opens v1 (fun r25 u26 => if r25 = 0 then (Q u26) else (RS 2 (v1 + (1 : Int32)) (fun u28 => s_X0_add u28.2.2.2.2.1 (10023 : Int32) (fun u31 => Q u31) u28) u26)) u3) else (s_X9_isSign (91 : Int32) (fun r5 u6 => if r5 = 0 then (s_X9_wordIn 16 (fun r8 u9 => if r8 = 0 then (s_X9_advance  (fun u14 => s_X0_add u14.2.2.2.2.1 (1 : Int32) (fun u17 => Q u17) u14) u9) else (RS 3 v1 (fun u11 => Q u11) u9)) u6) else (s_X8_opens v1 (fun r18 u19 => if r18 = 0 then (Q u19) else (RS 0 (v1 + (1 : Int32)) (fun u21 => s_X9_takeSign (93 : Int32) (fun u24 => Q u24) u21) u19)) u6)) u3)) u
set_option maxHeartbeats 4000000 in
set_option maxRecDepth 100000 in
theorem t_X8_readFact {ρ : Nat → Nat → Option Nat} {RS : Nat → Int32 → (St → Prop) → St → Prop} {RW : Nat → Shp → Nat → Int32 → (Mem → Prop) → Mem → Prop} (hR : RfH ρ) (hS : ∀ {w : Nat} {x : Int32} {Q : St → Prop} {QW : Mem → Prop} {u : St}, (∀ u, DK u → Q u → QW (emb ρ u)) → DK u → RS w x Q u → RW w SH 6 x QW (emb ρ u)) {v1 : Int32} {Q : St → Prop} {QW : Mem → Prop} (hQ : ∀ (u : St), DK u → Q u → QW (emb ρ u)) {u : St} (hd : DK u) (h : s_X8_readFact RS v1 Q u) : wp_X8_readFact RW SH 6 v1 QW (emb ρ u) := by
  unfold wp_X8_readFact
  unfold s_X8_readFact at h
  refine ⟨on_6, ?_⟩
  refine ⟨_, rn_6_0 hR _, ?_⟩
  refine ⟨on_1, ?_⟩
  refine t_X9_wordIn hR (fun r2 u3 hd h => ?_) hd h
  refine ite_mono (fun hc h => ?_) (fun hc h => ?_) h
  · refine t_X8_opens hR (fun r25 u26 hd h => ?_) hd h
    refine ite_mono (fun hc h => ?_) (fun hc h => ?_) h
    · exact hQ _ hd h
    · refine hS (fun u28 hd h => ?_) hd h
      refine ⟨_, rfl, ?_⟩
      have db29 := hd.2.2.1
      refine ⟨db29, ?_⟩
      refine t_X0_add hR db29 (fun u31 hd h => ?_) hd h
      exact hQ _ hd h
  · refine ⟨_, rn_6_0 hR _, ?_⟩
    refine ⟨on_1, ?_⟩
    refine t_X9_isSign hR (fun r5 u6 hd h => ?_) hd h
    refine ite_mono (fun hc h => ?_) (fun hc h => ?_) h
    · refine ⟨_, rn_6_0 hR _, ?_⟩
      refine ⟨on_1, ?_⟩
      refine t_X9_wordIn hR (fun r8 u9 hd h => ?_) hd h
      refine ite_mono (fun hc h => ?_) (fun hc h => ?_) h
      · refine ⟨_, rn_6_0 hR _, ?_⟩
        refine ⟨on_1, ?_⟩
        refine t_X9_advance hR (fun u14 hd h => ?_) hd h
        refine ⟨_, rfl, ?_⟩
        have db15 := hd.2.2.1
        refine ⟨db15, ?_⟩
        refine t_X0_add hR db15 (fun u17 hd h => ?_) hd h
        exact hQ _ hd h
      · refine hS (fun u11 hd h => ?_) hd h
        exact hQ _ hd h
    · refine t_X8_opens hR (fun r18 u19 hd h => ?_) hd h
      refine ite_mono (fun hc h => ?_) (fun hc h => ?_) h
      · exact hQ _ hd h
      · refine hS (fun u21 hd h => ?_) hd h
        refine ⟨_, rn_6_0 hR _, ?_⟩
        refine ⟨on_1, ?_⟩
        refine t_X9_takeSign hR (fun u24 hd h => ?_) hd h
        exact hQ _ hd h
/-! CalledRiver$SumReader.readNamedFact -/
set_option maxHeartbeats 4000000 in
set_option maxRecDepth 100000 in
def sX8_readNamedFact_p26 (Q : St → Prop) (u : St) : Prop :=
  s_X9_fail (1 : Int32) (u.1 1 3) (fun u12 => Q u12) u
set_option maxHeartbeats 4000000 in
set_option maxRecDepth 100000 in
def s_X8_readNamedFact (Q : St → Prop) (u : St) : Prop :=
  s_X9_wordIn 13 (fun r2 u3 => if r2 = (-1 : Int32) then (sX8_readNamedFact_p26 Q u3) else (if (((u3.1 6 2) >>> (r2 &&& 31)) &&& (1 : Int32)) = 0 then (sX8_readNamedFact_p26 Q u3) else (s_X9_advance  (fun u6 => s_X0_add u6.2.2.2.2.1 ((10000 : Int32) + r2) (fun u9 => Q u9) u6) u3))) u
set_option maxHeartbeats 4000000 in
set_option maxRecDepth 100000 in
theorem t_X8_readNamedFact_p26 {ρ : Nat → Nat → Option Nat} (hR : RfH ρ) {Q : St → Prop} {QW : Mem → Prop} (hQ : ∀ (u : St), DK u → Q u → QW (emb ρ u)) {u : St} (hd : DK u) (h : sX8_readNamedFact_p26 Q u) : X8_readNamedFact_p26 SH 6 QW (emb ρ u) := by
  unfold X8_readNamedFact_p26
  unfold sX8_readNamedFact_p26 at h
  refine ⟨on_6, ?_⟩
  refine ⟨_, rn_6_0 hR _, ?_⟩
  refine ⟨on_1, ?_⟩
  refine t_X9_fail hR (fun u12 hd h => ?_) hd h
  exact hQ _ hd h
set_option maxHeartbeats 4000000 in
set_option maxRecDepth 100000 in
theorem t_X8_readNamedFact {ρ : Nat → Nat → Option Nat} (hR : RfH ρ) {Q : St → Prop} {QW : Mem → Prop} (hQ : ∀ (u : St), DK u → Q u → QW (emb ρ u)) {u : St} (hd : DK u) (h : s_X8_readNamedFact Q u) : wp_X8_readNamedFact SH 6 QW (emb ρ u) := by
  unfold wp_X8_readNamedFact
  unfold s_X8_readNamedFact at h
  refine ⟨on_6, ?_⟩
  refine ⟨_, rn_6_0 hR _, ?_⟩
  refine ⟨on_1, ?_⟩
  refine t_X9_wordIn hR (fun r2 u3 hd h => ?_) hd h
  refine ite_mono (fun hc h => ?_) (fun hc h => ?_) h
  · exact t_X8_readNamedFact_p26 hR hQ hd h
  · refine ite_mono (fun hc h => ?_) (fun hc h => ?_) h
    · exact t_X8_readNamedFact_p26 hR hQ hd h
    · refine ⟨_, rn_6_0 hR _, ?_⟩
      refine ⟨on_1, ?_⟩
      refine t_X9_advance hR (fun u6 hd h => ?_) hd h
      refine ⟨_, rfl, ?_⟩
      have db7 := hd.2.2.1
      refine ⟨db7, ?_⟩
      refine t_X0_add hR db7 (fun u9 hd h => ?_) hd h
      exact hQ _ hd h
/-! CalledRiver$SumReader.readOfCaller -/
set_option maxHeartbeats 4000000 in
set_option maxRecDepth 100000 in
def sX8_readOfCaller_p21 (RS : Nat → Int32 → (St → Prop) → St → Prop) (v1 : Int32) (s0 : Int32) (Q : St → Prop) (u : St) : Prop :=
  s_X8_opens v1 (fun r4 u5 => if r4 = 0 then (Q u5) else (RS 6 (v1 + (1 : Int32)) (fun u7 => s_X0_add u7.2.2.2.2.1 s0 (fun u10 => Q u10) u7) u5)) u
set_option maxHeartbeats 4000000 in
set_option maxRecDepth 100000 in
def s_X8_readOfCaller (RS : Nat → Int32 → (St → Prop) → St → Prop) (v1 : Int32) (Q : St → Prop) (u : St) : Prop :=
  s_X9_wordIn 12 (fun r2 u3 => if r2 = 0 then (sX8_readOfCaller_p21 RS v1 (10024 : Int32) Q u3) else (sX8_readOfCaller_p21 RS v1 (10025 : Int32) Q u3)) u
set_option maxHeartbeats 4000000 in
set_option maxRecDepth 100000 in
theorem t_X8_readOfCaller_p21 {ρ : Nat → Nat → Option Nat} {RS : Nat → Int32 → (St → Prop) → St → Prop} {RW : Nat → Shp → Nat → Int32 → (Mem → Prop) → Mem → Prop} (hR : RfH ρ) (hS : ∀ {w : Nat} {x : Int32} {Q : St → Prop} {QW : Mem → Prop} {u : St}, (∀ u, DK u → Q u → QW (emb ρ u)) → DK u → RS w x Q u → RW w SH 6 x QW (emb ρ u)) {v1 : Int32} {s0 : Int32} {Q : St → Prop} {QW : Mem → Prop} (hQ : ∀ (u : St), DK u → Q u → QW (emb ρ u)) {u : St} (hd : DK u) (h : sX8_readOfCaller_p21 RS v1 s0 Q u) : X8_readOfCaller_p21 RW SH 6 v1 s0 QW (emb ρ u) := by
  unfold X8_readOfCaller_p21
  unfold sX8_readOfCaller_p21 at h
  refine ⟨on_6, ?_⟩
  refine t_X8_opens hR (fun r4 u5 hd h => ?_) hd h
  refine ite_mono (fun hc h => ?_) (fun hc h => ?_) h
  · exact hQ _ hd h
  · refine hS (fun u7 hd h => ?_) hd h
    refine ⟨_, rfl, ?_⟩
    have db8 := hd.2.2.1
    refine ⟨db8, ?_⟩
    refine t_X0_add hR db8 (fun u10 hd h => ?_) hd h
    exact hQ _ hd h
set_option maxHeartbeats 4000000 in
set_option maxRecDepth 100000 in
theorem t_X8_readOfCaller {ρ : Nat → Nat → Option Nat} {RS : Nat → Int32 → (St → Prop) → St → Prop} {RW : Nat → Shp → Nat → Int32 → (Mem → Prop) → Mem → Prop} (hR : RfH ρ) (hS : ∀ {w : Nat} {x : Int32} {Q : St → Prop} {QW : Mem → Prop} {u : St}, (∀ u, DK u → Q u → QW (emb ρ u)) → DK u → RS w x Q u → RW w SH 6 x QW (emb ρ u)) {v1 : Int32} {Q : St → Prop} {QW : Mem → Prop} (hQ : ∀ (u : St), DK u → Q u → QW (emb ρ u)) {u : St} (hd : DK u) (h : s_X8_readOfCaller RS v1 Q u) : wp_X8_readOfCaller RW SH 6 v1 QW (emb ρ u) := by
  unfold wp_X8_readOfCaller
  unfold s_X8_readOfCaller at h
  refine ⟨on_6, ?_⟩
  refine ⟨_, rn_6_0 hR _, ?_⟩
  refine ⟨on_1, ?_⟩
  refine t_X9_wordIn hR (fun r2 u3 hd h => ?_) hd h
  refine ite_mono (fun hc h => ?_) (fun hc h => ?_) h
  · exact t_X8_readOfCaller_p21 hR @hS hQ hd h
  · exact t_X8_readOfCaller_p21 hR @hS hQ hd h
/-! CalledRiver$SumReader.readPair -/
set_option maxHeartbeats 4000000 in
set_option maxRecDepth 100000 in
def sX8_readPair_p21 (RS : Nat → Int32 → (St → Prop) → St → Prop) (v1 : Int32) (s0 : Int32) (Q : St → Prop) (u : St) : Prop :=
  s_X9_advance  (fun u6 => s_X9_isSign (40 : Int32) (fun r8 u9 => if r8 = 0 then (s_X9_fail (1 : Int32) (u9.1 1 3) (fun u27 => Q u27) u9) else (s_X8_opens v1 (fun r10 u11 => if r10 = 0 then (Q u11) else (RS 4 (v1 + (1 : Int32)) (fun u13 => s_X9_takeSign (44 : Int32) (fun u16 => RS 4 (v1 + (1 : Int32)) (fun u18 => s_X9_takeSign (41 : Int32) (fun u21 => s_X0_add u21.2.2.2.2.1 s0 (fun u24 => Q u24) u21) u18) u16) u13) u11)) u9)) u6) u
set_option maxHeartbeats 4000000 in
set_option maxRecDepth 100000 in
def s_X8_readPair (RS : Nat → Int32 → (St → Prop) → St → Prop) (v1 : Int32) (Q : St → Prop) (u : St) : Prop :=
  s_X9_wordIn 10 (fun r2 u3 => if r2 = 0 then (sX8_readPair_p21 RS v1 (10030 : Int32) Q u3) else (sX8_readPair_p21 RS v1 (10031 : Int32) Q u3)) u
set_option maxHeartbeats 4000000 in
set_option maxRecDepth 100000 in
theorem t_X8_readPair_p21 {ρ : Nat → Nat → Option Nat} {RS : Nat → Int32 → (St → Prop) → St → Prop} {RW : Nat → Shp → Nat → Int32 → (Mem → Prop) → Mem → Prop} (hR : RfH ρ) (hS : ∀ {w : Nat} {x : Int32} {Q : St → Prop} {QW : Mem → Prop} {u : St}, (∀ u, DK u → Q u → QW (emb ρ u)) → DK u → RS w x Q u → RW w SH 6 x QW (emb ρ u)) {v1 : Int32} {s0 : Int32} {Q : St → Prop} {QW : Mem → Prop} (hQ : ∀ (u : St), DK u → Q u → QW (emb ρ u)) {u : St} (hd : DK u) (h : sX8_readPair_p21 RS v1 s0 Q u) : X8_readPair_p21 RW SH 6 v1 s0 QW (emb ρ u) := by
  unfold X8_readPair_p21
  unfold sX8_readPair_p21 at h
  refine ⟨on_6, ?_⟩
  refine ⟨_, rn_6_0 hR _, ?_⟩
  refine ⟨on_1, ?_⟩
  refine t_X9_advance hR (fun u6 hd h => ?_) hd h
  refine ⟨_, rn_6_0 hR _, ?_⟩
  refine ⟨on_1, ?_⟩
  refine t_X9_isSign hR (fun r8 u9 hd h => ?_) hd h
  refine ite_mono (fun hc h => ?_) (fun hc h => ?_) h
  · refine ⟨_, rn_6_0 hR _, ?_⟩
    refine ⟨on_1, ?_⟩
    refine t_X9_fail hR (fun u27 hd h => ?_) hd h
    exact hQ _ hd h
  · refine t_X8_opens hR (fun r10 u11 hd h => ?_) hd h
    refine ite_mono (fun hc h => ?_) (fun hc h => ?_) h
    · exact hQ _ hd h
    · refine hS (fun u13 hd h => ?_) hd h
      refine ⟨_, rn_6_0 hR _, ?_⟩
      refine ⟨on_1, ?_⟩
      refine t_X9_takeSign hR (fun u16 hd h => ?_) hd h
      refine hS (fun u18 hd h => ?_) hd h
      refine ⟨_, rn_6_0 hR _, ?_⟩
      refine ⟨on_1, ?_⟩
      refine t_X9_takeSign hR (fun u21 hd h => ?_) hd h
      refine ⟨_, rfl, ?_⟩
      have db22 := hd.2.2.1
      refine ⟨db22, ?_⟩
      refine t_X0_add hR db22 (fun u24 hd h => ?_) hd h
      exact hQ _ hd h
set_option maxHeartbeats 4000000 in
set_option maxRecDepth 100000 in
theorem t_X8_readPair {ρ : Nat → Nat → Option Nat} {RS : Nat → Int32 → (St → Prop) → St → Prop} {RW : Nat → Shp → Nat → Int32 → (Mem → Prop) → Mem → Prop} (hR : RfH ρ) (hS : ∀ {w : Nat} {x : Int32} {Q : St → Prop} {QW : Mem → Prop} {u : St}, (∀ u, DK u → Q u → QW (emb ρ u)) → DK u → RS w x Q u → RW w SH 6 x QW (emb ρ u)) {v1 : Int32} {Q : St → Prop} {QW : Mem → Prop} (hQ : ∀ (u : St), DK u → Q u → QW (emb ρ u)) {u : St} (hd : DK u) (h : s_X8_readPair RS v1 Q u) : wp_X8_readPair RW SH 6 v1 QW (emb ρ u) := by
  unfold wp_X8_readPair
  unfold s_X8_readPair at h
  refine ⟨on_6, ?_⟩
  refine ⟨_, rn_6_0 hR _, ?_⟩
  refine ⟨on_1, ?_⟩
  refine t_X9_wordIn hR (fun r2 u3 hd h => ?_) hd h
  refine ite_mono (fun hc h => ?_) (fun hc h => ?_) h
  · exact t_X8_readPair_p21 hR @hS hQ hd h
  · exact t_X8_readPair_p21 hR @hS hQ hd h
/-! CalledRiver$SumReader.readPart -/
set_option maxHeartbeats 4000000 in
set_option maxRecDepth 100000 in
def sX8_readPart_p123 (RS : Nat → Int32 → (St → Prop) → St → Prop) (Q : St → Prop) (u : St) : Prop :=
  s_X8_readNamedFact  (fun u27 => Q u27) u
set_option maxHeartbeats 4000000 in
set_option maxRecDepth 100000 in
def s_X8_readPart (RS : Nat → Int32 → (St → Prop) → St → Prop) (v1 : Int32) (Q : St → Prop) (u : St) : Prop :=
  if (u.1 1 2) = (2 : Int32) then (s_X9_takeNumber (0 : Int32) (9999 : Int32) (fun r22 u23 => s_X0_add u.2.2.2.2.1 r22 (fun u25 => Q u25) u23) u) else (s_X9_isSign (40 : Int32) (fun r2 u3 => if r2 = 0 then (s_X9_wordIn 9 (fun r5 u6 => if r5 = (-1 : Int32) then (if (u6.1 6 2) = (7719 : Int32) then (s_X9_wordIn 11 (fun r8 u9 => if r8 = (-1 : Int32) then (sX8_readPart_p123 RS Q u9) else (RS 8 v1 (fun u11 => Q u11) u9)) u6) else (sX8_readPart_p123 RS Q u6)) else (RS 7 v1 (fun u13 => Q u13) u6)) u3) else (s_X8_opens v1 (fun r14 u15 => if r14 = 0 then (Q u15) else (RS 4 (v1 + (1 : Int32)) (fun u17 => s_X9_takeSign (41 : Int32) (fun u20 => Q u20) u17) u15)) u3)) u)
set_option maxHeartbeats 4000000 in
set_option maxRecDepth 100000 in
theorem t_X8_readPart_p123 {ρ : Nat → Nat → Option Nat} {RS : Nat → Int32 → (St → Prop) → St → Prop} {RW : Nat → Shp → Nat → Int32 → (Mem → Prop) → Mem → Prop} (hR : RfH ρ) (hS : ∀ {w : Nat} {x : Int32} {Q : St → Prop} {QW : Mem → Prop} {u : St}, (∀ u, DK u → Q u → QW (emb ρ u)) → DK u → RS w x Q u → RW w SH 6 x QW (emb ρ u)) {Q : St → Prop} {QW : Mem → Prop} (hQ : ∀ (u : St), DK u → Q u → QW (emb ρ u)) {u : St} (hd : DK u) (h : sX8_readPart_p123 RS Q u) : X8_readPart_p123 RW SH 6 QW (emb ρ u) := by
  unfold X8_readPart_p123
  unfold sX8_readPart_p123 at h
  refine ⟨on_6, ?_⟩
  refine t_X8_readNamedFact hR (fun u27 hd h => ?_) hd h
  exact hQ _ hd h
set_option maxHeartbeats 4000000 in
set_option maxRecDepth 100000 in
theorem t_X8_readPart {ρ : Nat → Nat → Option Nat} {RS : Nat → Int32 → (St → Prop) → St → Prop} {RW : Nat → Shp → Nat → Int32 → (Mem → Prop) → Mem → Prop} (hR : RfH ρ) (hS : ∀ {w : Nat} {x : Int32} {Q : St → Prop} {QW : Mem → Prop} {u : St}, (∀ u, DK u → Q u → QW (emb ρ u)) → DK u → RS w x Q u → RW w SH 6 x QW (emb ρ u)) {v1 : Int32} {Q : St → Prop} {QW : Mem → Prop} (hQ : ∀ (u : St), DK u → Q u → QW (emb ρ u)) {u : St} (hd : DK u) (h : s_X8_readPart RS v1 Q u) : wp_X8_readPart RW SH 6 v1 QW (emb ρ u) := by
  unfold wp_X8_readPart
  unfold s_X8_readPart at h
  refine ⟨on_6, ?_⟩
  refine ⟨_, rn_6_0 hR _, ?_⟩
  refine ⟨on_1, ?_⟩
  refine ite_mono (fun hc h => ?_) (fun hc h => ?_) h
  · refine ⟨_, rfl, ?_⟩
    have db21 := hd.2.2.1
    refine t_X9_takeNumber hR (fun r22 u23 hd h => ?_) hd h
    refine ⟨db21, ?_⟩
    refine t_X0_add hR db21 (fun u25 hd h => ?_) hd h
    exact hQ _ hd h
  · refine t_X9_isSign hR (fun r2 u3 hd h => ?_) hd h
    refine ite_mono (fun hc h => ?_) (fun hc h => ?_) h
    · refine ⟨_, rn_6_0 hR _, ?_⟩
      refine ⟨on_1, ?_⟩
      refine t_X9_wordIn hR (fun r5 u6 hd h => ?_) hd h
      refine ite_mono (fun hc h => ?_) (fun hc h => ?_) h
      · refine ite_mono (fun hc h => ?_) (fun hc h => ?_) h
        · refine ⟨_, rn_6_0 hR _, ?_⟩
          refine ⟨on_1, ?_⟩
          refine t_X9_wordIn hR (fun r8 u9 hd h => ?_) hd h
          refine ite_mono (fun hc h => ?_) (fun hc h => ?_) h
          · exact t_X8_readPart_p123 hR @hS hQ hd h
          · refine hS (fun u11 hd h => ?_) hd h
            exact hQ _ hd h
        · exact t_X8_readPart_p123 hR @hS hQ hd h
      · refine hS (fun u13 hd h => ?_) hd h
        exact hQ _ hd h
    · refine t_X8_opens hR (fun r14 u15 hd h => ?_) hd h
      refine ite_mono (fun hc h => ?_) (fun hc h => ?_) h
      · exact hQ _ hd h
      · refine hS (fun u17 hd h => ?_) hd h
        refine ⟨_, rn_6_0 hR _, ?_⟩
        refine ⟨on_1, ?_⟩
        refine t_X9_takeSign hR (fun u20 hd h => ?_) hd h
        exact hQ _ hd h
/-! CalledRiver$SumReader.readProduct -/
set_option maxHeartbeats 4000000 in
set_option maxRecDepth 100000 in
def sX8_readProduct_p59 (RS : Nat → Int32 → (St → Prop) → St → Prop) (v1 : Int32) (v2 : Int32) (s0 : Int32) (Q : St → Prop) (K7 : Int32 → St → Prop) (u : St) : Prop :=
  s_X9_advance  (fun u14 => RS 6 v1 (fun u16 => s_X0_add u16.2.2.2.2.1 s0 (fun u19 => K7 (v2 + (1 : Int32)) u19) u16) u14) u
set_option maxHeartbeats 4000000 in
set_option maxRecDepth 100000 in
def sX8_readProduct_p38 (RS : Nat → Int32 → (St → Prop) → St → Prop) (v1 : Int32) (v2 : Int32) (Q : St → Prop) (K7 : Int32 → St → Prop) (u : St) : Prop :=
  s_X9_isSign (42 : Int32) (fun r10 u11 => if r10 = 0 then (sX8_readProduct_p59 RS v1 v2 (10029 : Int32) Q K7 u11) else (sX8_readProduct_p59 RS v1 v2 (10028 : Int32) Q K7 u11)) u
set_option maxHeartbeats 4000000 in
set_option maxRecDepth 100000 in
def sX8_readProduct_p7b (RS : Nat → Int32 → (St → Prop) → St → Prop) (v1 : Int32) (Q : St → Prop) (K7 : Int32 → St → Prop) (v2 : Int32) (u : St) : Prop :=
  if (1600 : Int32) ≤ v2 then (Q u) else (s_X9_isSign (42 : Int32) (fun r4 u5 => if r4 = 0 then (s_X9_isSign (47 : Int32) (fun r7 u8 => if r7 = 0 then (Q u8) else (sX8_readProduct_p38 RS v1 v2 Q K7 u8)) u5) else (sX8_readProduct_p38 RS v1 v2 Q K7 u5)) u)
set_option maxHeartbeats 4000000 in
set_option maxRecDepth 100000 in
def sX8_readProduct_p7n (RS : Nat → Int32 → (St → Prop) → St → Prop) (v1 : Int32) (Q : St → Prop) : Nat → Int32 → St → Prop
  | 0 => fun _ _ => False
  | n + 1 => sX8_readProduct_p7b RS v1 Q (sX8_readProduct_p7n RS v1 Q n)
set_option maxHeartbeats 4000000 in
set_option maxRecDepth 100000 in
def sX8_readProduct_p7 (RS : Nat → Int32 → (St → Prop) → St → Prop) (v1 : Int32) (Q : St → Prop) (v2 : Int32) (u : St) : Prop := ∃ n, sX8_readProduct_p7n RS v1 Q n v2 u
set_option maxHeartbeats 4000000 in
set_option maxRecDepth 100000 in
def s_X8_readProduct (RS : Nat → Int32 → (St → Prop) → St → Prop) (v1 : Int32) (Q : St → Prop) (u : St) : Prop :=
  RS 6 v1 (fun u2 => sX8_readProduct_p7 RS v1 Q (0 : Int32) u2) u
set_option maxHeartbeats 4000000 in
set_option maxRecDepth 100000 in
theorem t_X8_readProduct_p59 {ρ : Nat → Nat → Option Nat} {RS : Nat → Int32 → (St → Prop) → St → Prop} {RW : Nat → Shp → Nat → Int32 → (Mem → Prop) → Mem → Prop} (hR : RfH ρ) (hS : ∀ {w : Nat} {x : Int32} {Q : St → Prop} {QW : Mem → Prop} {u : St}, (∀ u, DK u → Q u → QW (emb ρ u)) → DK u → RS w x Q u → RW w SH 6 x QW (emb ρ u)) {v1 : Int32} {v2 : Int32} {s0 : Int32} {Q : St → Prop} {QW : Mem → Prop} {K7 : Int32 → St → Prop} {KW7 : Int32 → Mem → Prop} (hQ : ∀ (u : St), DK u → Q u → QW (emb ρ u)) (hK7 : ∀ (x2 : Int32) (u : St), DK u → K7 x2 u → KW7 x2 (emb ρ u)) {u : St} (hd : DK u) (h : sX8_readProduct_p59 RS v1 v2 s0 Q K7 u) : X8_readProduct_p59 RW SH 6 v1 v2 s0 QW KW7 (emb ρ u) := by
  unfold X8_readProduct_p59
  unfold sX8_readProduct_p59 at h
  refine ⟨on_6, ?_⟩
  refine ⟨_, rn_6_0 hR _, ?_⟩
  refine ⟨on_1, ?_⟩
  refine t_X9_advance hR (fun u14 hd h => ?_) hd h
  refine hS (fun u16 hd h => ?_) hd h
  refine ⟨_, rfl, ?_⟩
  have db17 := hd.2.2.1
  refine ⟨db17, ?_⟩
  refine t_X0_add hR db17 (fun u19 hd h => ?_) hd h
  exact hK7 _ _ hd h
set_option maxHeartbeats 4000000 in
set_option maxRecDepth 100000 in
theorem t_X8_readProduct_p38 {ρ : Nat → Nat → Option Nat} {RS : Nat → Int32 → (St → Prop) → St → Prop} {RW : Nat → Shp → Nat → Int32 → (Mem → Prop) → Mem → Prop} (hR : RfH ρ) (hS : ∀ {w : Nat} {x : Int32} {Q : St → Prop} {QW : Mem → Prop} {u : St}, (∀ u, DK u → Q u → QW (emb ρ u)) → DK u → RS w x Q u → RW w SH 6 x QW (emb ρ u)) {v1 : Int32} {v2 : Int32} {Q : St → Prop} {QW : Mem → Prop} {K7 : Int32 → St → Prop} {KW7 : Int32 → Mem → Prop} (hQ : ∀ (u : St), DK u → Q u → QW (emb ρ u)) (hK7 : ∀ (x2 : Int32) (u : St), DK u → K7 x2 u → KW7 x2 (emb ρ u)) {u : St} (hd : DK u) (h : sX8_readProduct_p38 RS v1 v2 Q K7 u) : X8_readProduct_p38 RW SH 6 v1 v2 QW KW7 (emb ρ u) := by
  unfold X8_readProduct_p38
  unfold sX8_readProduct_p38 at h
  refine ⟨on_6, ?_⟩
  refine ⟨_, rn_6_0 hR _, ?_⟩
  refine ⟨on_1, ?_⟩
  refine t_X9_isSign hR (fun r10 u11 hd h => ?_) hd h
  refine ite_mono (fun hc h => ?_) (fun hc h => ?_) h
  · exact t_X8_readProduct_p59 hR @hS hQ hK7 hd h
  · exact t_X8_readProduct_p59 hR @hS hQ hK7 hd h
set_option maxHeartbeats 4000000 in
set_option maxRecDepth 100000 in
theorem t_X8_readProduct_p7b {ρ : Nat → Nat → Option Nat} {RS : Nat → Int32 → (St → Prop) → St → Prop} {RW : Nat → Shp → Nat → Int32 → (Mem → Prop) → Mem → Prop} (hR : RfH ρ) (hS : ∀ {w : Nat} {x : Int32} {Q : St → Prop} {QW : Mem → Prop} {u : St}, (∀ u, DK u → Q u → QW (emb ρ u)) → DK u → RS w x Q u → RW w SH 6 x QW (emb ρ u)) {v1 : Int32} {v2 : Int32} {Q : St → Prop} {QW : Mem → Prop} (hQ : ∀ (u : St), DK u → Q u → QW (emb ρ u)) {K7 : Int32 → St → Prop} {KW7 : Int32 → Mem → Prop} (hK7 : ∀ (x2 : Int32) (u : St), DK u → K7 x2 u → KW7 x2 (emb ρ u)) {u : St} (hd : DK u) (h : sX8_readProduct_p7b RS v1 Q K7 v2 u) : X8_readProduct_p7b RW SH 6 v1 QW KW7 v2 (emb ρ u) := by
  unfold X8_readProduct_p7b
  unfold sX8_readProduct_p7b at h
  refine ite_mono (fun hc h => ?_) (fun hc h => ?_) h
  · exact hQ _ hd h
  · refine ⟨on_6, ?_⟩
    refine ⟨_, rn_6_0 hR _, ?_⟩
    refine ⟨on_1, ?_⟩
    refine t_X9_isSign hR (fun r4 u5 hd h => ?_) hd h
    refine ite_mono (fun hc h => ?_) (fun hc h => ?_) h
    · refine ⟨_, rn_6_0 hR _, ?_⟩
      refine ⟨on_1, ?_⟩
      refine t_X9_isSign hR (fun r7 u8 hd h => ?_) hd h
      refine ite_mono (fun hc h => ?_) (fun hc h => ?_) h
      · exact hQ _ hd h
      · exact t_X8_readProduct_p38 hR @hS hQ hK7 hd h
    · exact t_X8_readProduct_p38 hR @hS hQ hK7 hd h
set_option maxHeartbeats 4000000 in
set_option maxRecDepth 100000 in
theorem t_X8_readProduct_p7n {ρ : Nat → Nat → Option Nat} {RS : Nat → Int32 → (St → Prop) → St → Prop} {RW : Nat → Shp → Nat → Int32 → (Mem → Prop) → Mem → Prop} (hR : RfH ρ) (hS : ∀ {w : Nat} {x : Int32} {Q : St → Prop} {QW : Mem → Prop} {u : St}, (∀ u, DK u → Q u → QW (emb ρ u)) → DK u → RS w x Q u → RW w SH 6 x QW (emb ρ u)) {v1 : Int32} {Q : St → Prop} {QW : Mem → Prop} (hQ : ∀ (u : St), DK u → Q u → QW (emb ρ u)) : ∀ (n : Nat) (v2 : Int32) (u : St), DK u → sX8_readProduct_p7n RS v1 Q n v2 u → X8_readProduct_p7n RW SH 6 v1 QW n v2 (emb ρ u)
  | 0, _, _,  _, h => h.elim
  | n + 1, v2,  u,  hd, h => t_X8_readProduct_p7b hR @hS hQ (fun v2 u  hd h => t_X8_readProduct_p7n hR @hS hQ n v2 u  hd h) hd h
set_option maxHeartbeats 4000000 in
set_option maxRecDepth 100000 in
theorem t_X8_readProduct_p7 {ρ : Nat → Nat → Option Nat} {RS : Nat → Int32 → (St → Prop) → St → Prop} {RW : Nat → Shp → Nat → Int32 → (Mem → Prop) → Mem → Prop} (hR : RfH ρ) (hS : ∀ {w : Nat} {x : Int32} {Q : St → Prop} {QW : Mem → Prop} {u : St}, (∀ u, DK u → Q u → QW (emb ρ u)) → DK u → RS w x Q u → RW w SH 6 x QW (emb ρ u)) {v1 : Int32} {v2 : Int32} {Q : St → Prop} {QW : Mem → Prop} (hQ : ∀ (u : St), DK u → Q u → QW (emb ρ u)) {u : St} (hd : DK u) (h : sX8_readProduct_p7 RS v1 Q v2 u) : X8_readProduct_p7 RW SH 6 v1 QW v2 (emb ρ u) := h.elim (fun n h => ⟨n, t_X8_readProduct_p7n hR @hS hQ n _ _ hd h⟩)
set_option maxHeartbeats 4000000 in
set_option maxRecDepth 100000 in
theorem t_X8_readProduct {ρ : Nat → Nat → Option Nat} {RS : Nat → Int32 → (St → Prop) → St → Prop} {RW : Nat → Shp → Nat → Int32 → (Mem → Prop) → Mem → Prop} (hR : RfH ρ) (hS : ∀ {w : Nat} {x : Int32} {Q : St → Prop} {QW : Mem → Prop} {u : St}, (∀ u, DK u → Q u → QW (emb ρ u)) → DK u → RS w x Q u → RW w SH 6 x QW (emb ρ u)) {v1 : Int32} {Q : St → Prop} {QW : Mem → Prop} (hQ : ∀ (u : St), DK u → Q u → QW (emb ρ u)) {u : St} (hd : DK u) (h : s_X8_readProduct RS v1 Q u) : wp_X8_readProduct RW SH 6 v1 QW (emb ρ u) := by
  unfold wp_X8_readProduct
  unfold s_X8_readProduct at h
  refine ⟨on_6, ?_⟩
  refine hS (fun u2 hd h => ?_) hd h
  exact t_X8_readProduct_p7 hR @hS hQ hd h
/-! CalledRiver$SumReader.readSum -/
set_option maxHeartbeats 4000000 in
set_option maxRecDepth 100000 in
def sX8_readSum_p59 (RS : Nat → Int32 → (St → Prop) → St → Prop) (v1 : Int32) (v2 : Int32) (s0 : Int32) (Q : St → Prop) (K7 : Int32 → St → Prop) (u : St) : Prop :=
  s_X9_advance  (fun u14 => RS 5 v1 (fun u16 => s_X0_add u16.2.2.2.2.1 s0 (fun u19 => K7 (v2 + (1 : Int32)) u19) u16) u14) u
set_option maxHeartbeats 4000000 in
set_option maxRecDepth 100000 in
def sX8_readSum_p38 (RS : Nat → Int32 → (St → Prop) → St → Prop) (v1 : Int32) (v2 : Int32) (Q : St → Prop) (K7 : Int32 → St → Prop) (u : St) : Prop :=
  s_X9_isSign (43 : Int32) (fun r10 u11 => if r10 = 0 then (sX8_readSum_p59 RS v1 v2 (10027 : Int32) Q K7 u11) else (sX8_readSum_p59 RS v1 v2 (10026 : Int32) Q K7 u11)) u
set_option maxHeartbeats 4000000 in
set_option maxRecDepth 100000 in
def sX8_readSum_p7b (RS : Nat → Int32 → (St → Prop) → St → Prop) (v1 : Int32) (Q : St → Prop) (K7 : Int32 → St → Prop) (v2 : Int32) (u : St) : Prop :=
  if (1600 : Int32) ≤ v2 then (Q u) else (s_X9_isSign (43 : Int32) (fun r4 u5 => if r4 = 0 then (s_X9_isSign (45 : Int32) (fun r7 u8 => if r7 = 0 then (Q u8) else (sX8_readSum_p38 RS v1 v2 Q K7 u8)) u5) else (sX8_readSum_p38 RS v1 v2 Q K7 u5)) u)
set_option maxHeartbeats 4000000 in
set_option maxRecDepth 100000 in
def sX8_readSum_p7n (RS : Nat → Int32 → (St → Prop) → St → Prop) (v1 : Int32) (Q : St → Prop) : Nat → Int32 → St → Prop
  | 0 => fun _ _ => False
  | n + 1 => sX8_readSum_p7b RS v1 Q (sX8_readSum_p7n RS v1 Q n)
set_option maxHeartbeats 4000000 in
set_option maxRecDepth 100000 in
def sX8_readSum_p7 (RS : Nat → Int32 → (St → Prop) → St → Prop) (v1 : Int32) (Q : St → Prop) (v2 : Int32) (u : St) : Prop := ∃ n, sX8_readSum_p7n RS v1 Q n v2 u
set_option maxHeartbeats 4000000 in
set_option maxRecDepth 100000 in
def s_X8_readSum (RS : Nat → Int32 → (St → Prop) → St → Prop) (v1 : Int32) (Q : St → Prop) (u : St) : Prop :=
  RS 5 v1 (fun u2 => sX8_readSum_p7 RS v1 Q (0 : Int32) u2) u
set_option maxHeartbeats 4000000 in
set_option maxRecDepth 100000 in
theorem t_X8_readSum_p59 {ρ : Nat → Nat → Option Nat} {RS : Nat → Int32 → (St → Prop) → St → Prop} {RW : Nat → Shp → Nat → Int32 → (Mem → Prop) → Mem → Prop} (hR : RfH ρ) (hS : ∀ {w : Nat} {x : Int32} {Q : St → Prop} {QW : Mem → Prop} {u : St}, (∀ u, DK u → Q u → QW (emb ρ u)) → DK u → RS w x Q u → RW w SH 6 x QW (emb ρ u)) {v1 : Int32} {v2 : Int32} {s0 : Int32} {Q : St → Prop} {QW : Mem → Prop} {K7 : Int32 → St → Prop} {KW7 : Int32 → Mem → Prop} (hQ : ∀ (u : St), DK u → Q u → QW (emb ρ u)) (hK7 : ∀ (x2 : Int32) (u : St), DK u → K7 x2 u → KW7 x2 (emb ρ u)) {u : St} (hd : DK u) (h : sX8_readSum_p59 RS v1 v2 s0 Q K7 u) : X8_readSum_p59 RW SH 6 v1 v2 s0 QW KW7 (emb ρ u) := by
  unfold X8_readSum_p59
  unfold sX8_readSum_p59 at h
  refine ⟨on_6, ?_⟩
  refine ⟨_, rn_6_0 hR _, ?_⟩
  refine ⟨on_1, ?_⟩
  refine t_X9_advance hR (fun u14 hd h => ?_) hd h
  refine hS (fun u16 hd h => ?_) hd h
  refine ⟨_, rfl, ?_⟩
  have db17 := hd.2.2.1
  refine ⟨db17, ?_⟩
  refine t_X0_add hR db17 (fun u19 hd h => ?_) hd h
  exact hK7 _ _ hd h
set_option maxHeartbeats 4000000 in
set_option maxRecDepth 100000 in
theorem t_X8_readSum_p38 {ρ : Nat → Nat → Option Nat} {RS : Nat → Int32 → (St → Prop) → St → Prop} {RW : Nat → Shp → Nat → Int32 → (Mem → Prop) → Mem → Prop} (hR : RfH ρ) (hS : ∀ {w : Nat} {x : Int32} {Q : St → Prop} {QW : Mem → Prop} {u : St}, (∀ u, DK u → Q u → QW (emb ρ u)) → DK u → RS w x Q u → RW w SH 6 x QW (emb ρ u)) {v1 : Int32} {v2 : Int32} {Q : St → Prop} {QW : Mem → Prop} {K7 : Int32 → St → Prop} {KW7 : Int32 → Mem → Prop} (hQ : ∀ (u : St), DK u → Q u → QW (emb ρ u)) (hK7 : ∀ (x2 : Int32) (u : St), DK u → K7 x2 u → KW7 x2 (emb ρ u)) {u : St} (hd : DK u) (h : sX8_readSum_p38 RS v1 v2 Q K7 u) : X8_readSum_p38 RW SH 6 v1 v2 QW KW7 (emb ρ u) := by
  unfold X8_readSum_p38
  unfold sX8_readSum_p38 at h
  refine ⟨on_6, ?_⟩
  refine ⟨_, rn_6_0 hR _, ?_⟩
  refine ⟨on_1, ?_⟩
  refine t_X9_isSign hR (fun r10 u11 hd h => ?_) hd h
  refine ite_mono (fun hc h => ?_) (fun hc h => ?_) h
  · exact t_X8_readSum_p59 hR @hS hQ hK7 hd h
  · exact t_X8_readSum_p59 hR @hS hQ hK7 hd h
set_option maxHeartbeats 4000000 in
set_option maxRecDepth 100000 in
theorem t_X8_readSum_p7b {ρ : Nat → Nat → Option Nat} {RS : Nat → Int32 → (St → Prop) → St → Prop} {RW : Nat → Shp → Nat → Int32 → (Mem → Prop) → Mem → Prop} (hR : RfH ρ) (hS : ∀ {w : Nat} {x : Int32} {Q : St → Prop} {QW : Mem → Prop} {u : St}, (∀ u, DK u → Q u → QW (emb ρ u)) → DK u → RS w x Q u → RW w SH 6 x QW (emb ρ u)) {v1 : Int32} {v2 : Int32} {Q : St → Prop} {QW : Mem → Prop} (hQ : ∀ (u : St), DK u → Q u → QW (emb ρ u)) {K7 : Int32 → St → Prop} {KW7 : Int32 → Mem → Prop} (hK7 : ∀ (x2 : Int32) (u : St), DK u → K7 x2 u → KW7 x2 (emb ρ u)) {u : St} (hd : DK u) (h : sX8_readSum_p7b RS v1 Q K7 v2 u) : X8_readSum_p7b RW SH 6 v1 QW KW7 v2 (emb ρ u) := by
  unfold X8_readSum_p7b
  unfold sX8_readSum_p7b at h
  refine ite_mono (fun hc h => ?_) (fun hc h => ?_) h
  · exact hQ _ hd h
  · refine ⟨on_6, ?_⟩
    refine ⟨_, rn_6_0 hR _, ?_⟩
    refine ⟨on_1, ?_⟩
    refine t_X9_isSign hR (fun r4 u5 hd h => ?_) hd h
    refine ite_mono (fun hc h => ?_) (fun hc h => ?_) h
    · refine ⟨_, rn_6_0 hR _, ?_⟩
      refine ⟨on_1, ?_⟩
      refine t_X9_isSign hR (fun r7 u8 hd h => ?_) hd h
      refine ite_mono (fun hc h => ?_) (fun hc h => ?_) h
      · exact hQ _ hd h
      · exact t_X8_readSum_p38 hR @hS hQ hK7 hd h
    · exact t_X8_readSum_p38 hR @hS hQ hK7 hd h
set_option maxHeartbeats 4000000 in
set_option maxRecDepth 100000 in
theorem t_X8_readSum_p7n {ρ : Nat → Nat → Option Nat} {RS : Nat → Int32 → (St → Prop) → St → Prop} {RW : Nat → Shp → Nat → Int32 → (Mem → Prop) → Mem → Prop} (hR : RfH ρ) (hS : ∀ {w : Nat} {x : Int32} {Q : St → Prop} {QW : Mem → Prop} {u : St}, (∀ u, DK u → Q u → QW (emb ρ u)) → DK u → RS w x Q u → RW w SH 6 x QW (emb ρ u)) {v1 : Int32} {Q : St → Prop} {QW : Mem → Prop} (hQ : ∀ (u : St), DK u → Q u → QW (emb ρ u)) : ∀ (n : Nat) (v2 : Int32) (u : St), DK u → sX8_readSum_p7n RS v1 Q n v2 u → X8_readSum_p7n RW SH 6 v1 QW n v2 (emb ρ u)
  | 0, _, _,  _, h => h.elim
  | n + 1, v2,  u,  hd, h => t_X8_readSum_p7b hR @hS hQ (fun v2 u  hd h => t_X8_readSum_p7n hR @hS hQ n v2 u  hd h) hd h
set_option maxHeartbeats 4000000 in
set_option maxRecDepth 100000 in
theorem t_X8_readSum_p7 {ρ : Nat → Nat → Option Nat} {RS : Nat → Int32 → (St → Prop) → St → Prop} {RW : Nat → Shp → Nat → Int32 → (Mem → Prop) → Mem → Prop} (hR : RfH ρ) (hS : ∀ {w : Nat} {x : Int32} {Q : St → Prop} {QW : Mem → Prop} {u : St}, (∀ u, DK u → Q u → QW (emb ρ u)) → DK u → RS w x Q u → RW w SH 6 x QW (emb ρ u)) {v1 : Int32} {v2 : Int32} {Q : St → Prop} {QW : Mem → Prop} (hQ : ∀ (u : St), DK u → Q u → QW (emb ρ u)) {u : St} (hd : DK u) (h : sX8_readSum_p7 RS v1 Q v2 u) : X8_readSum_p7 RW SH 6 v1 QW v2 (emb ρ u) := h.elim (fun n h => ⟨n, t_X8_readSum_p7n hR @hS hQ n _ _ hd h⟩)
set_option maxHeartbeats 4000000 in
set_option maxRecDepth 100000 in
theorem t_X8_readSum {ρ : Nat → Nat → Option Nat} {RS : Nat → Int32 → (St → Prop) → St → Prop} {RW : Nat → Shp → Nat → Int32 → (Mem → Prop) → Mem → Prop} (hR : RfH ρ) (hS : ∀ {w : Nat} {x : Int32} {Q : St → Prop} {QW : Mem → Prop} {u : St}, (∀ u, DK u → Q u → QW (emb ρ u)) → DK u → RS w x Q u → RW w SH 6 x QW (emb ρ u)) {v1 : Int32} {Q : St → Prop} {QW : Mem → Prop} (hQ : ∀ (u : St), DK u → Q u → QW (emb ρ u)) {u : St} (hd : DK u) (h : s_X8_readSum RS v1 Q u) : wp_X8_readSum RW SH 6 v1 QW (emb ρ u) := by
  unfold wp_X8_readSum
  unfold s_X8_readSum at h
  refine ⟨on_6, ?_⟩
  refine hS (fun u2 hd h => ?_) hd h
  exact t_X8_readSum_p7 hR @hS hQ hd h
/-! CalledRiver$SumReader.readTest -/
set_option maxHeartbeats 4000000 in
set_option maxRecDepth 100000 in
def sX8_readTest_p7b (RS : Nat → Int32 → (St → Prop) → St → Prop) (v1 : Int32) (Q : St → Prop) (K7 : Int32 → St → Prop) (v2 : Int32) (u : St) : Prop :=
  if (1600 : Int32) ≤ v2 then (Q u) else (s_X9_wordIn 18 (fun r4 u5 => if r4 = 0 then (s_X9_advance  (fun u8 => RS 1 v1 (fun u10 => s_X0_add u10.2.2.2.2.1 (10031 : Int32) (fun u13 => K7 (v2 + (1 : Int32)) u13) u10) u8) u5) else (Q u5)) u)
set_option maxHeartbeats 4000000 in
set_option maxRecDepth 100000 in
def sX8_readTest_p7n (RS : Nat → Int32 → (St → Prop) → St → Prop) (v1 : Int32) (Q : St → Prop) : Nat → Int32 → St → Prop
  | 0 => fun _ _ => False
  | n + 1 => sX8_readTest_p7b RS v1 Q (sX8_readTest_p7n RS v1 Q n)
set_option maxHeartbeats 4000000 in
set_option maxRecDepth 100000 in
def sX8_readTest_p7 (RS : Nat → Int32 → (St → Prop) → St → Prop) (v1 : Int32) (Q : St → Prop) (v2 : Int32) (u : St) : Prop := ∃ n, sX8_readTest_p7n RS v1 Q n v2 u
set_option maxHeartbeats 4000000 in
set_option maxRecDepth 100000 in
def s_X8_readTest (RS : Nat → Int32 → (St → Prop) → St → Prop) (v1 : Int32) (Q : St → Prop) (u : St) : Prop :=
  RS 1 v1 (fun u2 => sX8_readTest_p7 RS v1 Q (0 : Int32) u2) u
set_option maxHeartbeats 4000000 in
set_option maxRecDepth 100000 in
theorem t_X8_readTest_p7b {ρ : Nat → Nat → Option Nat} {RS : Nat → Int32 → (St → Prop) → St → Prop} {RW : Nat → Shp → Nat → Int32 → (Mem → Prop) → Mem → Prop} (hR : RfH ρ) (hS : ∀ {w : Nat} {x : Int32} {Q : St → Prop} {QW : Mem → Prop} {u : St}, (∀ u, DK u → Q u → QW (emb ρ u)) → DK u → RS w x Q u → RW w SH 6 x QW (emb ρ u)) {v1 : Int32} {v2 : Int32} {Q : St → Prop} {QW : Mem → Prop} (hQ : ∀ (u : St), DK u → Q u → QW (emb ρ u)) {K7 : Int32 → St → Prop} {KW7 : Int32 → Mem → Prop} (hK7 : ∀ (x2 : Int32) (u : St), DK u → K7 x2 u → KW7 x2 (emb ρ u)) {u : St} (hd : DK u) (h : sX8_readTest_p7b RS v1 Q K7 v2 u) : X8_readTest_p7b RW SH 6 v1 QW KW7 v2 (emb ρ u) := by
  unfold X8_readTest_p7b
  unfold sX8_readTest_p7b at h
  refine ite_mono (fun hc h => ?_) (fun hc h => ?_) h
  · exact hQ _ hd h
  · refine ⟨on_6, ?_⟩
    refine ⟨_, rn_6_0 hR _, ?_⟩
    refine ⟨on_1, ?_⟩
    refine t_X9_wordIn hR (fun r4 u5 hd h => ?_) hd h
    refine ite_mono (fun hc h => ?_) (fun hc h => ?_) h
    · refine ⟨_, rn_6_0 hR _, ?_⟩
      refine ⟨on_1, ?_⟩
      refine t_X9_advance hR (fun u8 hd h => ?_) hd h
      refine hS (fun u10 hd h => ?_) hd h
      refine ⟨_, rfl, ?_⟩
      have db11 := hd.2.2.1
      refine ⟨db11, ?_⟩
      refine t_X0_add hR db11 (fun u13 hd h => ?_) hd h
      exact hK7 _ _ hd h
    · exact hQ _ hd h
set_option maxHeartbeats 4000000 in
set_option maxRecDepth 100000 in
theorem t_X8_readTest_p7n {ρ : Nat → Nat → Option Nat} {RS : Nat → Int32 → (St → Prop) → St → Prop} {RW : Nat → Shp → Nat → Int32 → (Mem → Prop) → Mem → Prop} (hR : RfH ρ) (hS : ∀ {w : Nat} {x : Int32} {Q : St → Prop} {QW : Mem → Prop} {u : St}, (∀ u, DK u → Q u → QW (emb ρ u)) → DK u → RS w x Q u → RW w SH 6 x QW (emb ρ u)) {v1 : Int32} {Q : St → Prop} {QW : Mem → Prop} (hQ : ∀ (u : St), DK u → Q u → QW (emb ρ u)) : ∀ (n : Nat) (v2 : Int32) (u : St), DK u → sX8_readTest_p7n RS v1 Q n v2 u → X8_readTest_p7n RW SH 6 v1 QW n v2 (emb ρ u)
  | 0, _, _,  _, h => h.elim
  | n + 1, v2,  u,  hd, h => t_X8_readTest_p7b hR @hS hQ (fun v2 u  hd h => t_X8_readTest_p7n hR @hS hQ n v2 u  hd h) hd h
set_option maxHeartbeats 4000000 in
set_option maxRecDepth 100000 in
theorem t_X8_readTest_p7 {ρ : Nat → Nat → Option Nat} {RS : Nat → Int32 → (St → Prop) → St → Prop} {RW : Nat → Shp → Nat → Int32 → (Mem → Prop) → Mem → Prop} (hR : RfH ρ) (hS : ∀ {w : Nat} {x : Int32} {Q : St → Prop} {QW : Mem → Prop} {u : St}, (∀ u, DK u → Q u → QW (emb ρ u)) → DK u → RS w x Q u → RW w SH 6 x QW (emb ρ u)) {v1 : Int32} {v2 : Int32} {Q : St → Prop} {QW : Mem → Prop} (hQ : ∀ (u : St), DK u → Q u → QW (emb ρ u)) {u : St} (hd : DK u) (h : sX8_readTest_p7 RS v1 Q v2 u) : X8_readTest_p7 RW SH 6 v1 QW v2 (emb ρ u) := h.elim (fun n h => ⟨n, t_X8_readTest_p7n hR @hS hQ n _ _ hd h⟩)
set_option maxHeartbeats 4000000 in
set_option maxRecDepth 100000 in
theorem t_X8_readTest {ρ : Nat → Nat → Option Nat} {RS : Nat → Int32 → (St → Prop) → St → Prop} {RW : Nat → Shp → Nat → Int32 → (Mem → Prop) → Mem → Prop} (hR : RfH ρ) (hS : ∀ {w : Nat} {x : Int32} {Q : St → Prop} {QW : Mem → Prop} {u : St}, (∀ u, DK u → Q u → QW (emb ρ u)) → DK u → RS w x Q u → RW w SH 6 x QW (emb ρ u)) {v1 : Int32} {Q : St → Prop} {QW : Mem → Prop} (hQ : ∀ (u : St), DK u → Q u → QW (emb ρ u)) {u : St} (hd : DK u) (h : s_X8_readTest RS v1 Q u) : wp_X8_readTest RW SH 6 v1 QW (emb ρ u) := by
  unfold wp_X8_readTest
  unfold s_X8_readTest at h
  refine ⟨on_6, ?_⟩
  refine hS (fun u2 hd h => ?_) hd h
  exact t_X8_readTest_p7 hR @hS hQ hd h
def sG : Nat → Nat → Int32 → (St → Prop) → St → Prop
  | 0, _ => fun _ _ _ => False
  | d + 1, w => if w = 0 then s_X8_readTest (sG d) else if w = 1 then s_X8_readBoth (sG d) else if w = 2 then s_X8_readFact (sG d) else if w = 3 then s_X8_readComparison (sG d) else if w = 4 then s_X8_readSum (sG d) else if w = 5 then s_X8_readProduct (sG d) else if w = 6 then s_X8_readPart (sG d) else if w = 7 then s_X8_readPair (sG d) else s_X8_readOfCaller (sG d)
theorem tG {ρ : Nat → Nat → Option Nat} (hR : RfH ρ) : ∀ (d : Nat) {w : Nat} {x : Int32} {Q : St → Prop} {QW : Mem → Prop} {u : St}, (∀ u, DK u → Q u → QW (emb ρ u)) → DK u → sG d w x Q u → wpG d w SH 6 x QW (emb ρ u)
  | 0, _, _, _, _, _, _, _, h => h.elim
  | d + 1, w, x, Q, QW, u, hQ, hd, h => by
    unfold wpG
    unfold sG at h
    by_cases h0 : w = 0
    · rw [if_pos h0] at h ⊢
      exact t_X8_readTest hR (fun hQ hd h => tG hR d hQ hd h) hQ hd h
    rw [if_neg h0] at h ⊢
    by_cases h1 : w = 1
    · rw [if_pos h1] at h ⊢
      exact t_X8_readBoth hR (fun hQ hd h => tG hR d hQ hd h) hQ hd h
    rw [if_neg h1] at h ⊢
    by_cases h2 : w = 2
    · rw [if_pos h2] at h ⊢
      exact t_X8_readFact hR (fun hQ hd h => tG hR d hQ hd h) hQ hd h
    rw [if_neg h2] at h ⊢
    by_cases h3 : w = 3
    · rw [if_pos h3] at h ⊢
      exact t_X8_readComparison hR (fun hQ hd h => tG hR d hQ hd h) hQ hd h
    rw [if_neg h3] at h ⊢
    by_cases h4 : w = 4
    · rw [if_pos h4] at h ⊢
      exact t_X8_readSum hR (fun hQ hd h => tG hR d hQ hd h) hQ hd h
    rw [if_neg h4] at h ⊢
    by_cases h5 : w = 5
    · rw [if_pos h5] at h ⊢
      exact t_X8_readProduct hR (fun hQ hd h => tG hR d hQ hd h) hQ hd h
    rw [if_neg h5] at h ⊢
    by_cases h6 : w = 6
    · rw [if_pos h6] at h ⊢
      exact t_X8_readPart hR (fun hQ hd h => tG hR d hQ hd h) hQ hd h
    rw [if_neg h6] at h ⊢
    by_cases h7 : w = 7
    · rw [if_pos h7] at h ⊢
      exact t_X8_readPair hR (fun hQ hd h => tG hR d hQ hd h) hQ hd h
    rw [if_neg h7] at h ⊢
    exact t_X8_readOfCaller hR (fun hQ hd h => tG hR d hQ hd h) hQ hd h
