/-! CalledRiver$PlainReader.addMissingSums -/
set_option maxHeartbeats 4000000 in
set_option maxRecDepth 100000 in
def sX6_addMissingSums_p50 (Q : St → Prop) (u : St) : Prop :=
  s_X0_isEmpty (u.2.2.2.2.2 + 14) (fun r19 u20 => if r19 = 0 then (Q u20) else (s_X0_add (u20.2.2.2.2.2 + 14) (10001 : Int32) (fun u24 => Q u24) u20)) u
set_option maxHeartbeats 4000000 in
set_option maxRecDepth 100000 in
def s_X6_addMissingSums (Q : St → Prop) (u : St) : Prop :=
  s_X0_isEmpty (u.2.2.2.2.2 + 11) (fun r3 u4 => if r3 = 0 then (sX6_addMissingSums_p50 Q u4) else (s_X0_add (u4.2.2.2.2.2 + 11) (0 : Int32) (fun u8 => s_X0_add (u8.2.2.2.2.2 + 11) (10006 : Int32) (fun u12 => s_X0_add (u12.2.2.2.2.2 + 11) (10027 : Int32) (fun u16 => sX6_addMissingSums_p50 Q u16) u12) u8) u4)) u
set_option maxHeartbeats 4000000 in
set_option maxRecDepth 100000 in
theorem t_X6_addMissingSums_p50 {ρ : Nat → Nat → Option Nat} (hR : RfH ρ) {Q : St → Prop} {QW : Mem → Prop} (hQ : ∀ (u : St), DK u → Q u → QW (emb ρ u)) {u : St} (hd : DK u) (h : sX6_addMissingSums_p50 Q u) : X6_addMissingSums_p50 SH 41 QW (emb ρ u) := by
  unfold X6_addMissingSums_p50
  unfold sX6_addMissingSums_p50 at h
  refine ⟨on_41, ?_⟩
  refine ⟨_, rfl, ?_⟩
  have db17 := hd.2.2.2
  refine ⟨db17, ?_⟩
  refine ⟨_, rr_5_16 hR _ db17, ?_⟩
  refine ⟨(ob_5_16 db17), ?_⟩
  refine t_X0_isEmpty hR (ob_5_16 db17) (fun r19 u20 hd h => ?_) hd h
  refine ite_mono (fun hc h => ?_) (fun hc h => ?_) h
  · exact hQ _ hd h
  · refine ⟨_, rfl, ?_⟩
    have db21 := hd.2.2.2
    refine ⟨db21, ?_⟩
    refine ⟨_, rr_5_16 hR _ db21, ?_⟩
    refine ⟨(ob_5_16 db21), ?_⟩
    refine t_X0_add hR (ob_5_16 db21) (fun u24 hd h => ?_) hd h
    exact hQ _ hd h
set_option maxHeartbeats 4000000 in
set_option maxRecDepth 100000 in
theorem t_X6_addMissingSums {ρ : Nat → Nat → Option Nat} (hR : RfH ρ) {Q : St → Prop} {QW : Mem → Prop} (hQ : ∀ (u : St), DK u → Q u → QW (emb ρ u)) {u : St} (hd : DK u) (h : s_X6_addMissingSums Q u) : wp_X6_addMissingSums SH 41 QW (emb ρ u) := by
  unfold wp_X6_addMissingSums
  unfold s_X6_addMissingSums at h
  refine ⟨on_41, ?_⟩
  refine ⟨_, rfl, ?_⟩
  have db1 := hd.2.2.2
  refine ⟨db1, ?_⟩
  refine ⟨_, rr_5_15 hR _ db1, ?_⟩
  refine ⟨(ob_5_15 db1), ?_⟩
  refine t_X0_isEmpty hR (ob_5_15 db1) (fun r3 u4 hd h => ?_) hd h
  refine ite_mono (fun hc h => ?_) (fun hc h => ?_) h
  · exact t_X6_addMissingSums_p50 hR hQ hd h
  · refine ⟨_, rfl, ?_⟩
    have db5 := hd.2.2.2
    refine ⟨db5, ?_⟩
    refine ⟨_, rr_5_15 hR _ db5, ?_⟩
    refine ⟨(ob_5_15 db5), ?_⟩
    refine t_X0_add hR (ob_5_15 db5) (fun u8 hd h => ?_) hd h
    refine ⟨_, rfl, ?_⟩
    have db9 := hd.2.2.2
    refine ⟨db9, ?_⟩
    refine ⟨_, rr_5_15 hR _ db9, ?_⟩
    refine ⟨(ob_5_15 db9), ?_⟩
    refine t_X0_add hR (ob_5_15 db9) (fun u12 hd h => ?_) hd h
    refine ⟨_, rfl, ?_⟩
    have db13 := hd.2.2.2
    refine ⟨db13, ?_⟩
    refine ⟨_, rr_5_15 hR _ db13, ?_⟩
    refine ⟨(ob_5_15 db13), ?_⟩
    refine t_X0_add hR (ob_5_15 db13) (fun u16 hd h => ?_) hd h
    exact t_X6_addMissingSums_p50 hR hQ hd h
/-! CalledRiver$PlainReader.hasMore -/
set_option maxHeartbeats 4000000 in
set_option maxRecDepth 100000 in
def s_X6_hasMore (Q : Int32 → St → Prop) (u : St) : Prop :=
  if (u.1 1 2) = 0 then (Q (0 : Int32) u) else (if (u.1 1 2) = (5 : Int32) then (Q (0 : Int32) u) else (Q (1 : Int32) u))
set_option maxHeartbeats 4000000 in
set_option maxRecDepth 100000 in
theorem t_X6_hasMore {ρ : Nat → Nat → Option Nat} (hR : RfH ρ) {Q : Int32 → St → Prop} {QW : Int32 → Mem → Prop} (hQ : ∀ (r : Int32) (u : St), DK u → Q r u → QW r (emb ρ u)) {u : St} (hd : DK u) (h : s_X6_hasMore Q u) : wp_X6_hasMore SH 41 QW (emb ρ u) := by
  unfold wp_X6_hasMore
  unfold s_X6_hasMore at h
  refine ⟨on_41, ?_⟩
  refine ⟨_, rn_41_0 hR _, ?_⟩
  refine ⟨on_1, ?_⟩
  refine ite_mono (fun hc h => ?_) (fun hc h => ?_) h
  · exact hQ _ _ hd h
  · refine ite_mono (fun hc h => ?_) (fun hc h => ?_) h
    · exact hQ _ _ hd h
    · exact hQ _ _ hd h
/-! CalledRiver$PlainReader.isFull -/
set_option maxHeartbeats 4000000 in
set_option maxRecDepth 100000 in
def s_X6_isFull (v1 : Int32) (Q : Int32 → St → Prop) (u : St) : Prop :=
  if v1 = (3 : Int32) then (if (u.1 u.2.2.2.2.2 3) = (6 : Int32) then (Q (1 : Int32) u) else (Q (0 : Int32) u)) else if v1 = (4 : Int32) then (if (u.1 u.2.2.2.2.2 4) = (5 : Int32) then (Q (1 : Int32) u) else (Q (0 : Int32) u)) else if v1 = (5 : Int32) then (s_X0_isEmpty (u.2.2.2.2.2 + 11) (fun r5 u6 => if r5 = 0 then (Q (1 : Int32) u6) else (Q (0 : Int32) u6)) u) else if v1 = (6 : Int32) then (s_X0_isEmpty (u.2.2.2.2.2 + 14) (fun r9 u10 => if r9 = 0 then (Q (1 : Int32) u10) else (Q (0 : Int32) u10)) u) else (Q (0 : Int32) u)
set_option maxHeartbeats 4000000 in
set_option maxRecDepth 100000 in
theorem t_X6_isFull {ρ : Nat → Nat → Option Nat} (hR : RfH ρ) {v1 : Int32} {Q : Int32 → St → Prop} {QW : Int32 → Mem → Prop} (hQ : ∀ (r : Int32) (u : St), DK u → Q r u → QW r (emb ρ u)) {u : St} (hd : DK u) (h : s_X6_isFull v1 Q u) : wp_X6_isFull SH 41 v1 QW (emb ρ u) := by
  unfold wp_X6_isFull
  unfold s_X6_isFull at h
  refine ite_mono (fun hc h => ?_) (fun hc h => ?_) h
  · refine ⟨on_41, ?_⟩
    refine ⟨_, rfl, ?_⟩
    have db1 := hd.2.2.2
    refine ⟨db1, ?_⟩
    refine ite_mono (fun hc h => ?_) (fun hc h => ?_) h
    · exact hQ _ _ hd h
    · exact hQ _ _ hd h
  refine ite_mono (fun hc h => ?_) (fun hc h => ?_) h
  · refine ⟨on_41, ?_⟩
    refine ⟨_, rfl, ?_⟩
    have db2 := hd.2.2.2
    refine ⟨db2, ?_⟩
    refine ite_mono (fun hc h => ?_) (fun hc h => ?_) h
    · exact hQ _ _ hd h
    · exact hQ _ _ hd h
  refine ite_mono (fun hc h => ?_) (fun hc h => ?_) h
  · refine ⟨on_41, ?_⟩
    refine ⟨_, rfl, ?_⟩
    have db3 := hd.2.2.2
    refine ⟨db3, ?_⟩
    refine ⟨_, rr_5_15 hR _ db3, ?_⟩
    refine ⟨(ob_5_15 db3), ?_⟩
    refine t_X0_isEmpty hR (ob_5_15 db3) (fun r5 u6 hd h => ?_) hd h
    refine ite_mono (fun hc h => ?_) (fun hc h => ?_) h
    · exact hQ _ _ hd h
    · exact hQ _ _ hd h
  refine ite_mono (fun hc h => ?_) (fun hc h => ?_) h
  · refine ⟨on_41, ?_⟩
    refine ⟨_, rfl, ?_⟩
    have db7 := hd.2.2.2
    refine ⟨db7, ?_⟩
    refine ⟨_, rr_5_16 hR _ db7, ?_⟩
    refine ⟨(ob_5_16 db7), ?_⟩
    refine t_X0_isEmpty hR (ob_5_16 db7) (fun r9 u10 hd h => ?_) hd h
    refine ite_mono (fun hc h => ?_) (fun hc h => ?_) h
    · exact hQ _ _ hd h
    · exact hQ _ _ hd h
  exact hQ _ _ hd h
/-! CalledRiver$PlainReader.readNewName -/
set_option maxHeartbeats 4000000 in
set_option maxRecDepth 100000 in
def s_X6_readNewName (Q : Int32 → St → Prop) (u : St) : Prop :=
  s_X9_takeName  (fun r2 u3 => s_X5_isNamed u3.2.2.2.2.2 r2 (fun r5 u6 => if r5 = 0 then (Q r2 u6) else (s_X9_fail (3 : Int32) (u.1 1 3) (fun u9 => Q r2 u9) u6)) u3) u
set_option maxHeartbeats 4000000 in
set_option maxRecDepth 100000 in
theorem t_X6_readNewName {ρ : Nat → Nat → Option Nat} (hR : RfH ρ) {Q : Int32 → St → Prop} {QW : Int32 → Mem → Prop} (hQ : ∀ (r : Int32) (u : St), DK u → Q r u → QW r (emb ρ u)) {u : St} (hd : DK u) (h : s_X6_readNewName Q u) : wp_X6_readNewName SH 41 QW (emb ρ u) := by
  unfold wp_X6_readNewName
  unfold s_X6_readNewName at h
  refine ⟨on_41, ?_⟩
  refine ⟨_, rn_41_0 hR _, ?_⟩
  refine ⟨on_1, ?_⟩
  refine t_X9_takeName hR (fun r2 u3 hd h => ?_) hd h
  refine ⟨_, rfl, ?_⟩
  have db4 := hd.2.2.2
  refine ⟨db4, ?_⟩
  refine t_X5_isNamed hR db4 (fun r5 u6 hd h => ?_) hd h
  refine ite_mono (fun hc h => ?_) (fun hc h => ?_) h
  · exact hQ _ _ hd h
  · refine ⟨_, rn_41_0 hR _, ?_⟩
    refine ⟨on_1, ?_⟩
    refine t_X9_fail hR (fun u9 hd h => ?_) hd h
    exact hQ _ _ hd h
/-! CalledRiver$PlainReader.readCaller -/
set_option maxHeartbeats 4000000 in
set_option maxRecDepth 100000 in
def s_X6_readCaller (Q : St → Prop) (u : St) : Prop :=
  s_X6_readNewName  (fun r3 u4 => vp_in (u.1 u.2.2.2.2.2 4) 5 ∧ bnd (tI u4 (u.2.2.2.2.2 + 8) (u.1 u.2.2.2.2.2 4).toNatClampNeg r3) (fun u6 => s_X9_takeWord 7 (fun u9 => s_X9_takeNumber (0 : Int32) (9 : Int32) (fun r13 u14 => vp_in (u.1 u.2.2.2.2.2 4) 5 ∧ bnd (tI u14 (u9.2.2.2.2.2 + 9) (u.1 u.2.2.2.2.2 4).toNatClampNeg r13) (fun u16 => s_X9_takeWord 8 (fun u19 => s_X9_takeNumber (0 : Int32) (9 : Int32) (fun r23 u24 => vp_in (u.1 u.2.2.2.2.2 4) 5 ∧ bnd (tI u24 (u19.2.2.2.2.2 + 10) (u.1 u.2.2.2.2.2 4).toNatClampNeg r23) (fun u26 => bnd (tI u26 u26.2.2.2.2.2 4 ((u26.1 u26.2.2.2.2.2 4) + (1 : Int32))) (fun u28 => Q u28))) u19) u16)) u9) u6)) u
set_option maxHeartbeats 4000000 in
set_option maxRecDepth 100000 in
theorem t_X6_readCaller {ρ : Nat → Nat → Option Nat} (hR : RfH ρ) {Q : St → Prop} {QW : Mem → Prop} (hQ : ∀ (u : St), DK u → Q u → QW (emb ρ u)) {u : St} (hd : DK u) (h : s_X6_readCaller Q u) : wp_X6_readCaller SH 41 QW (emb ρ u) := by
  unfold wp_X6_readCaller
  unfold s_X6_readCaller at h
  refine ⟨on_41, ?_⟩
  refine ⟨_, rfl, ?_⟩
  have db1 := hd.2.2.2
  refine ⟨db1, ?_⟩
  refine ⟨_, rr_5_12 hR _ db1, ?_⟩
  refine t_X6_readNewName hR (fun r3 u4 hd h => ?_) hd h
  obtain ⟨x5, h⟩ := h
  refine ⟨ix_i (ce_5_12 db1) x5, ?_⟩
  refine bnd_I ?_
  replace h := bnd_e h
  refine ⟨_, rn_41_0 hR _, ?_⟩
  refine ⟨on_1, ?_⟩
  refine t_X9_takeWord hR (fun u9 hd h => ?_) hd h
  refine ⟨_, rfl, ?_⟩
  have db10 := hd.2.2.2
  refine ⟨db10, ?_⟩
  refine ⟨_, rr_5_13 hR _ db10, ?_⟩
  refine ⟨_, rn_41_0 hR _, ?_⟩
  refine ⟨on_1, ?_⟩
  refine t_X9_takeNumber hR (fun r13 u14 hd h => ?_) hd h
  obtain ⟨x15, h⟩ := h
  refine ⟨ix_i (ce_5_13 db10) x15, ?_⟩
  refine bnd_I ?_
  replace h := bnd_e h
  refine ⟨_, rn_41_0 hR _, ?_⟩
  refine ⟨on_1, ?_⟩
  refine t_X9_takeWord hR (fun u19 hd h => ?_) hd h
  refine ⟨_, rfl, ?_⟩
  have db20 := hd.2.2.2
  refine ⟨db20, ?_⟩
  refine ⟨_, rr_5_14 hR _ db20, ?_⟩
  refine ⟨_, rn_41_0 hR _, ?_⟩
  refine ⟨on_1, ?_⟩
  refine t_X9_takeNumber hR (fun r23 u24 hd h => ?_) hd h
  obtain ⟨x25, h⟩ := h
  refine ⟨ix_i (ce_5_14 db20) x25, ?_⟩
  refine bnd_I ?_
  replace h := bnd_e h
  refine ⟨_, rfl, ?_⟩
  have db27 := hd.2.2.2
  refine ⟨db27, ?_⟩
  refine bnd_I ?_
  replace h := bnd_e h
  exact hQ _ hd h
/-! CalledRiver$PlainReader.readPlace -/
set_option maxHeartbeats 4000000 in
set_option maxRecDepth 100000 in
def s_X6_readPlace (Q : Int32 → St → Prop) (u : St) : Prop :=
  s_X9_takeNumber (0 : Int32) ((u.1 u.2.2.2.2.2 0) - (1 : Int32)) (fun r3 u4 => bnd (tI u4 41 3 (u4.1 1 3)) (fun u6 => s_X9_takeNumber (0 : Int32) ((u6.1 u6.2.2.2.2.2 1) - (1 : Int32)) (fun r8 u9 => Q ((r8 * (u9.1 u9.2.2.2.2.2 0)) + r3) u9) u6)) u
set_option maxHeartbeats 4000000 in
set_option maxRecDepth 100000 in
theorem t_X6_readPlace {ρ : Nat → Nat → Option Nat} (hR : RfH ρ) {Q : Int32 → St → Prop} {QW : Int32 → Mem → Prop} (hQ : ∀ (r : Int32) (u : St), DK u → Q r u → QW r (emb ρ u)) {u : St} (hd : DK u) (h : s_X6_readPlace Q u) : wp_X6_readPlace SH 41 QW (emb ρ u) := by
  unfold wp_X6_readPlace
  unfold s_X6_readPlace at h
  refine ⟨on_41, ?_⟩
  refine ⟨_, rn_41_0 hR _, ?_⟩
  refine ⟨_, rfl, ?_⟩
  have db2 := hd.2.2.2
  refine ⟨db2, ?_⟩
  refine ⟨on_1, ?_⟩
  refine t_X9_takeNumber hR (fun r3 u4 hd h => ?_) hd h
  refine ⟨_, rn_41_0 hR _, ?_⟩
  refine ⟨on_1, ?_⟩
  refine bnd_I ?_
  replace h := bnd_e h
  refine ⟨_, rfl, ?_⟩
  have db7 := hd.2.2.2
  refine ⟨db7, ?_⟩
  refine t_X9_takeNumber hR (fun r8 u9 hd h => ?_) hd h
  refine ⟨_, rfl, ?_⟩
  have db10 := hd.2.2.2
  refine ⟨db10, ?_⟩
  exact hQ _ _ hd h
/-! CalledRiver$PlainReader.readFarm -/
set_option maxHeartbeats 4000000 in
set_option maxRecDepth 100000 in
def sX6_readFarm_p60 (v1 : Int32) (v2 : Int32) (Q : St → Prop) (u : St) : Prop :=
  s_X9_takeWord 5 (fun u20 => s_X9_takeNumber (1 : Int32) (40 : Int32) (fun r24 u25 => vp_in v1 6 ∧ bnd (tI u25 (u20.2.2.2.2.2 + 6) v1.toNatClampNeg r24) (fun u27 => s_X9_takeWord 6 (fun u30 => s_X9_takeNumber (0 : Int32) (9 : Int32) (fun r34 u35 => vp_in v1 6 ∧ bnd (tI u35 (u30.2.2.2.2.2 + 7) v1.toNatClampNeg r34) (fun u37 => vp_in v1 6 ∧ bnd (tI u37 (u37.2.2.2.2.2 + 5) v1.toNatClampNeg v2) (fun u41 => vp_in v2 36 ∧ bnd (tI u41 (u37.2.2.2.2.2 + 3) v2.toNatClampNeg v1) (fun u44 => bnd (tI u44 u37.2.2.2.2.2 3 ((u44.1 u37.2.2.2.2.2 3) + (1 : Int32))) (fun u45 => Q u45))))) u30) u27)) u20) u
set_option maxHeartbeats 4000000 in
set_option maxRecDepth 100000 in
def s_X6_readFarm (Q : St → Prop) (u : St) : Prop :=
  s_X6_readNewName  (fun r3 u4 => vp_in (u.1 u.2.2.2.2.2 3) 6 ∧ bnd (tI u4 (u.2.2.2.2.2 + 4) (u.1 u.2.2.2.2.2 3).toNatClampNeg r3) (fun u6 => s_X9_takeWord 4 (fun u9 => s_X6_readPlace  (fun r10 u11 => vp_in r10 36 ∧ (if (u11.1 (u11.2.2.2.2.2 + 3) r10.toNatClampNeg) = (-1 : Int32) then (sX6_readFarm_p60 (u.1 u.2.2.2.2.2 3) r10 Q u11) else (s_X9_fail (2 : Int32) (u11.1 41 3) (fun u17 => sX6_readFarm_p60 (u.1 u.2.2.2.2.2 3) r10 Q u17) u11))) u9) u6)) u
set_option maxHeartbeats 4000000 in
set_option maxRecDepth 100000 in
theorem t_X6_readFarm_p60 {ρ : Nat → Nat → Option Nat} (hR : RfH ρ) {v1 : Int32} {v2 : Int32} {Q : St → Prop} {QW : Mem → Prop} (hQ : ∀ (u : St), DK u → Q u → QW (emb ρ u)) {u : St} (hd : DK u) (h : sX6_readFarm_p60 v1 v2 Q u) : X6_readFarm_p60 SH 41 v1 v2 QW (emb ρ u) := by
  unfold X6_readFarm_p60
  unfold sX6_readFarm_p60 at h
  refine ⟨on_41, ?_⟩
  refine ⟨_, rn_41_0 hR _, ?_⟩
  refine ⟨on_1, ?_⟩
  refine t_X9_takeWord hR (fun u20 hd h => ?_) hd h
  refine ⟨_, rfl, ?_⟩
  have db21 := hd.2.2.2
  refine ⟨db21, ?_⟩
  refine ⟨_, rr_5_10 hR _ db21, ?_⟩
  refine ⟨_, rn_41_0 hR _, ?_⟩
  refine ⟨on_1, ?_⟩
  refine t_X9_takeNumber hR (fun r24 u25 hd h => ?_) hd h
  obtain ⟨x26, h⟩ := h
  refine ⟨ix_i (ce_5_10 db21) x26, ?_⟩
  refine bnd_I ?_
  replace h := bnd_e h
  refine ⟨_, rn_41_0 hR _, ?_⟩
  refine ⟨on_1, ?_⟩
  refine t_X9_takeWord hR (fun u30 hd h => ?_) hd h
  refine ⟨_, rfl, ?_⟩
  have db31 := hd.2.2.2
  refine ⟨db31, ?_⟩
  refine ⟨_, rr_5_11 hR _ db31, ?_⟩
  refine ⟨_, rn_41_0 hR _, ?_⟩
  refine ⟨on_1, ?_⟩
  refine t_X9_takeNumber hR (fun r34 u35 hd h => ?_) hd h
  obtain ⟨x36, h⟩ := h
  refine ⟨ix_i (ce_5_11 db31) x36, ?_⟩
  refine bnd_I ?_
  replace h := bnd_e h
  refine ⟨_, rfl, ?_⟩
  have db38 := hd.2.2.2
  refine ⟨db38, ?_⟩
  refine ⟨_, rr_5_9 hR _ db38, ?_⟩
  obtain ⟨x40, h⟩ := h
  refine ⟨ix_i (ce_5_9 db38) x40, ?_⟩
  refine bnd_I ?_
  replace h := bnd_e h
  refine ⟨_, rr_5_7 hR _ db38, ?_⟩
  obtain ⟨x43, h⟩ := h
  refine ⟨ix_i (ce_5_7 db38) x43, ?_⟩
  refine bnd_I ?_
  replace h := bnd_e h
  refine bnd_I ?_
  replace h := bnd_e h
  exact hQ _ hd h
set_option maxHeartbeats 4000000 in
set_option maxRecDepth 100000 in
theorem t_X6_readFarm {ρ : Nat → Nat → Option Nat} (hR : RfH ρ) {Q : St → Prop} {QW : Mem → Prop} (hQ : ∀ (u : St), DK u → Q u → QW (emb ρ u)) {u : St} (hd : DK u) (h : s_X6_readFarm Q u) : wp_X6_readFarm SH 41 QW (emb ρ u) := by
  unfold wp_X6_readFarm
  unfold s_X6_readFarm at h
  refine ⟨on_41, ?_⟩
  refine ⟨_, rfl, ?_⟩
  have db1 := hd.2.2.2
  refine ⟨db1, ?_⟩
  refine ⟨_, rr_5_8 hR _ db1, ?_⟩
  refine t_X6_readNewName hR (fun r3 u4 hd h => ?_) hd h
  obtain ⟨x5, h⟩ := h
  refine ⟨ix_i (ce_5_8 db1) x5, ?_⟩
  refine bnd_I ?_
  replace h := bnd_e h
  refine ⟨_, rn_41_0 hR _, ?_⟩
  refine ⟨on_1, ?_⟩
  refine t_X9_takeWord hR (fun u9 hd h => ?_) hd h
  refine t_X6_readPlace hR (fun r10 u11 hd h => ?_) hd h
  refine ⟨_, rfl, ?_⟩
  have db12 := hd.2.2.2
  refine ⟨db12, ?_⟩
  refine ⟨_, rr_5_7 hR _ db12, ?_⟩
  obtain ⟨x14, h⟩ := h
  refine ⟨ix_i (ce_5_7 db12) x14, ?_⟩
  refine ite_mono (fun hc h => ?_) (fun hc h => ?_) h
  · exact t_X6_readFarm_p60 hR hQ hd h
  · refine ⟨_, rn_41_0 hR _, ?_⟩
    refine ⟨on_1, ?_⟩
    refine t_X9_fail hR (fun u17 hd h => ?_) hd h
    exact t_X6_readFarm_p60 hR hQ hd h
/-! CalledRiver$PlainReader.readHigh -/
set_option maxHeartbeats 4000000 in
set_option maxRecDepth 100000 in
def s_X6_readHigh (Q : St → Prop) (u : St) : Prop :=
  s_X6_readPlace  (fun r1 u2 => s_X9_takeNumber (0 : Int32) (9 : Int32) (fun r6 u7 => vp_in r1 36 ∧ bnd (tI u7 (u2.2.2.2.2.2 + 1) r1.toNatClampNeg r6) (fun u9 => Q u9)) u2) u
set_option maxHeartbeats 4000000 in
set_option maxRecDepth 100000 in
theorem t_X6_readHigh {ρ : Nat → Nat → Option Nat} (hR : RfH ρ) {Q : St → Prop} {QW : Mem → Prop} (hQ : ∀ (u : St), DK u → Q u → QW (emb ρ u)) {u : St} (hd : DK u) (h : s_X6_readHigh Q u) : wp_X6_readHigh SH 41 QW (emb ρ u) := by
  unfold wp_X6_readHigh
  unfold s_X6_readHigh at h
  refine ⟨on_41, ?_⟩
  refine t_X6_readPlace hR (fun r1 u2 hd h => ?_) hd h
  refine ⟨_, rfl, ?_⟩
  have db3 := hd.2.2.2
  refine ⟨db3, ?_⟩
  refine ⟨_, rr_5_5 hR _ db3, ?_⟩
  refine ⟨_, rn_41_0 hR _, ?_⟩
  refine ⟨on_1, ?_⟩
  refine t_X9_takeNumber hR (fun r6 u7 hd h => ?_) hd h
  obtain ⟨x8, h⟩ := h
  refine ⟨ix_i (ce_5_5 db3) x8, ?_⟩
  refine bnd_I ?_
  replace h := bnd_e h
  exact hQ _ hd h
/-! CalledRiver$PlainReader.readSides -/
set_option maxHeartbeats 4000000 in
set_option maxRecDepth 100000 in
def s_X6_readSides (Q : St → Prop) (u : St) : Prop :=
  s_X9_takeWord 0 (fun u3 => s_X9_takeNumber (2 : Int32) (6 : Int32) (fun r6 u7 => bnd (tI u7 u3.2.2.2.2.2 0 r6) (fun u8 => s_X9_takeWord 1 (fun u11 => s_X9_takeNumber (2 : Int32) (6 : Int32) (fun r14 u15 => bnd (tI u15 u11.2.2.2.2.2 1 r14) (fun u16 => s_X9_takeSign (59 : Int32) (fun u19 => Q u19) u16)) u11) u8)) u3) u
set_option maxHeartbeats 4000000 in
set_option maxRecDepth 100000 in
theorem t_X6_readSides {ρ : Nat → Nat → Option Nat} (hR : RfH ρ) {Q : St → Prop} {QW : Mem → Prop} (hQ : ∀ (u : St), DK u → Q u → QW (emb ρ u)) {u : St} (hd : DK u) (h : s_X6_readSides Q u) : wp_X6_readSides SH 41 QW (emb ρ u) := by
  unfold wp_X6_readSides
  unfold s_X6_readSides at h
  refine ⟨on_41, ?_⟩
  refine ⟨_, rn_41_0 hR _, ?_⟩
  refine ⟨on_1, ?_⟩
  refine t_X9_takeWord hR (fun u3 hd h => ?_) hd h
  refine ⟨_, rfl, ?_⟩
  have db4 := hd.2.2.2
  refine ⟨_, rn_41_0 hR _, ?_⟩
  refine ⟨on_1, ?_⟩
  refine t_X9_takeNumber hR (fun r6 u7 hd h => ?_) hd h
  refine ⟨db4, ?_⟩
  refine bnd_I ?_
  replace h := bnd_e h
  refine ⟨_, rn_41_0 hR _, ?_⟩
  refine ⟨on_1, ?_⟩
  refine t_X9_takeWord hR (fun u11 hd h => ?_) hd h
  refine ⟨_, rfl, ?_⟩
  have db12 := hd.2.2.2
  refine ⟨_, rn_41_0 hR _, ?_⟩
  refine ⟨on_1, ?_⟩
  refine t_X9_takeNumber hR (fun r14 u15 hd h => ?_) hd h
  refine ⟨db12, ?_⟩
  refine bnd_I ?_
  replace h := bnd_e h
  refine ⟨_, rn_41_0 hR _, ?_⟩
  refine ⟨on_1, ?_⟩
  refine t_X9_takeSign hR (fun u19 hd h => ?_) hd h
  exact hQ _ hd h
/-! CalledRiver$PlainReader.readStone -/
set_option maxHeartbeats 4000000 in
set_option maxRecDepth 100000 in
def sX6_readStone_p30 (v1 : Int32) (Q : St → Prop) (u : St) : Prop :=
  vp_in v1 36 ∧ bnd (tI u (u.2.2.2.2.2 + 2) v1.toNatClampNeg (1 : Int32)) (fun u12 => Q u12)
set_option maxHeartbeats 4000000 in
set_option maxRecDepth 100000 in
def s_X6_readStone (Q : St → Prop) (u : St) : Prop :=
  s_X6_readPlace  (fun r1 u2 => vp_in r1 36 ∧ (if (u2.1 (u2.2.2.2.2.2 + 2) r1.toNatClampNeg) = (1 : Int32) then (s_X9_fail (2 : Int32) (u2.1 41 3) (fun u8 => sX6_readStone_p30 r1 Q u8) u2) else (sX6_readStone_p30 r1 Q u2))) u
set_option maxHeartbeats 4000000 in
set_option maxRecDepth 100000 in
theorem t_X6_readStone_p30 {ρ : Nat → Nat → Option Nat} (hR : RfH ρ) {v1 : Int32} {Q : St → Prop} {QW : Mem → Prop} (hQ : ∀ (u : St), DK u → Q u → QW (emb ρ u)) {u : St} (hd : DK u) (h : sX6_readStone_p30 v1 Q u) : X6_readStone_p30 SH 41 v1 QW (emb ρ u) := by
  unfold X6_readStone_p30
  unfold sX6_readStone_p30 at h
  refine ⟨on_41, ?_⟩
  refine ⟨_, rfl, ?_⟩
  have db9 := hd.2.2.2
  refine ⟨db9, ?_⟩
  refine ⟨_, rr_5_6 hR _ db9, ?_⟩
  obtain ⟨x11, h⟩ := h
  refine ⟨ix_i (ce_5_6 db9) x11, ?_⟩
  refine bnd_I ?_
  replace h := bnd_e h
  exact hQ _ hd h
set_option maxHeartbeats 4000000 in
set_option maxRecDepth 100000 in
theorem t_X6_readStone {ρ : Nat → Nat → Option Nat} (hR : RfH ρ) {Q : St → Prop} {QW : Mem → Prop} (hQ : ∀ (u : St), DK u → Q u → QW (emb ρ u)) {u : St} (hd : DK u) (h : s_X6_readStone Q u) : wp_X6_readStone SH 41 QW (emb ρ u) := by
  unfold wp_X6_readStone
  unfold s_X6_readStone at h
  refine ⟨on_41, ?_⟩
  refine t_X6_readPlace hR (fun r1 u2 hd h => ?_) hd h
  refine ⟨_, rfl, ?_⟩
  have db3 := hd.2.2.2
  refine ⟨db3, ?_⟩
  refine ⟨_, rr_5_6 hR _ db3, ?_⟩
  obtain ⟨x5, h⟩ := h
  refine ⟨ix_i (ce_5_6 db3) x5, ?_⟩
  refine ite_mono (fun hc h => ?_) (fun hc h => ?_) h
  · refine ⟨_, rn_41_0 hR _, ?_⟩
    refine ⟨on_1, ?_⟩
    refine t_X9_fail hR (fun u8 hd h => ?_) hd h
    exact t_X6_readStone_p30 hR hQ hd h
  · exact t_X6_readStone_p30 hR hQ hd h
/-! CalledRiver$SumReader.readSumOf -/
set_option maxHeartbeats 4000000 in
set_option maxRecDepth 100000 in
def s_X8_readSumOf (v1 : Int32) (v2 : Nat) (Q : St → Prop) (u : St) : Prop :=
  s_X8_begin v1 v2 (fun u2 => sG 60 4 (0 : Int32) (fun u4 => Q u4) u2) u
set_option maxHeartbeats 4000000 in
set_option maxRecDepth 100000 in
theorem t_X8_readSumOf {ρ : Nat → Nat → Option Nat} (hR : RfH ρ) {v1 : Int32} {v2 : Nat} (o2 : Ob SH v2 0) {Q : St → Prop} {QW : Mem → Prop} (hQ : ∀ (u : St), DK u → Q u → QW (emb ρ u)) {u : St} (hd : DK u) (h : s_X8_readSumOf v1 v2 Q u) : wp_X8_readSumOf SH 6 v1 v2 QW (emb ρ u) := by
  unfold wp_X8_readSumOf
  unfold s_X8_readSumOf at h
  refine ⟨on_6, ?_⟩
  refine t_X8_begin hR o2 (fun u2 hd h => ?_) hd h
  refine tG hR 60 (fun u4 hd h => ?_) hd h
  exact hQ _ hd h
/-! CalledRiver$PlainReader.readStatement -/
set_option maxHeartbeats 4000000 in
set_option maxRecDepth 100000 in
def sX6_readStatement_p199 (Q : St → Prop) (u : St) : Prop :=
  s_X9_takeSign (59 : Int32) (fun u40 => Q u40) u
set_option maxHeartbeats 4000000 in
set_option maxRecDepth 100000 in
def s_X6_readStatement (Q : St → Prop) (u : St) : Prop :=
  s_X9_wordIn 2 (fun r2 u3 => s_X6_isFull r2 (fun r4 u5 => if r4 = 0 then (if r2 = (-1 : Int32) then (s_X9_fail (1 : Int32) (u5.1 1 3) (fun u34 => Q u34) u5) else (s_X9_advance  (fun u8 => if r2 = (0 : Int32) then (s_X6_readHigh  (fun u10 => sX6_readStatement_p199 Q u10) u8) else if r2 = (1 : Int32) then (s_X6_readStone  (fun u12 => sX6_readStatement_p199 Q u12) u8) else if r2 = (2 : Int32) then (s_X9_takeNumber (0 : Int32) ((u8.1 u8.2.2.2.2.2 0) - (1 : Int32)) (fun r15 u16 => bnd (tI u16 u8.2.2.2.2.2 2 r15) (fun u17 => sX6_readStatement_p199 Q u17)) u8) else if r2 = (3 : Int32) then (s_X6_readFarm  (fun u19 => sX6_readStatement_p199 Q u19) u8) else if r2 = (4 : Int32) then (s_X6_readCaller  (fun u21 => sX6_readStatement_p199 Q u21) u8) else if r2 = (5 : Int32) then (s_X8_readSumOf (255 : Int32) (u8.2.2.2.2.2 + 11) (fun u26 => sX6_readStatement_p199 Q u26) u8) else if r2 = (6 : Int32) then (s_X8_readSumOf (263 : Int32) (u8.2.2.2.2.2 + 14) (fun u31 => sX6_readStatement_p199 Q u31) u8) else (sX6_readStatement_p199 Q u8)) u5)) else (s_X9_fail (5 : Int32) (u5.1 1 3) (fun u37 => Q u37) u5)) u3) u
set_option maxHeartbeats 4000000 in
set_option maxRecDepth 100000 in
theorem t_X6_readStatement_p199 {ρ : Nat → Nat → Option Nat} (hR : RfH ρ) {Q : St → Prop} {QW : Mem → Prop} (hQ : ∀ (u : St), DK u → Q u → QW (emb ρ u)) {u : St} (hd : DK u) (h : sX6_readStatement_p199 Q u) : X6_readStatement_p199 SH 41 QW (emb ρ u) := by
  unfold X6_readStatement_p199
  unfold sX6_readStatement_p199 at h
  refine ⟨on_41, ?_⟩
  refine ⟨_, rn_41_0 hR _, ?_⟩
  refine ⟨on_1, ?_⟩
  refine t_X9_takeSign hR (fun u40 hd h => ?_) hd h
  exact hQ _ hd h
set_option maxHeartbeats 4000000 in
set_option maxRecDepth 100000 in
theorem t_X6_readStatement {ρ : Nat → Nat → Option Nat} (hR : RfH ρ) {Q : St → Prop} {QW : Mem → Prop} (hQ : ∀ (u : St), DK u → Q u → QW (emb ρ u)) {u : St} (hd : DK u) (h : s_X6_readStatement Q u) : wp_X6_readStatement SH 41 QW (emb ρ u) := by
  unfold wp_X6_readStatement
  unfold s_X6_readStatement at h
  refine ⟨on_41, ?_⟩
  refine ⟨_, rn_41_0 hR _, ?_⟩
  refine ⟨on_1, ?_⟩
  refine t_X9_wordIn hR (fun r2 u3 hd h => ?_) hd h
  refine t_X6_isFull hR (fun r4 u5 hd h => ?_) hd h
  refine ite_mono (fun hc h => ?_) (fun hc h => ?_) h
  · refine ite_mono (fun hc h => ?_) (fun hc h => ?_) h
    · refine ⟨_, rn_41_0 hR _, ?_⟩
      refine ⟨on_1, ?_⟩
      refine t_X9_fail hR (fun u34 hd h => ?_) hd h
      exact hQ _ hd h
    · refine ⟨_, rn_41_0 hR _, ?_⟩
      refine ⟨on_1, ?_⟩
      refine t_X9_advance hR (fun u8 hd h => ?_) hd h
      refine ite_mono (fun hc h => ?_) (fun hc h => ?_) h
      · refine t_X6_readHigh hR (fun u10 hd h => ?_) hd h
        exact t_X6_readStatement_p199 hR hQ hd h
      refine ite_mono (fun hc h => ?_) (fun hc h => ?_) h
      · refine t_X6_readStone hR (fun u12 hd h => ?_) hd h
        exact t_X6_readStatement_p199 hR hQ hd h
      refine ite_mono (fun hc h => ?_) (fun hc h => ?_) h
      · refine ⟨_, rfl, ?_⟩
        have db13 := hd.2.2.2
        refine ⟨_, rn_41_0 hR _, ?_⟩
        refine ⟨db13, ?_⟩
        refine ⟨on_1, ?_⟩
        refine t_X9_takeNumber hR (fun r15 u16 hd h => ?_) hd h
        refine bnd_I ?_
        replace h := bnd_e h
        exact t_X6_readStatement_p199 hR hQ hd h
      refine ite_mono (fun hc h => ?_) (fun hc h => ?_) h
      · refine t_X6_readFarm hR (fun u19 hd h => ?_) hd h
        exact t_X6_readStatement_p199 hR hQ hd h
      refine ite_mono (fun hc h => ?_) (fun hc h => ?_) h
      · refine t_X6_readCaller hR (fun u21 hd h => ?_) hd h
        exact t_X6_readStatement_p199 hR hQ hd h
      refine ite_mono (fun hc h => ?_) (fun hc h => ?_) h
      · refine ⟨_, rn_41_1 hR _, ?_⟩
        refine ⟨_, rfl, ?_⟩
        have db23 := hd.2.2.2
        refine ⟨db23, ?_⟩
        refine ⟨_, rr_5_15 hR _ db23, ?_⟩
        refine ⟨on_6, ?_⟩
        refine t_X8_readSumOf hR (ob_5_15 db23) (fun u26 hd h => ?_) hd h
        exact t_X6_readStatement_p199 hR hQ hd h
      refine ite_mono (fun hc h => ?_) (fun hc h => ?_) h
      · refine ⟨_, rn_41_1 hR _, ?_⟩
        refine ⟨_, rfl, ?_⟩
        have db28 := hd.2.2.2
        refine ⟨db28, ?_⟩
        refine ⟨_, rr_5_16 hR _ db28, ?_⟩
        refine ⟨on_6, ?_⟩
        refine t_X8_readSumOf hR (ob_5_16 db28) (fun u31 hd h => ?_) hd h
        exact t_X6_readStatement_p199 hR hQ hd h
      exact t_X6_readStatement_p199 hR hQ hd h
  · refine ⟨_, rn_41_0 hR _, ?_⟩
    refine ⟨on_1, ?_⟩
    refine t_X9_fail hR (fun u37 hd h => ?_) hd h
    exact hQ _ hd h
/-! CalledRiver$PlainReader.readPlain -/
set_option maxHeartbeats 4000000 in
set_option maxRecDepth 100000 in
def sX6_readPlain_p70 (v2 : Int32) (Q : Int32 → St → Prop) (u : St) : Prop :=
  s_X6_addMissingSums  (fun u20 => Q v2 u20) u
set_option maxHeartbeats 4000000 in
set_option maxRecDepth 100000 in
def sX6_readPlain_p48 (v2 : Int32) (Q : Int32 → St → Prop) (u : St) : Prop :=
  s_X6_hasMore  (fun r14 u15 => if r14 = 0 then (sX6_readPlain_p70 v2 Q u15) else (s_X9_fail (5 : Int32) (u15.1 1 3) (fun u18 => sX6_readPlain_p70 v2 Q u18) u15)) u
set_option maxHeartbeats 4000000 in
set_option maxRecDepth 100000 in
def sX6_readPlain_p25b (Q : Int32 → St → Prop) (K25 : Int32 → St → Prop) (v2 : Int32) (u : St) : Prop :=
  if (80 : Int32) ≤ v2 then (sX6_readPlain_p48 v2 Q u) else (s_X6_hasMore  (fun r10 u11 => if r10 = 0 then (sX6_readPlain_p48 v2 Q u11) else (s_X6_readStatement  (fun u13 => K25 (v2 + (1 : Int32)) u13) u11)) u)
set_option maxHeartbeats 4000000 in
set_option maxRecDepth 100000 in
def sX6_readPlain_p25n (Q : Int32 → St → Prop) : Nat → Int32 → St → Prop
  | 0 => fun _ _ => False
  | n + 1 => sX6_readPlain_p25b Q (sX6_readPlain_p25n Q n)
set_option maxHeartbeats 4000000 in
set_option maxRecDepth 100000 in
def sX6_readPlain_p25 (Q : Int32 → St → Prop) (v2 : Int32) (u : St) : Prop := ∃ n, sX6_readPlain_p25n Q n v2 u
set_option maxHeartbeats 4000000 in
set_option maxRecDepth 100000 in
def s_X6_readPlain (v1 : Nat) (Q : Int32 → St → Prop) (u : St) : Prop :=
  bnd (tD4 u v1) (fun u1 => s_X5_clear u1.2.2.2.2.2 (fun u4 => s_X9_rewind  (fun u7 => s_X6_readSides  (fun u9 => sX6_readPlain_p25 Q (1 : Int32) u9) u7) u4) u1)
set_option maxHeartbeats 4000000 in
set_option maxRecDepth 100000 in
theorem t_X6_readPlain_p70 {ρ : Nat → Nat → Option Nat} (hR : RfH ρ) {v2 : Int32} {Q : Int32 → St → Prop} {QW : Int32 → Mem → Prop} (hQ : ∀ (r : Int32) (u : St), DK u → Q r u → QW r (emb ρ u)) {u : St} (hd : DK u) (h : sX6_readPlain_p70 v2 Q u) : X6_readPlain_p70 SH 41 v2 QW (emb ρ u) := by
  unfold X6_readPlain_p70
  unfold sX6_readPlain_p70 at h
  refine ⟨on_41, ?_⟩
  refine t_X6_addMissingSums hR (fun u20 hd h => ?_) hd h
  exact hQ _ _ hd h
set_option maxHeartbeats 4000000 in
set_option maxRecDepth 100000 in
theorem t_X6_readPlain_p48 {ρ : Nat → Nat → Option Nat} (hR : RfH ρ) {v2 : Int32} {Q : Int32 → St → Prop} {QW : Int32 → Mem → Prop} (hQ : ∀ (r : Int32) (u : St), DK u → Q r u → QW r (emb ρ u)) {u : St} (hd : DK u) (h : sX6_readPlain_p48 v2 Q u) : X6_readPlain_p48 SH 41 v2 QW (emb ρ u) := by
  unfold X6_readPlain_p48
  unfold sX6_readPlain_p48 at h
  refine ⟨on_41, ?_⟩
  refine t_X6_hasMore hR (fun r14 u15 hd h => ?_) hd h
  refine ite_mono (fun hc h => ?_) (fun hc h => ?_) h
  · exact t_X6_readPlain_p70 hR hQ hd h
  · refine ⟨_, rn_41_0 hR _, ?_⟩
    refine ⟨on_1, ?_⟩
    refine t_X9_fail hR (fun u18 hd h => ?_) hd h
    exact t_X6_readPlain_p70 hR hQ hd h
set_option maxHeartbeats 4000000 in
set_option maxRecDepth 100000 in
theorem t_X6_readPlain_p25b {ρ : Nat → Nat → Option Nat} (hR : RfH ρ) {v2 : Int32} {Q : Int32 → St → Prop} {QW : Int32 → Mem → Prop} (hQ : ∀ (r : Int32) (u : St), DK u → Q r u → QW r (emb ρ u)) {K25 : Int32 → St → Prop} {KW25 : Int32 → Mem → Prop} (hK25 : ∀ (x2 : Int32) (u : St), DK u → K25 x2 u → KW25 x2 (emb ρ u)) {u : St} (hd : DK u) (h : sX6_readPlain_p25b Q K25 v2 u) : X6_readPlain_p25b SH 41 QW KW25 v2 (emb ρ u) := by
  unfold X6_readPlain_p25b
  unfold sX6_readPlain_p25b at h
  refine ite_mono (fun hc h => ?_) (fun hc h => ?_) h
  · exact t_X6_readPlain_p48 hR hQ hd h
  · refine ⟨on_41, ?_⟩
    refine t_X6_hasMore hR (fun r10 u11 hd h => ?_) hd h
    refine ite_mono (fun hc h => ?_) (fun hc h => ?_) h
    · exact t_X6_readPlain_p48 hR hQ hd h
    · refine t_X6_readStatement hR (fun u13 hd h => ?_) hd h
      exact hK25 _ _ hd h
set_option maxHeartbeats 4000000 in
set_option maxRecDepth 100000 in
theorem t_X6_readPlain_p25n {ρ : Nat → Nat → Option Nat} (hR : RfH ρ) {Q : Int32 → St → Prop} {QW : Int32 → Mem → Prop} (hQ : ∀ (r : Int32) (u : St), DK u → Q r u → QW r (emb ρ u)) : ∀ (n : Nat) (v2 : Int32) (u : St), DK u → sX6_readPlain_p25n Q n v2 u → X6_readPlain_p25n SH 41 QW n v2 (emb ρ u)
  | 0, _, _,  _, h => h.elim
  | n + 1, v2,  u,  hd, h => t_X6_readPlain_p25b hR hQ (fun v2 u  hd h => t_X6_readPlain_p25n hR hQ n v2 u  hd h) hd h
set_option maxHeartbeats 4000000 in
set_option maxRecDepth 100000 in
theorem t_X6_readPlain_p25 {ρ : Nat → Nat → Option Nat} (hR : RfH ρ) {v2 : Int32} {Q : Int32 → St → Prop} {QW : Int32 → Mem → Prop} (hQ : ∀ (r : Int32) (u : St), DK u → Q r u → QW r (emb ρ u)) {u : St} (hd : DK u) (h : sX6_readPlain_p25 Q v2 u) : X6_readPlain_p25 SH 41 QW v2 (emb ρ u) := h.elim (fun n h => ⟨n, t_X6_readPlain_p25n hR hQ n _ _ hd h⟩)
set_option maxHeartbeats 4000000 in
set_option maxRecDepth 100000 in
theorem t_X6_readPlain {ρ : Nat → Nat → Option Nat} (hR : RfH ρ) {v1 : Nat} (o1 : Ob SH v1 5) {Q : Int32 → St → Prop} {QW : Int32 → Mem → Prop} (hQ : ∀ (r : Int32) (u : St), DK u → Q r u → QW r (emb ρ u)) {u : St} (hd : DK u) (h : s_X6_readPlain v1 Q u) : wp_X6_readPlain SH 41 v1 QW (emb ρ u) := by
  unfold wp_X6_readPlain
  unfold s_X6_readPlain at h
  refine ⟨on_41, ?_⟩
  refine bnd_D4 ?_
  replace h := bnd_e h
  replace hd := dk_4 hd o1
  refine ⟨_, rfl, ?_⟩
  have db2 := hd.2.2.2
  refine ⟨db2, ?_⟩
  refine t_X5_clear hR db2 (fun u4 hd h => ?_) hd h
  refine ⟨_, rn_41_0 hR _, ?_⟩
  refine ⟨on_1, ?_⟩
  refine t_X9_rewind hR (fun u7 hd h => ?_) hd h
  refine t_X6_readSides hR (fun u9 hd h => ?_) hd h
  exact t_X6_readPlain_p25 hR hQ hd h
/-! CalledRiver$SumReader.readQuestion -/
set_option maxHeartbeats 4000000 in
set_option maxRecDepth 100000 in
def sX8_readQuestion_p72 (v2 : Int32) (Q : Int32 → St → Prop) (u : St) : Prop :=
  if (u.1 1 2) = 0 then (Q v2 u) else (s_X9_fail (1 : Int32) (u.1 1 3) (fun u21 => Q v2 u21) u)
set_option maxHeartbeats 4000000 in
set_option maxRecDepth 100000 in
def s_X8_readQuestion (v1 : Nat) (Q : Int32 → St → Prop) (u : St) : Prop :=
  s_X8_begin (7719 : Int32) v1 (fun u2 => s_X9_rewind  (fun u5 => s_X9_wordIn 14 (fun r7 u8 => if r7 = (-1 : Int32) then (s_X9_fail (1 : Int32) (u8.1 1 3) (fun u18 => Q (-1 : Int32) u18) u8) else (s_X9_advance  (fun u11 => if (2 : Int32) < r7 then (sG 60 4 (0 : Int32) (fun u13 => sX8_readQuestion_p72 r7 Q u13) u11) else (sG 60 0 (0 : Int32) (fun u15 => sX8_readQuestion_p72 r7 Q u15) u11)) u8)) u5) u2) u
set_option maxHeartbeats 4000000 in
set_option maxRecDepth 100000 in
theorem t_X8_readQuestion_p72 {ρ : Nat → Nat → Option Nat} (hR : RfH ρ) {v2 : Int32} {Q : Int32 → St → Prop} {QW : Int32 → Mem → Prop} (hQ : ∀ (r : Int32) (u : St), DK u → Q r u → QW r (emb ρ u)) {u : St} (hd : DK u) (h : sX8_readQuestion_p72 v2 Q u) : X8_readQuestion_p72 SH 6 v2 QW (emb ρ u) := by
  unfold X8_readQuestion_p72
  unfold sX8_readQuestion_p72 at h
  refine ⟨on_6, ?_⟩
  refine ⟨_, rn_6_0 hR _, ?_⟩
  refine ⟨on_1, ?_⟩
  refine ite_mono (fun hc h => ?_) (fun hc h => ?_) h
  · exact hQ _ _ hd h
  · refine t_X9_fail hR (fun u21 hd h => ?_) hd h
    exact hQ _ _ hd h
set_option maxHeartbeats 4000000 in
set_option maxRecDepth 100000 in
theorem t_X8_readQuestion {ρ : Nat → Nat → Option Nat} (hR : RfH ρ) {v1 : Nat} (o1 : Ob SH v1 0) {Q : Int32 → St → Prop} {QW : Int32 → Mem → Prop} (hQ : ∀ (r : Int32) (u : St), DK u → Q r u → QW r (emb ρ u)) {u : St} (hd : DK u) (h : s_X8_readQuestion v1 Q u) : wp_X8_readQuestion SH 6 v1 QW (emb ρ u) := by
  unfold wp_X8_readQuestion
  unfold s_X8_readQuestion at h
  refine ⟨on_6, ?_⟩
  refine t_X8_begin hR o1 (fun u2 hd h => ?_) hd h
  refine ⟨_, rn_6_0 hR _, ?_⟩
  refine ⟨on_1, ?_⟩
  refine t_X9_rewind hR (fun u5 hd h => ?_) hd h
  refine ⟨_, rn_6_0 hR _, ?_⟩
  refine ⟨on_1, ?_⟩
  refine t_X9_wordIn hR (fun r7 u8 hd h => ?_) hd h
  refine ite_mono (fun hc h => ?_) (fun hc h => ?_) h
  · refine ⟨_, rn_6_0 hR _, ?_⟩
    refine ⟨on_1, ?_⟩
    refine t_X9_fail hR (fun u18 hd h => ?_) hd h
    exact hQ _ _ hd h
  · refine ⟨_, rn_6_0 hR _, ?_⟩
    refine ⟨on_1, ?_⟩
    refine t_X9_advance hR (fun u11 hd h => ?_) hd h
    refine ite_mono (fun hc h => ?_) (fun hc h => ?_) h
    · refine tG hR 60 (fun u13 hd h => ?_) hd h
      exact t_X8_readQuestion_p72 hR hQ hd h
    · refine tG hR 60 (fun u15 hd h => ?_) hd h
      exact t_X8_readQuestion_p72 hR hQ hd h
