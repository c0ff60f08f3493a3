/-! CalledRiver$Plain.rowOf -/
set_option maxHeartbeats 4000000 in
set_option maxRecDepth 100000 in
def s_X5_rowOf (v0 : Nat) (v1 : Int32) (Q : Int32 → St → Prop) (u : St) : Prop :=
  if (u.1 v0 0) = 0 then (Q (-1 : Int32) u) else (¬ (u.1 v0 0) = 0 ∧ (Q (v1 / (u.1 v0 0)) u))
set_option maxHeartbeats 4000000 in
set_option maxRecDepth 100000 in
theorem t_X5_rowOf {ρ : Nat → Nat → Option Nat} (hR : RfH ρ) {v0 : Nat} {v1 : Int32} (o0 : Ob SH v0 5) {Q : Int32 → St → Prop} {QW : Int32 → Mem → Prop} (hQ : ∀ (r : Int32) (u : St), DK u → Q r u → QW r (emb ρ u)) {u : St} (hd : DK u) (h : s_X5_rowOf v0 v1 Q u) : wp_X5_rowOf SH v0 v1 QW (emb ρ u) := by
  unfold wp_X5_rowOf
  unfold s_X5_rowOf at h
  refine ⟨o0, ?_⟩
  refine ite_mono (fun hc h => ?_) (fun hc h => ?_) h
  · exact hQ _ _ hd h
  · refine ⟨h.1, ?_⟩
    replace h := h.2
    exact hQ _ _ hd h
/-! CalledRiver$Way.enter -/
set_option maxHeartbeats 4000000 in
set_option maxRecDepth 100000 in
def sX10_enter_p39 (v0 : Nat) (v1 : Nat) (v2 : Int32) (v3 : Int32) (s1 : Int32) (s0 : Nat) (Q : St → Prop) (u : St) : Prop :=
  (s1 = 0 ∨ s1 = 1) ∧ bnd (tI u s0 3 s1) (fun u10 => vp_in v2 36 ∧ (if (u10.1 (v1 + 3) v2.toNatClampNeg) = (-1 : Int32) then (Q u10) else (vp_in (u10.1 (v1 + 3) v2.toNatClampNeg) 6 ∧ (if (u10.1 (v1 + 6) (u10.1 (v1 + 3) v2.toNatClampNeg).toNatClampNeg) < v3 then (Q u10) else (bnd (tI u10 v0 4 ((u10.1 v0 4) ||| ((1 : Int32) <<< ((u10.1 (v1 + 3) v2.toNatClampNeg) &&& 31)))) (fun u15 => Q u15))))))
set_option maxHeartbeats 4000000 in
set_option maxRecDepth 100000 in
def s_X10_enter (v0 : Nat) (v1 : Nat) (v2 : Int32) (v3 : Int32) (Q : St → Prop) (u : St) : Prop :=
  bnd (tI u v0 2 v3) (fun u1 => vp_in v3 36 ∧ bnd (tI u1 (v0 + 1) v3.toNatClampNeg v2) (fun u4 => vp_in v2 36 ∧ bnd (tI u4 (v0 + 2) v2.toNatClampNeg v3) (fun u7 => s_X5_rowOf v1 v2 (fun r8 u9 => if r8 = ((u9.1 v1 1) - (1 : Int32)) then (sX10_enter_p39 v0 v1 v2 v3 (1 : Int32) v0 Q u9) else (sX10_enter_p39 v0 v1 v2 v3 (0 : Int32) v0 Q u9)) u7)))
set_option maxHeartbeats 4000000 in
set_option maxRecDepth 100000 in
theorem t_X10_enter_p39 {ρ : Nat → Nat → Option Nat} (hR : RfH ρ) {v0 : Nat} {v1 : Nat} {v2 : Int32} {v3 : Int32} (o0 : Ob SH v0 10) (o1 : Ob SH v1 5) {s1 : Int32} {s0 : Nat} (qs0 : Ob SH s0 10) {Q : St → Prop} {QW : Mem → Prop} (hQ : ∀ (u : St), DK u → Q u → QW (emb ρ u)) {u : St} (hd : DK u) (h : sX10_enter_p39 v0 v1 v2 v3 s1 s0 Q u) : X10_enter_p39 SH v0 v1 v2 v3 s1 s0 QW (emb ρ u) := by
  unfold X10_enter_p39
  unfold sX10_enter_p39 at h
  refine ⟨qs0, ?_⟩
  refine ⟨h.1, ?_⟩
  replace h := h.2
  refine bnd_I ?_
  replace h := bnd_e h
  refine ⟨o1, ?_⟩
  refine ⟨_, rr_5_7 hR _ o1, ?_⟩
  obtain ⟨x12, h⟩ := h
  refine ⟨ix_i (ce_5_7 o1) x12, ?_⟩
  refine ite_mono (fun hc h => ?_) (fun hc h => ?_) h
  · exact hQ _ hd h
  · refine ⟨_, rr_5_10 hR _ o1, ?_⟩
    obtain ⟨x14, h⟩ := h
    refine ⟨ix_i (ce_5_10 o1) x14, ?_⟩
    refine ite_mono (fun hc h => ?_) (fun hc h => ?_) h
    · exact hQ _ hd h
    · refine ⟨o0, ?_⟩
      refine bnd_I ?_
      replace h := bnd_e h
      exact hQ _ hd h
set_option maxHeartbeats 4000000 in
set_option maxRecDepth 100000 in
theorem t_X10_enter {ρ : Nat → Nat → Option Nat} (hR : RfH ρ) {v0 : Nat} {v1 : Nat} {v2 : Int32} {v3 : Int32} (o0 : Ob SH v0 10) (o1 : Ob SH v1 5) {Q : St → Prop} {QW : Mem → Prop} (hQ : ∀ (u : St), DK u → Q u → QW (emb ρ u)) {u : St} (hd : DK u) (h : s_X10_enter v0 v1 v2 v3 Q u) : wp_X10_enter SH v0 v1 v2 v3 QW (emb ρ u) := by
  unfold wp_X10_enter
  unfold s_X10_enter at h
  refine ⟨o0, ?_⟩
  refine bnd_I ?_
  replace h := bnd_e h
  refine ⟨_, rr_10_0 hR _ o0, ?_⟩
  obtain ⟨x3, h⟩ := h
  refine ⟨ix_i (ce_10_0 o0) x3, ?_⟩
  refine bnd_I ?_
  replace h := bnd_e h
  refine ⟨_, rr_10_1 hR _ o0, ?_⟩
  obtain ⟨x6, h⟩ := h
  refine ⟨ix_i (ce_10_1 o0) x6, ?_⟩
  refine bnd_I ?_
  replace h := bnd_e h
  refine ⟨o1, ?_⟩
  refine t_X5_rowOf hR o1 (fun r8 u9 hd h => ?_) hd h
  refine ite_mono (fun hc h => ?_) (fun hc h => ?_) h
  · exact t_X10_enter_p39 hR o0 o1 o0 hQ hd h
  · exact t_X10_enter_p39 hR o0 o1 o0 hQ hd h
/-! CalledRiver$Way.isBetterThan -/
set_option maxHeartbeats 4000000 in
set_option maxRecDepth 100000 in
def s_X10_isBetterThan (v0 : Nat) (v1 : Nat) (Q : Int32 → St → Prop) (u : St) : Prop :=
  s_J6_bitCount_0f7a4 (u.1 v0 4) (fun r1 u2 => s_J6_bitCount_0f7a4 (u2.1 v1 4) (fun r3 u4 => if 0 < (r1 - r3) then (Q (1 : Int32) u4) else (if (r1 - r3) = 0 then (if (u4.1 v1 2) ≤ (u4.1 v0 2) then (Q (0 : Int32) u4) else (Q (1 : Int32) u4)) else (Q (0 : Int32) u4))) u2) u
set_option maxHeartbeats 4000000 in
set_option maxRecDepth 100000 in
theorem t_X10_isBetterThan {ρ : Nat → Nat → Option Nat} (hR : RfH ρ) {v0 : Nat} {v1 : Nat} (o0 : Ob SH v0 10) (o1 : Ob SH v1 10) {Q : Int32 → St → Prop} {QW : Int32 → Mem → Prop} (hQ : ∀ (r : Int32) (u : St), DK u → Q r u → QW r (emb ρ u)) {u : St} (hd : DK u) (h : s_X10_isBetterThan v0 v1 Q u) : wp_X10_isBetterThan SH v0 v1 QW (emb ρ u) := by
  unfold wp_X10_isBetterThan
  unfold s_X10_isBetterThan at h
  refine ⟨o0, ?_⟩
  refine t_J6_bitCount_0f7a4 hR (fun r1 u2 hd h => ?_) hd h
  refine ⟨o1, ?_⟩
  refine t_J6_bitCount_0f7a4 hR (fun r3 u4 hd h => ?_) hd h
  refine ite_mono (fun hc h => ?_) (fun hc h => ?_) h
  · exact hQ _ _ hd h
  · refine ite_mono (fun hc h => ?_) (fun hc h => ?_) h
    · refine ite_mono (fun hc h => ?_) (fun hc h => ?_) h
      · exact hQ _ _ hd h
      · exact hQ _ _ hd h
    · exact hQ _ _ hd h
/-! CalledRiver$Land.flows -/
set_option maxHeartbeats 4000000 in
set_option maxRecDepth 100000 in
def s_X1_flows (v0 : Nat) (v1 : Int32) (v2 : Int32) (Q : Int32 → St → Prop) (u : St) : Prop :=
  vp_in v2 36 ∧ (if (u.1 (v0 + 2) v2.toNatClampNeg) = 0 then (vp_in v2 36 ∧ (vp_in v1 36 ∧ (if (u.1 (v0 + 1) v1.toNatClampNeg) < (u.1 (v0 + 1) v2.toNatClampNeg) then (Q (0 : Int32) u) else (Q (1 : Int32) u)))) else (Q (0 : Int32) u))
set_option maxHeartbeats 4000000 in
set_option maxRecDepth 100000 in
theorem t_X1_flows {ρ : Nat → Nat → Option Nat} (hR : RfH ρ) {v0 : Nat} {v1 : Int32} {v2 : Int32} (o0 : Ob SH v0 1) {Q : Int32 → St → Prop} {QW : Int32 → Mem → Prop} (hQ : ∀ (r : Int32) (u : St), DK u → Q r u → QW r (emb ρ u)) {u : St} (hd : DK u) (h : s_X1_flows v0 v1 v2 Q u) : wp_X1_flows SH v0 v1 v2 QW (emb ρ u) := by
  unfold wp_X1_flows
  unfold s_X1_flows at h
  refine ⟨o0, ?_⟩
  refine ⟨_, rr_1_3 hR _ o0, ?_⟩
  obtain ⟨x2, h⟩ := h
  refine ⟨ix_i (ce_1_3 o0) x2, ?_⟩
  refine ite_mono (fun hc h => ?_) (fun hc h => ?_) h
  · refine ⟨_, rr_1_2 hR _ o0, ?_⟩
    obtain ⟨x4, h⟩ := h
    refine ⟨ix_i (ce_1_2 o0) x4, ?_⟩
    obtain ⟨x5, h⟩ := h
    refine ⟨ix_i (ce_1_2 o0) x5, ?_⟩
    refine ite_mono (fun hc h => ?_) (fun hc h => ?_) h
    · exact hQ _ _ hd h
    · exact hQ _ _ hd h
  · exact hQ _ _ hd h
/-! CalledRiver$Plain.columnOf -/
set_option maxHeartbeats 4000000 in
set_option maxRecDepth 100000 in
def s_X5_columnOf (v0 : Nat) (v1 : Int32) (Q : Int32 → St → Prop) (u : St) : Prop :=
  if (u.1 v0 0) = 0 then (Q (-1 : Int32) u) else (¬ (u.1 v0 0) = 0 ∧ (Q (v1 - v1 / (u.1 v0 0) * (u.1 v0 0)) u))
set_option maxHeartbeats 4000000 in
set_option maxRecDepth 100000 in
theorem t_X5_columnOf {ρ : Nat → Nat → Option Nat} (hR : RfH ρ) {v0 : Nat} {v1 : Int32} (o0 : Ob SH v0 5) {Q : Int32 → St → Prop} {QW : Int32 → Mem → Prop} (hQ : ∀ (r : Int32) (u : St), DK u → Q r u → QW r (emb ρ u)) {u : St} (hd : DK u) (h : s_X5_columnOf v0 v1 Q u) : wp_X5_columnOf SH v0 v1 QW (emb ρ u) := by
  unfold wp_X5_columnOf
  unfold s_X5_columnOf at h
  refine ⟨o0, ?_⟩
  refine ite_mono (fun hc h => ?_) (fun hc h => ?_) h
  · exact hQ _ _ hd h
  · refine ⟨h.1, ?_⟩
    replace h := h.2
    exact hQ _ _ hd h
/-! CalledRiver$Plain.placeOf -/
set_option maxHeartbeats 4000000 in
set_option maxRecDepth 100000 in
def sX5_placeOf_p29 (v0 : Nat) (v1 : Int32) (v2 : Int32) (s0 : Int32) (Q : Int32 → St → Prop) (u : St) : Prop :=
  if s0 = 0 then (Q (-1 : Int32) u) else (Q ((v2 * (u.1 v0 0)) + v1) u)
set_option maxHeartbeats 4000000 in
set_option maxRecDepth 100000 in
def sX5_placeOf_p28 (v0 : Nat) (v1 : Int32) (v2 : Int32) (Q : Int32 → St → Prop) (u : St) : Prop :=
  sX5_placeOf_p29 v0 v1 v2 (0 : Int32) Q u
set_option maxHeartbeats 4000000 in
set_option maxRecDepth 100000 in
def s_X5_placeOf (v0 : Nat) (v1 : Int32) (v2 : Int32) (Q : Int32 → St → Prop) (u : St) : Prop :=
  if v1 < 0 then (sX5_placeOf_p28 v0 v1 v2 Q u) else (if (u.1 v0 0) ≤ v1 then (sX5_placeOf_p28 v0 v1 v2 Q u) else (if v2 < 0 then (sX5_placeOf_p28 v0 v1 v2 Q u) else (if (u.1 v0 1) ≤ v2 then (sX5_placeOf_p28 v0 v1 v2 Q u) else (sX5_placeOf_p29 v0 v1 v2 (1 : Int32) Q u))))
set_option maxHeartbeats 4000000 in
set_option maxRecDepth 100000 in
theorem t_X5_placeOf_p29 {ρ : Nat → Nat → Option Nat} (hR : RfH ρ) {v0 : Nat} {v1 : Int32} {v2 : Int32} (o0 : Ob SH v0 5) {s0 : Int32} {Q : Int32 → St → Prop} {QW : Int32 → Mem → Prop} (hQ : ∀ (r : Int32) (u : St), DK u → Q r u → QW r (emb ρ u)) {u : St} (hd : DK u) (h : sX5_placeOf_p29 v0 v1 v2 s0 Q u) : X5_placeOf_p29 SH v0 v1 v2 s0 QW (emb ρ u) := by
  unfold X5_placeOf_p29
  unfold sX5_placeOf_p29 at h
  refine ite_mono (fun hc h => ?_) (fun hc h => ?_) h
  · exact hQ _ _ hd h
  · refine ⟨o0, ?_⟩
    exact hQ _ _ hd h
set_option maxHeartbeats 4000000 in
set_option maxRecDepth 100000 in
theorem t_X5_placeOf_p28 {ρ : Nat → Nat → Option Nat} (hR : RfH ρ) {v0 : Nat} {v1 : Int32} {v2 : Int32} (o0 : Ob SH v0 5) {Q : Int32 → St → Prop} {QW : Int32 → Mem → Prop} (hQ : ∀ (r : Int32) (u : St), DK u → Q r u → QW r (emb ρ u)) {u : St} (hd : DK u) (h : sX5_placeOf_p28 v0 v1 v2 Q u) : X5_placeOf_p28 SH v0 v1 v2 QW (emb ρ u) := by
  unfold X5_placeOf_p28
  unfold sX5_placeOf_p28 at h
  exact t_X5_placeOf_p29 hR o0 hQ hd h
set_option maxHeartbeats 4000000 in
set_option maxRecDepth 100000 in
theorem t_X5_placeOf {ρ : Nat → Nat → Option Nat} (hR : RfH ρ) {v0 : Nat} {v1 : Int32} {v2 : Int32} (o0 : Ob SH v0 5) {Q : Int32 → St → Prop} {QW : Int32 → Mem → Prop} (hQ : ∀ (r : Int32) (u : St), DK u → Q r u → QW r (emb ρ u)) {u : St} (hd : DK u) (h : s_X5_placeOf v0 v1 v2 Q u) : wp_X5_placeOf SH v0 v1 v2 QW (emb ρ u) := by
  unfold wp_X5_placeOf
  unfold s_X5_placeOf at h
  refine ite_mono (fun hc h => ?_) (fun hc h => ?_) h
  · exact t_X5_placeOf_p28 hR o0 hQ hd h
  · refine ⟨o0, ?_⟩
    refine ite_mono (fun hc h => ?_) (fun hc h => ?_) h
    · exact t_X5_placeOf_p28 hR o0 hQ hd h
    · refine ite_mono (fun hc h => ?_) (fun hc h => ?_) h
      · exact t_X5_placeOf_p28 hR o0 hQ hd h
      · refine ite_mono (fun hc h => ?_) (fun hc h => ?_) h
        · exact t_X5_placeOf_p28 hR o0 hQ hd h
        · exact t_X5_placeOf_p29 hR o0 hQ hd h
/-! CalledRiver$Plain.beside -/
set_option maxHeartbeats 4000000 in
set_option maxRecDepth 100000 in
def s_X5_beside (v0 : Nat) (v1 : Int32) (v2 : Int32) (Q : Int32 → St → Prop) (u : St) : Prop :=
  s_X5_columnOf v0 v1 (fun r1 u2 => vp_in v2 4 ∧ (s_X5_rowOf v0 v1 (fun r3 u4 => vp_in v2 4 ∧ (s_X5_placeOf v0 (r1 + (acr v2.toNatClampNeg)) (r3 + (dwn v2.toNatClampNeg)) (fun r5 u6 => Q r5 u6) u4)) u2)) u
set_option maxHeartbeats 4000000 in
set_option maxRecDepth 100000 in
theorem t_X5_beside {ρ : Nat → Nat → Option Nat} (hR : RfH ρ) {v0 : Nat} {v1 : Int32} {v2 : Int32} (o0 : Ob SH v0 5) {Q : Int32 → St → Prop} {QW : Int32 → Mem → Prop} (hQ : ∀ (r : Int32) (u : St), DK u → Q r u → QW r (emb ρ u)) {u : St} (hd : DK u) (h : s_X5_beside v0 v1 v2 Q u) : wp_X5_beside SH v0 v1 v2 QW (emb ρ u) := by
  unfold wp_X5_beside
  unfold s_X5_beside at h
  refine ⟨o0, ?_⟩
  refine t_X5_columnOf hR o0 (fun r1 u2 hd h => ?_) hd h
  refine ⟨h.1, ?_⟩
  replace h := h.2
  refine t_X5_rowOf hR o0 (fun r3 u4 hd h => ?_) hd h
  refine ⟨h.1, ?_⟩
  replace h := h.2
  refine t_X5_placeOf hR o0 (fun r5 u6 hd h => ?_) hd h
  exact hQ _ _ hd h
/-! CalledRiver$Way.nextPlace -/
set_option maxHeartbeats 4000000 in
set_option maxRecDepth 100000 in
def sX10_nextPlace_p176 (v0 : Nat) (v1 : Nat) (v2 : Nat) (v3 : Int32) (v4 : Int32) (v5 : Int32) (v6 : Int32) (Q : Int32 → St → Prop) (K22 : Int32 → Int32 → Int32 → St → Prop) (u : St) : Prop :=
  K22 v4 v5 (v6 + (1 : Int32)) u
set_option maxHeartbeats 4000000 in
set_option maxRecDepth 100000 in
def sX10_nextPlace_p168 (v0 : Nat) (v1 : Nat) (v2 : Nat) (v3 : Int32) (v6 : Int32) (v7 : Int32) (v9 : Int32) (Q : Int32 → St → Prop) (K22 : Int32 → Int32 → Int32 → St → Prop) (u : St) : Prop :=
  sX10_nextPlace_p176 v0 v1 v2 v3 v7 v9 v6 Q K22 u
set_option maxHeartbeats 4000000 in
set_option maxRecDepth 100000 in
def sX10_nextPlace_p95 (v0 : Nat) (v1 : Nat) (v2 : Nat) (v3 : Int32) (v4 : Int32) (v5 : Int32) (v6 : Int32) (v7 : Int32) (s2 : Int32) (s1 : Int32) (s0 : Nat) (Q : Int32 → St → Prop) (K22 : Int32 → Int32 → Int32 → St → Prop) (u : St) : Prop :=
  vp_in s1 23 ∧ bnd (tI u s0 s1.toNatClampNeg s2) (fun u16 => vp_in v7 36 ∧ (vp_in (2 : Int32) 23 ∧ bnd (tI u16 (v0 + 3) (2 : Int32).toNatClampNeg (u16.1 (v2 + 3) v7.toNatClampNeg)) (fun u21 => vp_in v7 36 ∧ (vp_in (5 : Int32) 23 ∧ bnd (tI u21 (v0 + 3) (5 : Int32).toNatClampNeg (u21.1 (v2 + 1) v7.toNatClampNeg)) (fun u25 => s_X5_rowOf v1 v7 (fun r26 u27 => vp_in (6 : Int32) 23 ∧ bnd (tI u27 (v0 + 3) (6 : Int32).toNatClampNeg (((u25.1 v1 1) - (1 : Int32)) - r26)) (fun u29 => s_X0_worth (v1 + 11) (v0 + 3) (fun r32 u33 => if v4 = (-1 : Int32) then (sX10_nextPlace_p168 v0 v1 v2 v3 v6 v7 r32 Q K22 u33) else (if r32 ≤ v5 then (sX10_nextPlace_p176 v0 v1 v2 v3 v4 v5 v6 Q K22 u33) else (sX10_nextPlace_p168 v0 v1 v2 v3 v6 v7 r32 Q K22 u33))) u29)) u25)))))
set_option maxHeartbeats 4000000 in
set_option maxRecDepth 100000 in
def sX10_nextPlace_p22b (v0 : Nat) (v1 : Nat) (v2 : Nat) (v3 : Int32) (Q : Int32 → St → Prop) (K22 : Int32 → Int32 → Int32 → St → Prop) (v4 : Int32) (v5 : Int32) (v6 : Int32) (u : St) : Prop :=
  if (4 : Int32) ≤ v6 then (Q v4 u) else (s_X5_beside v1 v3 v6 (fun r4 u5 => if r4 = (-1 : Int32) then (sX10_nextPlace_p176 v0 v1 v2 v3 v4 v5 v6 Q K22 u5) else (vp_in r4 36 ∧ (if (u5.1 (v0 + 2) r4.toNatClampNeg) = (-1 : Int32) then (s_X1_flows v2 v3 r4 (fun r8 u9 => if r8 = 0 then (sX10_nextPlace_p176 v0 v1 v2 v3 v4 v5 v6 Q K22 u9) else (vp_in r4 36 ∧ (if (u9.1 (v1 + 3) r4.toNatClampNeg) = (-1 : Int32) then (sX10_nextPlace_p95 v0 v1 v2 v3 v4 v5 v6 r4 (0 : Int32) (1 : Int32) (v0 + 3) Q K22 u9) else (vp_in (u9.1 (v1 + 3) r4.toNatClampNeg) 6 ∧ (sX10_nextPlace_p95 v0 v1 v2 v3 v4 v5 v6 r4 (u9.1 (v2 + 4) (u9.1 (v1 + 3) r4.toNatClampNeg).toNatClampNeg) (1 : Int32) (v0 + 3) Q K22 u9))))) u5) else (sX10_nextPlace_p176 v0 v1 v2 v3 v4 v5 v6 Q K22 u5)))) u)
set_option maxHeartbeats 4000000 in
set_option maxRecDepth 100000 in
def sX10_nextPlace_p22n (v0 : Nat) (v1 : Nat) (v2 : Nat) (v3 : Int32) (Q : Int32 → St → Prop) : Nat → Int32 → Int32 → Int32 → St → Prop
  | 0 => fun _ _ _ _ => False
  | n + 1 => sX10_nextPlace_p22b v0 v1 v2 v3 Q (sX10_nextPlace_p22n v0 v1 v2 v3 Q n)
set_option maxHeartbeats 4000000 in
set_option maxRecDepth 100000 in
def sX10_nextPlace_p22 (v0 : Nat) (v1 : Nat) (v2 : Nat) (v3 : Int32) (Q : Int32 → St → Prop) (v4 : Int32) (v5 : Int32) (v6 : Int32) (u : St) : Prop := ∃ n, sX10_nextPlace_p22n v0 v1 v2 v3 Q n v4 v5 v6 u
set_option maxHeartbeats 4000000 in
set_option maxRecDepth 100000 in
def s_X10_nextPlace (v0 : Nat) (v1 : Nat) (v2 : Nat) (v3 : Int32) (Q : Int32 → St → Prop) (u : St) : Prop :=
  vp_in (7 : Int32) 23 ∧ bnd (tI u (v0 + 3) (7 : Int32).toNatClampNeg ((u.1 v0 2) + (1 : Int32))) (fun u3 => sX10_nextPlace_p22 v0 v1 v2 v3 Q (-1 : Int32) (0 : Int32) (0 : Int32) u3)
set_option maxHeartbeats 4000000 in
set_option maxRecDepth 100000 in
theorem t_X10_nextPlace_p176 {ρ : Nat → Nat → Option Nat} (hR : RfH ρ) {v0 : Nat} {v1 : Nat} {v2 : Nat} {v3 : Int32} {v4 : Int32} {v5 : Int32} {v6 : Int32} (o0 : Ob SH v0 10) (o1 : Ob SH v1 5) (o2 : Ob SH v2 1) {Q : Int32 → St → Prop} {QW : Int32 → Mem → Prop} {K22 : Int32 → Int32 → Int32 → St → Prop} {KW22 : Int32 → Int32 → Int32 → Mem → Prop} (hQ : ∀ (r : Int32) (u : St), DK u → Q r u → QW r (emb ρ u)) (hK22 : ∀ (x4 : Int32) (x5 : Int32) (x6 : Int32) (u : St), DK u → K22 x4 x5 x6 u → KW22 x4 x5 x6 (emb ρ u)) {u : St} (hd : DK u) (h : sX10_nextPlace_p176 v0 v1 v2 v3 v4 v5 v6 Q K22 u) : X10_nextPlace_p176 SH v0 v1 v2 v3 v4 v5 v6 QW KW22 (emb ρ u) := by
  unfold X10_nextPlace_p176
  unfold sX10_nextPlace_p176 at h
  exact hK22 _ _ _ _ hd h
set_option maxHeartbeats 4000000 in
set_option maxRecDepth 100000 in
theorem t_X10_nextPlace_p168 {ρ : Nat → Nat → Option Nat} (hR : RfH ρ) {v0 : Nat} {v1 : Nat} {v2 : Nat} {v3 : Int32} {v6 : Int32} {v7 : Int32} {v9 : Int32} (o0 : Ob SH v0 10) (o1 : Ob SH v1 5) (o2 : Ob SH v2 1) {Q : Int32 → St → Prop} {QW : Int32 → Mem → Prop} {K22 : Int32 → Int32 → Int32 → St → Prop} {KW22 : Int32 → Int32 → Int32 → Mem → Prop} (hQ : ∀ (r : Int32) (u : St), DK u → Q r u → QW r (emb ρ u)) (hK22 : ∀ (x4 : Int32) (x5 : Int32) (x6 : Int32) (u : St), DK u → K22 x4 x5 x6 u → KW22 x4 x5 x6 (emb ρ u)) {u : St} (hd : DK u) (h : sX10_nextPlace_p168 v0 v1 v2 v3 v6 v7 v9 Q K22 u) : X10_nextPlace_p168 SH v0 v1 v2 v3 v6 v7 v9 QW KW22 (emb ρ u) := by
  unfold X10_nextPlace_p168
  unfold sX10_nextPlace_p168 at h
  exact t_X10_nextPlace_p176 hR o0 o1 o2 hQ hK22 hd h
set_option maxHeartbeats 4000000 in
set_option maxRecDepth 100000 in
theorem t_X10_nextPlace_p95 {ρ : Nat → Nat → Option Nat} (hR : RfH ρ) {v0 : Nat} {v1 : Nat} {v2 : Nat} {v3 : Int32} {v4 : Int32} {v5 : Int32} {v6 : Int32} {v7 : Int32} (o0 : Ob SH v0 10) (o1 : Ob SH v1 5) (o2 : Ob SH v2 1) {s2 : Int32} {s1 : Int32} {s0 : Nat} (qs0 : SH[s0]? = some (100, 23)) {Q : Int32 → St → Prop} {QW : Int32 → Mem → Prop} {K22 : Int32 → Int32 → Int32 → St → Prop} {KW22 : Int32 → Int32 → Int32 → Mem → Prop} (hQ : ∀ (r : Int32) (u : St), DK u → Q r u → QW r (emb ρ u)) (hK22 : ∀ (x4 : Int32) (x5 : Int32) (x6 : Int32) (u : St), DK u → K22 x4 x5 x6 u → KW22 x4 x5 x6 (emb ρ u)) {u : St} (hd : DK u) (h : sX10_nextPlace_p95 v0 v1 v2 v3 v4 v5 v6 v7 s2 s1 s0 Q K22 u) : X10_nextPlace_p95 SH v0 v1 v2 v3 v4 v5 v6 v7 s2 s1 s0 QW KW22 (emb ρ u) := by
  unfold X10_nextPlace_p95
  unfold sX10_nextPlace_p95 at h
  obtain ⟨x15, h⟩ := h
  refine ⟨ix_i qs0 x15, ?_⟩
  refine bnd_I ?_
  replace h := bnd_e h
  refine ⟨o0, ?_⟩
  refine ⟨_, rr_10_6 hR _ o0, ?_⟩
  refine ⟨o2, ?_⟩
  refine ⟨_, rr_1_4 hR _ o2, ?_⟩
  obtain ⟨x19, h⟩ := h
  refine ⟨ix_i (ce_1_4 o2) x19, ?_⟩
  obtain ⟨x20, h⟩ := h
  refine ⟨ix_i (ce_10_6 o0) x20, ?_⟩
  refine bnd_I ?_
  replace h := bnd_e h
  refine ⟨_, rr_1_2 hR _ o2, ?_⟩
  obtain ⟨x23, h⟩ := h
  refine ⟨ix_i (ce_1_2 o2) x23, ?_⟩
  obtain ⟨x24, h⟩ := h
  refine ⟨ix_i (ce_10_6 o0) x24, ?_⟩
  refine bnd_I ?_
  replace h := bnd_e h
  refine ⟨o1, ?_⟩
  refine t_X5_rowOf hR o1 (fun r26 u27 hd h => ?_) hd h
  obtain ⟨x28, h⟩ := h
  refine ⟨ix_i (ce_10_6 o0) x28, ?_⟩
  refine bnd_I ?_
  replace h := bnd_e h
  refine ⟨_, rr_5_15 hR _ o1, ?_⟩
  refine ⟨_, rr_10_6 hR _ o0, ?_⟩
  refine ⟨(ob_5_15 o1), ?_⟩
  refine t_X0_worth hR (ob_5_15 o1) (fun r32 u33 hd h => ?_) hd h
  refine ite_mono (fun hc h => ?_) (fun hc h => ?_) h
  · exact t_X10_nextPlace_p168 hR o0 o1 o2 hQ hK22 hd h
  · refine ite_mono (fun hc h => ?_) (fun hc h => ?_) h
    · exact t_X10_nextPlace_p176 hR o0 o1 o2 hQ hK22 hd h
    · exact t_X10_nextPlace_p168 hR o0 o1 o2 hQ hK22 hd h
set_option maxHeartbeats 4000000 in
set_option maxRecDepth 100000 in
theorem t_X10_nextPlace_p22b {ρ : Nat → Nat → Option Nat} (hR : RfH ρ) {v0 : Nat} {v1 : Nat} {v2 : Nat} {v3 : Int32} {v4 : Int32} {v5 : Int32} {v6 : Int32} (o0 : Ob SH v0 10) (o1 : Ob SH v1 5) (o2 : Ob SH v2 1) {Q : Int32 → St → Prop} {QW : Int32 → Mem → Prop} (hQ : ∀ (r : Int32) (u : St), DK u → Q r u → QW r (emb ρ u)) {K22 : Int32 → Int32 → Int32 → St → Prop} {KW22 : Int32 → Int32 → Int32 → Mem → Prop} (hK22 : ∀ (x4 : Int32) (x5 : Int32) (x6 : Int32) (u : St), DK u → K22 x4 x5 x6 u → KW22 x4 x5 x6 (emb ρ u)) {u : St} (hd : DK u) (h : sX10_nextPlace_p22b v0 v1 v2 v3 Q K22 v4 v5 v6 u) : X10_nextPlace_p22b SH v0 v1 v2 v3 QW KW22 v4 v5 v6 (emb ρ u) := by
  unfold X10_nextPlace_p22b
  unfold sX10_nextPlace_p22b at h
  refine ite_mono (fun hc h => ?_) (fun hc h => ?_) h
  · exact hQ _ _ hd h
  · refine ⟨o1, ?_⟩
    refine t_X5_beside hR o1 (fun r4 u5 hd h => ?_) hd h
    refine ite_mono (fun hc h => ?_) (fun hc h => ?_) h
    · exact t_X10_nextPlace_p176 hR o0 o1 o2 hQ hK22 hd h
    · refine ⟨o0, ?_⟩
      refine ⟨_, rr_10_1 hR _ o0, ?_⟩
      obtain ⟨x7, h⟩ := h
      refine ⟨ix_i (ce_10_1 o0) x7, ?_⟩
      refine ite_mono (fun hc h => ?_) (fun hc h => ?_) h
      · refine ⟨o2, ?_⟩
        refine t_X1_flows hR o2 (fun r8 u9 hd h => ?_) hd h
        refine ite_mono (fun hc h => ?_) (fun hc h => ?_) h
        · exact t_X10_nextPlace_p176 hR o0 o1 o2 hQ hK22 hd h
        · refine ⟨_, rr_5_7 hR _ o1, ?_⟩
          obtain ⟨x11, h⟩ := h
          refine ⟨ix_i (ce_5_7 o1) x11, ?_⟩
          refine ⟨_, rr_10_6 hR _ o0, ?_⟩
          refine ite_mono (fun hc h => ?_) (fun hc h => ?_) h
          · exact t_X10_nextPlace_p95 hR o0 o1 o2 (ce_10_6 o0) hQ hK22 hd h
          · refine ⟨_, rr_1_5 hR _ o2, ?_⟩
            obtain ⟨x14, h⟩ := h
            refine ⟨ix_i (ce_1_5 o2) x14, ?_⟩
            exact t_X10_nextPlace_p95 hR o0 o1 o2 (ce_10_6 o0) hQ hK22 hd h
      · exact t_X10_nextPlace_p176 hR o0 o1 o2 hQ hK22 hd h
set_option maxHeartbeats 4000000 in
set_option maxRecDepth 100000 in
theorem t_X10_nextPlace_p22n {ρ : Nat → Nat → Option Nat} (hR : RfH ρ) {v0 : Nat} {v1 : Nat} {v2 : Nat} {v3 : Int32} (o0 : Ob SH v0 10) (o1 : Ob SH v1 5) (o2 : Ob SH v2 1) {Q : Int32 → St → Prop} {QW : Int32 → Mem → Prop} (hQ : ∀ (r : Int32) (u : St), DK u → Q r u → QW r (emb ρ u)) : ∀ (n : Nat) (v4 : Int32) (v5 : Int32) (v6 : Int32) (u : St), DK u → sX10_nextPlace_p22n v0 v1 v2 v3 Q n v4 v5 v6 u → X10_nextPlace_p22n SH v0 v1 v2 v3 QW n v4 v5 v6 (emb ρ u)
  | 0, _,_,_, _,  _, h => h.elim
  | n + 1, v4, v5, v6,  u,  hd, h => t_X10_nextPlace_p22b hR o0 o1 o2 hQ (fun v4 v5 v6 u  hd h => t_X10_nextPlace_p22n hR o0 o1 o2 hQ n v4 v5 v6 u  hd h) hd h
set_option maxHeartbeats 4000000 in
set_option maxRecDepth 100000 in
theorem t_X10_nextPlace_p22 {ρ : Nat → Nat → Option Nat} (hR : RfH ρ) {v0 : Nat} {v1 : Nat} {v2 : Nat} {v3 : Int32} {v4 : Int32} {v5 : Int32} {v6 : Int32} (o0 : Ob SH v0 10) (o1 : Ob SH v1 5) (o2 : Ob SH v2 1) {Q : Int32 → St → Prop} {QW : Int32 → Mem → Prop} (hQ : ∀ (r : Int32) (u : St), DK u → Q r u → QW r (emb ρ u)) {u : St} (hd : DK u) (h : sX10_nextPlace_p22 v0 v1 v2 v3 Q v4 v5 v6 u) : X10_nextPlace_p22 SH v0 v1 v2 v3 QW v4 v5 v6 (emb ρ u) := h.elim (fun n h => ⟨n, t_X10_nextPlace_p22n hR o0 o1 o2 hQ n _ _ _ _ hd h⟩)
set_option maxHeartbeats 4000000 in
set_option maxRecDepth 100000 in
theorem t_X10_nextPlace {ρ : Nat → Nat → Option Nat} (hR : RfH ρ) {v0 : Nat} {v1 : Nat} {v2 : Nat} {v3 : Int32} (o0 : Ob SH v0 10) (o1 : Ob SH v1 5) (o2 : Ob SH v2 1) {Q : Int32 → St → Prop} {QW : Int32 → Mem → Prop} (hQ : ∀ (r : Int32) (u : St), DK u → Q r u → QW r (emb ρ u)) {u : St} (hd : DK u) (h : s_X10_nextPlace v0 v1 v2 v3 Q u) : wp_X10_nextPlace SH v0 v1 v2 v3 QW (emb ρ u) := by
  unfold wp_X10_nextPlace
  unfold s_X10_nextPlace at h
  refine ⟨o0, ?_⟩
  refine ⟨_, rr_10_6 hR _ o0, ?_⟩
  obtain ⟨x2, h⟩ := h
  refine ⟨ix_i (ce_10_6 o0) x2, ?_⟩
  refine bnd_I ?_
  replace h := bnd_e h
  exact t_X10_nextPlace_p22 hR o0 o1 o2 hQ hd h
/-! CalledRiver$Way.lead -/
set_option maxHeartbeats 4000000 in
set_option maxRecDepth 100000 in
def sX10_lead_p129 (v0 : Nat) (v1 : Nat) (v2 : Nat) (v5 : Int32) (s0 : Int32) (Q : St → Prop) (K88 : Int32 → Int32 → St → Prop) (u : St) : Prop :=
  K88 s0 (v5 + (1 : Int32)) u
set_option maxHeartbeats 4000000 in
set_option maxRecDepth 100000 in
def sX10_lead_p88b (v0 : Nat) (v1 : Nat) (v2 : Nat) (Q : St → Prop) (K88 : Int32 → Int32 → St → Prop) (v4 : Int32) (v5 : Int32) (u : St) : Prop :=
  if (36 : Int32) ≤ v5 then (Q u) else (if v4 = (-1 : Int32) then (Q u) else (s_X10_enter v0 v1 v4 v5 (fun u22 => if (u22.1 v0 3) = 0 then (s_X10_nextPlace v0 v1 v2 v4 (fun r23 u24 => sX10_lead_p129 v0 v1 v2 v5 r23 Q K88 u24) u22) else (sX10_lead_p129 v0 v1 v2 v5 (-1 : Int32) Q K88 u22)) u))
set_option maxHeartbeats 4000000 in
set_option maxRecDepth 100000 in
def sX10_lead_p88n (v0 : Nat) (v1 : Nat) (v2 : Nat) (Q : St → Prop) : Nat → Int32 → Int32 → St → Prop
  | 0 => fun _ _ _ => False
  | n + 1 => sX10_lead_p88b v0 v1 v2 Q (sX10_lead_p88n v0 v1 v2 Q n)
set_option maxHeartbeats 4000000 in
set_option maxRecDepth 100000 in
def sX10_lead_p88 (v0 : Nat) (v1 : Nat) (v2 : Nat) (Q : St → Prop) (v4 : Int32) (v5 : Int32) (u : St) : Prop := ∃ n, sX10_lead_p88n v0 v1 v2 Q n v4 v5 u
set_option maxHeartbeats 4000000 in
set_option maxRecDepth 100000 in
def sX10_lead_p83 (v0 : Nat) (v1 : Nat) (v2 : Nat) (s0 : Int32) (Q : St → Prop) (u : St) : Prop :=
  sX10_lead_p88 v0 v1 v2 Q s0 (0 : Int32) u
set_option maxHeartbeats 4000000 in
set_option maxRecDepth 100000 in
def s_X10_lead (v0 : Nat) (v1 : Nat) (v2 : Nat) (v3 : Int32) (Q : St → Prop) (u : St) : Prop :=
  bnd (tI u v0 2 (-1 : Int32)) (fun u1 => bnd (tI u1 v0 3 (0 : Int32)) (fun u2 => bnd (tI u2 v0 4 (0 : Int32)) (fun u3 => bnd (tI u3 v0 5 (1 : Int32)) (fun u4 => s_J7_fill_53178 (v0 + 2) (-1 : Int32) (fun u7 => vp_in (0 : Int32) 23 ∧ bnd (tI u7 (v0 + 3) (0 : Int32).toNatClampNeg (u7.1 v2 0)) (fun u10 => vp_in v3 5 ∧ (vp_in (3 : Int32) 23 ∧ bnd (tI u10 (v0 + 3) (3 : Int32).toNatClampNeg (u10.1 (v1 + 9) v3.toNatClampNeg)) (fun u14 => vp_in v3 5 ∧ (vp_in (4 : Int32) 23 ∧ bnd (tI u14 (v0 + 3) (4 : Int32).toNatClampNeg (u14.1 (v1 + 10) v3.toNatClampNeg)) (fun u18 => vp_in (u18.1 v1 2) 36 ∧ (if (u18.1 (v2 + 2) (u18.1 v1 2).toNatClampNeg) = (1 : Int32) then (sX10_lead_p83 v0 v1 v2 (-1 : Int32) Q u18) else (sX10_lead_p83 v0 v1 v2 (u18.1 v1 2) Q u18)))))))) u4))))
set_option maxHeartbeats 4000000 in
set_option maxRecDepth 100000 in
theorem t_X10_lead_p129 {ρ : Nat → Nat → Option Nat} (hR : RfH ρ) {v0 : Nat} {v1 : Nat} {v2 : Nat} {v5 : Int32} (o0 : Ob SH v0 10) (o1 : Ob SH v1 5) (o2 : Ob SH v2 1) {s0 : Int32} {Q : St → Prop} {QW : Mem → Prop} {K88 : Int32 → Int32 → St → Prop} {KW88 : Int32 → Int32 → Mem → Prop} (hQ : ∀ (u : St), DK u → Q u → QW (emb ρ u)) (hK88 : ∀ (x4 : Int32) (x5 : Int32) (u : St), DK u → K88 x4 x5 u → KW88 x4 x5 (emb ρ u)) {u : St} (hd : DK u) (h : sX10_lead_p129 v0 v1 v2 v5 s0 Q K88 u) : X10_lead_p129 SH v0 v1 v2 v5 s0 QW KW88 (emb ρ u) := by
  unfold X10_lead_p129
  unfold sX10_lead_p129 at h
  exact hK88 _ _ _ hd h
set_option maxHeartbeats 4000000 in
set_option maxRecDepth 100000 in
theorem t_X10_lead_p88b {ρ : Nat → Nat → Option Nat} (hR : RfH ρ) {v0 : Nat} {v1 : Nat} {v2 : Nat} {v4 : Int32} {v5 : Int32} (o0 : Ob SH v0 10) (o1 : Ob SH v1 5) (o2 : Ob SH v2 1) {Q : St → Prop} {QW : Mem → Prop} (hQ : ∀ (u : St), DK u → Q u → QW (emb ρ u)) {K88 : Int32 → Int32 → St → Prop} {KW88 : Int32 → Int32 → Mem → Prop} (hK88 : ∀ (x4 : Int32) (x5 : Int32) (u : St), DK u → K88 x4 x5 u → KW88 x4 x5 (emb ρ u)) {u : St} (hd : DK u) (h : sX10_lead_p88b v0 v1 v2 Q K88 v4 v5 u) : X10_lead_p88b SH v0 v1 v2 QW KW88 v4 v5 (emb ρ u) := by
  unfold X10_lead_p88b
  unfold sX10_lead_p88b at h
  refine ite_mono (fun hc h => ?_) (fun hc h => ?_) h
  · exact hQ _ hd h
  · refine ite_mono (fun hc h => ?_) (fun hc h => ?_) h
    · exact hQ _ hd h
    · refine ⟨o0, ?_⟩
      refine t_X10_enter hR o0 o1 (fun u22 hd h => ?_) hd h
      refine ite_mono (fun hc h => ?_) (fun hc h => ?_) h
      · refine t_X10_nextPlace hR o0 o1 o2 (fun r23 u24 hd h => ?_) hd h
        exact t_X10_lead_p129 hR o0 o1 o2 hQ hK88 hd h
      · exact t_X10_lead_p129 hR o0 o1 o2 hQ hK88 hd h
set_option maxHeartbeats 4000000 in
set_option maxRecDepth 100000 in
theorem t_X10_lead_p88n {ρ : Nat → Nat → Option Nat} (hR : RfH ρ) {v0 : Nat} {v1 : Nat} {v2 : Nat} (o0 : Ob SH v0 10) (o1 : Ob SH v1 5) (o2 : Ob SH v2 1) {Q : St → Prop} {QW : Mem → Prop} (hQ : ∀ (u : St), DK u → Q u → QW (emb ρ u)) : ∀ (n : Nat) (v4 : Int32) (v5 : Int32) (u : St), DK u → sX10_lead_p88n v0 v1 v2 Q n v4 v5 u → X10_lead_p88n SH v0 v1 v2 QW n v4 v5 (emb ρ u)
  | 0, _,_, _,  _, h => h.elim
  | n + 1, v4, v5,  u,  hd, h => t_X10_lead_p88b hR o0 o1 o2 hQ (fun v4 v5 u  hd h => t_X10_lead_p88n hR o0 o1 o2 hQ n v4 v5 u  hd h) hd h
set_option maxHeartbeats 4000000 in
set_option maxRecDepth 100000 in
theorem t_X10_lead_p88 {ρ : Nat → Nat → Option Nat} (hR : RfH ρ) {v0 : Nat} {v1 : Nat} {v2 : Nat} {v4 : Int32} {v5 : Int32} (o0 : Ob SH v0 10) (o1 : Ob SH v1 5) (o2 : Ob SH v2 1) {Q : St → Prop} {QW : Mem → Prop} (hQ : ∀ (u : St), DK u → Q u → QW (emb ρ u)) {u : St} (hd : DK u) (h : sX10_lead_p88 v0 v1 v2 Q v4 v5 u) : X10_lead_p88 SH v0 v1 v2 QW v4 v5 (emb ρ u) := h.elim (fun n h => ⟨n, t_X10_lead_p88n hR o0 o1 o2 hQ n _ _ _ hd h⟩)
set_option maxHeartbeats 4000000 in
set_option maxRecDepth 100000 in
theorem t_X10_lead_p83 {ρ : Nat → Nat → Option Nat} (hR : RfH ρ) {v0 : Nat} {v1 : Nat} {v2 : Nat} (o0 : Ob SH v0 10) (o1 : Ob SH v1 5) (o2 : Ob SH v2 1) {s0 : Int32} {Q : St → Prop} {QW : Mem → Prop} (hQ : ∀ (u : St), DK u → Q u → QW (emb ρ u)) {u : St} (hd : DK u) (h : sX10_lead_p83 v0 v1 v2 s0 Q u) : X10_lead_p83 SH v0 v1 v2 s0 QW (emb ρ u) := by
  unfold X10_lead_p83
  unfold sX10_lead_p83 at h
  exact t_X10_lead_p88 hR o0 o1 o2 hQ hd h
set_option maxHeartbeats 4000000 in
set_option maxRecDepth 100000 in
theorem t_X10_lead {ρ : Nat → Nat → Option Nat} (hR : RfH ρ) {v0 : Nat} {v1 : Nat} {v2 : Nat} {v3 : Int32} (o0 : Ob SH v0 10) (o1 : Ob SH v1 5) (o2 : Ob SH v2 1) {Q : St → Prop} {QW : Mem → Prop} (hQ : ∀ (u : St), DK u → Q u → QW (emb ρ u)) {u : St} (hd : DK u) (h : s_X10_lead v0 v1 v2 v3 Q u) : wp_X10_lead SH v0 v1 v2 v3 QW (emb ρ u) := by
  unfold wp_X10_lead
  unfold s_X10_lead at h
  refine ⟨o0, ?_⟩
  refine bnd_I ?_
  replace h := bnd_e h
  refine bnd_I ?_
  replace h := bnd_e h
  refine bnd_I ?_
  replace h := bnd_e h
  refine bnd_I ?_
  replace h := bnd_e h
  refine ⟨_, rr_10_1 hR _ o0, ?_⟩
  refine t_J7_fill_53178 hR (fun u7 hd h => ?_) hd h
  refine ⟨_, rr_10_6 hR _ o0, ?_⟩
  refine ⟨o2, ?_⟩
  obtain ⟨x9, h⟩ := h
  refine ⟨ix_i (ce_10_6 o0) x9, ?_⟩
  refine bnd_I ?_
  replace h := bnd_e h
  refine ⟨o1, ?_⟩
  refine ⟨_, rr_5_13 hR _ o1, ?_⟩
  obtain ⟨x12, h⟩ := h
  refine ⟨ix_i (ce_5_13 o1) x12, ?_⟩
  obtain ⟨x13, h⟩ := h
  refine ⟨ix_i (ce_10_6 o0) x13, ?_⟩
  refine bnd_I ?_
  replace h := bnd_e h
  refine ⟨_, rr_5_14 hR _ o1, ?_⟩
  obtain ⟨x16, h⟩ := h
  refine ⟨ix_i (ce_5_14 o1) x16, ?_⟩
  obtain ⟨x17, h⟩ := h
  refine ⟨ix_i (ce_10_6 o0) x17, ?_⟩
  refine bnd_I ?_
  replace h := bnd_e h
  refine ⟨_, rr_1_3 hR _ o2, ?_⟩
  obtain ⟨x20, h⟩ := h
  refine ⟨ix_i (ce_1_3 o2) x20, ?_⟩
  refine ite_mono (fun hc h => ?_) (fun hc h => ?_) h
  · exact t_X10_lead_p83 hR o0 o1 o2 hQ hd h
  · exact t_X10_lead_p83 hR o0 o1 o2 hQ hd h
/-! CalledRiver$Way.meetingWith -/
set_option maxHeartbeats 4000000 in
set_option maxRecDepth 100000 in
def sX10_meetingWith_p4b (v0 : Nat) (v1 : Nat) (v2 : Int32) (Q : Int32 → St → Prop) (K4 : Int32 → St → Prop) (v3 : Int32) (u : St) : Prop :=
  if (u.1 v0 2) < v3 then (Q (-1 : Int32) u) else (vp_in v3 36 ∧ (vp_in (u.1 (v0 + 1) v3.toNatClampNeg) 36 ∧ (if (u.1 (v1 + 2) (u.1 (v0 + 1) v3.toNatClampNeg).toNatClampNeg) ≤ v2 then (K4 (v3 + (1 : Int32)) u) else (Q (u.1 (v0 + 1) v3.toNatClampNeg) u))))
set_option maxHeartbeats 4000000 in
set_option maxRecDepth 100000 in
def sX10_meetingWith_p4n (v0 : Nat) (v1 : Nat) (v2 : Int32) (Q : Int32 → St → Prop) : Nat → Int32 → St → Prop
  | 0 => fun _ _ => False
  | n + 1 => sX10_meetingWith_p4b v0 v1 v2 Q (sX10_meetingWith_p4n v0 v1 v2 Q n)
set_option maxHeartbeats 4000000 in
set_option maxRecDepth 100000 in
def sX10_meetingWith_p4 (v0 : Nat) (v1 : Nat) (v2 : Int32) (Q : Int32 → St → Prop) (v3 : Int32) (u : St) : Prop := ∃ n, sX10_meetingWith_p4n v0 v1 v2 Q n v3 u
set_option maxHeartbeats 4000000 in
set_option maxRecDepth 100000 in
def s_X10_meetingWith (v0 : Nat) (v1 : Nat) (v2 : Int32) (Q : Int32 → St → Prop) (u : St) : Prop :=
  sX10_meetingWith_p4 v0 v1 v2 Q (v2 + (1 : Int32)) u
set_option maxHeartbeats 4000000 in
set_option maxRecDepth 100000 in
theorem t_X10_meetingWith_p4b {ρ : Nat → Nat → Option Nat} (hR : RfH ρ) {v0 : Nat} {v1 : Nat} {v2 : Int32} {v3 : Int32} (o0 : Ob SH v0 10) (o1 : Ob SH v1 10) {Q : Int32 → St → Prop} {QW : Int32 → Mem → Prop} (hQ : ∀ (r : Int32) (u : St), DK u → Q r u → QW r (emb ρ u)) {K4 : Int32 → St → Prop} {KW4 : Int32 → Mem → Prop} (hK4 : ∀ (x3 : Int32) (u : St), DK u → K4 x3 u → KW4 x3 (emb ρ u)) {u : St} (hd : DK u) (h : sX10_meetingWith_p4b v0 v1 v2 Q K4 v3 u) : X10_meetingWith_p4b SH v0 v1 v2 QW KW4 v3 (emb ρ u) := by
  unfold X10_meetingWith_p4b
  unfold sX10_meetingWith_p4b at h
  refine ⟨o0, ?_⟩
  refine ite_mono (fun hc h => ?_) (fun hc h => ?_) h
  · exact hQ _ _ hd h
  · refine ⟨o1, ?_⟩
    refine ⟨_, rr_10_1 hR _ o1, ?_⟩
    refine ⟨_, rr_10_0 hR _ o0, ?_⟩
    obtain ⟨x3, h⟩ := h
    refine ⟨ix_i (ce_10_0 o0) x3, ?_⟩
    obtain ⟨x4, h⟩ := h
    refine ⟨ix_i (ce_10_1 o1) x4, ?_⟩
    refine ite_mono (fun hc h => ?_) (fun hc h => ?_) h
    · exact hK4 _ _ hd h
    · exact hQ _ _ hd h
set_option maxHeartbeats 4000000 in
set_option maxRecDepth 100000 in
theorem t_X10_meetingWith_p4n {ρ : Nat → Nat → Option Nat} (hR : RfH ρ) {v0 : Nat} {v1 : Nat} {v2 : Int32} (o0 : Ob SH v0 10) (o1 : Ob SH v1 10) {Q : Int32 → St → Prop} {QW : Int32 → Mem → Prop} (hQ : ∀ (r : Int32) (u : St), DK u → Q r u → QW r (emb ρ u)) : ∀ (n : Nat) (v3 : Int32) (u : St), DK u → sX10_meetingWith_p4n v0 v1 v2 Q n v3 u → X10_meetingWith_p4n SH v0 v1 v2 QW n v3 (emb ρ u)
  | 0, _, _,  _, h => h.elim
  | n + 1, v3,  u,  hd, h => t_X10_meetingWith_p4b hR o0 o1 hQ (fun v3 u  hd h => t_X10_meetingWith_p4n hR o0 o1 hQ n v3 u  hd h) hd h
set_option maxHeartbeats 4000000 in
set_option maxRecDepth 100000 in
theorem t_X10_meetingWith_p4 {ρ : Nat → Nat → Option Nat} (hR : RfH ρ) {v0 : Nat} {v1 : Nat} {v2 : Int32} {v3 : Int32} (o0 : Ob SH v0 10) (o1 : Ob SH v1 10) {Q : Int32 → St → Prop} {QW : Int32 → Mem → Prop} (hQ : ∀ (r : Int32) (u : St), DK u → Q r u → QW r (emb ρ u)) {u : St} (hd : DK u) (h : sX10_meetingWith_p4 v0 v1 v2 Q v3 u) : X10_meetingWith_p4 SH v0 v1 v2 QW v3 (emb ρ u) := h.elim (fun n h => ⟨n, t_X10_meetingWith_p4n hR o0 o1 hQ n _ _ hd h⟩)
set_option maxHeartbeats 4000000 in
set_option maxRecDepth 100000 in
theorem t_X10_meetingWith {ρ : Nat → Nat → Option Nat} (hR : RfH ρ) {v0 : Nat} {v1 : Nat} {v2 : Int32} (o0 : Ob SH v0 10) (o1 : Ob SH v1 10) {Q : Int32 → St → Prop} {QW : Int32 → Mem → Prop} (hQ : ∀ (r : Int32) (u : St), DK u → Q r u → QW r (emb ρ u)) {u : St} (hd : DK u) (h : s_X10_meetingWith v0 v1 v2 Q u) : wp_X10_meetingWith SH v0 v1 v2 QW (emb ρ u) := by
  unfold wp_X10_meetingWith
  unfold s_X10_meetingWith at h
  exact t_X10_meetingWith_p4 hR o0 o1 hQ hd h
/-! CalledRiver$Way.partingFrom -/
set_option maxHeartbeats 4000000 in
set_option maxRecDepth 100000 in
def sX10_partingFrom_p14b (v0 : Nat) (v1 : Nat) (v2 : Int32) (Q : Int32 → St → Prop) (K14 : Int32 → St → Prop) (v3 : Int32) (u : St) : Prop :=
  if v2 < v3 then (if (u.1 v0 2) = (u.1 v1 2) then (Q (-1 : Int32) u) else (Q v2 u)) else (vp_in v3 36 ∧ (vp_in v3 36 ∧ (if (u.1 (v0 + 1) v3.toNatClampNeg) = (u.1 (v1 + 1) v3.toNatClampNeg) then (K14 (v3 + (1 : Int32)) u) else (Q (v3 - (1 : Int32)) u))))
set_option maxHeartbeats 4000000 in
set_option maxRecDepth 100000 in
def sX10_partingFrom_p14n (v0 : Nat) (v1 : Nat) (v2 : Int32) (Q : Int32 → St → Prop) : Nat → Int32 → St → Prop
  | 0 => fun _ _ => False
  | n + 1 => sX10_partingFrom_p14b v0 v1 v2 Q (sX10_partingFrom_p14n v0 v1 v2 Q n)
set_option maxHeartbeats 4000000 in
set_option maxRecDepth 100000 in
def sX10_partingFrom_p14 (v0 : Nat) (v1 : Nat) (v2 : Int32) (Q : Int32 → St → Prop) (v3 : Int32) (u : St) : Prop := ∃ n, sX10_partingFrom_p14n v0 v1 v2 Q n v3 u
set_option maxHeartbeats 4000000 in
set_option maxRecDepth 100000 in
def s_X10_partingFrom (v0 : Nat) (v1 : Nat) (Q : Int32 → St → Prop) (u : St) : Prop :=
  s_J9_min_7cf53 (u.1 v0 2) (u.1 v1 2) (fun r1 u2 => sX10_partingFrom_p14 v0 v1 r1 Q (0 : Int32) u2) u
set_option maxHeartbeats 4000000 in
set_option maxRecDepth 100000 in
theorem t_X10_partingFrom_p14b {ρ : Nat → Nat → Option Nat} (hR : RfH ρ) {v0 : Nat} {v1 : Nat} {v2 : Int32} {v3 : Int32} (o0 : Ob SH v0 10) (o1 : Ob SH v1 10) {Q : Int32 → St → Prop} {QW : Int32 → Mem → Prop} (hQ : ∀ (r : Int32) (u : St), DK u → Q r u → QW r (emb ρ u)) {K14 : Int32 → St → Prop} {KW14 : Int32 → Mem → Prop} (hK14 : ∀ (x3 : Int32) (u : St), DK u → K14 x3 u → KW14 x3 (emb ρ u)) {u : St} (hd : DK u) (h : sX10_partingFrom_p14b v0 v1 v2 Q K14 v3 u) : X10_partingFrom_p14b SH v0 v1 v2 QW KW14 v3 (emb ρ u) := by
  unfold X10_partingFrom_p14b
  unfold sX10_partingFrom_p14b at h
  refine ite_mono (fun hc h => ?_) (fun hc h => ?_) h
  · refine ⟨o0, ?_⟩
    refine ⟨o1, ?_⟩
    refine ite_mono (fun hc h => ?_) (fun hc h => ?_) h
    · exact hQ _ _ hd h
    · exact hQ _ _ hd h
  · refine ⟨o0, ?_⟩
    refine ⟨_, rr_10_0 hR _ o0, ?_⟩
    obtain ⟨x4, h⟩ := h
    refine ⟨ix_i (ce_10_0 o0) x4, ?_⟩
    refine ⟨o1, ?_⟩
    refine ⟨_, rr_10_0 hR _ o1, ?_⟩
    obtain ⟨x6, h⟩ := h
    refine ⟨ix_i (ce_10_0 o1) x6, ?_⟩
    refine ite_mono (fun hc h => ?_) (fun hc h => ?_) h
    · exact hK14 _ _ hd h
    · exact hQ _ _ hd h
set_option maxHeartbeats 4000000 in
set_option maxRecDepth 100000 in
theorem t_X10_partingFrom_p14n {ρ : Nat → Nat → Option Nat} (hR : RfH ρ) {v0 : Nat} {v1 : Nat} {v2 : Int32} (o0 : Ob SH v0 10) (o1 : Ob SH v1 10) {Q : Int32 → St → Prop} {QW : Int32 → Mem → Prop} (hQ : ∀ (r : Int32) (u : St), DK u → Q r u → QW r (emb ρ u)) : ∀ (n : Nat) (v3 : Int32) (u : St), DK u → sX10_partingFrom_p14n v0 v1 v2 Q n v3 u → X10_partingFrom_p14n SH v0 v1 v2 QW n v3 (emb ρ u)
  | 0, _, _,  _, h => h.elim
  | n + 1, v3,  u,  hd, h => t_X10_partingFrom_p14b hR o0 o1 hQ (fun v3 u  hd h => t_X10_partingFrom_p14n hR o0 o1 hQ n v3 u  hd h) hd h
set_option maxHeartbeats 4000000 in
set_option maxRecDepth 100000 in
theorem t_X10_partingFrom_p14 {ρ : Nat → Nat → Option Nat} (hR : RfH ρ) {v0 : Nat} {v1 : Nat} {v2 : Int32} {v3 : Int32} (o0 : Ob SH v0 10) (o1 : Ob SH v1 10) {Q : Int32 → St → Prop} {QW : Int32 → Mem → Prop} (hQ : ∀ (r : Int32) (u : St), DK u → Q r u → QW r (emb ρ u)) {u : St} (hd : DK u) (h : sX10_partingFrom_p14 v0 v1 v2 Q v3 u) : X10_partingFrom_p14 SH v0 v1 v2 QW v3 (emb ρ u) := h.elim (fun n h => ⟨n, t_X10_partingFrom_p14n hR o0 o1 hQ n _ _ hd h⟩)
set_option maxHeartbeats 4000000 in
set_option maxRecDepth 100000 in
theorem t_X10_partingFrom {ρ : Nat → Nat → Option Nat} (hR : RfH ρ) {v0 : Nat} {v1 : Nat} (o0 : Ob SH v0 10) (o1 : Ob SH v1 10) {Q : Int32 → St → Prop} {QW : Int32 → Mem → Prop} (hQ : ∀ (r : Int32) (u : St), DK u → Q r u → QW r (emb ρ u)) {u : St} (hd : DK u) (h : s_X10_partingFrom v0 v1 Q u) : wp_X10_partingFrom SH v0 v1 QW (emb ρ u) := by
  unfold wp_X10_partingFrom
  unfold s_X10_partingFrom at h
  refine ⟨o0, ?_⟩
  refine ⟨o1, ?_⟩
  refine t_J9_min_7cf53 hR (fun r1 u2 hd h => ?_) hd h
  exact t_X10_partingFrom_p14 hR o0 o1 hQ hd h
/-! CalledRiver$Way.placeBy -/
set_option maxHeartbeats 4000000 in
set_option maxRecDepth 100000 in
def s_X10_placeBy (v0 : Nat) (v1 : Int32) (Q : Int32 → St → Prop) (u : St) : Prop :=
  if v1 < 0 then (Q (-1 : Int32) u) else (if (u.1 v0 2) < v1 then (Q (-1 : Int32) u) else (vp_in v1 36 ∧ (Q (u.1 (v0 + 1) v1.toNatClampNeg) u)))
set_option maxHeartbeats 4000000 in
set_option maxRecDepth 100000 in
theorem t_X10_placeBy {ρ : Nat → Nat → Option Nat} (hR : RfH ρ) {v0 : Nat} {v1 : Int32} (o0 : Ob SH v0 10) {Q : Int32 → St → Prop} {QW : Int32 → Mem → Prop} (hQ : ∀ (r : Int32) (u : St), DK u → Q r u → QW r (emb ρ u)) {u : St} (hd : DK u) (h : s_X10_placeBy v0 v1 Q u) : wp_X10_placeBy SH v0 v1 QW (emb ρ u) := by
  unfold wp_X10_placeBy
  unfold s_X10_placeBy at h
  refine ite_mono (fun hc h => ?_) (fun hc h => ?_) h
  · exact hQ _ _ hd h
  · refine ⟨o0, ?_⟩
    refine ite_mono (fun hc h => ?_) (fun hc h => ?_) h
    · exact hQ _ _ hd h
    · refine ⟨_, rr_10_0 hR _ o0, ?_⟩
      obtain ⟨x2, h⟩ := h
      refine ⟨ix_i (ce_10_0 o0) x2, ?_⟩
      exact hQ _ _ hd h
/-! CalledRiver$Way.waters -/
set_option maxHeartbeats 4000000 in
set_option maxRecDepth 100000 in
def s_X10_waters (v0 : Nat) (v1 : Int32) (Q : Int32 → St → Prop) (u : St) : Prop :=
  if (((u.1 v0 4) >>> (v1 &&& 31)) &&& (1 : Int32)) = (1 : Int32) then (Q (1 : Int32) u) else (Q (0 : Int32) u)
set_option maxHeartbeats 4000000 in
set_option maxRecDepth 100000 in
theorem t_X10_waters {ρ : Nat → Nat → Option Nat} (hR : RfH ρ) {v0 : Nat} {v1 : Int32} (o0 : Ob SH v0 10) {Q : Int32 → St → Prop} {QW : Int32 → Mem → Prop} (hQ : ∀ (r : Int32) (u : St), DK u → Q r u → QW r (emb ρ u)) {u : St} (hd : DK u) (h : s_X10_waters v0 v1 Q u) : wp_X10_waters SH v0 v1 QW (emb ρ u) := by
  unfold wp_X10_waters
  unfold s_X10_waters at h
  refine ⟨o0, ?_⟩
  refine ite_mono (fun hc h => ?_) (fun hc h => ?_) h
  · exact hQ _ _ hd h
  · exact hQ _ _ hd h
/-! CalledRiver$Land.begin -/
set_option maxHeartbeats 4000000 in
set_option maxRecDepth 100000 in
def s_X1_begin (v0 : Nat) (v1 : Nat) (Q : St → Prop) (u : St) : Prop :=
  bnd (tI u v0 0 (0 : Int32)) (fun u1 => bnd (tI u1 v0 1 (0 : Int32)) (fun u2 => Cp SH (v1 + 1) (0 : Int32) (v0 + 1) (0 : Int32) (36 : Int32) ∧ bnd (tC u2 (v1 + 1) (0 : Int32) (v0 + 1) (0 : Int32) (36 : Int32)) (fun u5 => Cp SH (v1 + 2) (0 : Int32) (v0 + 2) (0 : Int32) (36 : Int32) ∧ bnd (tC u5 (v1 + 2) (0 : Int32) (v0 + 2) (0 : Int32) (36 : Int32)) (fun u8 => s_J7_fill_53178 (v0 + 3) (0 : Int32) (fun u11 => s_J7_fill_53178 (v0 + 4) (0 : Int32) (fun u14 => Cp SH (v1 + 7) (0 : Int32) (v0 + 4) (0 : Int32) (u14.1 v1 3) ∧ bnd (tC u14 (v1 + 7) (0 : Int32) (v0 + 4) (0 : Int32) (u14.1 v1 3)) (fun u17 => Q u17)) u11) u8))))
set_option maxHeartbeats 4000000 in
set_option maxRecDepth 100000 in
theorem t_X1_begin {ρ : Nat → Nat → Option Nat} (hR : RfH ρ) {v0 : Nat} {v1 : Nat} (o0 : Ob SH v0 1) (o1 : Ob SH v1 5) {Q : St → Prop} {QW : Mem → Prop} (hQ : ∀ (u : St), DK u → Q u → QW (emb ρ u)) {u : St} (hd : DK u) (h : s_X1_begin v0 v1 Q u) : wp_X1_begin SH v0 v1 QW (emb ρ u) := by
  unfold wp_X1_begin
  unfold s_X1_begin at h
  refine ⟨o0, ?_⟩
  refine bnd_I ?_
  replace h := bnd_e h
  refine bnd_I ?_
  replace h := bnd_e h
  refine ⟨o1, ?_⟩
  refine ⟨_, rr_5_5 hR _ o1, ?_⟩
  refine ⟨_, rr_1_2 hR _ o0, ?_⟩
  refine ⟨h.1, bnd_C ?_⟩
  replace h := bnd_e h.2
  refine ⟨_, rr_5_6 hR _ o1, ?_⟩
  refine ⟨_, rr_1_3 hR _ o0, ?_⟩
  refine ⟨h.1, bnd_C ?_⟩
  replace h := bnd_e h.2
  refine ⟨_, rr_1_4 hR _ o0, ?_⟩
  refine t_J7_fill_53178 hR (fun u11 hd h => ?_) hd h
  refine ⟨_, rr_1_5 hR _ o0, ?_⟩
  refine t_J7_fill_53178 hR (fun u14 hd h => ?_) hd h
  refine ⟨_, rr_5_11 hR _ o1, ?_⟩
  refine ⟨_, rr_1_5 hR _ o0, ?_⟩
  refine ⟨h.1, bnd_C ?_⟩
  replace h := bnd_e h.2
  exact hQ _ hd h
/-! CalledRiver$Land.copy -/
set_option maxHeartbeats 4000000 in
set_option maxRecDepth 100000 in
def s_X1_copy (v0 : Nat) (v1 : Nat) (Q : St → Prop) (u : St) : Prop :=
  bnd (tI u v0 0 (u.1 v1 0)) (fun u1 => bnd (tI u1 v0 1 (u1.1 v1 1)) (fun u2 => Cp SH (v1 + 1) (0 : Int32) (v0 + 1) (0 : Int32) (36 : Int32) ∧ bnd (tC u2 (v1 + 1) (0 : Int32) (v0 + 1) (0 : Int32) (36 : Int32)) (fun u5 => Cp SH (v1 + 2) (0 : Int32) (v0 + 2) (0 : Int32) (36 : Int32) ∧ bnd (tC u5 (v1 + 2) (0 : Int32) (v0 + 2) (0 : Int32) (36 : Int32)) (fun u8 => Cp SH (v1 + 3) (0 : Int32) (v0 + 3) (0 : Int32) (36 : Int32) ∧ bnd (tC u8 (v1 + 3) (0 : Int32) (v0 + 3) (0 : Int32) (36 : Int32)) (fun u11 => Cp SH (v1 + 4) (0 : Int32) (v0 + 4) (0 : Int32) (6 : Int32) ∧ bnd (tC u11 (v1 + 4) (0 : Int32) (v0 + 4) (0 : Int32) (6 : Int32)) (fun u14 => Q u14))))))
set_option maxHeartbeats 4000000 in
set_option maxRecDepth 100000 in
theorem t_X1_copy {ρ : Nat → Nat → Option Nat} (hR : RfH ρ) {v0 : Nat} {v1 : Nat} (o0 : Ob SH v0 1) (o1 : Ob SH v1 1) {Q : St → Prop} {QW : Mem → Prop} (hQ : ∀ (u : St), DK u → Q u → QW (emb ρ u)) {u : St} (hd : DK u) (h : s_X1_copy v0 v1 Q u) : wp_X1_copy SH v0 v1 QW (emb ρ u) := by
  unfold wp_X1_copy
  unfold s_X1_copy at h
  refine ⟨o1, ?_⟩
  refine ⟨o0, ?_⟩
  refine bnd_I ?_
  replace h := bnd_e h
  refine bnd_I ?_
  replace h := bnd_e h
  refine ⟨_, rr_1_2 hR _ o1, ?_⟩
  refine ⟨_, rr_1_2 hR _ o0, ?_⟩
  refine ⟨h.1, bnd_C ?_⟩
  replace h := bnd_e h.2
  refine ⟨_, rr_1_3 hR _ o1, ?_⟩
  refine ⟨_, rr_1_3 hR _ o0, ?_⟩
  refine ⟨h.1, bnd_C ?_⟩
  replace h := bnd_e h.2
  refine ⟨_, rr_1_4 hR _ o1, ?_⟩
  refine ⟨_, rr_1_4 hR _ o0, ?_⟩
  refine ⟨h.1, bnd_C ?_⟩
  replace h := bnd_e h.2
  refine ⟨_, rr_1_5 hR _ o1, ?_⟩
  refine ⟨_, rr_1_5 hR _ o0, ?_⟩
  refine ⟨h.1, bnd_C ?_⟩
  replace h := bnd_e h.2
  exact hQ _ hd h
/-! CalledRiver$Land.pies -/
set_option maxHeartbeats 4000000 in
set_option maxRecDepth 100000 in
def sX1_pies_p13b (v2 : Nat) (v3 : Int32) (Q : Int32 → St → Prop) (K13 : Int32 → Int32 → St → Prop) (v1 : Int32) (v4 : Int32) (u : St) : Prop :=
  if v3 ≤ v4 then (Q v1 u) else (vp_in v4 6 ∧ (K13 (v1 + (u.1 v2 v4.toNatClampNeg)) (v4 + (1 : Int32)) u))
set_option maxHeartbeats 4000000 in
set_option maxRecDepth 100000 in
def sX1_pies_p13n (v2 : Nat) (v3 : Int32) (Q : Int32 → St → Prop) : Nat → Int32 → Int32 → St → Prop
  | 0 => fun _ _ _ => False
  | n + 1 => sX1_pies_p13b v2 v3 Q (sX1_pies_p13n v2 v3 Q n)
set_option maxHeartbeats 4000000 in
set_option maxRecDepth 100000 in
def sX1_pies_p13 (v2 : Nat) (v3 : Int32) (Q : Int32 → St → Prop) (v1 : Int32) (v4 : Int32) (u : St) : Prop := ∃ n, sX1_pies_p13n v2 v3 Q n v1 v4 u
set_option maxHeartbeats 4000000 in
set_option maxRecDepth 100000 in
def s_X1_pies (v0 : Nat) (Q : Int32 → St → Prop) (u : St) : Prop :=
  sX1_pies_p13 (v0 + 4) (nI 6) Q (0 : Int32) (0 : Int32) u
set_option maxHeartbeats 4000000 in
set_option maxRecDepth 100000 in
theorem t_X1_pies_p13b {ρ : Nat → Nat → Option Nat} (hR : RfH ρ) {v1 : Int32} {v2 : Nat} {v3 : Int32} {v4 : Int32} (o2 : SH[v2]? = some (100, 6)) {Q : Int32 → St → Prop} {QW : Int32 → Mem → Prop} (hQ : ∀ (r : Int32) (u : St), DK u → Q r u → QW r (emb ρ u)) {K13 : Int32 → Int32 → St → Prop} {KW13 : Int32 → Int32 → Mem → Prop} (hK13 : ∀ (x1 : Int32) (x4 : Int32) (u : St), DK u → K13 x1 x4 u → KW13 x1 x4 (emb ρ u)) {u : St} (hd : DK u) (h : sX1_pies_p13b v2 v3 Q K13 v1 v4 u) : X1_pies_p13b SH v2 v3 QW KW13 v1 v4 (emb ρ u) := by
  unfold X1_pies_p13b
  unfold sX1_pies_p13b at h
  refine ite_mono (fun hc h => ?_) (fun hc h => ?_) h
  · exact hQ _ _ hd h
  · obtain ⟨x4, h⟩ := h
    refine ⟨ix_i o2 x4, ?_⟩
    exact hK13 _ _ _ hd h
set_option maxHeartbeats 4000000 in
set_option maxRecDepth 100000 in
theorem t_X1_pies_p13n {ρ : Nat → Nat → Option Nat} (hR : RfH ρ) {v2 : Nat} {v3 : Int32} (o2 : SH[v2]? = some (100, 6)) {Q : Int32 → St → Prop} {QW : Int32 → Mem → Prop} (hQ : ∀ (r : Int32) (u : St), DK u → Q r u → QW r (emb ρ u)) : ∀ (n : Nat) (v1 : Int32) (v4 : Int32) (u : St), DK u → sX1_pies_p13n v2 v3 Q n v1 v4 u → X1_pies_p13n SH v2 v3 QW n v1 v4 (emb ρ u)
  | 0, _,_, _,  _, h => h.elim
  | n + 1, v1, v4,  u,  hd, h => t_X1_pies_p13b hR o2 hQ (fun v1 v4 u  hd h => t_X1_pies_p13n hR o2 hQ n v1 v4 u  hd h) hd h
set_option maxHeartbeats 4000000 in
set_option maxRecDepth 100000 in
theorem t_X1_pies_p13 {ρ : Nat → Nat → Option Nat} (hR : RfH ρ) {v1 : Int32} {v2 : Nat} {v3 : Int32} {v4 : Int32} (o2 : SH[v2]? = some (100, 6)) {Q : Int32 → St → Prop} {QW : Int32 → Mem → Prop} (hQ : ∀ (r : Int32) (u : St), DK u → Q r u → QW r (emb ρ u)) {u : St} (hd : DK u) (h : sX1_pies_p13 v2 v3 Q v1 v4 u) : X1_pies_p13 SH v2 v3 QW v1 v4 (emb ρ u) := h.elim (fun n h => ⟨n, t_X1_pies_p13n hR o2 hQ n _ _ _ hd h⟩)
set_option maxHeartbeats 4000000 in
set_option maxRecDepth 100000 in
theorem t_X1_pies {ρ : Nat → Nat → Option Nat} (hR : RfH ρ) {v0 : Nat} (o0 : Ob SH v0 1) {Q : Int32 → St → Prop} {QW : Int32 → Mem → Prop} (hQ : ∀ (r : Int32) (u : St), DK u → Q r u → QW r (emb ρ u)) {u : St} (hd : DK u) (h : s_X1_pies v0 Q u) : wp_X1_pies SH v0 QW (emb ρ u) := by
  unfold wp_X1_pies
  unfold s_X1_pies at h
  refine ⟨o0, ?_⟩
  refine ⟨_, rr_1_5 hR _ o0, ?_⟩
  refine ⟨6, (ce_1_5 o0), ?_⟩
  exact t_X1_pies_p13 hR (ce_1_5 o0) hQ hd h
/-! CalledRiver$Land.stones -/
set_option maxHeartbeats 4000000 in
set_option maxRecDepth 100000 in
def sX1_stones_p13b (v2 : Nat) (v3 : Int32) (Q : Int32 → St → Prop) (K13 : Int32 → Int32 → St → Prop) (v1 : Int32) (v4 : Int32) (u : St) : Prop :=
  if v3 ≤ v4 then (Q v1 u) else (vp_in v4 36 ∧ (K13 (v1 + (u.1 v2 v4.toNatClampNeg)) (v4 + (1 : Int32)) u))
set_option maxHeartbeats 4000000 in
set_option maxRecDepth 100000 in
def sX1_stones_p13n (v2 : Nat) (v3 : Int32) (Q : Int32 → St → Prop) : Nat → Int32 → Int32 → St → Prop
  | 0 => fun _ _ _ => False
  | n + 1 => sX1_stones_p13b v2 v3 Q (sX1_stones_p13n v2 v3 Q n)
set_option maxHeartbeats 4000000 in
set_option maxRecDepth 100000 in
def sX1_stones_p13 (v2 : Nat) (v3 : Int32) (Q : Int32 → St → Prop) (v1 : Int32) (v4 : Int32) (u : St) : Prop := ∃ n, sX1_stones_p13n v2 v3 Q n v1 v4 u
set_option maxHeartbeats 4000000 in
set_option maxRecDepth 100000 in
def s_X1_stones (v0 : Nat) (Q : Int32 → St → Prop) (u : St) : Prop :=
  sX1_stones_p13 (v0 + 2) (nI 36) Q (0 : Int32) (0 : Int32) u
set_option maxHeartbeats 4000000 in
set_option maxRecDepth 100000 in
theorem t_X1_stones_p13b {ρ : Nat → Nat → Option Nat} (hR : RfH ρ) {v1 : Int32} {v2 : Nat} {v3 : Int32} {v4 : Int32} (o2 : SH[v2]? = some (100, 36)) {Q : Int32 → St → Prop} {QW : Int32 → Mem → Prop} (hQ : ∀ (r : Int32) (u : St), DK u → Q r u → QW r (emb ρ u)) {K13 : Int32 → Int32 → St → Prop} {KW13 : Int32 → Int32 → Mem → Prop} (hK13 : ∀ (x1 : Int32) (x4 : Int32) (u : St), DK u → K13 x1 x4 u → KW13 x1 x4 (emb ρ u)) {u : St} (hd : DK u) (h : sX1_stones_p13b v2 v3 Q K13 v1 v4 u) : X1_stones_p13b SH v2 v3 QW KW13 v1 v4 (emb ρ u) := by
  unfold X1_stones_p13b
  unfold sX1_stones_p13b at h
  refine ite_mono (fun hc h => ?_) (fun hc h => ?_) h
  · exact hQ _ _ hd h
  · obtain ⟨x4, h⟩ := h
    refine ⟨ix_i o2 x4, ?_⟩
    exact hK13 _ _ _ hd h
set_option maxHeartbeats 4000000 in
set_option maxRecDepth 100000 in
theorem t_X1_stones_p13n {ρ : Nat → Nat → Option Nat} (hR : RfH ρ) {v2 : Nat} {v3 : Int32} (o2 : SH[v2]? = some (100, 36)) {Q : Int32 → St → Prop} {QW : Int32 → Mem → Prop} (hQ : ∀ (r : Int32) (u : St), DK u → Q r u → QW r (emb ρ u)) : ∀ (n : Nat) (v1 : Int32) (v4 : Int32) (u : St), DK u → sX1_stones_p13n v2 v3 Q n v1 v4 u → X1_stones_p13n SH v2 v3 QW n v1 v4 (emb ρ u)
  | 0, _,_, _,  _, h => h.elim
  | n + 1, v1, v4,  u,  hd, h => t_X1_stones_p13b hR o2 hQ (fun v1 v4 u  hd h => t_X1_stones_p13n hR o2 hQ n v1 v4 u  hd h) hd h
set_option maxHeartbeats 4000000 in
set_option maxRecDepth 100000 in
theorem t_X1_stones_p13 {ρ : Nat → Nat → Option Nat} (hR : RfH ρ) {v1 : Int32} {v2 : Nat} {v3 : Int32} {v4 : Int32} (o2 : SH[v2]? = some (100, 36)) {Q : Int32 → St → Prop} {QW : Int32 → Mem → Prop} (hQ : ∀ (r : Int32) (u : St), DK u → Q r u → QW r (emb ρ u)) {u : St} (hd : DK u) (h : sX1_stones_p13 v2 v3 Q v1 v4 u) : X1_stones_p13 SH v2 v3 QW v1 v4 (emb ρ u) := h.elim (fun n h => ⟨n, t_X1_stones_p13n hR o2 hQ n _ _ _ hd h⟩)
set_option maxHeartbeats 4000000 in
set_option maxRecDepth 100000 in
theorem t_X1_stones {ρ : Nat → Nat → Option Nat} (hR : RfH ρ) {v0 : Nat} (o0 : Ob SH v0 1) {Q : Int32 → St → Prop} {QW : Int32 → Mem → Prop} (hQ : ∀ (r : Int32) (u : St), DK u → Q r u → QW r (emb ρ u)) {u : St} (hd : DK u) (h : s_X1_stones v0 Q u) : wp_X1_stones SH v0 QW (emb ρ u) := by
  unfold wp_X1_stones
  unfold s_X1_stones at h
  refine ⟨o0, ?_⟩
  refine ⟨_, rr_1_3 hR _ o0, ?_⟩
  refine ⟨36, (ce_1_3 o0), ?_⟩
  exact t_X1_stones_p13 hR (ce_1_3 o0) hQ hd h
/-! CalledRiver$Led.fewestFor -/
set_option maxHeartbeats 4000000 in
set_option maxRecDepth 100000 in
def sX2_fewestFor_p61 (v1 : Int32) (v2 : Int32) (v3 : Int32) (Q : Int32 → St → Prop) (K4 : Int32 → Int32 → St → Prop) (u : St) : Prop :=
  K4 v2 (v3 + (1 : Int32)) u
set_option maxHeartbeats 4000000 in
set_option maxRecDepth 100000 in
def sX2_fewestFor_p54 (v1 : Int32) (v3 : Int32) (Q : Int32 → St → Prop) (K4 : Int32 → Int32 → St → Prop) (u : St) : Prop :=
  vp_in v3 64 ∧ (sX2_fewestFor_p61 v1 (u.1 160 v3.toNatClampNeg) v3 Q K4 u)
set_option maxHeartbeats 4000000 in
set_option maxRecDepth 100000 in
def sX2_fewestFor_p32 (v1 : Int32) (v2 : Int32) (v3 : Int32) (s0 : Int32) (Q : Int32 → St → Prop) (K4 : Int32 → Int32 → St → Prop) (u : St) : Prop :=
  if s0 = 0 then (sX2_fewestFor_p61 v1 v2 v3 Q K4 u) else (if v2 = (-1 : Int32) then (sX2_fewestFor_p54 v1 v3 Q K4 u) else (vp_in v3 64 ∧ (if v2 ≤ (u.1 160 v3.toNatClampNeg) then (sX2_fewestFor_p61 v1 v2 v3 Q K4 u) else (sX2_fewestFor_p54 v1 v3 Q K4 u))))
set_option maxHeartbeats 4000000 in
set_option maxRecDepth 100000 in
def sX2_fewestFor_p31 (v1 : Int32) (v2 : Int32) (v3 : Int32) (Q : Int32 → St → Prop) (K4 : Int32 → Int32 → St → Prop) (u : St) : Prop :=
  sX2_fewestFor_p32 v1 v2 v3 (0 : Int32) Q K4 u
set_option maxHeartbeats 4000000 in
set_option maxRecDepth 100000 in
def sX2_fewestFor_p4b (v1 : Int32) (Q : Int32 → St → Prop) (K4 : Int32 → Int32 → St → Prop) (v2 : Int32) (v3 : Int32) (u : St) : Prop :=
  if (64 : Int32) ≤ v3 then (Q v2 u) else (vp_in v3 64 ∧ (if (u.1 160 v3.toNatClampNeg) = (-1 : Int32) then (sX2_fewestFor_p31 v1 v2 v3 Q K4 u) else (if (v3 &&& v1) = v1 then (sX2_fewestFor_p32 v1 v2 v3 (1 : Int32) Q K4 u) else (sX2_fewestFor_p31 v1 v2 v3 Q K4 u))))
set_option maxHeartbeats 4000000 in
set_option maxRecDepth 100000 in
def sX2_fewestFor_p4n (v1 : Int32) (Q : Int32 → St → Prop) : Nat → Int32 → Int32 → St → Prop
  | 0 => fun _ _ _ => False
  | n + 1 => sX2_fewestFor_p4b v1 Q (sX2_fewestFor_p4n v1 Q n)
set_option maxHeartbeats 4000000 in
set_option maxRecDepth 100000 in
def sX2_fewestFor_p4 (v1 : Int32) (Q : Int32 → St → Prop) (v2 : Int32) (v3 : Int32) (u : St) : Prop := ∃ n, sX2_fewestFor_p4n v1 Q n v2 v3 u
set_option maxHeartbeats 4000000 in
set_option maxRecDepth 100000 in
def s_X2_fewestFor (v1 : Int32) (Q : Int32 → St → Prop) (u : St) : Prop :=
  sX2_fewestFor_p4 v1 Q (-1 : Int32) (0 : Int32) u
set_option maxHeartbeats 4000000 in
set_option maxRecDepth 100000 in
theorem t_X2_fewestFor_p61 {ρ : Nat → Nat → Option Nat} (hR : RfH ρ) {v1 : Int32} {v2 : Int32} {v3 : Int32} {Q : Int32 → St → Prop} {QW : Int32 → Mem → Prop} {K4 : Int32 → Int32 → St → Prop} {KW4 : Int32 → Int32 → Mem → Prop} (hQ : ∀ (r : Int32) (u : St), DK u → Q r u → QW r (emb ρ u)) (hK4 : ∀ (x2 : Int32) (x3 : Int32) (u : St), DK u → K4 x2 x3 u → KW4 x2 x3 (emb ρ u)) {u : St} (hd : DK u) (h : sX2_fewestFor_p61 v1 v2 v3 Q K4 u) : X2_fewestFor_p61 SH 157 v1 v2 v3 QW KW4 (emb ρ u) := by
  unfold X2_fewestFor_p61
  unfold sX2_fewestFor_p61 at h
  exact hK4 _ _ _ hd h
set_option maxHeartbeats 4000000 in
set_option maxRecDepth 100000 in
theorem t_X2_fewestFor_p54 {ρ : Nat → Nat → Option Nat} (hR : RfH ρ) {v1 : Int32} {v3 : Int32} {Q : Int32 → St → Prop} {QW : Int32 → Mem → Prop} {K4 : Int32 → Int32 → St → Prop} {KW4 : Int32 → Int32 → Mem → Prop} (hQ : ∀ (r : Int32) (u : St), DK u → Q r u → QW r (emb ρ u)) (hK4 : ∀ (x2 : Int32) (x3 : Int32) (u : St), DK u → K4 x2 x3 u → KW4 x2 x3 (emb ρ u)) {u : St} (hd : DK u) (h : sX2_fewestFor_p54 v1 v3 Q K4 u) : X2_fewestFor_p54 SH 157 v1 v3 QW KW4 (emb ρ u) := by
  unfold X2_fewestFor_p54
  unfold sX2_fewestFor_p54 at h
  refine ⟨on_157, ?_⟩
  refine ⟨_, rn_157_3 hR _, ?_⟩
  obtain ⟨x6, h⟩ := h
  refine ⟨ix_i (show SH[160]? = some (100, 64) from rfl) x6, ?_⟩
  exact t_X2_fewestFor_p61 hR hQ hK4 hd h
set_option maxHeartbeats 4000000 in
set_option maxRecDepth 100000 in
theorem t_X2_fewestFor_p32 {ρ : Nat → Nat → Option Nat} (hR : RfH ρ) {v1 : Int32} {v2 : Int32} {v3 : Int32} {s0 : Int32} {Q : Int32 → St → Prop} {QW : Int32 → Mem → Prop} {K4 : Int32 → Int32 → St → Prop} {KW4 : Int32 → Int32 → Mem → Prop} (hQ : ∀ (r : Int32) (u : St), DK u → Q r u → QW r (emb ρ u)) (hK4 : ∀ (x2 : Int32) (x3 : Int32) (u : St), DK u → K4 x2 x3 u → KW4 x2 x3 (emb ρ u)) {u : St} (hd : DK u) (h : sX2_fewestFor_p32 v1 v2 v3 s0 Q K4 u) : X2_fewestFor_p32 SH 157 v1 v2 v3 s0 QW KW4 (emb ρ u) := by
  unfold X2_fewestFor_p32
  unfold sX2_fewestFor_p32 at h
  refine ite_mono (fun hc h => ?_) (fun hc h => ?_) h
  · exact t_X2_fewestFor_p61 hR hQ hK4 hd h
  · refine ite_mono (fun hc h => ?_) (fun hc h => ?_) h
    · exact t_X2_fewestFor_p54 hR hQ hK4 hd h
    · refine ⟨on_157, ?_⟩
      refine ⟨_, rn_157_3 hR _, ?_⟩
      obtain ⟨x4, h⟩ := h
      refine ⟨ix_i (show SH[160]? = some (100, 64) from rfl) x4, ?_⟩
      refine ite_mono (fun hc h => ?_) (fun hc h => ?_) h
      · exact t_X2_fewestFor_p61 hR hQ hK4 hd h
      · exact t_X2_fewestFor_p54 hR hQ hK4 hd h
set_option maxHeartbeats 4000000 in
set_option maxRecDepth 100000 in
theorem t_X2_fewestFor_p31 {ρ : Nat → Nat → Option Nat} (hR : RfH ρ) {v1 : Int32} {v2 : Int32} {v3 : Int32} {Q : Int32 → St → Prop} {QW : Int32 → Mem → Prop} {K4 : Int32 → Int32 → St → Prop} {KW4 : Int32 → Int32 → Mem → Prop} (hQ : ∀ (r : Int32) (u : St), DK u → Q r u → QW r (emb ρ u)) (hK4 : ∀ (x2 : Int32) (x3 : Int32) (u : St), DK u → K4 x2 x3 u → KW4 x2 x3 (emb ρ u)) {u : St} (hd : DK u) (h : sX2_fewestFor_p31 v1 v2 v3 Q K4 u) : X2_fewestFor_p31 SH 157 v1 v2 v3 QW KW4 (emb ρ u) := by
  unfold X2_fewestFor_p31
  unfold sX2_fewestFor_p31 at h
  exact t_X2_fewestFor_p32 hR hQ hK4 hd h
set_option maxHeartbeats 4000000 in
set_option maxRecDepth 100000 in
theorem t_X2_fewestFor_p4b {ρ : Nat → Nat → Option Nat} (hR : RfH ρ) {v1 : Int32} {v2 : Int32} {v3 : Int32} {Q : Int32 → St → Prop} {QW : Int32 → Mem → Prop} (hQ : ∀ (r : Int32) (u : St), DK u → Q r u → QW r (emb ρ u)) {K4 : Int32 → Int32 → St → Prop} {KW4 : Int32 → Int32 → Mem → Prop} (hK4 : ∀ (x2 : Int32) (x3 : Int32) (u : St), DK u → K4 x2 x3 u → KW4 x2 x3 (emb ρ u)) {u : St} (hd : DK u) (h : sX2_fewestFor_p4b v1 Q K4 v2 v3 u) : X2_fewestFor_p4b SH 157 v1 QW KW4 v2 v3 (emb ρ u) := by
  unfold X2_fewestFor_p4b
  unfold sX2_fewestFor_p4b at h
  refine ite_mono (fun hc h => ?_) (fun hc h => ?_) h
  · exact hQ _ _ hd h
  · refine ⟨on_157, ?_⟩
    refine ⟨_, rn_157_3 hR _, ?_⟩
    obtain ⟨x2, h⟩ := h
    refine ⟨ix_i (show SH[160]? = some (100, 64) from rfl) x2, ?_⟩
    refine ite_mono (fun hc h => ?_) (fun hc h => ?_) h
    · exact t_X2_fewestFor_p31 hR hQ hK4 hd h
    · refine ite_mono (fun hc h => ?_) (fun hc h => ?_) h
      · exact t_X2_fewestFor_p32 hR hQ hK4 hd h
      · exact t_X2_fewestFor_p31 hR hQ hK4 hd h
set_option maxHeartbeats 4000000 in
set_option maxRecDepth 100000 in
theorem t_X2_fewestFor_p4n {ρ : Nat → Nat → Option Nat} (hR : RfH ρ) {v1 : Int32} {Q : Int32 → St → Prop} {QW : Int32 → Mem → Prop} (hQ : ∀ (r : Int32) (u : St), DK u → Q r u → QW r (emb ρ u)) : ∀ (n : Nat) (v2 : Int32) (v3 : Int32) (u : St), DK u → sX2_fewestFor_p4n v1 Q n v2 v3 u → X2_fewestFor_p4n SH 157 v1 QW n v2 v3 (emb ρ u)
  | 0, _,_, _,  _, h => h.elim
  | n + 1, v2, v3,  u,  hd, h => t_X2_fewestFor_p4b hR hQ (fun v2 v3 u  hd h => t_X2_fewestFor_p4n hR hQ n v2 v3 u  hd h) hd h
set_option maxHeartbeats 4000000 in
set_option maxRecDepth 100000 in
theorem t_X2_fewestFor_p4 {ρ : Nat → Nat → Option Nat} (hR : RfH ρ) {v1 : Int32} {v2 : Int32} {v3 : Int32} {Q : Int32 → St → Prop} {QW : Int32 → Mem → Prop} (hQ : ∀ (r : Int32) (u : St), DK u → Q r u → QW r (emb ρ u)) {u : St} (hd : DK u) (h : sX2_fewestFor_p4 v1 Q v2 v3 u) : X2_fewestFor_p4 SH 157 v1 QW v2 v3 (emb ρ u) := h.elim (fun n h => ⟨n, t_X2_fewestFor_p4n hR hQ n _ _ _ hd h⟩)
set_option maxHeartbeats 4000000 in
set_option maxRecDepth 100000 in
theorem t_X2_fewestFor {ρ : Nat → Nat → Option Nat} (hR : RfH ρ) {v1 : Int32} {Q : Int32 → St → Prop} {QW : Int32 → Mem → Prop} (hQ : ∀ (r : Int32) (u : St), DK u → Q r u → QW r (emb ρ u)) {u : St} (hd : DK u) (h : s_X2_fewestFor v1 Q u) : wp_X2_fewestFor SH 157 v1 QW (emb ρ u) := by
  unfold wp_X2_fewestFor
  unfold s_X2_fewestFor at h
  exact t_X2_fewestFor_p4 hR hQ hd h
/-! CalledRiver$Led.reach -/
set_option maxHeartbeats 4000000 in
set_option maxRecDepth 100000 in
def sX2_reach_p36 (v2 : Int32) (v4 : Int32) (s0 : Int32) (Q : St → Prop) (u : St) : Prop :=
  vp_in ((v2 * (64 : Int32)) + s0) 2304 ∧ (if (u.1 158 ((v2 * (64 : Int32)) + s0).toNatClampNeg) = (-1 : Int32) then (if (u.1 157 2) < (nI 2304) then (bnd (tI u 158 ((v2 * (64 : Int32)) + s0).toNatClampNeg v4) (fun u10 => vp_in (u10.1 157 2) 2304 ∧ bnd (tI u10 159 (u10.1 157 2).toNatClampNeg ((v2 * (64 : Int32)) + s0)) (fun u12 => bnd (tI u12 157 2 ((u12.1 157 2) + (1 : Int32))) (fun u13 => vp_in s0 64 ∧ (if (u13.1 160 s0.toNatClampNeg) = (-1 : Int32) then (bnd (tI u13 160 s0.toNatClampNeg v4) (fun u16 => Q u16)) else (Q u13)))))) else (Q u)) else (Q u))
set_option maxHeartbeats 4000000 in
set_option maxRecDepth 100000 in
def sX2_reach_p35 (v2 : Int32) (v3 : Int32) (v4 : Int32) (Q : St → Prop) (u : St) : Prop :=
  sX2_reach_p36 v2 v4 v3 Q u
set_option maxHeartbeats 4000000 in
set_option maxRecDepth 100000 in
def s_X2_reach (v1 : Nat) (v2 : Int32) (v3 : Int32) (v4 : Int32) (Q : St → Prop) (u : St) : Prop :=
  vp_in v2 36 ∧ (if (u.1 (v1 + 3) v2.toNatClampNeg) = (-1 : Int32) then (sX2_reach_p35 v2 v3 v4 Q u) else (vp_in (u.1 (v1 + 3) v2.toNatClampNeg) 6 ∧ (if (u.1 (v1 + 6) (u.1 (v1 + 3) v2.toNatClampNeg).toNatClampNeg) < v4 then (sX2_reach_p35 v2 v3 v4 Q u) else (sX2_reach_p36 v2 v4 (v3 ||| ((1 : Int32) <<< ((u.1 (v1 + 3) v2.toNatClampNeg) &&& 31))) Q u))))
set_option maxHeartbeats 4000000 in
set_option maxRecDepth 100000 in
theorem t_X2_reach_p36 {ρ : Nat → Nat → Option Nat} (hR : RfH ρ) {v2 : Int32} {v4 : Int32} {s0 : Int32} {Q : St → Prop} {QW : Mem → Prop} (hQ : ∀ (u : St), DK u → Q u → QW (emb ρ u)) {u : St} (hd : DK u) (h : sX2_reach_p36 v2 v4 s0 Q u) : X2_reach_p36 SH 157 v2 v4 s0 QW (emb ρ u) := by
  unfold X2_reach_p36
  unfold sX2_reach_p36 at h
  refine ⟨on_157, ?_⟩
  refine ⟨_, rn_157_0 hR _, ?_⟩
  obtain ⟨x6, h⟩ := h
  refine ⟨ix_i (show SH[158]? = some (100, 2304) from rfl) x6, ?_⟩
  refine ite_mono (fun hc h => ?_) (fun hc h => ?_) h
  · refine ⟨_, rn_157_1 hR _, ?_⟩
    refine ⟨2304, (show SH[159]? = some (100, 2304) from rfl), ?_⟩
    refine ite_mono (fun hc h => ?_) (fun hc h => ?_) h
    · refine bnd_I ?_
      replace h := bnd_e h
      obtain ⟨x11, h⟩ := h
      refine ⟨ix_i (show SH[159]? = some (100, 2304) from rfl) x11, ?_⟩
      refine bnd_I ?_
      replace h := bnd_e h
      refine bnd_I ?_
      replace h := bnd_e h
      refine ⟨_, rn_157_3 hR _, ?_⟩
      obtain ⟨x15, h⟩ := h
      refine ⟨ix_i (show SH[160]? = some (100, 64) from rfl) x15, ?_⟩
      refine ite_mono (fun hc h => ?_) (fun hc h => ?_) h
      · refine bnd_I ?_
        replace h := bnd_e h
        exact hQ _ hd h
      · exact hQ _ hd h
    · exact hQ _ hd h
  · exact hQ _ hd h
set_option maxHeartbeats 4000000 in
set_option maxRecDepth 100000 in
theorem t_X2_reach_p35 {ρ : Nat → Nat → Option Nat} (hR : RfH ρ) {v2 : Int32} {v3 : Int32} {v4 : Int32} {Q : St → Prop} {QW : Mem → Prop} (hQ : ∀ (u : St), DK u → Q u → QW (emb ρ u)) {u : St} (hd : DK u) (h : sX2_reach_p35 v2 v3 v4 Q u) : X2_reach_p35 SH 157 v2 v3 v4 QW (emb ρ u) := by
  unfold X2_reach_p35
  unfold sX2_reach_p35 at h
  exact t_X2_reach_p36 hR hQ hd h
set_option maxHeartbeats 4000000 in
set_option maxRecDepth 100000 in
theorem t_X2_reach {ρ : Nat → Nat → Option Nat} (hR : RfH ρ) {v1 : Nat} {v2 : Int32} {v3 : Int32} {v4 : Int32} (o1 : Ob SH v1 5) {Q : St → Prop} {QW : Mem → Prop} (hQ : ∀ (u : St), DK u → Q u → QW (emb ρ u)) {u : St} (hd : DK u) (h : s_X2_reach v1 v2 v3 v4 Q u) : wp_X2_reach SH 157 v1 v2 v3 v4 QW (emb ρ u) := by
  unfold wp_X2_reach
  unfold s_X2_reach at h
  refine ⟨o1, ?_⟩
  refine ⟨_, rr_5_7 hR _ o1, ?_⟩
  obtain ⟨x2, h⟩ := h
  refine ⟨ix_i (ce_5_7 o1) x2, ?_⟩
  refine ite_mono (fun hc h => ?_) (fun hc h => ?_) h
  · exact t_X2_reach_p35 hR hQ hd h
  · refine ⟨_, rr_5_10 hR _ o1, ?_⟩
    obtain ⟨x4, h⟩ := h
    refine ⟨ix_i (ce_5_10 o1) x4, ?_⟩
    refine ite_mono (fun hc h => ?_) (fun hc h => ?_) h
    · exact t_X2_reach_p35 hR hQ hd h
    · exact t_X2_reach_p36 hR hQ hd h
/-! CalledRiver$Led.goOn -/
set_option maxHeartbeats 4000000 in
set_option maxRecDepth 100000 in
def sX2_goOn_p73 (v1 : Nat) (v2 : Nat) (v3 : Int32) (v4 : Int32) (v5 : Int32) (v6 : Int32) (Q : St → Prop) (K27 : Int32 → St → Prop) (u : St) : Prop :=
  K27 (v6 + (1 : Int32)) u
set_option maxHeartbeats 4000000 in
set_option maxRecDepth 100000 in
def sX2_goOn_p27b (v1 : Nat) (v2 : Nat) (v3 : Int32) (v4 : Int32) (v5 : Int32) (Q : St → Prop) (K27 : Int32 → St → Prop) (v6 : Int32) (u : St) : Prop :=
  if (4 : Int32) ≤ v6 then (Q u) else (s_X5_beside v1 v4 v6 (fun r3 u4 => if r3 = (-1 : Int32) then (sX2_goOn_p73 v1 v2 v3 v4 v5 v6 Q K27 u4) else (s_X1_flows v2 v4 r3 (fun r5 u6 => if r5 = 0 then (sX2_goOn_p73 v1 v2 v3 v4 v5 v6 Q K27 u6) else (s_X2_reach v1 r3 (v3 - v3 / (64 : Int32) * (64 : Int32)) v5 (fun u8 => sX2_goOn_p73 v1 v2 v3 v4 v5 v6 Q K27 u8) u6)) u4)) u)
set_option maxHeartbeats 4000000 in
set_option maxRecDepth 100000 in
def sX2_goOn_p27n (v1 : Nat) (v2 : Nat) (v3 : Int32) (v4 : Int32) (v5 : Int32) (Q : St → Prop) : Nat → Int32 → St → Prop
  | 0 => fun _ _ => False
  | n + 1 => sX2_goOn_p27b v1 v2 v3 v4 v5 Q (sX2_goOn_p27n v1 v2 v3 v4 v5 Q n)
set_option maxHeartbeats 4000000 in
set_option maxRecDepth 100000 in
def sX2_goOn_p27 (v1 : Nat) (v2 : Nat) (v3 : Int32) (v4 : Int32) (v5 : Int32) (Q : St → Prop) (v6 : Int32) (u : St) : Prop := ∃ n, sX2_goOn_p27n v1 v2 v3 v4 v5 Q n v6 u
set_option maxHeartbeats 4000000 in
set_option maxRecDepth 100000 in
def s_X2_goOn (v1 : Nat) (v2 : Nat) (v3 : Int32) (Q : St → Prop) (u : St) : Prop :=
  vp_in v3 2304 ∧ (if ((u.1 158 v3.toNatClampNeg) + (1 : Int32)) ≤ (40 : Int32) then (sX2_goOn_p27 v1 v2 v3 (v3 / (64 : Int32)) ((u.1 158 v3.toNatClampNeg) + (1 : Int32)) Q (0 : Int32) u) else (Q u))
set_option maxHeartbeats 4000000 in
set_option maxRecDepth 100000 in
theorem t_X2_goOn_p73 {ρ : Nat → Nat → Option Nat} (hR : RfH ρ) {v1 : Nat} {v2 : Nat} {v3 : Int32} {v4 : Int32} {v5 : Int32} {v6 : Int32} (o1 : Ob SH v1 5) (o2 : Ob SH v2 1) {Q : St → Prop} {QW : Mem → Prop} {K27 : Int32 → St → Prop} {KW27 : Int32 → Mem → Prop} (hQ : ∀ (u : St), DK u → Q u → QW (emb ρ u)) (hK27 : ∀ (x6 : Int32) (u : St), DK u → K27 x6 u → KW27 x6 (emb ρ u)) {u : St} (hd : DK u) (h : sX2_goOn_p73 v1 v2 v3 v4 v5 v6 Q K27 u) : X2_goOn_p73 SH 157 v1 v2 v3 v4 v5 v6 QW KW27 (emb ρ u) := by
  unfold X2_goOn_p73
  unfold sX2_goOn_p73 at h
  exact hK27 _ _ hd h
set_option maxHeartbeats 4000000 in
set_option maxRecDepth 100000 in
theorem t_X2_goOn_p27b {ρ : Nat → Nat → Option Nat} (hR : RfH ρ) {v1 : Nat} {v2 : Nat} {v3 : Int32} {v4 : Int32} {v5 : Int32} {v6 : Int32} (o1 : Ob SH v1 5) (o2 : Ob SH v2 1) {Q : St → Prop} {QW : Mem → Prop} (hQ : ∀ (u : St), DK u → Q u → QW (emb ρ u)) {K27 : Int32 → St → Prop} {KW27 : Int32 → Mem → Prop} (hK27 : ∀ (x6 : Int32) (u : St), DK u → K27 x6 u → KW27 x6 (emb ρ u)) {u : St} (hd : DK u) (h : sX2_goOn_p27b v1 v2 v3 v4 v5 Q K27 v6 u) : X2_goOn_p27b SH 157 v1 v2 v3 v4 v5 QW KW27 v6 (emb ρ u) := by
  unfold X2_goOn_p27b
  unfold sX2_goOn_p27b at h
  refine ite_mono (fun hc h => ?_) (fun hc h => ?_) h
  · exact hQ _ hd h
  · refine ⟨o1, ?_⟩
    refine t_X5_beside hR o1 (fun r3 u4 hd h => ?_) hd h
    refine ite_mono (fun hc h => ?_) (fun hc h => ?_) h
    · exact t_X2_goOn_p73 hR o1 o2 hQ hK27 hd h
    · refine ⟨o2, ?_⟩
      refine t_X1_flows hR o2 (fun r5 u6 hd h => ?_) hd h
      refine ite_mono (fun hc h => ?_) (fun hc h => ?_) h
      · exact t_X2_goOn_p73 hR o1 o2 hQ hK27 hd h
      · refine ⟨on_157, ?_⟩
        refine t_X2_reach hR o1 (fun u8 hd h => ?_) hd h
        exact t_X2_goOn_p73 hR o1 o2 hQ hK27 hd h
set_option maxHeartbeats 4000000 in
set_option maxRecDepth 100000 in
theorem t_X2_goOn_p27n {ρ : Nat → Nat → Option Nat} (hR : RfH ρ) {v1 : Nat} {v2 : Nat} {v3 : Int32} {v4 : Int32} {v5 : Int32} (o1 : Ob SH v1 5) (o2 : Ob SH v2 1) {Q : St → Prop} {QW : Mem → Prop} (hQ : ∀ (u : St), DK u → Q u → QW (emb ρ u)) : ∀ (n : Nat) (v6 : Int32) (u : St), DK u → sX2_goOn_p27n v1 v2 v3 v4 v5 Q n v6 u → X2_goOn_p27n SH 157 v1 v2 v3 v4 v5 QW n v6 (emb ρ u)
  | 0, _, _,  _, h => h.elim
  | n + 1, v6,  u,  hd, h => t_X2_goOn_p27b hR o1 o2 hQ (fun v6 u  hd h => t_X2_goOn_p27n hR o1 o2 hQ n v6 u  hd h) hd h
set_option maxHeartbeats 4000000 in
set_option maxRecDepth 100000 in
theorem t_X2_goOn_p27 {ρ : Nat → Nat → Option Nat} (hR : RfH ρ) {v1 : Nat} {v2 : Nat} {v3 : Int32} {v4 : Int32} {v5 : Int32} {v6 : Int32} (o1 : Ob SH v1 5) (o2 : Ob SH v2 1) {Q : St → Prop} {QW : Mem → Prop} (hQ : ∀ (u : St), DK u → Q u → QW (emb ρ u)) {u : St} (hd : DK u) (h : sX2_goOn_p27 v1 v2 v3 v4 v5 Q v6 u) : X2_goOn_p27 SH 157 v1 v2 v3 v4 v5 QW v6 (emb ρ u) := h.elim (fun n h => ⟨n, t_X2_goOn_p27n hR o1 o2 hQ n _ _ hd h⟩)
set_option maxHeartbeats 4000000 in
set_option maxRecDepth 100000 in
theorem t_X2_goOn {ρ : Nat → Nat → Option Nat} (hR : RfH ρ) {v1 : Nat} {v2 : Nat} {v3 : Int32} (o1 : Ob SH v1 5) (o2 : Ob SH v2 1) {Q : St → Prop} {QW : Mem → Prop} (hQ : ∀ (u : St), DK u → Q u → QW (emb ρ u)) {u : St} (hd : DK u) (h : s_X2_goOn v1 v2 v3 Q u) : wp_X2_goOn SH 157 v1 v2 v3 QW (emb ρ u) := by
  unfold wp_X2_goOn
  unfold s_X2_goOn at h
  refine ⟨on_157, ?_⟩
  refine ⟨_, rn_157_0 hR _, ?_⟩
  obtain ⟨x2, h⟩ := h
  refine ⟨ix_i (show SH[158]? = some (100, 2304) from rfl) x2, ?_⟩
  refine ite_mono (fun hc h => ?_) (fun hc h => ?_) h
  · exact t_X2_goOn_p27 hR o1 o2 hQ hd h
  · exact hQ _ hd h
/-! CalledRiver$Led.search -/
set_option maxHeartbeats 4000000 in
set_option maxRecDepth 100000 in
def sX2_search_p55b (v1 : Nat) (v2 : Nat) (Q : St → Prop) (K55 : Int32 → St → Prop) (v3 : Int32) (u : St) : Prop :=
  if (nI 2304) ≤ v3 then (Q u) else (if (u.1 157 2) ≤ v3 then (Q u) else (vp_in v3 2304 ∧ (s_X2_goOn v1 v2 (u.1 159 v3.toNatClampNeg) (fun u17 => K55 (v3 + (1 : Int32)) u17) u)))
set_option maxHeartbeats 4000000 in
set_option maxRecDepth 100000 in
def sX2_search_p55n (v1 : Nat) (v2 : Nat) (Q : St → Prop) : Nat → Int32 → St → Prop
  | 0 => fun _ _ => False
  | n + 1 => sX2_search_p55b v1 v2 Q (sX2_search_p55n v1 v2 Q n)
set_option maxHeartbeats 4000000 in
set_option maxRecDepth 100000 in
def sX2_search_p55 (v1 : Nat) (v2 : Nat) (Q : St → Prop) (v3 : Int32) (u : St) : Prop := ∃ n, sX2_search_p55n v1 v2 Q n v3 u
set_option maxHeartbeats 4000000 in
set_option maxRecDepth 100000 in
def s_X2_search (v1 : Nat) (v2 : Nat) (Q : St → Prop) (u : St) : Prop :=
  s_J7_fill_53178 158 (-1 : Int32) (fun u3 => s_J7_fill_53178 160 (-1 : Int32) (fun u6 => bnd (tI u6 157 2 (0 : Int32)) (fun u7 => if (u7.1 v1 0) = 0 then (Q u7) else (vp_in (u7.1 v1 2) 36 ∧ (if (u7.1 (v2 + 2) (u7.1 v1 2).toNatClampNeg) = (1 : Int32) then (Q u7) else (s_X2_reach v1 (u7.1 v1 2) (0 : Int32) (0 : Int32) (fun u11 => sX2_search_p55 v1 v2 Q (0 : Int32) u11) u7))))) u3) u
set_option maxHeartbeats 4000000 in
set_option maxRecDepth 100000 in
theorem t_X2_search_p55b {ρ : Nat → Nat → Option Nat} (hR : RfH ρ) {v1 : Nat} {v2 : Nat} {v3 : Int32} (o1 : Ob SH v1 5) (o2 : Ob SH v2 1) {Q : St → Prop} {QW : Mem → Prop} (hQ : ∀ (u : St), DK u → Q u → QW (emb ρ u)) {K55 : Int32 → St → Prop} {KW55 : Int32 → Mem → Prop} (hK55 : ∀ (x3 : Int32) (u : St), DK u → K55 x3 u → KW55 x3 (emb ρ u)) {u : St} (hd : DK u) (h : sX2_search_p55b v1 v2 Q K55 v3 u) : X2_search_p55b SH 157 v1 v2 QW KW55 v3 (emb ρ u) := by
  unfold X2_search_p55b
  unfold sX2_search_p55b at h
  refine ⟨on_157, ?_⟩
  refine ⟨_, rn_157_1 hR _, ?_⟩
  refine ⟨2304, (show SH[159]? = some (100, 2304) from rfl), ?_⟩
  refine ite_mono (fun hc h => ?_) (fun hc h => ?_) h
  · exact hQ _ hd h
  · refine ite_mono (fun hc h => ?_) (fun hc h => ?_) h
    · exact hQ _ hd h
    · obtain ⟨x15, h⟩ := h
      refine ⟨ix_i (show SH[159]? = some (100, 2304) from rfl) x15, ?_⟩
      refine t_X2_goOn hR o1 o2 (fun u17 hd h => ?_) hd h
      exact hK55 _ _ hd h
set_option maxHeartbeats 4000000 in
set_option maxRecDepth 100000 in
theorem t_X2_search_p55n {ρ : Nat → Nat → Option Nat} (hR : RfH ρ) {v1 : Nat} {v2 : Nat} (o1 : Ob SH v1 5) (o2 : Ob SH v2 1) {Q : St → Prop} {QW : Mem → Prop} (hQ : ∀ (u : St), DK u → Q u → QW (emb ρ u)) : ∀ (n : Nat) (v3 : Int32) (u : St), DK u → sX2_search_p55n v1 v2 Q n v3 u → X2_search_p55n SH 157 v1 v2 QW n v3 (emb ρ u)
  | 0, _, _,  _, h => h.elim
  | n + 1, v3,  u,  hd, h => t_X2_search_p55b hR o1 o2 hQ (fun v3 u  hd h => t_X2_search_p55n hR o1 o2 hQ n v3 u  hd h) hd h
set_option maxHeartbeats 4000000 in
set_option maxRecDepth 100000 in
theorem t_X2_search_p55 {ρ : Nat → Nat → Option Nat} (hR : RfH ρ) {v1 : Nat} {v2 : Nat} {v3 : Int32} (o1 : Ob SH v1 5) (o2 : Ob SH v2 1) {Q : St → Prop} {QW : Mem → Prop} (hQ : ∀ (u : St), DK u → Q u → QW (emb ρ u)) {u : St} (hd : DK u) (h : sX2_search_p55 v1 v2 Q v3 u) : X2_search_p55 SH 157 v1 v2 QW v3 (emb ρ u) := h.elim (fun n h => ⟨n, t_X2_search_p55n hR o1 o2 hQ n _ _ hd h⟩)
set_option maxHeartbeats 4000000 in
set_option maxRecDepth 100000 in
theorem t_X2_search {ρ : Nat → Nat → Option Nat} (hR : RfH ρ) {v1 : Nat} {v2 : Nat} (o1 : Ob SH v1 5) (o2 : Ob SH v2 1) {Q : St → Prop} {QW : Mem → Prop} (hQ : ∀ (u : St), DK u → Q u → QW (emb ρ u)) {u : St} (hd : DK u) (h : s_X2_search v1 v2 Q u) : wp_X2_search SH 157 v1 v2 QW (emb ρ u) := by
  unfold wp_X2_search
  unfold s_X2_search at h
  refine ⟨on_157, ?_⟩
  refine ⟨_, rn_157_0 hR _, ?_⟩
  refine t_J7_fill_53178 hR (fun u3 hd h => ?_) hd h
  refine ⟨_, rn_157_3 hR _, ?_⟩
  refine t_J7_fill_53178 hR (fun u6 hd h => ?_) hd h
  refine bnd_I ?_
  replace h := bnd_e h
  refine ⟨o1, ?_⟩
  refine ite_mono (fun hc h => ?_) (fun hc h => ?_) h
  · exact hQ _ hd h
  · refine ⟨o2, ?_⟩
    refine ⟨_, rr_1_3 hR _ o2, ?_⟩
    obtain ⟨x9, h⟩ := h
    refine ⟨ix_i (ce_1_3 o2) x9, ?_⟩
    refine ite_mono (fun hc h => ?_) (fun hc h => ?_) h
    · exact hQ _ hd h
    · refine t_X2_reach hR o1 (fun u11 hd h => ?_) hd h
      exact t_X2_search_p55 hR o1 o2 hQ hd h
/-! CalledRiver$Past.forget -/
set_option maxHeartbeats 4000000 in
set_option maxRecDepth 100000 in
def s_X3_forget (Q : St → Prop) (u : St) : Prop :=
  bnd (tI u 52 0 (0 : Int32)) (fun u1 => Q u1)
set_option maxHeartbeats 4000000 in
set_option maxRecDepth 100000 in
theorem t_X3_forget {ρ : Nat → Nat → Option Nat} (hR : RfH ρ) {Q : St → Prop} {QW : Mem → Prop} (hQ : ∀ (u : St), DK u → Q u → QW (emb ρ u)) {u : St} (hd : DK u) (h : s_X3_forget Q u) : wp_X3_forget SH 52 QW (emb ρ u) := by
  unfold wp_X3_forget
  unfold s_X3_forget at h
  refine ⟨on_52, ?_⟩
  refine bnd_I ?_
  replace h := bnd_e h
  exact hQ _ hd h
/-! CalledRiver$Past.keep -/
set_option maxHeartbeats 4000000 in
set_option maxRecDepth 100000 in
def s_X3_keep (v1 : Int32) (v2 : Int32) (v3 : Int32) (v4 : Int32) (Q : Int32 → St → Prop) (u : St) : Prop :=
  if v1 < 0 then (Q v1 u) else (if v1 < (999 : Int32) then (vp_in v1 999 ∧ bnd (tI u 54 v1.toNatClampNeg v2) (fun u3 => vp_in v1 999 ∧ bnd (tI u3 55 v1.toNatClampNeg v3) (fun u6 => vp_in v1 999 ∧ bnd (tI u6 56 v1.toNatClampNeg v4) (fun u9 => Q (v1 + (1 : Int32)) u9)))) else (Q v1 u))
set_option maxHeartbeats 4000000 in
set_option maxRecDepth 100000 in
theorem t_X3_keep {ρ : Nat → Nat → Option Nat} (hR : RfH ρ) {v1 : Int32} {v2 : Int32} {v3 : Int32} {v4 : Int32} {Q : Int32 → St → Prop} {QW : Int32 → Mem → Prop} (hQ : ∀ (r : Int32) (u : St), DK u → Q r u → QW r (emb ρ u)) {u : St} (hd : DK u) (h : s_X3_keep v1 v2 v3 v4 Q u) : wp_X3_keep SH 52 v1 v2 v3 v4 QW (emb ρ u) := by
  unfold wp_X3_keep
  unfold s_X3_keep at h
  refine ite_mono (fun hc h => ?_) (fun hc h => ?_) h
  · exact hQ _ _ hd h
  · refine ite_mono (fun hc h => ?_) (fun hc h => ?_) h
    · refine ⟨on_52, ?_⟩
      refine ⟨_, rn_52_3 hR _, ?_⟩
      obtain ⟨x2, h⟩ := h
      refine ⟨ix_i (show SH[54]? = some (100, 999) from rfl) x2, ?_⟩
      refine bnd_I ?_
      replace h := bnd_e h
      refine ⟨_, rn_52_4 hR _, ?_⟩
      obtain ⟨x5, h⟩ := h
      refine ⟨ix_i (show SH[55]? = some (100, 999) from rfl) x5, ?_⟩
      refine bnd_I ?_
      replace h := bnd_e h
      refine ⟨_, rn_52_5 hR _, ?_⟩
      obtain ⟨x8, h⟩ := h
      refine ⟨ix_i (show SH[56]? = some (100, 999) from rfl) x8, ?_⟩
      refine bnd_I ?_
      replace h := bnd_e h
      exact hQ _ _ hd h
    · exact hQ _ _ hd h
/-! CalledRiver$Past.remember -/
set_option maxHeartbeats 4000000 in
set_option maxRecDepth 100000 in
def sX3_remember_p32 (v1 : Nat) (Q : St → Prop) (u : St) : Prop :=
  vp_in (((u.1 52 1) + (u.1 52 0)) - ((u.1 52 1) + (u.1 52 0)) / (20 : Int32) * (20 : Int32)) 20 ∧ (s_X1_copy (57 + 5 * (((u.1 52 1) + (u.1 52 0)) - ((u.1 52 1) + (u.1 52 0)) / (20 : Int32) * (20 : Int32)).toNatClampNeg) v1 (fun u7 => bnd (tI u7 52 0 ((u7.1 52 0) + (1 : Int32))) (fun u8 => Q u8)) u)
set_option maxHeartbeats 4000000 in
set_option maxRecDepth 100000 in
def s_X3_remember (v1 : Nat) (Q : St → Prop) (u : St) : Prop :=
  if (u.1 52 0) = (20 : Int32) then (bnd (tI u 52 1 (((u.1 52 1) + (1 : Int32)) - ((u.1 52 1) + (1 : Int32)) / (20 : Int32) * (20 : Int32))) (fun u1 => bnd (tI u1 52 0 ((u1.1 52 0) - (1 : Int32))) (fun u2 => sX3_remember_p32 v1 Q u2))) else (sX3_remember_p32 v1 Q u)
set_option maxHeartbeats 4000000 in
set_option maxRecDepth 100000 in
theorem t_X3_remember_p32 {ρ : Nat → Nat → Option Nat} (hR : RfH ρ) {v1 : Nat} (o1 : Ob SH v1 1) {Q : St → Prop} {QW : Mem → Prop} (hQ : ∀ (u : St), DK u → Q u → QW (emb ρ u)) {u : St} (hd : DK u) (h : sX3_remember_p32 v1 Q u) : X3_remember_p32 SH 52 v1 QW (emb ρ u) := by
  unfold X3_remember_p32
  unfold sX3_remember_p32 at h
  refine ⟨on_52, ?_⟩
  refine ⟨_, rn_52_2 hR _, ?_⟩
  obtain ⟨x4, h⟩ := h
  refine ⟨ix_i (show SH[53]? = some (105, 20) from rfl) x4, ?_⟩
  refine ⟨_, rw_105 hR _ x4, ?_⟩
  refine ⟨(ow_105 x4), ?_⟩
  refine t_X1_copy hR (ow_105 x4) o1 (fun u7 hd h => ?_) hd h
  refine bnd_I ?_
  replace h := bnd_e h
  exact hQ _ hd h
set_option maxHeartbeats 4000000 in
set_option maxRecDepth 100000 in
theorem t_X3_remember {ρ : Nat → Nat → Option Nat} (hR : RfH ρ) {v1 : Nat} (o1 : Ob SH v1 1) {Q : St → Prop} {QW : Mem → Prop} (hQ : ∀ (u : St), DK u → Q u → QW (emb ρ u)) {u : St} (hd : DK u) (h : s_X3_remember v1 Q u) : wp_X3_remember SH 52 v1 QW (emb ρ u) := by
  unfold wp_X3_remember
  unfold s_X3_remember at h
  refine ⟨on_52, ?_⟩
  refine ite_mono (fun hc h => ?_) (fun hc h => ?_) h
  · refine bnd_I ?_
    replace h := bnd_e h
    refine bnd_I ?_
    replace h := bnd_e h
    exact t_X3_remember_p32 hR o1 hQ hd h
  · exact t_X3_remember_p32 hR o1 hQ hd h
/-! CalledRiver$Past.restore -/
set_option maxHeartbeats 4000000 in
set_option maxRecDepth 100000 in
def s_X3_restore (v1 : Nat) (Q : Int32 → St → Prop) (u : St) : Prop :=
  if (u.1 52 0) = 0 then (Q (0 : Int32) u) else (bnd (tI u 52 0 ((u.1 52 0) - (1 : Int32))) (fun u1 => vp_in (((u1.1 52 1) + (u1.1 52 0)) - ((u1.1 52 1) + (u1.1 52 0)) / (20 : Int32) * (20 : Int32)) 20 ∧ (s_X1_copy v1 (57 + 5 * (((u1.1 52 1) + (u1.1 52 0)) - ((u1.1 52 1) + (u1.1 52 0)) / (20 : Int32) * (20 : Int32)).toNatClampNeg) (fun u6 => Q (1 : Int32) u6) u1)))
set_option maxHeartbeats 4000000 in
set_option maxRecDepth 100000 in
theorem t_X3_restore {ρ : Nat → Nat → Option Nat} (hR : RfH ρ) {v1 : Nat} (o1 : Ob SH v1 1) {Q : Int32 → St → Prop} {QW : Int32 → Mem → Prop} (hQ : ∀ (r : Int32) (u : St), DK u → Q r u → QW r (emb ρ u)) {u : St} (hd : DK u) (h : s_X3_restore v1 Q u) : wp_X3_restore SH 52 v1 QW (emb ρ u) := by
  unfold wp_X3_restore
  unfold s_X3_restore at h
  refine ⟨on_52, ?_⟩
  refine ite_mono (fun hc h => ?_) (fun hc h => ?_) h
  · exact hQ _ _ hd h
  · refine bnd_I ?_
    replace h := bnd_e h
    refine ⟨_, rn_52_2 hR _, ?_⟩
    obtain ⟨x3, h⟩ := h
    refine ⟨ix_i (show SH[53]? = some (105, 20) from rfl) x3, ?_⟩
    refine ⟨_, rw_105 hR _ x3, ?_⟩
    refine ⟨o1, ?_⟩
    refine t_X1_copy hR o1 (ow_105 x3) (fun u6 hd h => ?_) hd h
    exact hQ _ _ hd h
/-! CalledRiver$Past.tell -/
set_option maxHeartbeats 4000000 in
set_option maxRecDepth 100000 in
def s_X3_tell (v1 : Int32) (v2 : Int32) (Q : Int32 → St → Prop) (u : St) : Prop :=
  if v1 < 0 then (Q (-1 : Int32) u) else (if v1 < (999 : Int32) then (if v2 = (0 : Int32) then (vp_in v1 999 ∧ (Q (u.1 54 v1.toNatClampNeg) u)) else if v2 = (1 : Int32) then (vp_in v1 999 ∧ (Q (u.1 55 v1.toNatClampNeg) u)) else if v2 = (2 : Int32) then (vp_in v1 999 ∧ (Q (u.1 56 v1.toNatClampNeg) u)) else (Q (-1 : Int32) u)) else (Q (-1 : Int32) u))
set_option maxHeartbeats 4000000 in
set_option maxRecDepth 100000 in
theorem t_X3_tell {ρ : Nat → Nat → Option Nat} (hR : RfH ρ) {v1 : Int32} {v2 : Int32} {Q : Int32 → St → Prop} {QW : Int32 → Mem → Prop} (hQ : ∀ (r : Int32) (u : St), DK u → Q r u → QW r (emb ρ u)) {u : St} (hd : DK u) (h : s_X3_tell v1 v2 Q u) : wp_X3_tell SH 52 v1 v2 QW (emb ρ u) := by
  unfold wp_X3_tell
  unfold s_X3_tell at h
  refine ite_mono (fun hc h => ?_) (fun hc h => ?_) h
  · exact hQ _ _ hd h
  · refine ite_mono (fun hc h => ?_) (fun hc h => ?_) h
    · refine ite_mono (fun hc h => ?_) (fun hc h => ?_) h
      · refine ⟨on_52, ?_⟩
        refine ⟨_, rn_52_3 hR _, ?_⟩
        obtain ⟨x2, h⟩ := h
        refine ⟨ix_i (show SH[54]? = some (100, 999) from rfl) x2, ?_⟩
        exact hQ _ _ hd h
      refine ite_mono (fun hc h => ?_) (fun hc h => ?_) h
      · refine ⟨on_52, ?_⟩
        refine ⟨_, rn_52_4 hR _, ?_⟩
        obtain ⟨x4, h⟩ := h
        refine ⟨ix_i (show SH[55]? = some (100, 999) from rfl) x4, ?_⟩
        exact hQ _ _ hd h
      refine ite_mono (fun hc h => ?_) (fun hc h => ?_) h
      · refine ⟨on_52, ?_⟩
        refine ⟨_, rn_52_5 hR _, ?_⟩
        obtain ⟨x6, h⟩ := h
        refine ⟨ix_i (show SH[56]? = some (100, 999) from rfl) x6, ?_⟩
        exact hQ _ _ hd h
      exact hQ _ _ hd h
    · exact hQ _ _ hd h
/-! CalledRiver$Picture.checkOf -/
set_option maxHeartbeats 4000000 in
set_option maxRecDepth 100000 in
def sX4_checkOf_p6b (v0 : Nat) (v1 : Int32) (Q : Int32 → St → Prop) (K6 : Int32 → Int32 → St → Prop) (v2 : Int32) (v3 : Int32) (u : St) : Prop :=
  if v1 ≤ v3 then (Q v2 u) else (Ix SH v0 100 v3 ∧ (K6 ((((3 : Int32) * v2) + (u.1 v0 v3.toNatClampNeg)) - (((3 : Int32) * v2) + (u.1 v0 v3.toNatClampNeg)) / (251 : Int32) * (251 : Int32)) (v3 + (1 : Int32)) u))
set_option maxHeartbeats 4000000 in
set_option maxRecDepth 100000 in
def sX4_checkOf_p6n (v0 : Nat) (v1 : Int32) (Q : Int32 → St → Prop) : Nat → Int32 → Int32 → St → Prop
  | 0 => fun _ _ _ => False
  | n + 1 => sX4_checkOf_p6b v0 v1 Q (sX4_checkOf_p6n v0 v1 Q n)
set_option maxHeartbeats 4000000 in
set_option maxRecDepth 100000 in
def sX4_checkOf_p6 (v0 : Nat) (v1 : Int32) (Q : Int32 → St → Prop) (v2 : Int32) (v3 : Int32) (u : St) : Prop := ∃ n, sX4_checkOf_p6n v0 v1 Q n v2 v3 u
set_option maxHeartbeats 4000000 in
set_option maxRecDepth 100000 in
def s_X4_checkOf (v0 : Nat) (v1 : Int32) (Q : Int32 → St → Prop) (u : St) : Prop :=
  sX4_checkOf_p6 v0 v1 Q (173 : Int32) (0 : Int32) u
set_option maxHeartbeats 4000000 in
set_option maxRecDepth 100000 in
theorem t_X4_checkOf_p6b {ρ : Nat → Nat → Option Nat} (hR : RfH ρ) {v0 : Nat} {v1 : Int32} {v2 : Int32} {v3 : Int32} {Q : Int32 → St → Prop} {QW : Int32 → Mem → Prop} (hQ : ∀ (r : Int32) (u : St), DK u → Q r u → QW r (emb ρ u)) {K6 : Int32 → Int32 → St → Prop} {KW6 : Int32 → Int32 → Mem → Prop} (hK6 : ∀ (x2 : Int32) (x3 : Int32) (u : St), DK u → K6 x2 x3 u → KW6 x2 x3 (emb ρ u)) {u : St} (hd : DK u) (h : sX4_checkOf_p6b v0 v1 Q K6 v2 v3 u) : X4_checkOf_p6b SH v0 v1 QW KW6 v2 v3 (emb ρ u) := by
  unfold X4_checkOf_p6b
  unfold sX4_checkOf_p6b at h
  refine ite_mono (fun hc h => ?_) (fun hc h => ?_) h
  · exact hQ _ _ hd h
  · obtain ⟨x1, h⟩ := h
    refine ⟨x1, ?_⟩
    exact hK6 _ _ _ hd h
set_option maxHeartbeats 4000000 in
set_option maxRecDepth 100000 in
theorem t_X4_checkOf_p6n {ρ : Nat → Nat → Option Nat} (hR : RfH ρ) {v0 : Nat} {v1 : Int32} {Q : Int32 → St → Prop} {QW : Int32 → Mem → Prop} (hQ : ∀ (r : Int32) (u : St), DK u → Q r u → QW r (emb ρ u)) : ∀ (n : Nat) (v2 : Int32) (v3 : Int32) (u : St), DK u → sX4_checkOf_p6n v0 v1 Q n v2 v3 u → X4_checkOf_p6n SH v0 v1 QW n v2 v3 (emb ρ u)
  | 0, _,_, _,  _, h => h.elim
  | n + 1, v2, v3,  u,  hd, h => t_X4_checkOf_p6b hR hQ (fun v2 v3 u  hd h => t_X4_checkOf_p6n hR hQ n v2 v3 u  hd h) hd h
set_option maxHeartbeats 4000000 in
set_option maxRecDepth 100000 in
theorem t_X4_checkOf_p6 {ρ : Nat → Nat → Option Nat} (hR : RfH ρ) {v0 : Nat} {v1 : Int32} {v2 : Int32} {v3 : Int32} {Q : Int32 → St → Prop} {QW : Int32 → Mem → Prop} (hQ : ∀ (r : Int32) (u : St), DK u → Q r u → QW r (emb ρ u)) {u : St} (hd : DK u) (h : sX4_checkOf_p6 v0 v1 Q v2 v3 u) : X4_checkOf_p6 SH v0 v1 QW v2 v3 (emb ρ u) := h.elim (fun n h => ⟨n, t_X4_checkOf_p6n hR hQ n _ _ _ hd h⟩)
set_option maxHeartbeats 4000000 in
set_option maxRecDepth 100000 in
theorem t_X4_checkOf {ρ : Nat → Nat → Option Nat} (hR : RfH ρ) {v0 : Nat} {v1 : Int32} {Q : Int32 → St → Prop} {QW : Int32 → Mem → Prop} (hQ : ∀ (r : Int32) (u : St), DK u → Q r u → QW r (emb ρ u)) {u : St} (hd : DK u) (h : s_X4_checkOf v0 v1 Q u) : wp_X4_checkOf SH v0 v1 QW (emb ρ u) := by
  unfold wp_X4_checkOf
  unfold s_X4_checkOf at h
  exact t_X4_checkOf_p6 hR hQ hd h
/-! CalledRiver$Picture.yearOf -/
set_option maxHeartbeats 4000000 in
set_option maxRecDepth 100000 in
def s_X4_yearOf (Q : Int32 → St → Prop) (u : St) : Prop :=
  vp_in (0 : Int32) 1600 ∧ (vp_in (1 : Int32) 1600 ∧ (Q (((256 : Int32) * (u.1 2 (0 : Int32).toNatClampNeg)) + (u.1 2 (1 : Int32).toNatClampNeg)) u))
set_option maxHeartbeats 4000000 in
set_option maxRecDepth 100000 in
theorem t_X4_yearOf {ρ : Nat → Nat → Option Nat} (hR : RfH ρ) {Q : Int32 → St → Prop} {QW : Int32 → Mem → Prop} (hQ : ∀ (r : Int32) (u : St), DK u → Q r u → QW r (emb ρ u)) {u : St} (hd : DK u) (h : s_X4_yearOf Q u) : wp_X4_yearOf SH 1 QW (emb ρ u) := by
  unfold wp_X4_yearOf
  unfold s_X4_yearOf at h
  refine ⟨on_1, ?_⟩
  refine ⟨_, rn_1_0 hR _, ?_⟩
  obtain ⟨x2, h⟩ := h
  refine ⟨ix_i (show SH[2]? = some (100, 1600) from rfl) x2, ?_⟩
  obtain ⟨x3, h⟩ := h
  refine ⟨ix_i (show SH[2]? = some (100, 1600) from rfl) x3, ?_⟩
  exact hQ _ _ hd h
/-! CalledRiver$Plain.places -/
set_option maxHeartbeats 4000000 in
set_option maxRecDepth 100000 in
def s_X5_places (v0 : Nat) (Q : Int32 → St → Prop) (u : St) : Prop :=
  Q ((u.1 v0 0) * (u.1 v0 1)) u
set_option maxHeartbeats 4000000 in
set_option maxRecDepth 100000 in
theorem t_X5_places {ρ : Nat → Nat → Option Nat} (hR : RfH ρ) {v0 : Nat} (o0 : Ob SH v0 5) {Q : Int32 → St → Prop} {QW : Int32 → Mem → Prop} (hQ : ∀ (r : Int32) (u : St), DK u → Q r u → QW r (emb ρ u)) {u : St} (hd : DK u) (h : s_X5_places v0 Q u) : wp_X5_places SH v0 QW (emb ρ u) := by
  unfold wp_X5_places
  unfold s_X5_places at h
  refine ⟨o0, ?_⟩
  exact hQ _ _ hd h
/-! CalledRiver$Picture.isOf -/
set_option maxHeartbeats 4000000 in
set_option maxRecDepth 100000 in
def sX4_isOf_p124 (v2 : Int32) (v3 : Int32) (v5 : Int32) (s1 : Int32) (s0 : Int32) (Q : Int32 → St → Prop) (K72 : Int32 → Int32 → St → Prop) (u : St) : Prop :=
  K72 (s0 &&& s1) (v5 + (3 : Int32)) u
set_option maxHeartbeats 4000000 in
set_option maxRecDepth 100000 in
def sX4_isOf_p123 (v2 : Int32) (v3 : Int32) (v5 : Int32) (s0 : Int32) (Q : Int32 → St → Prop) (K72 : Int32 → Int32 → St → Prop) (u : St) : Prop :=
  sX4_isOf_p124 v2 v3 v5 (0 : Int32) s0 Q K72 u
set_option maxHeartbeats 4000000 in
set_option maxRecDepth 100000 in
def sX4_isOf_p161 (v3 : Int32) (v5 : Int32) (s1 : Int32) (s0 : Int32) (Q : Int32 → St → Prop) (K136 : Int32 → Int32 → St → Prop) (u : St) : Prop :=
  K136 (s0 &&& s1) (v5 + (1 : Int32)) u
set_option maxHeartbeats 4000000 in
set_option maxRecDepth 100000 in
def sX4_isOf_p136b (v3 : Int32) (Q : Int32 → St → Prop) (K136 : Int32 → Int32 → St → Prop) (v4 : Int32) (v5 : Int32) (u : St) : Prop :=
  if v3 ≤ v5 then ((v4 = 0 ∨ v4 = 1) ∧ Q v4 u) else (vp_in v5 1600 ∧ (if (9 : Int32) < (u.1 2 v5.toNatClampNeg) then (sX4_isOf_p161 v3 v5 (0 : Int32) v4 Q K136 u) else (sX4_isOf_p161 v3 v5 (1 : Int32) v4 Q K136 u)))
set_option maxHeartbeats 4000000 in
set_option maxRecDepth 100000 in
def sX4_isOf_p136n (v3 : Int32) (Q : Int32 → St → Prop) : Nat → Int32 → Int32 → St → Prop
  | 0 => fun _ _ _ => False
  | n + 1 => sX4_isOf_p136b v3 Q (sX4_isOf_p136n v3 Q n)
set_option maxHeartbeats 4000000 in
set_option maxRecDepth 100000 in
def sX4_isOf_p136 (v3 : Int32) (Q : Int32 → St → Prop) (v4 : Int32) (v5 : Int32) (u : St) : Prop := ∃ n, sX4_isOf_p136n v3 Q n v4 v5 u
set_option maxHeartbeats 4000000 in
set_option maxRecDepth 100000 in
def sX4_isOf_p72b (v2 : Int32) (v3 : Int32) (Q : Int32 → St → Prop) (K72 : Int32 → Int32 → St → Prop) (v4 : Int32) (v5 : Int32) (u : St) : Prop :=
  if v2 ≤ v5 then (sX4_isOf_p136 v3 Q v4 v2 u) else (vp_in v5 1600 ∧ (if (9 : Int32) < (u.1 2 v5.toNatClampNeg) then (sX4_isOf_p123 v2 v3 v5 v4 Q K72 u) else (vp_in (v5 + (1 : Int32)) 1600 ∧ (if (1 : Int32) < (u.1 2 (v5 + (1 : Int32)).toNatClampNeg) then (sX4_isOf_p123 v2 v3 v5 v4 Q K72 u) else (vp_in (v5 + (2 : Int32)) 1600 ∧ (if (99 : Int32) < (u.1 2 (v5 + (2 : Int32)).toNatClampNeg) then (sX4_isOf_p123 v2 v3 v5 v4 Q K72 u) else (sX4_isOf_p124 v2 v3 v5 (1 : Int32) v4 Q K72 u)))))))
set_option maxHeartbeats 4000000 in
set_option maxRecDepth 100000 in
def sX4_isOf_p72n (v2 : Int32) (v3 : Int32) (Q : Int32 → St → Prop) : Nat → Int32 → Int32 → St → Prop
  | 0 => fun _ _ _ => False
  | n + 1 => sX4_isOf_p72b v2 v3 Q (sX4_isOf_p72n v2 v3 Q n)
set_option maxHeartbeats 4000000 in
set_option maxRecDepth 100000 in
def sX4_isOf_p72 (v2 : Int32) (v3 : Int32) (Q : Int32 → St → Prop) (v4 : Int32) (v5 : Int32) (u : St) : Prop := ∃ n, sX4_isOf_p72n v2 v3 Q n v4 v5 u
set_option maxHeartbeats 4000000 in
set_option maxRecDepth 100000 in
def sX4_isOf_p67 (v2 : Int32) (v3 : Int32) (s0 : Int32) (Q : Int32 → St → Prop) (u : St) : Prop :=
  sX4_isOf_p72 v2 v3 Q s0 (2 : Int32) u
set_option maxHeartbeats 4000000 in
set_option maxRecDepth 100000 in
def sX4_isOf_p66 (v2 : Int32) (v3 : Int32) (Q : Int32 → St → Prop) (u : St) : Prop :=
  sX4_isOf_p67 v2 v3 (0 : Int32) Q u
set_option maxHeartbeats 4000000 in
set_option maxRecDepth 100000 in
def s_X4_isOf (v0 : Nat) (Q : Int32 → St → Prop) (u : St) : Prop :=
  s_X5_places v0 (fun r1 u2 => if (u2.1 v0 0) = 0 then (Q (0 : Int32) u2) else (if (u2.1 1 1) = ((((2 : Int32) + ((3 : Int32) * r1)) + (u2.1 v0 3)) + (1 : Int32)) then (s_X4_yearOf  (fun r3 u4 => if (999 : Int32) < r3 then (sX4_isOf_p66 ((2 : Int32) + ((3 : Int32) * r1)) (((2 : Int32) + ((3 : Int32) * r1)) + (u2.1 v0 3)) Q u4) else (vp_in (((2 : Int32) + ((3 : Int32) * r1)) + (u2.1 v0 3)) 1600 ∧ (s_X4_checkOf 2 (((2 : Int32) + ((3 : Int32) * r1)) + (u2.1 v0 3)) (fun r7 u8 => if (u4.1 2 (((2 : Int32) + ((3 : Int32) * r1)) + (u2.1 v0 3)).toNatClampNeg) = r7 then (sX4_isOf_p67 ((2 : Int32) + ((3 : Int32) * r1)) (((2 : Int32) + ((3 : Int32) * r1)) + (u2.1 v0 3)) (1 : Int32) Q u8) else (sX4_isOf_p66 ((2 : Int32) + ((3 : Int32) * r1)) (((2 : Int32) + ((3 : Int32) * r1)) + (u2.1 v0 3)) Q u8)) u4))) u2) else (Q (0 : Int32) u2))) u
set_option maxHeartbeats 4000000 in
set_option maxRecDepth 100000 in
theorem t_X4_isOf_p124 {ρ : Nat → Nat → Option Nat} (hR : RfH ρ) {v2 : Int32} {v3 : Int32} {v5 : Int32} {s1 : Int32} {s0 : Int32} {Q : Int32 → St → Prop} {QW : Int32 → Mem → Prop} {K72 : Int32 → Int32 → St → Prop} {KW72 : Int32 → Int32 → Mem → Prop} (hQ : ∀ (r : Int32) (u : St), DK u → Q r u → QW r (emb ρ u)) (hK72 : ∀ (x4 : Int32) (x5 : Int32) (u : St), DK u → K72 x4 x5 u → KW72 x4 x5 (emb ρ u)) {u : St} (hd : DK u) (h : sX4_isOf_p124 v2 v3 v5 s1 s0 Q K72 u) : X4_isOf_p124 SH 1 v2 v3 v5 s1 s0 QW KW72 (emb ρ u) := by
  unfold X4_isOf_p124
  unfold sX4_isOf_p124 at h
  exact hK72 _ _ _ hd h
set_option maxHeartbeats 4000000 in
set_option maxRecDepth 100000 in
theorem t_X4_isOf_p123 {ρ : Nat → Nat → Option Nat} (hR : RfH ρ) {v2 : Int32} {v3 : Int32} {v5 : Int32} {s0 : Int32} {Q : Int32 → St → Prop} {QW : Int32 → Mem → Prop} {K72 : Int32 → Int32 → St → Prop} {KW72 : Int32 → Int32 → Mem → Prop} (hQ : ∀ (r : Int32) (u : St), DK u → Q r u → QW r (emb ρ u)) (hK72 : ∀ (x4 : Int32) (x5 : Int32) (u : St), DK u → K72 x4 x5 u → KW72 x4 x5 (emb ρ u)) {u : St} (hd : DK u) (h : sX4_isOf_p123 v2 v3 v5 s0 Q K72 u) : X4_isOf_p123 SH 1 v2 v3 v5 s0 QW KW72 (emb ρ u) := by
  unfold X4_isOf_p123
  unfold sX4_isOf_p123 at h
  exact t_X4_isOf_p124 hR hQ hK72 hd h
set_option maxHeartbeats 4000000 in
set_option maxRecDepth 100000 in
theorem t_X4_isOf_p161 {ρ : Nat → Nat → Option Nat} (hR : RfH ρ) {v3 : Int32} {v5 : Int32} {s1 : Int32} {s0 : Int32} {Q : Int32 → St → Prop} {QW : Int32 → Mem → Prop} {K136 : Int32 → Int32 → St → Prop} {KW136 : Int32 → Int32 → Mem → Prop} (hQ : ∀ (r : Int32) (u : St), DK u → Q r u → QW r (emb ρ u)) (hK136 : ∀ (x4 : Int32) (x5 : Int32) (u : St), DK u → K136 x4 x5 u → KW136 x4 x5 (emb ρ u)) {u : St} (hd : DK u) (h : sX4_isOf_p161 v3 v5 s1 s0 Q K136 u) : X4_isOf_p161 SH 1 v3 v5 s1 s0 QW KW136 (emb ρ u) := by
  unfold X4_isOf_p161
  unfold sX4_isOf_p161 at h
  exact hK136 _ _ _ hd h
set_option maxHeartbeats 4000000 in
set_option maxRecDepth 100000 in
theorem t_X4_isOf_p136b {ρ : Nat → Nat → Option Nat} (hR : RfH ρ) {v3 : Int32} {v4 : Int32} {v5 : Int32} {Q : Int32 → St → Prop} {QW : Int32 → Mem → Prop} (hQ : ∀ (r : Int32) (u : St), DK u → Q r u → QW r (emb ρ u)) {K136 : Int32 → Int32 → St → Prop} {KW136 : Int32 → Int32 → Mem → Prop} (hK136 : ∀ (x4 : Int32) (x5 : Int32) (u : St), DK u → K136 x4 x5 u → KW136 x4 x5 (emb ρ u)) {u : St} (hd : DK u) (h : sX4_isOf_p136b v3 Q K136 v4 v5 u) : X4_isOf_p136b SH 1 v3 QW KW136 v4 v5 (emb ρ u) := by
  unfold X4_isOf_p136b
  unfold sX4_isOf_p136b at h
  refine ite_mono (fun hc h => ?_) (fun hc h => ?_) h
  · exact ⟨h.1, hQ _ _ hd h.2⟩
  · refine ⟨on_1, ?_⟩
    refine ⟨_, rn_1_0 hR _, ?_⟩
    obtain ⟨x14, h⟩ := h
    refine ⟨ix_i (show SH[2]? = some (100, 1600) from rfl) x14, ?_⟩
    refine ite_mono (fun hc h => ?_) (fun hc h => ?_) h
    · exact t_X4_isOf_p161 hR hQ hK136 hd h
    · exact t_X4_isOf_p161 hR hQ hK136 hd h
set_option maxHeartbeats 4000000 in
set_option maxRecDepth 100000 in
theorem t_X4_isOf_p136n {ρ : Nat → Nat → Option Nat} (hR : RfH ρ) {v3 : Int32} {Q : Int32 → St → Prop} {QW : Int32 → Mem → Prop} (hQ : ∀ (r : Int32) (u : St), DK u → Q r u → QW r (emb ρ u)) : ∀ (n : Nat) (v4 : Int32) (v5 : Int32) (u : St), DK u → sX4_isOf_p136n v3 Q n v4 v5 u → X4_isOf_p136n SH 1 v3 QW n v4 v5 (emb ρ u)
  | 0, _,_, _,  _, h => h.elim
  | n + 1, v4, v5,  u,  hd, h => t_X4_isOf_p136b hR hQ (fun v4 v5 u  hd h => t_X4_isOf_p136n hR hQ n v4 v5 u  hd h) hd h
set_option maxHeartbeats 4000000 in
set_option maxRecDepth 100000 in
theorem t_X4_isOf_p136 {ρ : Nat → Nat → Option Nat} (hR : RfH ρ) {v3 : Int32} {v4 : Int32} {v5 : Int32} {Q : Int32 → St → Prop} {QW : Int32 → Mem → Prop} (hQ : ∀ (r : Int32) (u : St), DK u → Q r u → QW r (emb ρ u)) {u : St} (hd : DK u) (h : sX4_isOf_p136 v3 Q v4 v5 u) : X4_isOf_p136 SH 1 v3 QW v4 v5 (emb ρ u) := h.elim (fun n h => ⟨n, t_X4_isOf_p136n hR hQ n _ _ _ hd h⟩)
set_option maxHeartbeats 4000000 in
set_option maxRecDepth 100000 in
theorem t_X4_isOf_p72b {ρ : Nat → Nat → Option Nat} (hR : RfH ρ) {v2 : Int32} {v3 : Int32} {v4 : Int32} {v5 : Int32} {Q : Int32 → St → Prop} {QW : Int32 → Mem → Prop} (hQ : ∀ (r : Int32) (u : St), DK u → Q r u → QW r (emb ρ u)) {K72 : Int32 → Int32 → St → Prop} {KW72 : Int32 → Int32 → Mem → Prop} (hK72 : ∀ (x4 : Int32) (x5 : Int32) (u : St), DK u → K72 x4 x5 u → KW72 x4 x5 (emb ρ u)) {u : St} (hd : DK u) (h : sX4_isOf_p72b v2 v3 Q K72 v4 v5 u) : X4_isOf_p72b SH 1 v2 v3 QW KW72 v4 v5 (emb ρ u) := by
  unfold X4_isOf_p72b
  unfold sX4_isOf_p72b at h
  refine ite_mono (fun hc h => ?_) (fun hc h => ?_) h
  · exact t_X4_isOf_p136 hR hQ hd h
  · refine ⟨on_1, ?_⟩
    refine ⟨_, rn_1_0 hR _, ?_⟩
    obtain ⟨x10, h⟩ := h
    refine ⟨ix_i (show SH[2]? = some (100, 1600) from rfl) x10, ?_⟩
    refine ite_mono (fun hc h => ?_) (fun hc h => ?_) h
    · exact t_X4_isOf_p123 hR hQ hK72 hd h
    · obtain ⟨x11, h⟩ := h
      refine ⟨ix_i (show SH[2]? = some (100, 1600) from rfl) x11, ?_⟩
      refine ite_mono (fun hc h => ?_) (fun hc h => ?_) h
      · exact t_X4_isOf_p123 hR hQ hK72 hd h
      · obtain ⟨x12, h⟩ := h
        refine ⟨ix_i (show SH[2]? = some (100, 1600) from rfl) x12, ?_⟩
        refine ite_mono (fun hc h => ?_) (fun hc h => ?_) h
        · exact t_X4_isOf_p123 hR hQ hK72 hd h
        · exact t_X4_isOf_p124 hR hQ hK72 hd h
set_option maxHeartbeats 4000000 in
set_option maxRecDepth 100000 in
theorem t_X4_isOf_p72n {ρ : Nat → Nat → Option Nat} (hR : RfH ρ) {v2 : Int32} {v3 : Int32} {Q : Int32 → St → Prop} {QW : Int32 → Mem → Prop} (hQ : ∀ (r : Int32) (u : St), DK u → Q r u → QW r (emb ρ u)) : ∀ (n : Nat) (v4 : Int32) (v5 : Int32) (u : St), DK u → sX4_isOf_p72n v2 v3 Q n v4 v5 u → X4_isOf_p72n SH 1 v2 v3 QW n v4 v5 (emb ρ u)
  | 0, _,_, _,  _, h => h.elim
  | n + 1, v4, v5,  u,  hd, h => t_X4_isOf_p72b hR hQ (fun v4 v5 u  hd h => t_X4_isOf_p72n hR hQ n v4 v5 u  hd h) hd h
set_option maxHeartbeats 4000000 in
set_option maxRecDepth 100000 in
theorem t_X4_isOf_p72 {ρ : Nat → Nat → Option Nat} (hR : RfH ρ) {v2 : Int32} {v3 : Int32} {v4 : Int32} {v5 : Int32} {Q : Int32 → St → Prop} {QW : Int32 → Mem → Prop} (hQ : ∀ (r : Int32) (u : St), DK u → Q r u → QW r (emb ρ u)) {u : St} (hd : DK u) (h : sX4_isOf_p72 v2 v3 Q v4 v5 u) : X4_isOf_p72 SH 1 v2 v3 QW v4 v5 (emb ρ u) := h.elim (fun n h => ⟨n, t_X4_isOf_p72n hR hQ n _ _ _ hd h⟩)
set_option maxHeartbeats 4000000 in
set_option maxRecDepth 100000 in
theorem t_X4_isOf_p67 {ρ : Nat → Nat → Option Nat} (hR : RfH ρ) {v2 : Int32} {v3 : Int32} {s0 : Int32} {Q : Int32 → St → Prop} {QW : Int32 → Mem → Prop} (hQ : ∀ (r : Int32) (u : St), DK u → Q r u → QW r (emb ρ u)) {u : St} (hd : DK u) (h : sX4_isOf_p67 v2 v3 s0 Q u) : X4_isOf_p67 SH 1 v2 v3 s0 QW (emb ρ u) := by
  unfold X4_isOf_p67
  unfold sX4_isOf_p67 at h
  exact t_X4_isOf_p72 hR hQ hd h
set_option maxHeartbeats 4000000 in
set_option maxRecDepth 100000 in
theorem t_X4_isOf_p66 {ρ : Nat → Nat → Option Nat} (hR : RfH ρ) {v2 : Int32} {v3 : Int32} {Q : Int32 → St → Prop} {QW : Int32 → Mem → Prop} (hQ : ∀ (r : Int32) (u : St), DK u → Q r u → QW r (emb ρ u)) {u : St} (hd : DK u) (h : sX4_isOf_p66 v2 v3 Q u) : X4_isOf_p66 SH 1 v2 v3 QW (emb ρ u) := by
  unfold X4_isOf_p66
  unfold sX4_isOf_p66 at h
  exact t_X4_isOf_p67 hR hQ hd h
set_option maxHeartbeats 4000000 in
set_option maxRecDepth 100000 in
theorem t_X4_isOf {ρ : Nat → Nat → Option Nat} (hR : RfH ρ) {v0 : Nat} (o0 : Ob SH v0 5) {Q : Int32 → St → Prop} {QW : Int32 → Mem → Prop} (hQ : ∀ (r : Int32) (u : St), DK u → Q r u → QW r (emb ρ u)) {u : St} (hd : DK u) (h : s_X4_isOf v0 Q u) : wp_X4_isOf SH v0 1 QW (emb ρ u) := by
  unfold wp_X4_isOf
  unfold s_X4_isOf at h
  refine ⟨o0, ?_⟩
  refine t_X5_places hR o0 (fun r1 u2 hd h => ?_) hd h
  refine ite_mono (fun hc h => ?_) (fun hc h => ?_) h
  · exact hQ _ _ hd h
  · refine ⟨on_1, ?_⟩
    refine ite_mono (fun hc h => ?_) (fun hc h => ?_) h
    · refine t_X4_yearOf hR (fun r3 u4 hd h => ?_) hd h
      refine ite_mono (fun hc h => ?_) (fun hc h => ?_) h
      · exact t_X4_isOf_p66 hR hQ hd h
      · refine ⟨_, rn_1_0 hR _, ?_⟩
        obtain ⟨x6, h⟩ := h
        refine ⟨ix_i (show SH[2]? = some (100, 1600) from rfl) x6, ?_⟩
        refine t_X4_checkOf hR (fun r7 u8 hd h => ?_) hd h
        refine ite_mono (fun hc h => ?_) (fun hc h => ?_) h
        · exact t_X4_isOf_p67 hR hQ hd h
        · exact t_X4_isOf_p66 hR hQ hd h
    · exact hQ _ _ hd h
/-! CalledRiver$Picture.show -/
set_option maxHeartbeats 4000000 in
set_option maxRecDepth 100000 in
def sX4_show_p91b (v0 : Nat) (v2 : Nat) (v3 : Int32) (Q : St → Prop) (K91 : Int32 → St → Prop) (v4 : Int32) (u : St) : Prop :=
  if (u.1 v0 3) ≤ v4 then (Q u) else (vp_in (v3 + v4) 1600 ∧ (vp_in v4 6 ∧ bnd (tI u (v2 + 4) v4.toNatClampNeg (u.1 2 (v3 + v4).toNatClampNeg)) (fun u26 => K91 (v4 + (1 : Int32)) u26)))
set_option maxHeartbeats 4000000 in
set_option maxRecDepth 100000 in
def sX4_show_p91n (v0 : Nat) (v2 : Nat) (v3 : Int32) (Q : St → Prop) : Nat → Int32 → St → Prop
  | 0 => fun _ _ => False
  | n + 1 => sX4_show_p91b v0 v2 v3 Q (sX4_show_p91n v0 v2 v3 Q n)
set_option maxHeartbeats 4000000 in
set_option maxRecDepth 100000 in
def sX4_show_p91 (v0 : Nat) (v2 : Nat) (v3 : Int32) (Q : St → Prop) (v4 : Int32) (u : St) : Prop := ∃ n, sX4_show_p91n v0 v2 v3 Q n v4 u
set_option maxHeartbeats 4000000 in
set_option maxRecDepth 100000 in
def sX4_show_p15b (v0 : Nat) (v2 : Nat) (Q : St → Prop) (K15 : Int32 → St → Prop) (v3 : Int32) (u : St) : Prop :=
  s_X5_places v0 (fun r5 u6 => if r5 ≤ v3 then (s_X5_places v0 (fun r7 u8 => sX4_show_p91 v0 v2 ((2 : Int32) + ((3 : Int32) * r7)) Q (0 : Int32) u8) u6) else (vp_in ((2 : Int32) + ((3 : Int32) * v3)) 1600 ∧ (vp_in v3 36 ∧ bnd (tI u6 (v2 + 1) v3.toNatClampNeg (u6.1 2 ((2 : Int32) + ((3 : Int32) * v3)).toNatClampNeg)) (fun u13 => vp_in (((2 : Int32) + ((3 : Int32) * v3)) + (1 : Int32)) 1600 ∧ (vp_in v3 36 ∧ bnd (tI u13 (v2 + 2) v3.toNatClampNeg (u13.1 2 (((2 : Int32) + ((3 : Int32) * v3)) + (1 : Int32)).toNatClampNeg)) (fun u17 => vp_in (((2 : Int32) + ((3 : Int32) * v3)) + (2 : Int32)) 1600 ∧ (vp_in v3 36 ∧ bnd (tI u17 (v2 + 3) v3.toNatClampNeg (u17.1 2 (((2 : Int32) + ((3 : Int32) * v3)) + (2 : Int32)).toNatClampNeg)) (fun u21 => K15 (v3 + (1 : Int32)) u21)))))))) u
set_option maxHeartbeats 4000000 in
set_option maxRecDepth 100000 in
def sX4_show_p15n (v0 : Nat) (v2 : Nat) (Q : St → Prop) : Nat → Int32 → St → Prop
  | 0 => fun _ _ => False
  | n + 1 => sX4_show_p15b v0 v2 Q (sX4_show_p15n v0 v2 Q n)
set_option maxHeartbeats 4000000 in
set_option maxRecDepth 100000 in
def sX4_show_p15 (v0 : Nat) (v2 : Nat) (Q : St → Prop) (v3 : Int32) (u : St) : Prop := ∃ n, sX4_show_p15n v0 v2 Q n v3 u
set_option maxHeartbeats 4000000 in
set_option maxRecDepth 100000 in
def s_X4_show (v0 : Nat) (v2 : Nat) (Q : St → Prop) (u : St) : Prop :=
  s_X4_yearOf  (fun r1 u2 => bnd (tI u2 v2 0 r1) (fun u3 => bnd (tI u3 v2 1 (0 : Int32)) (fun u4 => sX4_show_p15 v0 v2 Q (0 : Int32) u4))) u
set_option maxHeartbeats 4000000 in
set_option maxRecDepth 100000 in
theorem t_X4_show_p91b {ρ : Nat → Nat → Option Nat} (hR : RfH ρ) {v0 : Nat} {v2 : Nat} {v3 : Int32} {v4 : Int32} (o0 : Ob SH v0 5) (o2 : Ob SH v2 1) {Q : St → Prop} {QW : Mem → Prop} (hQ : ∀ (u : St), DK u → Q u → QW (emb ρ u)) {K91 : Int32 → St → Prop} {KW91 : Int32 → Mem → Prop} (hK91 : ∀ (x4 : Int32) (u : St), DK u → K91 x4 u → KW91 x4 (emb ρ u)) {u : St} (hd : DK u) (h : sX4_show_p91b v0 v2 v3 Q K91 v4 u) : X4_show_p91b SH v0 1 v2 v3 QW KW91 v4 (emb ρ u) := by
  unfold X4_show_p91b
  unfold sX4_show_p91b at h
  refine ⟨o0, ?_⟩
  refine ite_mono (fun hc h => ?_) (fun hc h => ?_) h
  · exact hQ _ hd h
  · refine ⟨o2, ?_⟩
    refine ⟨_, rr_1_5 hR _ o2, ?_⟩
    refine ⟨on_1, ?_⟩
    refine ⟨_, rn_1_0 hR _, ?_⟩
    obtain ⟨x24, h⟩ := h
    refine ⟨ix_i (show SH[2]? = some (100, 1600) from rfl) x24, ?_⟩
    obtain ⟨x25, h⟩ := h
    refine ⟨ix_i (ce_1_5 o2) x25, ?_⟩
    refine bnd_I ?_
    replace h := bnd_e h
    exact hK91 _ _ hd h
set_option maxHeartbeats 4000000 in
set_option maxRecDepth 100000 in
theorem t_X4_show_p91n {ρ : Nat → Nat → Option Nat} (hR : RfH ρ) {v0 : Nat} {v2 : Nat} {v3 : Int32} (o0 : Ob SH v0 5) (o2 : Ob SH v2 1) {Q : St → Prop} {QW : Mem → Prop} (hQ : ∀ (u : St), DK u → Q u → QW (emb ρ u)) : ∀ (n : Nat) (v4 : Int32) (u : St), DK u → sX4_show_p91n v0 v2 v3 Q n v4 u → X4_show_p91n SH v0 1 v2 v3 QW n v4 (emb ρ u)
  | 0, _, _,  _, h => h.elim
  | n + 1, v4,  u,  hd, h => t_X4_show_p91b hR o0 o2 hQ (fun v4 u  hd h => t_X4_show_p91n hR o0 o2 hQ n v4 u  hd h) hd h
set_option maxHeartbeats 4000000 in
set_option maxRecDepth 100000 in
theorem t_X4_show_p91 {ρ : Nat → Nat → Option Nat} (hR : RfH ρ) {v0 : Nat} {v2 : Nat} {v3 : Int32} {v4 : Int32} (o0 : Ob SH v0 5) (o2 : Ob SH v2 1) {Q : St → Prop} {QW : Mem → Prop} (hQ : ∀ (u : St), DK u → Q u → QW (emb ρ u)) {u : St} (hd : DK u) (h : sX4_show_p91 v0 v2 v3 Q v4 u) : X4_show_p91 SH v0 1 v2 v3 QW v4 (emb ρ u) := h.elim (fun n h => ⟨n, t_X4_show_p91n hR o0 o2 hQ n _ _ hd h⟩)
set_option maxHeartbeats 4000000 in
set_option maxRecDepth 100000 in
theorem t_X4_show_p15b {ρ : Nat → Nat → Option Nat} (hR : RfH ρ) {v0 : Nat} {v2 : Nat} {v3 : Int32} (o0 : Ob SH v0 5) (o2 : Ob SH v2 1) {Q : St → Prop} {QW : Mem → Prop} (hQ : ∀ (u : St), DK u → Q u → QW (emb ρ u)) {K15 : Int32 → St → Prop} {KW15 : Int32 → Mem → Prop} (hK15 : ∀ (x3 : Int32) (u : St), DK u → K15 x3 u → KW15 x3 (emb ρ u)) {u : St} (hd : DK u) (h : sX4_show_p15b v0 v2 Q K15 v3 u) : X4_show_p15b SH v0 1 v2 QW KW15 v3 (emb ρ u) := by
  unfold X4_show_p15b
  unfold sX4_show_p15b at h
  refine ⟨o0, ?_⟩
  refine t_X5_places hR o0 (fun r5 u6 hd h => ?_) hd h
  refine ite_mono (fun hc h => ?_) (fun hc h => ?_) h
  · refine t_X5_places hR o0 (fun r7 u8 hd h => ?_) hd h
    exact t_X4_show_p91 hR o0 o2 hQ hd h
  · refine ⟨o2, ?_⟩
    refine ⟨_, rr_1_2 hR _ o2, ?_⟩
    refine ⟨on_1, ?_⟩
    refine ⟨_, rn_1_0 hR _, ?_⟩
    obtain ⟨x11, h⟩ := h
    refine ⟨ix_i (show SH[2]? = some (100, 1600) from rfl) x11, ?_⟩
    obtain ⟨x12, h⟩ := h
    refine ⟨ix_i (ce_1_2 o2) x12, ?_⟩
    refine bnd_I ?_
    replace h := bnd_e h
    refine ⟨_, rr_1_3 hR _ o2, ?_⟩
    obtain ⟨x15, h⟩ := h
    refine ⟨ix_i (show SH[2]? = some (100, 1600) from rfl) x15, ?_⟩
    obtain ⟨x16, h⟩ := h
    refine ⟨ix_i (ce_1_3 o2) x16, ?_⟩
    refine bnd_I ?_
    replace h := bnd_e h
    refine ⟨_, rr_1_4 hR _ o2, ?_⟩
    obtain ⟨x19, h⟩ := h
    refine ⟨ix_i (show SH[2]? = some (100, 1600) from rfl) x19, ?_⟩
    obtain ⟨x20, h⟩ := h
    refine ⟨ix_i (ce_1_4 o2) x20, ?_⟩
    refine bnd_I ?_
    replace h := bnd_e h
    exact hK15 _ _ hd h
set_option maxHeartbeats 4000000 in
set_option maxRecDepth 100000 in
theorem t_X4_show_p15n {ρ : Nat → Nat → Option Nat} (hR : RfH ρ) {v0 : Nat} {v2 : Nat} (o0 : Ob SH v0 5) (o2 : Ob SH v2 1) {Q : St → Prop} {QW : Mem → Prop} (hQ : ∀ (u : St), DK u → Q u → QW (emb ρ u)) : ∀ (n : Nat) (v3 : Int32) (u : St), DK u → sX4_show_p15n v0 v2 Q n v3 u → X4_show_p15n SH v0 1 v2 QW n v3 (emb ρ u)
  | 0, _, _,  _, h => h.elim
  | n + 1, v3,  u,  hd, h => t_X4_show_p15b hR o0 o2 hQ (fun v3 u  hd h => t_X4_show_p15n hR o0 o2 hQ n v3 u  hd h) hd h
set_option maxHeartbeats 4000000 in
set_option maxRecDepth 100000 in
theorem t_X4_show_p15 {ρ : Nat → Nat → Option Nat} (hR : RfH ρ) {v0 : Nat} {v2 : Nat} {v3 : Int32} (o0 : Ob SH v0 5) (o2 : Ob SH v2 1) {Q : St → Prop} {QW : Mem → Prop} (hQ : ∀ (u : St), DK u → Q u → QW (emb ρ u)) {u : St} (hd : DK u) (h : sX4_show_p15 v0 v2 Q v3 u) : X4_show_p15 SH v0 1 v2 QW v3 (emb ρ u) := h.elim (fun n h => ⟨n, t_X4_show_p15n hR o0 o2 hQ n _ _ hd h⟩)
set_option maxHeartbeats 4000000 in
set_option maxRecDepth 100000 in
theorem t_X4_show {ρ : Nat → Nat → Option Nat} (hR : RfH ρ) {v0 : Nat} {v2 : Nat} (o0 : Ob SH v0 5) (o2 : Ob SH v2 1) {Q : St → Prop} {QW : Mem → Prop} (hQ : ∀ (u : St), DK u → Q u → QW (emb ρ u)) {u : St} (hd : DK u) (h : s_X4_show v0 v2 Q u) : wp_X4_show SH v0 1 v2 QW (emb ρ u) := by
  unfold wp_X4_show
  unfold s_X4_show at h
  refine t_X4_yearOf hR (fun r1 u2 hd h => ?_) hd h
  refine ⟨o2, ?_⟩
  refine bnd_I ?_
  replace h := bnd_e h
  refine bnd_I ?_
  replace h := bnd_e h
  exact t_X4_show_p15 hR o0 o2 hQ hd h
/-! CalledRiver$Picture.write -/
set_option maxHeartbeats 4000000 in
set_option maxRecDepth 100000 in
def sX4_write_p110b (v1 : Nat) (v2 : Nat) (Q : St → Prop) (K110 : Int32 → St → Prop) (v3 : Int32) (u : St) : Prop :=
  if (u.1 v1 3) ≤ v3 then (s_X4_checkOf 176 (u.1 175 1) (fun r24 u25 => vp_in (u.1 175 1) 117 ∧ bnd (tI u25 176 (u.1 175 1).toNatClampNeg r24) (fun u27 => bnd (tI u27 175 1 ((u27.1 175 1) + (1 : Int32))) (fun u28 => Q u28))) u) else (vp_in v3 6 ∧ (vp_in (u.1 175 1) 117 ∧ bnd (tI u 176 (u.1 175 1).toNatClampNeg (u.1 (v2 + 4) v3.toNatClampNeg)) (fun u33 => bnd (tI u33 175 1 ((u33.1 175 1) + (1 : Int32))) (fun u34 => K110 (v3 + (1 : Int32)) u34))))
set_option maxHeartbeats 4000000 in
set_option maxRecDepth 100000 in
def sX4_write_p110n (v1 : Nat) (v2 : Nat) (Q : St → Prop) : Nat → Int32 → St → Prop
  | 0 => fun _ _ => False
  | n + 1 => sX4_write_p110b v1 v2 Q (sX4_write_p110n v1 v2 Q n)
set_option maxHeartbeats 4000000 in
set_option maxRecDepth 100000 in
def sX4_write_p110 (v1 : Nat) (v2 : Nat) (Q : St → Prop) (v3 : Int32) (u : St) : Prop := ∃ n, sX4_write_p110n v1 v2 Q n v3 u
set_option maxHeartbeats 4000000 in
set_option maxRecDepth 100000 in
def sX4_write_p35b (v1 : Nat) (v2 : Nat) (Q : St → Prop) (K35 : Int32 → St → Prop) (v3 : Int32) (u : St) : Prop :=
  s_X5_places v1 (fun r7 u8 => if r7 ≤ v3 then (sX4_write_p110 v1 v2 Q (0 : Int32) u8) else (vp_in v3 36 ∧ (vp_in (u8.1 175 1) 117 ∧ bnd (tI u8 176 (u8.1 175 1).toNatClampNeg (u8.1 (v2 + 1) v3.toNatClampNeg)) (fun u13 => vp_in v3 36 ∧ (vp_in ((u13.1 175 1) + (1 : Int32)) 117 ∧ bnd (tI u13 176 ((u13.1 175 1) + (1 : Int32)).toNatClampNeg (u13.1 (v2 + 2) v3.toNatClampNeg)) (fun u17 => vp_in v3 36 ∧ (vp_in ((u17.1 175 1) + (2 : Int32)) 117 ∧ bnd (tI u17 176 ((u17.1 175 1) + (2 : Int32)).toNatClampNeg (u17.1 (v2 + 3) v3.toNatClampNeg)) (fun u21 => bnd (tI u21 175 1 ((u21.1 175 1) + (3 : Int32))) (fun u22 => K35 (v3 + (1 : Int32)) u22))))))))) u
set_option maxHeartbeats 4000000 in
set_option maxRecDepth 100000 in
def sX4_write_p35n (v1 : Nat) (v2 : Nat) (Q : St → Prop) : Nat → Int32 → St → Prop
  | 0 => fun _ _ => False
  | n + 1 => sX4_write_p35b v1 v2 Q (sX4_write_p35n v1 v2 Q n)
set_option maxHeartbeats 4000000 in
set_option maxRecDepth 100000 in
def sX4_write_p35 (v1 : Nat) (v2 : Nat) (Q : St → Prop) (v3 : Int32) (u : St) : Prop := ∃ n, sX4_write_p35n v1 v2 Q n v3 u
set_option maxHeartbeats 4000000 in
set_option maxRecDepth 100000 in
def s_X4_write (v1 : Nat) (v2 : Nat) (Q : St → Prop) (u : St) : Prop :=
  vp_in (0 : Int32) 117 ∧ bnd (tI u 176 (0 : Int32).toNatClampNeg ((u.1 v2 0) / (256 : Int32))) (fun u3 => vp_in (1 : Int32) 117 ∧ bnd (tI u3 176 (1 : Int32).toNatClampNeg ((u3.1 v2 0) - (u3.1 v2 0) / (256 : Int32) * (256 : Int32))) (fun u5 => bnd (tI u5 175 1 (2 : Int32)) (fun u6 => sX4_write_p35 v1 v2 Q (0 : Int32) u6)))
set_option maxHeartbeats 4000000 in
set_option maxRecDepth 100000 in
theorem t_X4_write_p110b {ρ : Nat → Nat → Option Nat} (hR : RfH ρ) {v1 : Nat} {v2 : Nat} {v3 : Int32} (o1 : Ob SH v1 5) (o2 : Ob SH v2 1) {Q : St → Prop} {QW : Mem → Prop} (hQ : ∀ (u : St), DK u → Q u → QW (emb ρ u)) {K110 : Int32 → St → Prop} {KW110 : Int32 → Mem → Prop} (hK110 : ∀ (x3 : Int32) (u : St), DK u → K110 x3 u → KW110 x3 (emb ρ u)) {u : St} (hd : DK u) (h : sX4_write_p110b v1 v2 Q K110 v3 u) : X4_write_p110b SH 175 v1 v2 QW KW110 v3 (emb ρ u) := by
  unfold X4_write_p110b
  unfold sX4_write_p110b at h
  refine ⟨o1, ?_⟩
  refine ite_mono (fun hc h => ?_) (fun hc h => ?_) h
  · refine ⟨on_175, ?_⟩
    refine ⟨_, rn_175_0 hR _, ?_⟩
    refine t_X4_checkOf hR (fun r24 u25 hd h => ?_) hd h
    obtain ⟨x26, h⟩ := h
    refine ⟨ix_i (show SH[176]? = some (100, 117) from rfl) x26, ?_⟩
    refine bnd_I ?_
    replace h := bnd_e h
    refine bnd_I ?_
    replace h := bnd_e h
    exact hQ _ hd h
  · refine ⟨on_175, ?_⟩
    refine ⟨_, rn_175_0 hR _, ?_⟩
    refine ⟨o2, ?_⟩
    refine ⟨_, rr_1_5 hR _ o2, ?_⟩
    obtain ⟨x31, h⟩ := h
    refine ⟨ix_i (ce_1_5 o2) x31, ?_⟩
    obtain ⟨x32, h⟩ := h
    refine ⟨ix_i (show SH[176]? = some (100, 117) from rfl) x32, ?_⟩
    refine bnd_I ?_
    replace h := bnd_e h
    refine bnd_I ?_
    replace h := bnd_e h
    exact hK110 _ _ hd h
set_option maxHeartbeats 4000000 in
set_option maxRecDepth 100000 in
theorem t_X4_write_p110n {ρ : Nat → Nat → Option Nat} (hR : RfH ρ) {v1 : Nat} {v2 : Nat} (o1 : Ob SH v1 5) (o2 : Ob SH v2 1) {Q : St → Prop} {QW : Mem → Prop} (hQ : ∀ (u : St), DK u → Q u → QW (emb ρ u)) : ∀ (n : Nat) (v3 : Int32) (u : St), DK u → sX4_write_p110n v1 v2 Q n v3 u → X4_write_p110n SH 175 v1 v2 QW n v3 (emb ρ u)
  | 0, _, _,  _, h => h.elim
  | n + 1, v3,  u,  hd, h => t_X4_write_p110b hR o1 o2 hQ (fun v3 u  hd h => t_X4_write_p110n hR o1 o2 hQ n v3 u  hd h) hd h
set_option maxHeartbeats 4000000 in
set_option maxRecDepth 100000 in
theorem t_X4_write_p110 {ρ : Nat → Nat → Option Nat} (hR : RfH ρ) {v1 : Nat} {v2 : Nat} {v3 : Int32} (o1 : Ob SH v1 5) (o2 : Ob SH v2 1) {Q : St → Prop} {QW : Mem → Prop} (hQ : ∀ (u : St), DK u → Q u → QW (emb ρ u)) {u : St} (hd : DK u) (h : sX4_write_p110 v1 v2 Q v3 u) : X4_write_p110 SH 175 v1 v2 QW v3 (emb ρ u) := h.elim (fun n h => ⟨n, t_X4_write_p110n hR o1 o2 hQ n _ _ hd h⟩)
set_option maxHeartbeats 4000000 in
set_option maxRecDepth 100000 in
theorem t_X4_write_p35b {ρ : Nat → Nat → Option Nat} (hR : RfH ρ) {v1 : Nat} {v2 : Nat} {v3 : Int32} (o1 : Ob SH v1 5) (o2 : Ob SH v2 1) {Q : St → Prop} {QW : Mem → Prop} (hQ : ∀ (u : St), DK u → Q u → QW (emb ρ u)) {K35 : Int32 → St → Prop} {KW35 : Int32 → Mem → Prop} (hK35 : ∀ (x3 : Int32) (u : St), DK u → K35 x3 u → KW35 x3 (emb ρ u)) {u : St} (hd : DK u) (h : sX4_write_p35b v1 v2 Q K35 v3 u) : X4_write_p35b SH 175 v1 v2 QW KW35 v3 (emb ρ u) := by
  unfold X4_write_p35b
  unfold sX4_write_p35b at h
  refine ⟨o1, ?_⟩
  refine t_X5_places hR o1 (fun r7 u8 hd h => ?_) hd h
  refine ite_mono (fun hc h => ?_) (fun hc h => ?_) h
  · exact t_X4_write_p110 hR o1 o2 hQ hd h
  · refine ⟨on_175, ?_⟩
    refine ⟨_, rn_175_0 hR _, ?_⟩
    refine ⟨o2, ?_⟩
    refine ⟨_, rr_1_2 hR _ o2, ?_⟩
    obtain ⟨x11, h⟩ := h
    refine ⟨ix_i (ce_1_2 o2) x11, ?_⟩
    obtain ⟨x12, h⟩ := h
    refine ⟨ix_i (show SH[176]? = some (100, 117) from rfl) x12, ?_⟩
    refine bnd_I ?_
    replace h := bnd_e h
    refine ⟨_, rr_1_3 hR _ o2, ?_⟩
    obtain ⟨x15, h⟩ := h
    refine ⟨ix_i (ce_1_3 o2) x15, ?_⟩
    obtain ⟨x16, h⟩ := h
    refine ⟨ix_i (show SH[176]? = some (100, 117) from rfl) x16, ?_⟩
    refine bnd_I ?_
    replace h := bnd_e h
    refine ⟨_, rr_1_4 hR _ o2, ?_⟩
    obtain ⟨x19, h⟩ := h
    refine ⟨ix_i (ce_1_4 o2) x19, ?_⟩
    obtain ⟨x20, h⟩ := h
    refine ⟨ix_i (show SH[176]? = some (100, 117) from rfl) x20, ?_⟩
    refine bnd_I ?_
    replace h := bnd_e h
    refine bnd_I ?_
    replace h := bnd_e h
    exact hK35 _ _ hd h
set_option maxHeartbeats 4000000 in
set_option maxRecDepth 100000 in
theorem t_X4_write_p35n {ρ : Nat → Nat → Option Nat} (hR : RfH ρ) {v1 : Nat} {v2 : Nat} (o1 : Ob SH v1 5) (o2 : Ob SH v2 1) {Q : St → Prop} {QW : Mem → Prop} (hQ : ∀ (u : St), DK u → Q u → QW (emb ρ u)) : ∀ (n : Nat) (v3 : Int32) (u : St), DK u → sX4_write_p35n v1 v2 Q n v3 u → X4_write_p35n SH 175 v1 v2 QW n v3 (emb ρ u)
  | 0, _, _,  _, h => h.elim
  | n + 1, v3,  u,  hd, h => t_X4_write_p35b hR o1 o2 hQ (fun v3 u  hd h => t_X4_write_p35n hR o1 o2 hQ n v3 u  hd h) hd h
set_option maxHeartbeats 4000000 in
set_option maxRecDepth 100000 in
theorem t_X4_write_p35 {ρ : Nat → Nat → Option Nat} (hR : RfH ρ) {v1 : Nat} {v2 : Nat} {v3 : Int32} (o1 : Ob SH v1 5) (o2 : Ob SH v2 1) {Q : St → Prop} {QW : Mem → Prop} (hQ : ∀ (u : St), DK u → Q u → QW (emb ρ u)) {u : St} (hd : DK u) (h : sX4_write_p35 v1 v2 Q v3 u) : X4_write_p35 SH 175 v1 v2 QW v3 (emb ρ u) := h.elim (fun n h => ⟨n, t_X4_write_p35n hR o1 o2 hQ n _ _ hd h⟩)
set_option maxHeartbeats 4000000 in
set_option maxRecDepth 100000 in
theorem t_X4_write {ρ : Nat → Nat → Option Nat} (hR : RfH ρ) {v1 : Nat} {v2 : Nat} (o1 : Ob SH v1 5) (o2 : Ob SH v2 1) {Q : St → Prop} {QW : Mem → Prop} (hQ : ∀ (u : St), DK u → Q u → QW (emb ρ u)) {u : St} (hd : DK u) (h : s_X4_write v1 v2 Q u) : wp_X4_write SH 175 v1 v2 QW (emb ρ u) := by
  unfold wp_X4_write
  unfold s_X4_write at h
  refine ⟨on_175, ?_⟩
  refine ⟨_, rn_175_0 hR _, ?_⟩
  refine ⟨o2, ?_⟩
  obtain ⟨x2, h⟩ := h
  refine ⟨ix_i (show SH[176]? = some (100, 117) from rfl) x2, ?_⟩
  refine bnd_I ?_
  replace h := bnd_e h
  obtain ⟨x4, h⟩ := h
  refine ⟨ix_i (show SH[176]? = some (100, 117) from rfl) x4, ?_⟩
  refine bnd_I ?_
  replace h := bnd_e h
  refine bnd_I ?_
  replace h := bnd_e h
  exact t_X4_write_p35 hR o1 o2 hQ hd h
/-! CalledRiver$Plain.clear -/
set_option maxHeartbeats 4000000 in
set_option maxRecDepth 100000 in
def s_X5_clear (v0 : Nat) (Q : St → Prop) (u : St) : Prop :=
  bnd (tI u v0 0 (0 : Int32)) (fun u1 => bnd (tI u1 v0 1 (0 : Int32)) (fun u2 => bnd (tI u2 v0 2 (0 : Int32)) (fun u3 => bnd (tI u3 v0 3 (0 : Int32)) (fun u4 => bnd (tI u4 v0 4 (0 : Int32)) (fun u5 => s_J7_fill_53178 (v0 + 1) (0 : Int32) (fun u8 => s_J7_fill_53178 (v0 + 2) (0 : Int32) (fun u11 => s_J7_fill_53178 (v0 + 3) (-1 : Int32) (fun u14 => s_X0_clear (v0 + 11) (fun u17 => s_X0_clear (v0 + 14) (fun u20 => Q u20) u17) u14) u11) u8) u5)))))
set_option maxHeartbeats 4000000 in
set_option maxRecDepth 100000 in
theorem t_X5_clear {ρ : Nat → Nat → Option Nat} (hR : RfH ρ) {v0 : Nat} (o0 : Ob SH v0 5) {Q : St → Prop} {QW : Mem → Prop} (hQ : ∀ (u : St), DK u → Q u → QW (emb ρ u)) {u : St} (hd : DK u) (h : s_X5_clear v0 Q u) : wp_X5_clear SH v0 QW (emb ρ u) := by
  unfold wp_X5_clear
  unfold s_X5_clear at h
  refine ⟨o0, ?_⟩
  refine bnd_I ?_
  replace h := bnd_e h
  refine bnd_I ?_
  replace h := bnd_e h
  refine bnd_I ?_
  replace h := bnd_e h
  refine bnd_I ?_
  replace h := bnd_e h
  refine bnd_I ?_
  replace h := bnd_e h
  refine ⟨_, rr_5_5 hR _ o0, ?_⟩
  refine t_J7_fill_53178 hR (fun u8 hd h => ?_) hd h
  refine ⟨_, rr_5_6 hR _ o0, ?_⟩
  refine t_J7_fill_53178 hR (fun u11 hd h => ?_) hd h
  refine ⟨_, rr_5_7 hR _ o0, ?_⟩
  refine t_J7_fill_53178 hR (fun u14 hd h => ?_) hd h
  refine ⟨_, rr_5_15 hR _ o0, ?_⟩
  refine ⟨(ob_5_15 o0), ?_⟩
  refine t_X0_clear hR (ob_5_15 o0) (fun u17 hd h => ?_) hd h
  refine ⟨_, rr_5_16 hR _ o0, ?_⟩
  refine ⟨(ob_5_16 o0), ?_⟩
  refine t_X0_clear hR (ob_5_16 o0) (fun u20 hd h => ?_) hd h
  exact hQ _ hd h
/-! CalledRiver$Plain.isCaller -/
set_option maxHeartbeats 4000000 in
set_option maxRecDepth 100000 in
def s_X5_isCaller (v0 : Nat) (v1 : Int32) (Q : Int32 → St → Prop) (u : St) : Prop :=
  if v1 < 0 then (Q (0 : Int32) u) else (if (u.1 v0 4) ≤ v1 then (Q (0 : Int32) u) else (Q (1 : Int32) u))
set_option maxHeartbeats 4000000 in
set_option maxRecDepth 100000 in
theorem t_X5_isCaller {ρ : Nat → Nat → Option Nat} (hR : RfH ρ) {v0 : Nat} {v1 : Int32} (o0 : Ob SH v0 5) {Q : Int32 → St → Prop} {QW : Int32 → Mem → Prop} (hQ : ∀ (r : Int32) (u : St), DK u → Q r u → QW r (emb ρ u)) {u : St} (hd : DK u) (h : s_X5_isCaller v0 v1 Q u) : wp_X5_isCaller SH v0 v1 QW (emb ρ u) := by
  unfold wp_X5_isCaller
  unfold s_X5_isCaller at h
  refine ite_mono (fun hc h => ?_) (fun hc h => ?_) h
  · exact hQ _ _ hd h
  · refine ⟨o0, ?_⟩
    refine ite_mono (fun hc h => ?_) (fun hc h => ?_) h
    · exact hQ _ _ hd h
    · exact hQ _ _ hd h
/-! CalledRiver$Plain.isFarm -/
set_option maxHeartbeats 4000000 in
set_option maxRecDepth 100000 in
def s_X5_isFarm (v0 : Nat) (v1 : Int32) (Q : Int32 → St → Prop) (u : St) : Prop :=
  if v1 < 0 then (Q (0 : Int32) u) else (if (u.1 v0 3) ≤ v1 then (Q (0 : Int32) u) else (Q (1 : Int32) u))
set_option maxHeartbeats 4000000 in
set_option maxRecDepth 100000 in
theorem t_X5_isFarm {ρ : Nat → Nat → Option Nat} (hR : RfH ρ) {v0 : Nat} {v1 : Int32} (o0 : Ob SH v0 5) {Q : Int32 → St → Prop} {QW : Int32 → Mem → Prop} (hQ : ∀ (r : Int32) (u : St), DK u → Q r u → QW r (emb ρ u)) {u : St} (hd : DK u) (h : s_X5_isFarm v0 v1 Q u) : wp_X5_isFarm SH v0 v1 QW (emb ρ u) := by
  unfold wp_X5_isFarm
  unfold s_X5_isFarm at h
  refine ite_mono (fun hc h => ?_) (fun hc h => ?_) h
  · exact hQ _ _ hd h
  · refine ⟨o0, ?_⟩
    refine ite_mono (fun hc h => ?_) (fun hc h => ?_) h
    · exact hQ _ _ hd h
    · exact hQ _ _ hd h
/-! CalledRiver$Plain.isNamed -/
set_option maxHeartbeats 4000000 in
set_option maxRecDepth 100000 in
def sX5_isNamed_p30b (v0 : Nat) (v1 : Int32) (Q : Int32 → St → Prop) (K30 : Int32 → St → Prop) (v2 : Int32) (u : St) : Prop :=
  if (u.1 v0 4) ≤ v2 then (Q (0 : Int32) u) else (vp_in v2 5 ∧ (if (u.1 (v0 + 8) v2.toNatClampNeg) = v1 then (Q (1 : Int32) u) else (K30 (v2 + (1 : Int32)) u)))
set_option maxHeartbeats 4000000 in
set_option maxRecDepth 100000 in
def sX5_isNamed_p30n (v0 : Nat) (v1 : Int32) (Q : Int32 → St → Prop) : Nat → Int32 → St → Prop
  | 0 => fun _ _ => False
  | n + 1 => sX5_isNamed_p30b v0 v1 Q (sX5_isNamed_p30n v0 v1 Q n)
set_option maxHeartbeats 4000000 in
set_option maxRecDepth 100000 in
def sX5_isNamed_p30 (v0 : Nat) (v1 : Int32) (Q : Int32 → St → Prop) (v2 : Int32) (u : St) : Prop := ∃ n, sX5_isNamed_p30n v0 v1 Q n v2 u
set_option maxHeartbeats 4000000 in
set_option maxRecDepth 100000 in
def sX5_isNamed_p2b (v0 : Nat) (v1 : Int32) (Q : Int32 → St → Prop) (K2 : Int32 → St → Prop) (v2 : Int32) (u : St) : Prop :=
  if (u.1 v0 3) ≤ v2 then (sX5_isNamed_p30 v0 v1 Q (0 : Int32) u) else (vp_in v2 6 ∧ (if (u.1 (v0 + 4) v2.toNatClampNeg) = v1 then (Q (1 : Int32) u) else (K2 (v2 + (1 : Int32)) u)))
set_option maxHeartbeats 4000000 in
set_option maxRecDepth 100000 in
def sX5_isNamed_p2n (v0 : Nat) (v1 : Int32) (Q : Int32 → St → Prop) : Nat → Int32 → St → Prop
  | 0 => fun _ _ => False
  | n + 1 => sX5_isNamed_p2b v0 v1 Q (sX5_isNamed_p2n v0 v1 Q n)
set_option maxHeartbeats 4000000 in
set_option maxRecDepth 100000 in
def sX5_isNamed_p2 (v0 : Nat) (v1 : Int32) (Q : Int32 → St → Prop) (v2 : Int32) (u : St) : Prop := ∃ n, sX5_isNamed_p2n v0 v1 Q n v2 u
set_option maxHeartbeats 4000000 in
set_option maxRecDepth 100000 in
def s_X5_isNamed (v0 : Nat) (v1 : Int32) (Q : Int32 → St → Prop) (u : St) : Prop :=
  sX5_isNamed_p2 v0 v1 Q (0 : Int32) u
set_option maxHeartbeats 4000000 in
set_option maxRecDepth 100000 in
theorem t_X5_isNamed_p30b {ρ : Nat → Nat → Option Nat} (hR : RfH ρ) {v0 : Nat} {v1 : Int32} {v2 : Int32} (o0 : Ob SH v0 5) {Q : Int32 → St → Prop} {QW : Int32 → Mem → Prop} (hQ : ∀ (r : Int32) (u : St), DK u → Q r u → QW r (emb ρ u)) {K30 : Int32 → St → Prop} {KW30 : Int32 → Mem → Prop} (hK30 : ∀ (x2 : Int32) (u : St), DK u → K30 x2 u → KW30 x2 (emb ρ u)) {u : St} (hd : DK u) (h : sX5_isNamed_p30b v0 v1 Q K30 v2 u) : X5_isNamed_p30b SH v0 v1 QW KW30 v2 (emb ρ u) := by
  unfold X5_isNamed_p30b
  unfold sX5_isNamed_p30b at h
  refine ⟨o0, ?_⟩
  refine ite_mono (fun hc h => ?_) (fun hc h => ?_) h
  · exact hQ _ _ hd h
  · refine ⟨_, rr_5_12 hR _ o0, ?_⟩
    obtain ⟨x4, h⟩ := h
    refine ⟨ix_i (ce_5_12 o0) x4, ?_⟩
    refine ite_mono (fun hc h => ?_) (fun hc h => ?_) h
    · exact hQ _ _ hd h
    · exact hK30 _ _ hd h
set_option maxHeartbeats 4000000 in
set_option maxRecDepth 100000 in
theorem t_X5_isNamed_p30n {ρ : Nat → Nat → Option Nat} (hR : RfH ρ) {v0 : Nat} {v1 : Int32} (o0 : Ob SH v0 5) {Q : Int32 → St → Prop} {QW : Int32 → Mem → Prop} (hQ : ∀ (r : Int32) (u : St), DK u → Q r u → QW r (emb ρ u)) : ∀ (n : Nat) (v2 : Int32) (u : St), DK u → sX5_isNamed_p30n v0 v1 Q n v2 u → X5_isNamed_p30n SH v0 v1 QW n v2 (emb ρ u)
  | 0, _, _,  _, h => h.elim
  | n + 1, v2,  u,  hd, h => t_X5_isNamed_p30b hR o0 hQ (fun v2 u  hd h => t_X5_isNamed_p30n hR o0 hQ n v2 u  hd h) hd h
set_option maxHeartbeats 4000000 in
set_option maxRecDepth 100000 in
theorem t_X5_isNamed_p30 {ρ : Nat → Nat → Option Nat} (hR : RfH ρ) {v0 : Nat} {v1 : Int32} {v2 : Int32} (o0 : Ob SH v0 5) {Q : Int32 → St → Prop} {QW : Int32 → Mem → Prop} (hQ : ∀ (r : Int32) (u : St), DK u → Q r u → QW r (emb ρ u)) {u : St} (hd : DK u) (h : sX5_isNamed_p30 v0 v1 Q v2 u) : X5_isNamed_p30 SH v0 v1 QW v2 (emb ρ u) := h.elim (fun n h => ⟨n, t_X5_isNamed_p30n hR o0 hQ n _ _ hd h⟩)
set_option maxHeartbeats 4000000 in
set_option maxRecDepth 100000 in
theorem t_X5_isNamed_p2b {ρ : Nat → Nat → Option Nat} (hR : RfH ρ) {v0 : Nat} {v1 : Int32} {v2 : Int32} (o0 : Ob SH v0 5) {Q : Int32 → St → Prop} {QW : Int32 → Mem → Prop} (hQ : ∀ (r : Int32) (u : St), DK u → Q r u → QW r (emb ρ u)) {K2 : Int32 → St → Prop} {KW2 : Int32 → Mem → Prop} (hK2 : ∀ (x2 : Int32) (u : St), DK u → K2 x2 u → KW2 x2 (emb ρ u)) {u : St} (hd : DK u) (h : sX5_isNamed_p2b v0 v1 Q K2 v2 u) : X5_isNamed_p2b SH v0 v1 QW KW2 v2 (emb ρ u) := by
  unfold X5_isNamed_p2b
  unfold sX5_isNamed_p2b at h
  refine ⟨o0, ?_⟩
  refine ite_mono (fun hc h => ?_) (fun hc h => ?_) h
  · exact t_X5_isNamed_p30 hR o0 hQ hd h
  · refine ⟨_, rr_5_8 hR _ o0, ?_⟩
    obtain ⟨x2, h⟩ := h
    refine ⟨ix_i (ce_5_8 o0) x2, ?_⟩
    refine ite_mono (fun hc h => ?_) (fun hc h => ?_) h
    · exact hQ _ _ hd h
    · exact hK2 _ _ hd h
set_option maxHeartbeats 4000000 in
set_option maxRecDepth 100000 in
theorem t_X5_isNamed_p2n {ρ : Nat → Nat → Option Nat} (hR : RfH ρ) {v0 : Nat} {v1 : Int32} (o0 : Ob SH v0 5) {Q : Int32 → St → Prop} {QW : Int32 → Mem → Prop} (hQ : ∀ (r : Int32) (u : St), DK u → Q r u → QW r (emb ρ u)) : ∀ (n : Nat) (v2 : Int32) (u : St), DK u → sX5_isNamed_p2n v0 v1 Q n v2 u → X5_isNamed_p2n SH v0 v1 QW n v2 (emb ρ u)
  | 0, _, _,  _, h => h.elim
  | n + 1, v2,  u,  hd, h => t_X5_isNamed_p2b hR o0 hQ (fun v2 u  hd h => t_X5_isNamed_p2n hR o0 hQ n v2 u  hd h) hd h
set_option maxHeartbeats 4000000 in
set_option maxRecDepth 100000 in
theorem t_X5_isNamed_p2 {ρ : Nat → Nat → Option Nat} (hR : RfH ρ) {v0 : Nat} {v1 : Int32} {v2 : Int32} (o0 : Ob SH v0 5) {Q : Int32 → St → Prop} {QW : Int32 → Mem → Prop} (hQ : ∀ (r : Int32) (u : St), DK u → Q r u → QW r (emb ρ u)) {u : St} (hd : DK u) (h : sX5_isNamed_p2 v0 v1 Q v2 u) : X5_isNamed_p2 SH v0 v1 QW v2 (emb ρ u) := h.elim (fun n h => ⟨n, t_X5_isNamed_p2n hR o0 hQ n _ _ hd h⟩)
set_option maxHeartbeats 4000000 in
set_option maxRecDepth 100000 in
theorem t_X5_isNamed {ρ : Nat → Nat → Option Nat} (hR : RfH ρ) {v0 : Nat} {v1 : Int32} (o0 : Ob SH v0 5) {Q : Int32 → St → Prop} {QW : Int32 → Mem → Prop} (hQ : ∀ (r : Int32) (u : St), DK u → Q r u → QW r (emb ρ u)) {u : St} (hd : DK u) (h : s_X5_isNamed v0 v1 Q u) : wp_X5_isNamed SH v0 v1 QW (emb ρ u) := by
  unfold wp_X5_isNamed
  unfold s_X5_isNamed at h
  exact t_X5_isNamed_p2 hR o0 hQ hd h
/-! CalledRiver$Sight.fits -/
set_option maxHeartbeats 4000000 in
set_option maxRecDepth 100000 in
def sX7_fits_p2b (v1 : Nat) (Q : Int32 → St → Prop) (K2 : Int32 → St → Prop) (v2 : Int32) (u : St) : Prop :=
  if (u.1 161 0) ≤ v2 then (Q (1 : Int32) u) else (vp_in v2 16 ∧ (s_X10_placeBy v1 (u.1 162 v2.toNatClampNeg) (fun r3 u4 => vp_in v2 16 ∧ (if r3 = (u4.1 163 v2.toNatClampNeg) then (K2 (v2 + (1 : Int32)) u4) else (Q (0 : Int32) u4))) u))
set_option maxHeartbeats 4000000 in
set_option maxRecDepth 100000 in
def sX7_fits_p2n (v1 : Nat) (Q : Int32 → St → Prop) : Nat → Int32 → St → Prop
  | 0 => fun _ _ => False
  | n + 1 => sX7_fits_p2b v1 Q (sX7_fits_p2n v1 Q n)
set_option maxHeartbeats 4000000 in
set_option maxRecDepth 100000 in
def sX7_fits_p2 (v1 : Nat) (Q : Int32 → St → Prop) (v2 : Int32) (u : St) : Prop := ∃ n, sX7_fits_p2n v1 Q n v2 u
set_option maxHeartbeats 4000000 in
set_option maxRecDepth 100000 in
def s_X7_fits (v1 : Nat) (Q : Int32 → St → Prop) (u : St) : Prop :=
  sX7_fits_p2 v1 Q (0 : Int32) u
set_option maxHeartbeats 4000000 in
set_option maxRecDepth 100000 in
theorem t_X7_fits_p2b {ρ : Nat → Nat → Option Nat} (hR : RfH ρ) {v1 : Nat} {v2 : Int32} (o1 : Ob SH v1 10) {Q : Int32 → St → Prop} {QW : Int32 → Mem → Prop} (hQ : ∀ (r : Int32) (u : St), DK u → Q r u → QW r (emb ρ u)) {K2 : Int32 → St → Prop} {KW2 : Int32 → Mem → Prop} (hK2 : ∀ (x2 : Int32) (u : St), DK u → K2 x2 u → KW2 x2 (emb ρ u)) {u : St} (hd : DK u) (h : sX7_fits_p2b v1 Q K2 v2 u) : X7_fits_p2b SH 161 v1 QW KW2 v2 (emb ρ u) := by
  unfold X7_fits_p2b
  unfold sX7_fits_p2b at h
  refine ⟨on_161, ?_⟩
  refine ite_mono (fun hc h => ?_) (fun hc h => ?_) h
  · exact hQ _ _ hd h
  · refine ⟨_, rn_161_1 hR _, ?_⟩
    obtain ⟨x2, h⟩ := h
    refine ⟨ix_i (show SH[162]? = some (100, 16) from rfl) x2, ?_⟩
    refine ⟨o1, ?_⟩
    refine t_X10_placeBy hR o1 (fun r3 u4 hd h => ?_) hd h
    refine ⟨_, rn_161_2 hR _, ?_⟩
    obtain ⟨x6, h⟩ := h
    refine ⟨ix_i (show SH[163]? = some (100, 16) from rfl) x6, ?_⟩
    refine ite_mono (fun hc h => ?_) (fun hc h => ?_) h
    · exact hK2 _ _ hd h
    · exact hQ _ _ hd h
set_option maxHeartbeats 4000000 in
set_option maxRecDepth 100000 in
theorem t_X7_fits_p2n {ρ : Nat → Nat → Option Nat} (hR : RfH ρ) {v1 : Nat} (o1 : Ob SH v1 10) {Q : Int32 → St → Prop} {QW : Int32 → Mem → Prop} (hQ : ∀ (r : Int32) (u : St), DK u → Q r u → QW r (emb ρ u)) : ∀ (n : Nat) (v2 : Int32) (u : St), DK u → sX7_fits_p2n v1 Q n v2 u → X7_fits_p2n SH 161 v1 QW n v2 (emb ρ u)
  | 0, _, _,  _, h => h.elim
  | n + 1, v2,  u,  hd, h => t_X7_fits_p2b hR o1 hQ (fun v2 u  hd h => t_X7_fits_p2n hR o1 hQ n v2 u  hd h) hd h
set_option maxHeartbeats 4000000 in
set_option maxRecDepth 100000 in
theorem t_X7_fits_p2 {ρ : Nat → Nat → Option Nat} (hR : RfH ρ) {v1 : Nat} {v2 : Int32} (o1 : Ob SH v1 10) {Q : Int32 → St → Prop} {QW : Int32 → Mem → Prop} (hQ : ∀ (r : Int32) (u : St), DK u → Q r u → QW r (emb ρ u)) {u : St} (hd : DK u) (h : sX7_fits_p2 v1 Q v2 u) : X7_fits_p2 SH 161 v1 QW v2 (emb ρ u) := h.elim (fun n h => ⟨n, t_X7_fits_p2n hR o1 hQ n _ _ hd h⟩)
set_option maxHeartbeats 4000000 in
set_option maxRecDepth 100000 in
theorem t_X7_fits {ρ : Nat → Nat → Option Nat} (hR : RfH ρ) {v1 : Nat} (o1 : Ob SH v1 10) {Q : Int32 → St → Prop} {QW : Int32 → Mem → Prop} (hQ : ∀ (r : Int32) (u : St), DK u → Q r u → QW r (emb ρ u)) {u : St} (hd : DK u) (h : s_X7_fits v1 Q u) : wp_X7_fits SH 161 v1 QW (emb ρ u) := by
  unfold wp_X7_fits
  unfold s_X7_fits at h
  exact t_X7_fits_p2 hR o1 hQ hd h
/-! CalledRiver$Sight.isSight -/
set_option maxHeartbeats 4000000 in
set_option maxRecDepth 100000 in
def sX7_isSight_p68 (v1 : Nat) (v3 : Int32) (s0 : Int32) (Q : Int32 → St → Prop) (K31 : Int32 → St → Prop) (u : St) : Prop :=
  vp_in v3 1600 ∧ (if (40 : Int32) < (u.1 2 v3.toNatClampNeg) then (Q (0 : Int32) u) else (if s0 = 0 then (Q (0 : Int32) u) else (K31 (v3 + (3 : Int32)) u)))
set_option maxHeartbeats 4000000 in
set_option maxRecDepth 100000 in
def sX7_isSight_p31b (v1 : Nat) (Q : Int32 → St → Prop) (K31 : Int32 → St → Prop) (v3 : Int32) (u : St) : Prop :=
  if (u.1 1 1) ≤ v3 then (Q (1 : Int32) u) else (vp_in (v3 + (1 : Int32)) 1600 ∧ (vp_in (v3 + (2 : Int32)) 1600 ∧ (s_X5_placeOf v1 (u.1 2 (v3 + (1 : Int32)).toNatClampNeg) (u.1 2 (v3 + (2 : Int32)).toNatClampNeg) (fun r4 u5 => if r4 = (-1 : Int32) then (sX7_isSight_p68 v1 v3 (0 : Int32) Q K31 u5) else (sX7_isSight_p68 v1 v3 (1 : Int32) Q K31 u5)) u)))
set_option maxHeartbeats 4000000 in
set_option maxRecDepth 100000 in
def sX7_isSight_p31n (v1 : Nat) (Q : Int32 → St → Prop) : Nat → Int32 → St → Prop
  | 0 => fun _ _ => False
  | n + 1 => sX7_isSight_p31b v1 Q (sX7_isSight_p31n v1 Q n)
set_option maxHeartbeats 4000000 in
set_option maxRecDepth 100000 in
def sX7_isSight_p31 (v1 : Nat) (Q : Int32 → St → Prop) (v3 : Int32) (u : St) : Prop := ∃ n, sX7_isSight_p31n v1 Q n v3 u
set_option maxHeartbeats 4000000 in
set_option maxRecDepth 100000 in
def s_X7_isSight (v1 : Nat) (Q : Int32 → St → Prop) (u : St) : Prop :=
  if ((u.1 1 1) / (3 : Int32)) < (1 : Int32) then (Q (0 : Int32) u) else (if (16 : Int32) < ((u.1 1 1) / (3 : Int32)) then (Q (0 : Int32) u) else (if ((u.1 1 1) - (u.1 1 1) / (3 : Int32) * (3 : Int32)) = 0 then (sX7_isSight_p31 v1 Q (0 : Int32) u) else (Q (0 : Int32) u)))
set_option maxHeartbeats 4000000 in
set_option maxRecDepth 100000 in
theorem t_X7_isSight_p68 {ρ : Nat → Nat → Option Nat} (hR : RfH ρ) {v1 : Nat} {v3 : Int32} (o1 : Ob SH v1 5) {s0 : Int32} {Q : Int32 → St → Prop} {QW : Int32 → Mem → Prop} {K31 : Int32 → St → Prop} {KW31 : Int32 → Mem → Prop} (hQ : ∀ (r : Int32) (u : St), DK u → Q r u → QW r (emb ρ u)) (hK31 : ∀ (x3 : Int32) (u : St), DK u → K31 x3 u → KW31 x3 (emb ρ u)) {u : St} (hd : DK u) (h : sX7_isSight_p68 v1 v3 s0 Q K31 u) : X7_isSight_p68 SH 1 v1 v3 s0 QW KW31 (emb ρ u) := by
  unfold X7_isSight_p68
  unfold sX7_isSight_p68 at h
  refine ⟨on_1, ?_⟩
  refine ⟨_, rn_1_0 hR _, ?_⟩
  obtain ⟨x7, h⟩ := h
  refine ⟨ix_i (show SH[2]? = some (100, 1600) from rfl) x7, ?_⟩
  refine ite_mono (fun hc h => ?_) (fun hc h => ?_) h
  · exact hQ _ _ hd h
  · refine ite_mono (fun hc h => ?_) (fun hc h => ?_) h
    · exact hQ _ _ hd h
    · exact hK31 _ _ hd h
set_option maxHeartbeats 4000000 in
set_option maxRecDepth 100000 in
theorem t_X7_isSight_p31b {ρ : Nat → Nat → Option Nat} (hR : RfH ρ) {v1 : Nat} {v3 : Int32} (o1 : Ob SH v1 5) {Q : Int32 → St → Prop} {QW : Int32 → Mem → Prop} (hQ : ∀ (r : Int32) (u : St), DK u → Q r u → QW r (emb ρ u)) {K31 : Int32 → St → Prop} {KW31 : Int32 → Mem → Prop} (hK31 : ∀ (x3 : Int32) (u : St), DK u → K31 x3 u → KW31 x3 (emb ρ u)) {u : St} (hd : DK u) (h : sX7_isSight_p31b v1 Q K31 v3 u) : X7_isSight_p31b SH 1 v1 QW KW31 v3 (emb ρ u) := by
  unfold X7_isSight_p31b
  unfold sX7_isSight_p31b at h
  refine ⟨on_1, ?_⟩
  refine ite_mono (fun hc h => ?_) (fun hc h => ?_) h
  · exact hQ _ _ hd h
  · refine ⟨_, rn_1_0 hR _, ?_⟩
    obtain ⟨x2, h⟩ := h
    refine ⟨ix_i (show SH[2]? = some (100, 1600) from rfl) x2, ?_⟩
    obtain ⟨x3, h⟩ := h
    refine ⟨ix_i (show SH[2]? = some (100, 1600) from rfl) x3, ?_⟩
    refine ⟨o1, ?_⟩
    refine t_X5_placeOf hR o1 (fun r4 u5 hd h => ?_) hd h
    refine ite_mono (fun hc h => ?_) (fun hc h => ?_) h
    · exact t_X7_isSight_p68 hR o1 hQ hK31 hd h
    · exact t_X7_isSight_p68 hR o1 hQ hK31 hd h
set_option maxHeartbeats 4000000 in
set_option maxRecDepth 100000 in
theorem t_X7_isSight_p31n {ρ : Nat → Nat → Option Nat} (hR : RfH ρ) {v1 : Nat} (o1 : Ob SH v1 5) {Q : Int32 → St → Prop} {QW : Int32 → Mem → Prop} (hQ : ∀ (r : Int32) (u : St), DK u → Q r u → QW r (emb ρ u)) : ∀ (n : Nat) (v3 : Int32) (u : St), DK u → sX7_isSight_p31n v1 Q n v3 u → X7_isSight_p31n SH 1 v1 QW n v3 (emb ρ u)
  | 0, _, _,  _, h => h.elim
  | n + 1, v3,  u,  hd, h => t_X7_isSight_p31b hR o1 hQ (fun v3 u  hd h => t_X7_isSight_p31n hR o1 hQ n v3 u  hd h) hd h
set_option maxHeartbeats 4000000 in
set_option maxRecDepth 100000 in
theorem t_X7_isSight_p31 {ρ : Nat → Nat → Option Nat} (hR : RfH ρ) {v1 : Nat} {v3 : Int32} (o1 : Ob SH v1 5) {Q : Int32 → St → Prop} {QW : Int32 → Mem → Prop} (hQ : ∀ (r : Int32) (u : St), DK u → Q r u → QW r (emb ρ u)) {u : St} (hd : DK u) (h : sX7_isSight_p31 v1 Q v3 u) : X7_isSight_p31 SH 1 v1 QW v3 (emb ρ u) := h.elim (fun n h => ⟨n, t_X7_isSight_p31n hR o1 hQ n _ _ hd h⟩)
set_option maxHeartbeats 4000000 in
set_option maxRecDepth 100000 in
theorem t_X7_isSight {ρ : Nat → Nat → Option Nat} (hR : RfH ρ) {v1 : Nat} (o1 : Ob SH v1 5) {Q : Int32 → St → Prop} {QW : Int32 → Mem → Prop} (hQ : ∀ (r : Int32) (u : St), DK u → Q r u → QW r (emb ρ u)) {u : St} (hd : DK u) (h : s_X7_isSight v1 Q u) : wp_X7_isSight SH 1 v1 QW (emb ρ u) := by
  unfold wp_X7_isSight
  unfold s_X7_isSight at h
  refine ⟨on_1, ?_⟩
  refine ite_mono (fun hc h => ?_) (fun hc h => ?_) h
  · exact hQ _ _ hd h
  · refine ite_mono (fun hc h => ?_) (fun hc h => ?_) h
    · exact hQ _ _ hd h
    · refine ite_mono (fun hc h => ?_) (fun hc h => ?_) h
      · exact t_X7_isSight_p31 hR o1 hQ hd h
      · exact hQ _ _ hd h
/-! CalledRiver$Sight.take -/
set_option maxHeartbeats 4000000 in
set_option maxRecDepth 100000 in
def sX7_take_p22b (v2 : Nat) (Q : Int32 → St → Prop) (K22 : Int32 → St → Prop) (v3 : Int32) (u : St) : Prop :=
  if (u.1 161 0) ≤ v3 then (Q (1 : Int32) u) else (vp_in ((3 : Int32) * v3) 1600 ∧ (vp_in v3 16 ∧ bnd (tI u 162 v3.toNatClampNeg (u.1 2 ((3 : Int32) * v3).toNatClampNeg)) (fun u8 => vp_in (((3 : Int32) * v3) + (1 : Int32)) 1600 ∧ (vp_in (((3 : Int32) * v3) + (2 : Int32)) 1600 ∧ (s_X5_placeOf v2 (u8.1 2 (((3 : Int32) * v3) + (1 : Int32)).toNatClampNeg) (u8.1 2 (((3 : Int32) * v3) + (2 : Int32)).toNatClampNeg) (fun r12 u13 => vp_in v3 16 ∧ bnd (tI u13 163 v3.toNatClampNeg r12) (fun u15 => K22 (v3 + (1 : Int32)) u15)) u8)))))
set_option maxHeartbeats 4000000 in
set_option maxRecDepth 100000 in
def sX7_take_p22n (v2 : Nat) (Q : Int32 → St → Prop) : Nat → Int32 → St → Prop
  | 0 => fun _ _ => False
  | n + 1 => sX7_take_p22b v2 Q (sX7_take_p22n v2 Q n)
set_option maxHeartbeats 4000000 in
set_option maxRecDepth 100000 in
def sX7_take_p22 (v2 : Nat) (Q : Int32 → St → Prop) (v3 : Int32) (u : St) : Prop := ∃ n, sX7_take_p22n v2 Q n v3 u
set_option maxHeartbeats 4000000 in
set_option maxRecDepth 100000 in
def s_X7_take (v2 : Nat) (Q : Int32 → St → Prop) (u : St) : Prop :=
  s_X7_isSight v2 (fun r1 u2 => if r1 = 0 then (Q (0 : Int32) u2) else (bnd (tI u2 161 0 ((u2.1 1 1) / (3 : Int32))) (fun u3 => sX7_take_p22 v2 Q (0 : Int32) u3))) u
set_option maxHeartbeats 4000000 in
set_option maxRecDepth 100000 in
theorem t_X7_take_p22b {ρ : Nat → Nat → Option Nat} (hR : RfH ρ) {v2 : Nat} {v3 : Int32} (o2 : Ob SH v2 5) {Q : Int32 → St → Prop} {QW : Int32 → Mem → Prop} (hQ : ∀ (r : Int32) (u : St), DK u → Q r u → QW r (emb ρ u)) {K22 : Int32 → St → Prop} {KW22 : Int32 → Mem → Prop} (hK22 : ∀ (x3 : Int32) (u : St), DK u → K22 x3 u → KW22 x3 (emb ρ u)) {u : St} (hd : DK u) (h : sX7_take_p22b v2 Q K22 v3 u) : X7_take_p22b SH 161 1 v2 QW KW22 v3 (emb ρ u) := by
  unfold X7_take_p22b
  unfold sX7_take_p22b at h
  refine ⟨on_161, ?_⟩
  refine ite_mono (fun hc h => ?_) (fun hc h => ?_) h
  · exact hQ _ _ hd h
  · refine ⟨_, rn_161_1 hR _, ?_⟩
    refine ⟨on_1, ?_⟩
    refine ⟨_, rn_1_0 hR _, ?_⟩
    obtain ⟨x6, h⟩ := h
    refine ⟨ix_i (show SH[2]? = some (100, 1600) from rfl) x6, ?_⟩
    obtain ⟨x7, h⟩ := h
    refine ⟨ix_i (show SH[162]? = some (100, 16) from rfl) x7, ?_⟩
    refine bnd_I ?_
    replace h := bnd_e h
    refine ⟨_, rn_161_2 hR _, ?_⟩
    obtain ⟨x10, h⟩ := h
    refine ⟨ix_i (show SH[2]? = some (100, 1600) from rfl) x10, ?_⟩
    obtain ⟨x11, h⟩ := h
    refine ⟨ix_i (show SH[2]? = some (100, 1600) from rfl) x11, ?_⟩
    refine ⟨o2, ?_⟩
    refine t_X5_placeOf hR o2 (fun r12 u13 hd h => ?_) hd h
    obtain ⟨x14, h⟩ := h
    refine ⟨ix_i (show SH[163]? = some (100, 16) from rfl) x14, ?_⟩
    refine bnd_I ?_
    replace h := bnd_e h
    exact hK22 _ _ hd h
set_option maxHeartbeats 4000000 in
set_option maxRecDepth 100000 in
theorem t_X7_take_p22n {ρ : Nat → Nat → Option Nat} (hR : RfH ρ) {v2 : Nat} (o2 : Ob SH v2 5) {Q : Int32 → St → Prop} {QW : Int32 → Mem → Prop} (hQ : ∀ (r : Int32) (u : St), DK u → Q r u → QW r (emb ρ u)) : ∀ (n : Nat) (v3 : Int32) (u : St), DK u → sX7_take_p22n v2 Q n v3 u → X7_take_p22n SH 161 1 v2 QW n v3 (emb ρ u)
  | 0, _, _,  _, h => h.elim
  | n + 1, v3,  u,  hd, h => t_X7_take_p22b hR o2 hQ (fun v3 u  hd h => t_X7_take_p22n hR o2 hQ n v3 u  hd h) hd h
set_option maxHeartbeats 4000000 in
set_option maxRecDepth 100000 in
theorem t_X7_take_p22 {ρ : Nat → Nat → Option Nat} (hR : RfH ρ) {v2 : Nat} {v3 : Int32} (o2 : Ob SH v2 5) {Q : Int32 → St → Prop} {QW : Int32 → Mem → Prop} (hQ : ∀ (r : Int32) (u : St), DK u → Q r u → QW r (emb ρ u)) {u : St} (hd : DK u) (h : sX7_take_p22 v2 Q v3 u) : X7_take_p22 SH 161 1 v2 QW v3 (emb ρ u) := h.elim (fun n h => ⟨n, t_X7_take_p22n hR o2 hQ n _ _ hd h⟩)
set_option maxHeartbeats 4000000 in
set_option maxRecDepth 100000 in
theorem t_X7_take {ρ : Nat → Nat → Option Nat} (hR : RfH ρ) {v2 : Nat} (o2 : Ob SH v2 5) {Q : Int32 → St → Prop} {QW : Int32 → Mem → Prop} (hQ : ∀ (r : Int32) (u : St), DK u → Q r u → QW r (emb ρ u)) {u : St} (hd : DK u) (h : s_X7_take v2 Q u) : wp_X7_take SH 161 1 v2 QW (emb ρ u) := by
  unfold wp_X7_take
  unfold s_X7_take at h
  refine t_X7_isSight hR o2 (fun r1 u2 hd h => ?_) hd h
  refine ite_mono (fun hc h => ?_) (fun hc h => ?_) h
  · exact hQ _ _ hd h
  · refine ⟨on_1, ?_⟩
    refine ⟨on_161, ?_⟩
    refine bnd_I ?_
    replace h := bnd_e h
    exact t_X7_take_p22 hR o2 hQ hd h
