/-! CalledRiverModel.isIn -/
set_option maxHeartbeats 4000000 in
set_option maxRecDepth 100000 in
def s_X12_isIn (v0 : Int64) (v2 : Int64) (v4 : Int64) (Q : Int32 → St → Prop) (u : St) : Prop :=
  if (lg_cmp v0 v2) < 0 then (Q (0 : Int32) u) else (if 0 < (lg_cmp v0 v4) then (Q (0 : Int32) u) else (Q (1 : Int32) u))
set_option maxHeartbeats 4000000 in
set_option maxRecDepth 100000 in
theorem t_X12_isIn {ρ : Nat → Nat → Option Nat} (hR : RfH ρ) {v0 : Int64} {v2 : Int64} {v4 : Int64} {Q : Int32 → St → Prop} {QW : Int32 → Mem → Prop} (hQ : ∀ (r : Int32) (u : St), DK u → Q r u → QW r (emb ρ u)) {u : St} (hd : DK u) (h : s_X12_isIn v0 v2 v4 Q u) : wp_X12_isIn SH v0 v2 v4 QW (emb ρ u) := by
  unfold wp_X12_isIn
  unfold s_X12_isIn at h
  refine ite_mono (fun hc h => ?_) (fun hc h => ?_) h
  · exact hQ _ _ hd h
  · refine ite_mono (fun hc h => ?_) (fun hc h => ?_) h
    · exact hQ _ _ hd h
    · exact hQ _ _ hd h
/-! CalledRiverModel.cellAt -/
set_option maxHeartbeats 4000000 in
set_option maxRecDepth 100000 in
def s_X12_cellAt (v1 : Int32) (v2 : Int32) (Q : Int32 → St → Prop) (u : St) : Prop :=
  if (u.1 198 56) = 0 then (Q (-1 : Int32) u) else (vp_in (2 : Int32) 4 ∧ (s_X12_isIn v1.toInt64 (0 : Int64) ((u.1 231 (2 : Int32).toNatClampNeg) - (1 : Int32)).toInt64 (fun r3 u4 => if r3 = 0 then (Q (-1 : Int32) u4) else (vp_in (3 : Int32) 4 ∧ (s_X12_isIn v2.toInt64 (0 : Int64) ((u4.1 231 (3 : Int32).toNatClampNeg) - (1 : Int32)).toInt64 (fun r7 u8 => if r7 = 0 then (Q (-1 : Int32) u8) else (Q (v1 + ((6 : Int32) * v2)) u8)) u4))) u))
set_option maxHeartbeats 4000000 in
set_option maxRecDepth 100000 in
theorem t_X12_cellAt {ρ : Nat → Nat → Option Nat} (hR : RfH ρ) {v1 : Int32} {v2 : Int32} {Q : Int32 → St → Prop} {QW : Int32 → Mem → Prop} (hQ : ∀ (r : Int32) (u : St), DK u → Q r u → QW r (emb ρ u)) {u : St} (hd : DK u) (h : s_X12_cellAt v1 v2 Q u) : wp_X12_cellAt SH 198 v1 v2 QW (emb ρ u) := by
  unfold wp_X12_cellAt
  unfold s_X12_cellAt at h
  refine ⟨on_198, ?_⟩
  refine ite_mono (fun hc h => ?_) (fun hc h => ?_) h
  · exact hQ _ _ hd h
  · refine ⟨_, rn_198_42 hR _, ?_⟩
    obtain ⟨x2, h⟩ := h
    refine ⟨ix_i (show SH[231]? = some (100, 4) from rfl) x2, ?_⟩
    refine t_X12_isIn hR (fun r3 u4 hd h => ?_) hd h
    refine ite_mono (fun hc h => ?_) (fun hc h => ?_) h
    · exact hQ _ _ hd h
    · refine ⟨_, rn_198_42 hR _, ?_⟩
      obtain ⟨x6, h⟩ := h
      refine ⟨ix_i (show SH[231]? = some (100, 4) from rfl) x6, ?_⟩
      refine t_X12_isIn hR (fun r7 u8 hd h => ?_) hd h
      refine ite_mono (fun hc h => ?_) (fun hc h => ?_) h
      · exact hQ _ _ hd h
      · exact hQ _ _ hd h
/-! CalledRiverModel.beside -/
set_option maxHeartbeats 4000000 in
set_option maxRecDepth 100000 in
def sX12_beside_p47 (v3 : Int32) (s1 : Int32) (s0 : Int32) (Q : Int32 → St → Prop) (u : St) : Prop :=
  s_X12_cellAt v3 (s0 + s1) (fun r1 u2 => Q r1 u2) u
set_option maxHeartbeats 4000000 in
set_option maxRecDepth 100000 in
def sX12_beside_p22 (v1 : Int32) (v2 : Int32) (s1 : Int32) (s0 : Int32) (Q : Int32 → St → Prop) (u : St) : Prop :=
  if v2 = (2 : Int32) then (sX12_beside_p47 (s0 + s1) (-1 : Int32) (v1 / (6 : Int32)) Q u) else (if v2 = (3 : Int32) then (sX12_beside_p47 (s0 + s1) (1 : Int32) (v1 / (6 : Int32)) Q u) else (sX12_beside_p47 (s0 + s1) (0 : Int32) (v1 / (6 : Int32)) Q u))
set_option maxHeartbeats 4000000 in
set_option maxRecDepth 100000 in
def s_X12_beside (v1 : Int32) (v2 : Int32) (Q : Int32 → St → Prop) (u : St) : Prop :=
  if v2 = 0 then (sX12_beside_p22 v1 v2 (-1 : Int32) (v1 - v1 / (6 : Int32) * (6 : Int32)) Q u) else (if v2 = (1 : Int32) then (sX12_beside_p22 v1 v2 (1 : Int32) (v1 - v1 / (6 : Int32) * (6 : Int32)) Q u) else (sX12_beside_p22 v1 v2 (0 : Int32) (v1 - v1 / (6 : Int32) * (6 : Int32)) Q u))
set_option maxHeartbeats 4000000 in
set_option maxRecDepth 100000 in
theorem t_X12_beside_p47 {ρ : Nat → Nat → Option Nat} (hR : RfH ρ) {v3 : Int32} {s1 : Int32} {s0 : Int32} {Q : Int32 → St → Prop} {QW : Int32 → Mem → Prop} (hQ : ∀ (r : Int32) (u : St), DK u → Q r u → QW r (emb ρ u)) {u : St} (hd : DK u) (h : sX12_beside_p47 v3 s1 s0 Q u) : X12_beside_p47 SH 198 v3 s1 s0 QW (emb ρ u) := by
  unfold X12_beside_p47
  unfold sX12_beside_p47 at h
  refine ⟨on_198, ?_⟩
  refine t_X12_cellAt hR (fun r1 u2 hd h => ?_) hd h
  exact hQ _ _ hd h
set_option maxHeartbeats 4000000 in
set_option maxRecDepth 100000 in
theorem t_X12_beside_p22 {ρ : Nat → Nat → Option Nat} (hR : RfH ρ) {v1 : Int32} {v2 : Int32} {s1 : Int32} {s0 : Int32} {Q : Int32 → St → Prop} {QW : Int32 → Mem → Prop} (hQ : ∀ (r : Int32) (u : St), DK u → Q r u → QW r (emb ρ u)) {u : St} (hd : DK u) (h : sX12_beside_p22 v1 v2 s1 s0 Q u) : X12_beside_p22 SH 198 v1 v2 s1 s0 QW (emb ρ u) := by
  unfold X12_beside_p22
  unfold sX12_beside_p22 at h
  refine ite_mono (fun hc h => ?_) (fun hc h => ?_) h
  · exact t_X12_beside_p47 hR hQ hd h
  · refine ite_mono (fun hc h => ?_) (fun hc h => ?_) h
    · exact t_X12_beside_p47 hR hQ hd h
    · exact t_X12_beside_p47 hR hQ hd h
set_option maxHeartbeats 4000000 in
set_option maxRecDepth 100000 in
theorem t_X12_beside {ρ : Nat → Nat → Option Nat} (hR : RfH ρ) {v1 : Int32} {v2 : Int32} {Q : Int32 → St → Prop} {QW : Int32 → Mem → Prop} (hQ : ∀ (r : Int32) (u : St), DK u → Q r u → QW r (emb ρ u)) {u : St} (hd : DK u) (h : s_X12_beside v1 v2 Q u) : wp_X12_beside SH 198 v1 v2 QW (emb ρ u) := by
  unfold wp_X12_beside
  unfold s_X12_beside at h
  refine ite_mono (fun hc h => ?_) (fun hc h => ?_) h
  · exact t_X12_beside_p22 hR hQ hd h
  · refine ite_mono (fun hc h => ?_) (fun hc h => ?_) h
    · exact t_X12_beside_p22 hR hQ hd h
    · exact t_X12_beside_p22 hR hQ hd h
/-! CalledRiverModel.areBeside -/
set_option maxHeartbeats 4000000 in
set_option maxRecDepth 100000 in
def sX12_areBeside_p2b (v1 : Int32) (v2 : Int32) (Q : Int32 → St → Prop) (K2 : Int32 → St → Prop) (v3 : Int32) (u : St) : Prop :=
  if (4 : Int32) ≤ v3 then (Q (0 : Int32) u) else (s_X12_beside v1 v3 (fun r1 u2 => if r1 = v2 then (Q (1 : Int32) u2) else (K2 (v3 + (1 : Int32)) u2)) u)
set_option maxHeartbeats 4000000 in
set_option maxRecDepth 100000 in
def sX12_areBeside_p2n (v1 : Int32) (v2 : Int32) (Q : Int32 → St → Prop) : Nat → Int32 → St → Prop
  | 0 => fun _ _ => False
  | n + 1 => sX12_areBeside_p2b v1 v2 Q (sX12_areBeside_p2n v1 v2 Q n)
set_option maxHeartbeats 4000000 in
set_option maxRecDepth 100000 in
def sX12_areBeside_p2 (v1 : Int32) (v2 : Int32) (Q : Int32 → St → Prop) (v3 : Int32) (u : St) : Prop := ∃ n, sX12_areBeside_p2n v1 v2 Q n v3 u
set_option maxHeartbeats 4000000 in
set_option maxRecDepth 100000 in
def s_X12_areBeside (v1 : Int32) (v2 : Int32) (Q : Int32 → St → Prop) (u : St) : Prop :=
  sX12_areBeside_p2 v1 v2 Q (0 : Int32) u
set_option maxHeartbeats 4000000 in
set_option maxRecDepth 100000 in
theorem t_X12_areBeside_p2b {ρ : Nat → Nat → Option Nat} (hR : RfH ρ) {v1 : Int32} {v2 : Int32} {v3 : Int32} {Q : Int32 → St → Prop} {QW : Int32 → Mem → Prop} (hQ : ∀ (r : Int32) (u : St), DK u → Q r u → QW r (emb ρ u)) {K2 : Int32 → St → Prop} {KW2 : Int32 → Mem → Prop} (hK2 : ∀ (x3 : Int32) (u : St), DK u → K2 x3 u → KW2 x3 (emb ρ u)) {u : St} (hd : DK u) (h : sX12_areBeside_p2b v1 v2 Q K2 v3 u) : X12_areBeside_p2b SH 198 v1 v2 QW KW2 v3 (emb ρ u) := by
  unfold X12_areBeside_p2b
  unfold sX12_areBeside_p2b at h
  refine ite_mono (fun hc h => ?_) (fun hc h => ?_) h
  · exact hQ _ _ hd h
  · refine ⟨on_198, ?_⟩
    refine t_X12_beside hR (fun r1 u2 hd h => ?_) hd h
    refine ite_mono (fun hc h => ?_) (fun hc h => ?_) h
    · exact hQ _ _ hd h
    · exact hK2 _ _ hd h
set_option maxHeartbeats 4000000 in
set_option maxRecDepth 100000 in
theorem t_X12_areBeside_p2n {ρ : Nat → Nat → Option Nat} (hR : RfH ρ) {v1 : Int32} {v2 : Int32} {Q : Int32 → St → Prop} {QW : Int32 → Mem → Prop} (hQ : ∀ (r : Int32) (u : St), DK u → Q r u → QW r (emb ρ u)) : ∀ (n : Nat) (v3 : Int32) (u : St), DK u → sX12_areBeside_p2n v1 v2 Q n v3 u → X12_areBeside_p2n SH 198 v1 v2 QW n v3 (emb ρ u)
  | 0, _, _,  _, h => h.elim
  | n + 1, v3,  u,  hd, h => t_X12_areBeside_p2b hR hQ (fun v3 u  hd h => t_X12_areBeside_p2n hR hQ n v3 u  hd h) hd h
set_option maxHeartbeats 4000000 in
set_option maxRecDepth 100000 in
theorem t_X12_areBeside_p2 {ρ : Nat → Nat → Option Nat} (hR : RfH ρ) {v1 : Int32} {v2 : Int32} {v3 : Int32} {Q : Int32 → St → Prop} {QW : Int32 → Mem → Prop} (hQ : ∀ (r : Int32) (u : St), DK u → Q r u → QW r (emb ρ u)) {u : St} (hd : DK u) (h : sX12_areBeside_p2 v1 v2 Q v3 u) : X12_areBeside_p2 SH 198 v1 v2 QW v3 (emb ρ u) := h.elim (fun n h => ⟨n, t_X12_areBeside_p2n hR hQ n _ _ hd h⟩)
set_option maxHeartbeats 4000000 in
set_option maxRecDepth 100000 in
theorem t_X12_areBeside {ρ : Nat → Nat → Option Nat} (hR : RfH ρ) {v1 : Int32} {v2 : Int32} {Q : Int32 → St → Prop} {QW : Int32 → Mem → Prop} (hQ : ∀ (r : Int32) (u : St), DK u → Q r u → QW r (emb ρ u)) {u : St} (hd : DK u) (h : s_X12_areBeside v1 v2 Q u) : wp_X12_areBeside SH 198 v1 v2 QW (emb ρ u) := by
  unfold wp_X12_areBeside
  unfold s_X12_areBeside at h
  exact t_X12_areBeside_p2 hR hQ hd h
/-! CalledRiverModel.callerMany -/
set_option maxHeartbeats 4000000 in
set_option maxRecDepth 100000 in
def s_X12_callerMany (Q : Int32 → St → Prop) (u : St) : Prop :=
  vp_in (3 : Int32) 4 ∧ (Q (u.1 232 (3 : Int32).toNatClampNeg) u)
set_option maxHeartbeats 4000000 in
set_option maxRecDepth 100000 in
theorem t_X12_callerMany {ρ : Nat → Nat → Option Nat} (hR : RfH ρ) {Q : Int32 → St → Prop} {QW : Int32 → Mem → Prop} (hQ : ∀ (r : Int32) (u : St), DK u → Q r u → QW r (emb ρ u)) {u : St} (hd : DK u) (h : s_X12_callerMany Q u) : wp_X12_callerMany SH 198 QW (emb ρ u) := by
  unfold wp_X12_callerMany
  unfold s_X12_callerMany at h
  refine ⟨on_198, ?_⟩
  refine ⟨_, rn_198_45 hR _, ?_⟩
  obtain ⟨x2, h⟩ := h
  refine ⟨ix_i (show SH[232]? = some (100, 4) from rfl) x2, ?_⟩
  exact hQ _ _ hd h
/-! CalledRiverModel.fail -/
set_option maxHeartbeats 4000000 in
set_option maxRecDepth 100000 in
def s_X12_fail (v1 : Int32) (v2 : Int32) (Q : St → Prop) (u : St) : Prop :=
  if (u.1 198 5) = 0 then (bnd (tI u 198 5 v1) (fun u1 => bnd (tI u1 198 6 v2) (fun u2 => Q u2))) else (Q u)
set_option maxHeartbeats 4000000 in
set_option maxRecDepth 100000 in
theorem t_X12_fail {ρ : Nat → Nat → Option Nat} (hR : RfH ρ) {v1 : Int32} {v2 : Int32} {Q : St → Prop} {QW : Mem → Prop} (hQ : ∀ (u : St), DK u → Q u → QW (emb ρ u)) {u : St} (hd : DK u) (h : s_X12_fail v1 v2 Q u) : wp_X12_fail SH 198 v1 v2 QW (emb ρ u) := by
  unfold wp_X12_fail
  unfold s_X12_fail at h
  refine ⟨on_198, ?_⟩
  refine ite_mono (fun hc h => ?_) (fun hc h => ?_) h
  · refine bnd_I ?_
    replace h := bnd_e h
    refine bnd_I ?_
    replace h := bnd_e h
    exact hQ _ hd h
  · exact hQ _ hd h
/-! CalledRiverModel.farmMany -/
set_option maxHeartbeats 4000000 in
set_option maxRecDepth 100000 in
def s_X12_farmMany (Q : Int32 → St → Prop) (u : St) : Prop :=
  vp_in (2 : Int32) 4 ∧ (Q (u.1 232 (2 : Int32).toNatClampNeg) u)
set_option maxHeartbeats 4000000 in
set_option maxRecDepth 100000 in
theorem t_X12_farmMany {ρ : Nat → Nat → Option Nat} (hR : RfH ρ) {Q : Int32 → St → Prop} {QW : Int32 → Mem → Prop} (hQ : ∀ (r : Int32) (u : St), DK u → Q r u → QW r (emb ρ u)) {u : St} (hd : DK u) (h : s_X12_farmMany Q u) : wp_X12_farmMany SH 198 QW (emb ρ u) := by
  unfold wp_X12_farmMany
  unfold s_X12_farmMany at h
  refine ⟨on_198, ?_⟩
  refine ⟨_, rn_198_45 hR _, ?_⟩
  obtain ⟨x2, h⟩ := h
  refine ⟨ix_i (show SH[232]? = some (100, 4) from rfl) x2, ?_⟩
  exact hQ _ _ hd h
/-! CalledRiverModel.cellOf -/
set_option maxHeartbeats 4000000 in
set_option maxRecDepth 100000 in
def s_X12_cellOf (v1 : Int32) (Q : Int32 → St → Prop) (u : St) : Prop :=
  vp_in ((18 : Int32) + ((3 : Int32) * v1)) 36 ∧ (Q (u.1 234 ((18 : Int32) + ((3 : Int32) * v1)).toNatClampNeg) u)
set_option maxHeartbeats 4000000 in
set_option maxRecDepth 100000 in
theorem t_X12_cellOf {ρ : Nat → Nat → Option Nat} (hR : RfH ρ) {v1 : Int32} {Q : Int32 → St → Prop} {QW : Int32 → Mem → Prop} (hQ : ∀ (r : Int32) (u : St), DK u → Q r u → QW r (emb ρ u)) {u : St} (hd : DK u) (h : s_X12_cellOf v1 Q u) : wp_X12_cellOf SH 198 v1 QW (emb ρ u) := by
  unfold wp_X12_cellOf
  unfold s_X12_cellOf at h
  refine ⟨on_198, ?_⟩
  refine ⟨_, rn_198_47 hR _, ?_⟩
  obtain ⟨x2, h⟩ := h
  refine ⟨ix_i (show SH[234]? = some (100, 36) from rfl) x2, ?_⟩
  exact hQ _ _ hd h
/-! CalledRiverModel.isStone -/
set_option maxHeartbeats 4000000 in
set_option maxRecDepth 100000 in
def s_X12_isStone (v1 : Int32) (Q : Int32 → St → Prop) (u : St) : Prop :=
  vp_in ((2 : Int32) + ((3 : Int32) * v1)) 236 ∧ (if (u.1 241 ((2 : Int32) + ((3 : Int32) * v1)).toNatClampNeg) = (1 : Int32) then (Q (1 : Int32) u) else (Q (0 : Int32) u))
set_option maxHeartbeats 4000000 in
set_option maxRecDepth 100000 in
theorem t_X12_isStone {ρ : Nat → Nat → Option Nat} (hR : RfH ρ) {v1 : Int32} {Q : Int32 → St → Prop} {QW : Int32 → Mem → Prop} (hQ : ∀ (r : Int32) (u : St), DK u → Q r u → QW r (emb ρ u)) {u : St} (hd : DK u) (h : s_X12_isStone v1 Q u) : wp_X12_isStone SH 198 v1 QW (emb ρ u) := by
  unfold wp_X12_isStone
  unfold s_X12_isStone at h
  refine ⟨on_198, ?_⟩
  refine ⟨_, rn_198_58 hR _, ?_⟩
  obtain ⟨x2, h⟩ := h
  refine ⟨ix_i (show SH[241]? = some (100, 236) from rfl) x2, ?_⟩
  refine ite_mono (fun hc h => ?_) (fun hc h => ?_) h
  · exact hQ _ _ hd h
  · exact hQ _ _ hd h
/-! CalledRiverModel.hasWay -/
set_option maxHeartbeats 4000000 in
set_option maxRecDepth 100000 in
def s_X12_hasWay (Q : Int32 → St → Prop) (u : St) : Prop :=
  if (u.1 198 56) = 0 then (Q (0 : Int32) u) else (s_X12_isStone (u.1 198 44) (fun r1 u2 => if r1 = 0 then (Q (1 : Int32) u2) else (Q (0 : Int32) u2)) u)
set_option maxHeartbeats 4000000 in
set_option maxRecDepth 100000 in
theorem t_X12_hasWay {ρ : Nat → Nat → Option Nat} (hR : RfH ρ) {Q : Int32 → St → Prop} {QW : Int32 → Mem → Prop} (hQ : ∀ (r : Int32) (u : St), DK u → Q r u → QW r (emb ρ u)) {u : St} (hd : DK u) (h : s_X12_hasWay Q u) : wp_X12_hasWay SH 198 QW (emb ρ u) := by
  unfold wp_X12_hasWay
  unfold s_X12_hasWay at h
  refine ⟨on_198, ?_⟩
  refine ite_mono (fun hc h => ?_) (fun hc h => ?_) h
  · exact hQ _ _ hd h
  · refine t_X12_isStone hR (fun r1 u2 hd h => ?_) hd h
    refine ite_mono (fun hc h => ?_) (fun hc h => ?_) h
    · exact hQ _ _ hd h
    · exact hQ _ _ hd h
/-! CalledRiverModel.heightOf -/
set_option maxHeartbeats 4000000 in
set_option maxRecDepth 100000 in
def s_X12_heightOf (v1 : Int32) (Q : Int32 → St → Prop) (u : St) : Prop :=
  vp_in ((1 : Int32) + ((3 : Int32) * v1)) 236 ∧ (Q (u.1 241 ((1 : Int32) + ((3 : Int32) * v1)).toNatClampNeg) u)
set_option maxHeartbeats 4000000 in
set_option maxRecDepth 100000 in
theorem t_X12_heightOf {ρ : Nat → Nat → Option Nat} (hR : RfH ρ) {v1 : Int32} {Q : Int32 → St → Prop} {QW : Int32 → Mem → Prop} (hQ : ∀ (r : Int32) (u : St), DK u → Q r u → QW r (emb ρ u)) {u : St} (hd : DK u) (h : s_X12_heightOf v1 Q u) : wp_X12_heightOf SH 198 v1 QW (emb ρ u) := by
  unfold wp_X12_heightOf
  unfold s_X12_heightOf at h
  refine ⟨on_198, ?_⟩
  refine ⟨_, rn_198_58 hR _, ?_⟩
  obtain ⟨x2, h⟩ := h
  refine ⟨ix_i (show SH[241]? = some (100, 236) from rfl) x2, ?_⟩
  exact hQ _ _ hd h
/-! CalledRiverModel.canFlow -/
set_option maxHeartbeats 4000000 in
set_option maxRecDepth 100000 in
def s_X12_canFlow (v1 : Int32) (v2 : Int32) (Q : Int32 → St → Prop) (u : St) : Prop :=
  if v2 = (-1 : Int32) then (Q (0 : Int32) u) else (s_X12_isStone v2 (fun r1 u2 => if r1 = 0 then (s_X12_heightOf v2 (fun r3 u4 => s_X12_heightOf v1 (fun r5 u6 => if r5 < r3 then (Q (0 : Int32) u6) else (Q (1 : Int32) u6)) u4) u2) else (Q (0 : Int32) u2)) u)
set_option maxHeartbeats 4000000 in
set_option maxRecDepth 100000 in
theorem t_X12_canFlow {ρ : Nat → Nat → Option Nat} (hR : RfH ρ) {v1 : Int32} {v2 : Int32} {Q : Int32 → St → Prop} {QW : Int32 → Mem → Prop} (hQ : ∀ (r : Int32) (u : St), DK u → Q r u → QW r (emb ρ u)) {u : St} (hd : DK u) (h : s_X12_canFlow v1 v2 Q u) : wp_X12_canFlow SH 198 v1 v2 QW (emb ρ u) := by
  unfold wp_X12_canFlow
  unfold s_X12_canFlow at h
  refine ite_mono (fun hc h => ?_) (fun hc h => ?_) h
  · exact hQ _ _ hd h
  · refine ⟨on_198, ?_⟩
    refine t_X12_isStone hR (fun r1 u2 hd h => ?_) hd h
    refine ite_mono (fun hc h => ?_) (fun hc h => ?_) h
    · refine t_X12_heightOf hR (fun r3 u4 hd h => ?_) hd h
      refine t_X12_heightOf hR (fun r5 u6 hd h => ?_) hd h
      refine ite_mono (fun hc h => ?_) (fun hc h => ?_) h
      · exact hQ _ _ hd h
      · exact hQ _ _ hd h
    · exact hQ _ _ hd h
/-! CalledRiverModel.cellMany -/
set_option maxHeartbeats 4000000 in
set_option maxRecDepth 100000 in
def s_X12_cellMany (Q : Int32 → St → Prop) (u : St) : Prop :=
  vp_in (2 : Int32) 4 ∧ (vp_in (3 : Int32) 4 ∧ (Q ((u.1 231 (2 : Int32).toNatClampNeg) * (u.1 231 (3 : Int32).toNatClampNeg)) u))
set_option maxHeartbeats 4000000 in
set_option maxRecDepth 100000 in
theorem t_X12_cellMany {ρ : Nat → Nat → Option Nat} (hR : RfH ρ) {Q : Int32 → St → Prop} {QW : Int32 → Mem → Prop} (hQ : ∀ (r : Int32) (u : St), DK u → Q r u → QW r (emb ρ u)) {u : St} (hd : DK u) (h : s_X12_cellMany Q u) : wp_X12_cellMany SH 198 QW (emb ρ u) := by
  unfold wp_X12_cellMany
  unfold s_X12_cellMany at h
  refine ⟨on_198, ?_⟩
  refine ⟨_, rn_198_42 hR _, ?_⟩
  obtain ⟨x2, h⟩ := h
  refine ⟨ix_i (show SH[231]? = some (100, 4) from rfl) x2, ?_⟩
  obtain ⟨x3, h⟩ := h
  refine ⟨ix_i (show SH[231]? = some (100, 4) from rfl) x3, ?_⟩
  exact hQ _ _ hd h
/-! CalledRiverModel.cellOfNumber -/
set_option maxHeartbeats 4000000 in
set_option maxRecDepth 100000 in
def s_X12_cellOfNumber (v1 : Int32) (Q : Int32 → St → Prop) (u : St) : Prop :=
  vp_in (2 : Int32) 4 ∧ (¬ (u.1 231 (2 : Int32).toNatClampNeg) = 0 ∧ (¬ (u.1 231 (2 : Int32).toNatClampNeg) = 0 ∧ (Q ((v1 - v1 / (u.1 231 (2 : Int32).toNatClampNeg) * (u.1 231 (2 : Int32).toNatClampNeg)) + ((6 : Int32) * (v1 / (u.1 231 (2 : Int32).toNatClampNeg)))) u)))
set_option maxHeartbeats 4000000 in
set_option maxRecDepth 100000 in
theorem t_X12_cellOfNumber {ρ : Nat → Nat → Option Nat} (hR : RfH ρ) {v1 : Int32} {Q : Int32 → St → Prop} {QW : Int32 → Mem → Prop} (hQ : ∀ (r : Int32) (u : St), DK u → Q r u → QW r (emb ρ u)) {u : St} (hd : DK u) (h : s_X12_cellOfNumber v1 Q u) : wp_X12_cellOfNumber SH 198 v1 QW (emb ρ u) := by
  unfold wp_X12_cellOfNumber
  unfold s_X12_cellOfNumber at h
  refine ⟨on_198, ?_⟩
  refine ⟨_, rn_198_42 hR _, ?_⟩
  obtain ⟨x2, h⟩ := h
  refine ⟨ix_i (show SH[231]? = some (100, 4) from rfl) x2, ?_⟩
  refine ⟨h.1, ?_⟩
  replace h := h.2
  refine ⟨h.1, ?_⟩
  replace h := h.2
  exact hQ _ _ hd h
/-! CalledRiverModel.qClip -/
set_option maxHeartbeats 4000000 in
set_option maxRecDepth 100000 in
def s_X12_qClip (v0 : Int64) (Q : Int64 → St → Prop) (u : St) : Prop :=
  if (lg_cmp v0 (1000000 : Int64)) ≤ 0 then (if 0 ≤ (lg_cmp v0 (-1000000 : Int64)) then (Q v0 u) else (Q (-1000000 : Int64) u)) else (Q (1000000 : Int64) u)
set_option maxHeartbeats 4000000 in
set_option maxRecDepth 100000 in
theorem t_X12_qClip {ρ : Nat → Nat → Option Nat} (hR : RfH ρ) {v0 : Int64} {Q : Int64 → St → Prop} {QW : Int64 → Mem → Prop} (hQ : ∀ (r : Int64) (u : St), DK u → Q r u → QW r (emb ρ u)) {u : St} (hd : DK u) (h : s_X12_qClip v0 Q u) : wp_X12_qClip SH v0 QW (emb ρ u) := by
  unfold wp_X12_qClip
  unfold s_X12_qClip at h
  refine ite_mono (fun hc h => ?_) (fun hc h => ?_) h
  · refine ite_mono (fun hc h => ?_) (fun hc h => ?_) h
    · exact hQ _ _ hd h
    · exact hQ _ _ hd h
  · exact hQ _ _ hd h
/-! CalledRiverModel.qFloor -/
set_option maxHeartbeats 4000000 in
set_option maxRecDepth 100000 in
def sX12_qFloor_p43 (v4 : Int64) (s1 : Int32) (s0 : Int32) (Q : Int64 → St → Prop) (u : St) : Prop :=
  if s0 = s1 then (Q v4 u) else (Q (v4 - (1 : Int64)) u)
set_option maxHeartbeats 4000000 in
set_option maxRecDepth 100000 in
def sX12_qFloor_p32 (v2 : Int64) (v4 : Int64) (s0 : Int32) (Q : Int64 → St → Prop) (u : St) : Prop :=
  if 0 ≤ (lg_cmp v2 (0 : Int64)) then (sX12_qFloor_p43 v4 (0 : Int32) s0 Q u) else (sX12_qFloor_p43 v4 (1 : Int32) s0 Q u)
set_option maxHeartbeats 4000000 in
set_option maxRecDepth 100000 in
def s_X12_qFloor (v0 : Int64) (v2 : Int64) (Q : Int64 → St → Prop) (u : St) : Prop :=
  if (lg_cmp v2 (0 : Int64)) = 0 then (Q (0 : Int64) u) else (¬ v2 = 0 ∧ (¬ v2 = 0 ∧ (if (lg_cmp (v0 - v0 / v2 * v2) (0 : Int64)) = 0 then (Q (v0 / v2) u) else (if 0 ≤ (lg_cmp v0 (0 : Int64)) then (sX12_qFloor_p32 v2 (v0 / v2) (0 : Int32) Q u) else (sX12_qFloor_p32 v2 (v0 / v2) (1 : Int32) Q u)))))
set_option maxHeartbeats 4000000 in
set_option maxRecDepth 100000 in
theorem t_X12_qFloor_p43 {ρ : Nat → Nat → Option Nat} (hR : RfH ρ) {v4 : Int64} {s1 : Int32} {s0 : Int32} {Q : Int64 → St → Prop} {QW : Int64 → Mem → Prop} (hQ : ∀ (r : Int64) (u : St), DK u → Q r u → QW r (emb ρ u)) {u : St} (hd : DK u) (h : sX12_qFloor_p43 v4 s1 s0 Q u) : X12_qFloor_p43 SH v4 s1 s0 QW (emb ρ u) := by
  unfold X12_qFloor_p43
  unfold sX12_qFloor_p43 at h
  refine ite_mono (fun hc h => ?_) (fun hc h => ?_) h
  · exact hQ _ _ hd h
  · exact hQ _ _ hd h
set_option maxHeartbeats 4000000 in
set_option maxRecDepth 100000 in
theorem t_X12_qFloor_p32 {ρ : Nat → Nat → Option Nat} (hR : RfH ρ) {v2 : Int64} {v4 : Int64} {s0 : Int32} {Q : Int64 → St → Prop} {QW : Int64 → Mem → Prop} (hQ : ∀ (r : Int64) (u : St), DK u → Q r u → QW r (emb ρ u)) {u : St} (hd : DK u) (h : sX12_qFloor_p32 v2 v4 s0 Q u) : X12_qFloor_p32 SH v2 v4 s0 QW (emb ρ u) := by
  unfold X12_qFloor_p32
  unfold sX12_qFloor_p32 at h
  refine ite_mono (fun hc h => ?_) (fun hc h => ?_) h
  · exact t_X12_qFloor_p43 hR hQ hd h
  · exact t_X12_qFloor_p43 hR hQ hd h
set_option maxHeartbeats 4000000 in
set_option maxRecDepth 100000 in
theorem t_X12_qFloor {ρ : Nat → Nat → Option Nat} (hR : RfH ρ) {v0 : Int64} {v2 : Int64} {Q : Int64 → St → Prop} {QW : Int64 → Mem → Prop} (hQ : ∀ (r : Int64) (u : St), DK u → Q r u → QW r (emb ρ u)) {u : St} (hd : DK u) (h : s_X12_qFloor v0 v2 Q u) : wp_X12_qFloor SH v0 v2 QW (emb ρ u) := by
  unfold wp_X12_qFloor
  unfold s_X12_qFloor at h
  refine ite_mono (fun hc h => ?_) (fun hc h => ?_) h
  · exact hQ _ _ hd h
  · refine ⟨h.1, ?_⟩
    replace h := h.2
    refine ⟨h.1, ?_⟩
    replace h := h.2
    refine ite_mono (fun hc h => ?_) (fun hc h => ?_) h
    · exact hQ _ _ hd h
    · refine ite_mono (fun hc h => ?_) (fun hc h => ?_) h
      · exact t_X12_qFloor_p32 hR hQ hd h
      · exact t_X12_qFloor_p32 hR hQ hd h
/-! CalledRiverModel.qPuts -/
set_option maxHeartbeats 4000000 in
set_option maxRecDepth 100000 in
def s_X12_qPuts (v1 : Int64) (Q : St → Prop) (u : St) : Prop :=
  vp_in (u.1 198 115) 1700 ∧ bnd (tL u 284 (u.1 198 115).toNatClampNeg v1) (fun u3 => bnd (tI u3 198 115 ((u3.1 198 115) + (1 : Int32))) (fun u4 => Q u4))
set_option maxHeartbeats 4000000 in
set_option maxRecDepth 100000 in
theorem t_X12_qPuts {ρ : Nat → Nat → Option Nat} (hR : RfH ρ) {v1 : Int64} {Q : St → Prop} {QW : Mem → Prop} (hQ : ∀ (u : St), DK u → Q u → QW (emb ρ u)) {u : St} (hd : DK u) (h : s_X12_qPuts v1 Q u) : wp_X12_qPuts SH 198 v1 QW (emb ρ u) := by
  unfold wp_X12_qPuts
  unfold s_X12_qPuts at h
  refine ⟨on_198, ?_⟩
  refine ⟨_, rn_198_114 hR _, ?_⟩
  obtain ⟨x2, h⟩ := h
  refine ⟨ix_i (show SH[284]? = some (103, 1700) from rfl) x2, ?_⟩
  refine bnd_L ?_
  replace h := bnd_e h
  refine bnd_I ?_
  replace h := bnd_e h
  exact hQ _ hd h
/-! CalledRiverModel.qJoins -/
set_option maxHeartbeats 4000000 in
set_option maxRecDepth 100000 in
def sX12_qJoins_p161 (s1 : Int64) (Q : St → Prop) (u : St) : Prop :=
  s_X12_qPuts s1 (fun u24 => Q u24) u
set_option maxHeartbeats 4000000 in
set_option maxRecDepth 100000 in
def sX12_qJoins_p181 (s1 : Int64) (Q : St → Prop) (u : St) : Prop :=
  s_X12_qPuts s1 (fun u26 => Q u26) u
set_option maxHeartbeats 4000000 in
set_option maxRecDepth 100000 in
def sX12_qJoins_p200 (s1 : Int64) (Q : St → Prop) (u : St) : Prop :=
  s_X12_qPuts s1 (fun u28 => Q u28) u
set_option maxHeartbeats 4000000 in
set_option maxRecDepth 100000 in
def sX12_qJoins_p219 (s1 : Int64) (Q : St → Prop) (u : St) : Prop :=
  s_X12_qPuts s1 (fun u30 => Q u30) u
set_option maxHeartbeats 4000000 in
set_option maxRecDepth 100000 in
def sX12_qJoins_p238 (s1 : Int64) (Q : St → Prop) (u : St) : Prop :=
  s_X12_qPuts s1 (fun u32 => Q u32) u
set_option maxHeartbeats 4000000 in
set_option maxRecDepth 100000 in
def sX12_qJoins_p270 (s1 : Int64) (Q : St → Prop) (u : St) : Prop :=
  s_X12_qPuts s1 (fun u34 => Q u34) u
set_option maxHeartbeats 4000000 in
set_option maxRecDepth 100000 in
def s_X12_qJoins (v1 : Int32) (Q : St → Prop) (u : St) : Prop :=
  vp_in ((u.1 198 115) - (1 : Int32)) 1700 ∧ (vp_in ((u.1 198 115) - (2 : Int32)) 1700 ∧ (bnd (tI u 198 115 ((u.1 198 115) - (2 : Int32))) (fun u4 => if v1 = (1 : Int32) then (s_X12_qClip ((u.2.1 284 ((u.1 198 115) - (2 : Int32)).toNatClampNeg) + (u.2.1 284 ((u.1 198 115) - (1 : Int32)).toNatClampNeg)) (fun r5 u6 => s_X12_qPuts r5 (fun u8 => Q u8) u6) u4) else if v1 = (2 : Int32) then (s_X12_qClip ((u.2.1 284 ((u.1 198 115) - (2 : Int32)).toNatClampNeg) - (u.2.1 284 ((u.1 198 115) - (1 : Int32)).toNatClampNeg)) (fun r9 u10 => s_X12_qPuts r9 (fun u12 => Q u12) u10) u4) else if v1 = (3 : Int32) then (s_X12_qClip ((u.2.1 284 ((u.1 198 115) - (2 : Int32)).toNatClampNeg) * (u.2.1 284 ((u.1 198 115) - (1 : Int32)).toNatClampNeg)) (fun r13 u14 => s_X12_qPuts r13 (fun u16 => Q u16) u14) u4) else if v1 = (4 : Int32) then (s_X12_qFloor (u.2.1 284 ((u.1 198 115) - (2 : Int32)).toNatClampNeg) (u.2.1 284 ((u.1 198 115) - (1 : Int32)).toNatClampNeg) (fun r17 u18 => s_X12_qPuts r17 (fun u20 => Q u20) u18) u4) else if v1 = (5 : Int32) then (if 0 ≤ (lg_cmp (u.2.1 284 ((u.1 198 115) - (2 : Int32)).toNatClampNeg) (u.2.1 284 ((u.1 198 115) - (1 : Int32)).toNatClampNeg)) then (sX12_qJoins_p161 (u.2.1 284 ((u.1 198 115) - (1 : Int32)).toNatClampNeg) Q u4) else (sX12_qJoins_p161 (u.2.1 284 ((u.1 198 115) - (2 : Int32)).toNatClampNeg) Q u4)) else if v1 = (6 : Int32) then (if (lg_cmp (u.2.1 284 ((u.1 198 115) - (2 : Int32)).toNatClampNeg) (u.2.1 284 ((u.1 198 115) - (1 : Int32)).toNatClampNeg)) ≤ 0 then (sX12_qJoins_p181 (u.2.1 284 ((u.1 198 115) - (1 : Int32)).toNatClampNeg) Q u4) else (sX12_qJoins_p181 (u.2.1 284 ((u.1 198 115) - (2 : Int32)).toNatClampNeg) Q u4)) else if v1 = (7 : Int32) then (if 0 ≤ (lg_cmp (u.2.1 284 ((u.1 198 115) - (2 : Int32)).toNatClampNeg) (u.2.1 284 ((u.1 198 115) - (1 : Int32)).toNatClampNeg)) then (sX12_qJoins_p200 (0 : Int64) Q u4) else (sX12_qJoins_p200 (1 : Int64) Q u4)) else if v1 = (8 : Int32) then (if (lg_cmp (u.2.1 284 ((u.1 198 115) - (2 : Int32)).toNatClampNeg) (u.2.1 284 ((u.1 198 115) - (1 : Int32)).toNatClampNeg)) ≤ 0 then (sX12_qJoins_p219 (0 : Int64) Q u4) else (sX12_qJoins_p219 (1 : Int64) Q u4)) else if v1 = (9 : Int32) then (if (lg_cmp (u.2.1 284 ((u.1 198 115) - (2 : Int32)).toNatClampNeg) (u.2.1 284 ((u.1 198 115) - (1 : Int32)).toNatClampNeg)) = 0 then (sX12_qJoins_p238 (1 : Int64) Q u4) else (sX12_qJoins_p238 (0 : Int64) Q u4)) else if v1 = (10 : Int32) then (s_X12_qPuts ((u.2.1 284 ((u.1 198 115) - (2 : Int32)).toNatClampNeg) * (u.2.1 284 ((u.1 198 115) - (1 : Int32)).toNatClampNeg)) (fun u22 => Q u22) u4) else (if (lg_cmp ((u.2.1 284 ((u.1 198 115) - (2 : Int32)).toNatClampNeg) + (u.2.1 284 ((u.1 198 115) - (1 : Int32)).toNatClampNeg)) (0 : Int64)) ≤ 0 then (sX12_qJoins_p270 (0 : Int64) Q u4) else (sX12_qJoins_p270 (1 : Int64) Q u4)))))
set_option maxHeartbeats 4000000 in
set_option maxRecDepth 100000 in
theorem t_X12_qJoins_p161 {ρ : Nat → Nat → Option Nat} (hR : RfH ρ) {s1 : Int64} {Q : St → Prop} {QW : Mem → Prop} (hQ : ∀ (u : St), DK u → Q u → QW (emb ρ u)) {u : St} (hd : DK u) (h : sX12_qJoins_p161 s1 Q u) : X12_qJoins_p161 SH s1 198 QW (emb ρ u) := by
  unfold X12_qJoins_p161
  unfold sX12_qJoins_p161 at h
  refine ⟨on_198, ?_⟩
  refine t_X12_qPuts hR (fun u24 hd h => ?_) hd h
  exact hQ _ hd h
set_option maxHeartbeats 4000000 in
set_option maxRecDepth 100000 in
theorem t_X12_qJoins_p181 {ρ : Nat → Nat → Option Nat} (hR : RfH ρ) {s1 : Int64} {Q : St → Prop} {QW : Mem → Prop} (hQ : ∀ (u : St), DK u → Q u → QW (emb ρ u)) {u : St} (hd : DK u) (h : sX12_qJoins_p181 s1 Q u) : X12_qJoins_p181 SH s1 198 QW (emb ρ u) := by
  unfold X12_qJoins_p181
  unfold sX12_qJoins_p181 at h
  refine ⟨on_198, ?_⟩
  refine t_X12_qPuts hR (fun u26 hd h => ?_) hd h
  exact hQ _ hd h
set_option maxHeartbeats 4000000 in
set_option maxRecDepth 100000 in
theorem t_X12_qJoins_p200 {ρ : Nat → Nat → Option Nat} (hR : RfH ρ) {s1 : Int64} {Q : St → Prop} {QW : Mem → Prop} (hQ : ∀ (u : St), DK u → Q u → QW (emb ρ u)) {u : St} (hd : DK u) (h : sX12_qJoins_p200 s1 Q u) : X12_qJoins_p200 SH s1 198 QW (emb ρ u) := by
  unfold X12_qJoins_p200
  unfold sX12_qJoins_p200 at h
  refine ⟨on_198, ?_⟩
  refine t_X12_qPuts hR (fun u28 hd h => ?_) hd h
  exact hQ _ hd h
set_option maxHeartbeats 4000000 in
set_option maxRecDepth 100000 in
theorem t_X12_qJoins_p219 {ρ : Nat → Nat → Option Nat} (hR : RfH ρ) {s1 : Int64} {Q : St → Prop} {QW : Mem → Prop} (hQ : ∀ (u : St), DK u → Q u → QW (emb ρ u)) {u : St} (hd : DK u) (h : sX12_qJoins_p219 s1 Q u) : X12_qJoins_p219 SH s1 198 QW (emb ρ u) := by
  unfold X12_qJoins_p219
  unfold sX12_qJoins_p219 at h
  refine ⟨on_198, ?_⟩
  refine t_X12_qPuts hR (fun u30 hd h => ?_) hd h
  exact hQ _ hd h
set_option maxHeartbeats 4000000 in
set_option maxRecDepth 100000 in
theorem t_X12_qJoins_p238 {ρ : Nat → Nat → Option Nat} (hR : RfH ρ) {s1 : Int64} {Q : St → Prop} {QW : Mem → Prop} (hQ : ∀ (u : St), DK u → Q u → QW (emb ρ u)) {u : St} (hd : DK u) (h : sX12_qJoins_p238 s1 Q u) : X12_qJoins_p238 SH s1 198 QW (emb ρ u) := by
  unfold X12_qJoins_p238
  unfold sX12_qJoins_p238 at h
  refine ⟨on_198, ?_⟩
  refine t_X12_qPuts hR (fun u32 hd h => ?_) hd h
  exact hQ _ hd h
set_option maxHeartbeats 4000000 in
set_option maxRecDepth 100000 in
theorem t_X12_qJoins_p270 {ρ : Nat → Nat → Option Nat} (hR : RfH ρ) {s1 : Int64} {Q : St → Prop} {QW : Mem → Prop} (hQ : ∀ (u : St), DK u → Q u → QW (emb ρ u)) {u : St} (hd : DK u) (h : sX12_qJoins_p270 s1 Q u) : X12_qJoins_p270 SH s1 198 QW (emb ρ u) := by
  unfold X12_qJoins_p270
  unfold sX12_qJoins_p270 at h
  refine ⟨on_198, ?_⟩
  refine t_X12_qPuts hR (fun u34 hd h => ?_) hd h
  exact hQ _ hd h
set_option maxHeartbeats 4000000 in
set_option maxRecDepth 100000 in
theorem t_X12_qJoins {ρ : Nat → Nat → Option Nat} (hR : RfH ρ) {v1 : Int32} {Q : St → Prop} {QW : Mem → Prop} (hQ : ∀ (u : St), DK u → Q u → QW (emb ρ u)) {u : St} (hd : DK u) (h : s_X12_qJoins v1 Q u) : wp_X12_qJoins SH 198 v1 QW (emb ρ u) := by
  unfold wp_X12_qJoins
  unfold s_X12_qJoins at h
  refine ⟨on_198, ?_⟩
  refine ⟨_, rn_198_114 hR _, ?_⟩
  obtain ⟨x2, h⟩ := h
  refine ⟨ix_i (show SH[284]? = some (103, 1700) from rfl) x2, ?_⟩
  obtain ⟨x3, h⟩ := h
  refine ⟨ix_i (show SH[284]? = some (103, 1700) from rfl) x3, ?_⟩
  refine bnd_I ?_
  replace h := bnd_e h
  refine ite_mono (fun hc h => ?_) (fun hc h => ?_) h
  · refine t_X12_qClip hR (fun r5 u6 hd h => ?_) hd h
    refine t_X12_qPuts hR (fun u8 hd h => ?_) hd h
    exact hQ _ hd h
  refine ite_mono (fun hc h => ?_) (fun hc h => ?_) h
  · refine t_X12_qClip hR (fun r9 u10 hd h => ?_) hd h
    refine t_X12_qPuts hR (fun u12 hd h => ?_) hd h
    exact hQ _ hd h
  refine ite_mono (fun hc h => ?_) (fun hc h => ?_) h
  · refine t_X12_qClip hR (fun r13 u14 hd h => ?_) hd h
    refine t_X12_qPuts hR (fun u16 hd h => ?_) hd h
    exact hQ _ hd h
  refine ite_mono (fun hc h => ?_) (fun hc h => ?_) h
  · refine t_X12_qFloor hR (fun r17 u18 hd h => ?_) hd h
    refine t_X12_qPuts hR (fun u20 hd h => ?_) hd h
    exact hQ _ hd h
  refine ite_mono (fun hc h => ?_) (fun hc h => ?_) h
  · refine ite_mono (fun hc h => ?_) (fun hc h => ?_) h
    · exact t_X12_qJoins_p161 hR hQ hd h
    · exact t_X12_qJoins_p161 hR hQ hd h
  refine ite_mono (fun hc h => ?_) (fun hc h => ?_) h
  · refine ite_mono (fun hc h => ?_) (fun hc h => ?_) h
    · exact t_X12_qJoins_p181 hR hQ hd h
    · exact t_X12_qJoins_p181 hR hQ hd h
  refine ite_mono (fun hc h => ?_) (fun hc h => ?_) h
  · refine ite_mono (fun hc h => ?_) (fun hc h => ?_) h
    · exact t_X12_qJoins_p200 hR hQ hd h
    · exact t_X12_qJoins_p200 hR hQ hd h
  refine ite_mono (fun hc h => ?_) (fun hc h => ?_) h
  · refine ite_mono (fun hc h => ?_) (fun hc h => ?_) h
    · exact t_X12_qJoins_p219 hR hQ hd h
    · exact t_X12_qJoins_p219 hR hQ hd h
  refine ite_mono (fun hc h => ?_) (fun hc h => ?_) h
  · refine ite_mono (fun hc h => ?_) (fun hc h => ?_) h
    · exact t_X12_qJoins_p238 hR hQ hd h
    · exact t_X12_qJoins_p238 hR hQ hd h
  refine ite_mono (fun hc h => ?_) (fun hc h => ?_) h
  · refine t_X12_qPuts hR (fun u22 hd h => ?_) hd h
    exact hQ _ hd h
  refine ite_mono (fun hc h => ?_) (fun hc h => ?_) h
  · exact t_X12_qJoins_p270 hR hQ hd h
  · exact t_X12_qJoins_p270 hR hQ hd h
/-! CalledRiverModel.beenOf -/
set_option maxHeartbeats 4000000 in
set_option maxRecDepth 100000 in
def s_X12_beenOf (v1 : Int32) (Q : Int32 → St → Prop) (u : St) : Prop :=
  vp_in ((3 : Int32) + ((3 : Int32) * v1)) 236 ∧ (Q (u.1 241 ((3 : Int32) + ((3 : Int32) * v1)).toNatClampNeg) u)
set_option maxHeartbeats 4000000 in
set_option maxRecDepth 100000 in
theorem t_X12_beenOf {ρ : Nat → Nat → Option Nat} (hR : RfH ρ) {v1 : Int32} {Q : Int32 → St → Prop} {QW : Int32 → Mem → Prop} (hQ : ∀ (r : Int32) (u : St), DK u → Q r u → QW r (emb ρ u)) {u : St} (hd : DK u) (h : s_X12_beenOf v1 Q u) : wp_X12_beenOf SH 198 v1 QW (emb ρ u) := by
  unfold wp_X12_beenOf
  unfold s_X12_beenOf at h
  refine ⟨on_198, ?_⟩
  refine ⟨_, rn_198_58 hR _, ?_⟩
  obtain ⟨x2, h⟩ := h
  refine ⟨ix_i (show SH[241]? = some (100, 236) from rfl) x2, ?_⟩
  exact hQ _ _ hd h
/-! CalledRiverModel.dayOf -/
set_option maxHeartbeats 4000000 in
set_option maxRecDepth 100000 in
def s_X12_dayOf (v1 : Int32) (Q : Int32 → St → Prop) (u : St) : Prop :=
  vp_in ((19 : Int32) + ((3 : Int32) * v1)) 36 ∧ (Q (u.1 234 ((19 : Int32) + ((3 : Int32) * v1)).toNatClampNeg) u)
set_option maxHeartbeats 4000000 in
set_option maxRecDepth 100000 in
theorem t_X12_dayOf {ρ : Nat → Nat → Option Nat} (hR : RfH ρ) {v1 : Int32} {Q : Int32 → St → Prop} {QW : Int32 → Mem → Prop} (hQ : ∀ (r : Int32) (u : St), DK u → Q r u → QW r (emb ρ u)) {u : St} (hd : DK u) (h : s_X12_dayOf v1 Q u) : wp_X12_dayOf SH 198 v1 QW (emb ρ u) := by
  unfold wp_X12_dayOf
  unfold s_X12_dayOf at h
  refine ⟨on_198, ?_⟩
  refine ⟨_, rn_198_47 hR _, ?_⟩
  obtain ⟨x2, h⟩ := h
  refine ⟨ix_i (show SH[234]? = some (100, 36) from rfl) x2, ?_⟩
  exact hQ _ _ hd h
/-! CalledRiverModel.farmAt -/
set_option maxHeartbeats 4000000 in
set_option maxRecDepth 100000 in
def sX12_farmAt_p2b (v1 : Int32) (Q : Int32 → St → Prop) (K2 : Int32 → St → Prop) (v2 : Int32) (u : St) : Prop :=
  s_X12_farmMany  (fun r1 u2 => if r1 ≤ v2 then (Q (-1 : Int32) u2) else (s_X12_cellOf v2 (fun r3 u4 => if r3 = v1 then (Q v2 u4) else (K2 (v2 + (1 : Int32)) u4)) u2)) u
set_option maxHeartbeats 4000000 in
set_option maxRecDepth 100000 in
def sX12_farmAt_p2n (v1 : Int32) (Q : Int32 → St → Prop) : Nat → Int32 → St → Prop
  | 0 => fun _ _ => False
  | n + 1 => sX12_farmAt_p2b v1 Q (sX12_farmAt_p2n v1 Q n)
set_option maxHeartbeats 4000000 in
set_option maxRecDepth 100000 in
def sX12_farmAt_p2 (v1 : Int32) (Q : Int32 → St → Prop) (v2 : Int32) (u : St) : Prop := ∃ n, sX12_farmAt_p2n v1 Q n v2 u
set_option maxHeartbeats 4000000 in
set_option maxRecDepth 100000 in
def s_X12_farmAt (v1 : Int32) (Q : Int32 → St → Prop) (u : St) : Prop :=
  sX12_farmAt_p2 v1 Q (0 : Int32) u
set_option maxHeartbeats 4000000 in
set_option maxRecDepth 100000 in
theorem t_X12_farmAt_p2b {ρ : Nat → Nat → Option Nat} (hR : RfH ρ) {v1 : Int32} {v2 : Int32} {Q : Int32 → St → Prop} {QW : Int32 → Mem → Prop} (hQ : ∀ (r : Int32) (u : St), DK u → Q r u → QW r (emb ρ u)) {K2 : Int32 → St → Prop} {KW2 : Int32 → Mem → Prop} (hK2 : ∀ (x2 : Int32) (u : St), DK u → K2 x2 u → KW2 x2 (emb ρ u)) {u : St} (hd : DK u) (h : sX12_farmAt_p2b v1 Q K2 v2 u) : X12_farmAt_p2b SH 198 v1 QW KW2 v2 (emb ρ u) := by
  unfold X12_farmAt_p2b
  unfold sX12_farmAt_p2b at h
  refine ⟨on_198, ?_⟩
  refine t_X12_farmMany hR (fun r1 u2 hd h => ?_) hd h
  refine ite_mono (fun hc h => ?_) (fun hc h => ?_) h
  · exact hQ _ _ hd h
  · refine t_X12_cellOf hR (fun r3 u4 hd h => ?_) hd h
    refine ite_mono (fun hc h => ?_) (fun hc h => ?_) h
    · exact hQ _ _ hd h
    · exact hK2 _ _ hd h
set_option maxHeartbeats 4000000 in
set_option maxRecDepth 100000 in
theorem t_X12_farmAt_p2n {ρ : Nat → Nat → Option Nat} (hR : RfH ρ) {v1 : Int32} {Q : Int32 → St → Prop} {QW : Int32 → Mem → Prop} (hQ : ∀ (r : Int32) (u : St), DK u → Q r u → QW r (emb ρ u)) : ∀ (n : Nat) (v2 : Int32) (u : St), DK u → sX12_farmAt_p2n v1 Q n v2 u → X12_farmAt_p2n SH 198 v1 QW n v2 (emb ρ u)
  | 0, _, _,  _, h => h.elim
  | n + 1, v2,  u,  hd, h => t_X12_farmAt_p2b hR hQ (fun v2 u  hd h => t_X12_farmAt_p2n hR hQ n v2 u  hd h) hd h
set_option maxHeartbeats 4000000 in
set_option maxRecDepth 100000 in
theorem t_X12_farmAt_p2 {ρ : Nat → Nat → Option Nat} (hR : RfH ρ) {v1 : Int32} {v2 : Int32} {Q : Int32 → St → Prop} {QW : Int32 → Mem → Prop} (hQ : ∀ (r : Int32) (u : St), DK u → Q r u → QW r (emb ρ u)) {u : St} (hd : DK u) (h : sX12_farmAt_p2 v1 Q v2 u) : X12_farmAt_p2 SH 198 v1 QW v2 (emb ρ u) := h.elim (fun n h => ⟨n, t_X12_farmAt_p2n hR hQ n _ _ hd h⟩)
set_option maxHeartbeats 4000000 in
set_option maxRecDepth 100000 in
theorem t_X12_farmAt {ρ : Nat → Nat → Option Nat} (hR : RfH ρ) {v1 : Int32} {Q : Int32 → St → Prop} {QW : Int32 → Mem → Prop} (hQ : ∀ (r : Int32) (u : St), DK u → Q r u → QW r (emb ρ u)) {u : St} (hd : DK u) (h : s_X12_farmAt v1 Q u) : wp_X12_farmAt SH 198 v1 QW (emb ρ u) := by
  unfold wp_X12_farmAt
  unfold s_X12_farmAt at h
  exact t_X12_farmAt_p2 hR hQ hd h
/-! CalledRiverModel.pieOf -/
set_option maxHeartbeats 4000000 in
set_option maxRecDepth 100000 in
def s_X12_pieOf (v1 : Int32) (Q : Int32 → St → Prop) (u : St) : Prop :=
  vp_in ((109 : Int32) + v1) 236 ∧ (Q (u.1 241 ((109 : Int32) + v1).toNatClampNeg) u)
set_option maxHeartbeats 4000000 in
set_option maxRecDepth 100000 in
theorem t_X12_pieOf {ρ : Nat → Nat → Option Nat} (hR : RfH ρ) {v1 : Int32} {Q : Int32 → St → Prop} {QW : Int32 → Mem → Prop} (hQ : ∀ (r : Int32) (u : St), DK u → Q r u → QW r (emb ρ u)) {u : St} (hd : DK u) (h : s_X12_pieOf v1 Q u) : wp_X12_pieOf SH 198 v1 QW (emb ρ u) := by
  unfold wp_X12_pieOf
  unfold s_X12_pieOf at h
  refine ⟨on_198, ?_⟩
  refine ⟨_, rn_198_58 hR _, ?_⟩
  obtain ⟨x2, h⟩ := h
  refine ⟨ix_i (show SH[241]? = some (100, 236) from rfl) x2, ?_⟩
  exact hQ _ _ hd h
/-! CalledRiverModel.pieAt -/
set_option maxHeartbeats 4000000 in
set_option maxRecDepth 100000 in
def s_X12_pieAt (v1 : Int32) (Q : Int32 → St → Prop) (u : St) : Prop :=
  s_X12_farmAt v1 (fun r1 u2 => if r1 = (-1 : Int32) then (Q (0 : Int32) u2) else (s_X12_pieOf r1 (fun r3 u4 => Q r3 u4) u2)) u
set_option maxHeartbeats 4000000 in
set_option maxRecDepth 100000 in
theorem t_X12_pieAt {ρ : Nat → Nat → Option Nat} (hR : RfH ρ) {v1 : Int32} {Q : Int32 → St → Prop} {QW : Int32 → Mem → Prop} (hQ : ∀ (r : Int32) (u : St), DK u → Q r u → QW r (emb ρ u)) {u : St} (hd : DK u) (h : s_X12_pieAt v1 Q u) : wp_X12_pieAt SH 198 v1 QW (emb ρ u) := by
  unfold wp_X12_pieAt
  unfold s_X12_pieAt at h
  refine ⟨on_198, ?_⟩
  refine t_X12_farmAt hR (fun r1 u2 hd h => ?_) hd h
  refine ite_mono (fun hc h => ?_) (fun hc h => ?_) h
  · exact hQ _ _ hd h
  · refine t_X12_pieOf hR (fun r3 u4 hd h => ?_) hd h
    exact hQ _ _ hd h
/-! CalledRiverModel.qPartOf -/
set_option maxHeartbeats 4000000 in
set_option maxRecDepth 100000 in
def sX12_qPartOf_p180 (s1 : Int32) (Q : Int64 → St → Prop) (u : St) : Prop :=
  s_X12_heightOf s1 (fun r27 u28 => Q r27.toInt64 u28) u
set_option maxHeartbeats 4000000 in
set_option maxRecDepth 100000 in
def s_X12_qPartOf (v1 : Int32) (v2 : Int32) (Q : Int64 → St → Prop) (u : St) : Prop :=
  if v1 = (0 : Int32) then (vp_in (0 : Int32) 236 ∧ (Q (u.1 241 (0 : Int32).toNatClampNeg).toInt64 u)) else if v1 = (1 : Int32) then (if (u.1 198 57) = 0 then (s_X12_pieAt (u.1 198 60) (fun r5 u6 => Q r5.toInt64 u6) u) else (s_X12_pieOf v2 (fun r3 u4 => Q r3.toInt64 u4) u)) else if v1 = (2 : Int32) then (if (u.1 198 57) = 0 then (s_X12_beenOf (u.1 198 60) (fun r11 u12 => Q r11.toInt64 u12) u) else (s_X12_cellOf v2 (fun r7 u8 => s_X12_beenOf r7 (fun r9 u10 => Q r9.toInt64 u10) u8) u)) else if v1 = (3 : Int32) then (vp_in ((10 : Int32) + ((2 : Int32) * (u.1 198 59))) 20 ∧ (Q (u.1 235 ((10 : Int32) + ((2 : Int32) * (u.1 198 59))).toNatClampNeg).toInt64 u)) else if v1 = (4 : Int32) then (vp_in ((11 : Int32) + ((2 : Int32) * (u.1 198 59))) 20 ∧ (Q (u.1 235 ((11 : Int32) + ((2 : Int32) * (u.1 198 59))).toNatClampNeg).toInt64 u)) else if v1 = (5 : Int32) then (if (u.1 198 57) = 0 then (sX12_qPartOf_p180 (u.1 198 60) Q u) else (s_X12_cellOf v2 (fun r17 u18 => sX12_qPartOf_p180 r17 Q u18) u)) else if v1 = (6 : Int32) then (vp_in (3 : Int32) 4 ∧ (Q (((u.1 231 (3 : Int32).toNatClampNeg) - (1 : Int32)) - ((u.1 198 60) / (6 : Int32))).toInt64 u)) else if v1 = (7 : Int32) then (Q (u.1 198 61).toInt64 u) else if v1 = (8 : Int32) then (Q (u.1 198 62).toInt64 u) else if v1 = (9 : Int32) then (Q v2.toInt64 u) else if v1 = (10 : Int32) then (s_X12_cellOf v2 (fun r21 u22 => Q (r21 - r21 / (6 : Int32) * (6 : Int32)).toInt64 u22) u) else if v1 = (11 : Int32) then (s_X12_cellOf v2 (fun r23 u24 => Q (r23 / (6 : Int32)).toInt64 u24) u) else (s_X12_dayOf v2 (fun r25 u26 => Q r25.toInt64 u26) u)
set_option maxHeartbeats 4000000 in
set_option maxRecDepth 100000 in
theorem t_X12_qPartOf_p180 {ρ : Nat → Nat → Option Nat} (hR : RfH ρ) {s1 : Int32} {Q : Int64 → St → Prop} {QW : Int64 → Mem → Prop} (hQ : ∀ (r : Int64) (u : St), DK u → Q r u → QW r (emb ρ u)) {u : St} (hd : DK u) (h : sX12_qPartOf_p180 s1 Q u) : X12_qPartOf_p180 SH s1 198 QW (emb ρ u) := by
  unfold X12_qPartOf_p180
  unfold sX12_qPartOf_p180 at h
  refine ⟨on_198, ?_⟩
  refine t_X12_heightOf hR (fun r27 u28 hd h => ?_) hd h
  exact hQ _ _ hd h
set_option maxHeartbeats 4000000 in
set_option maxRecDepth 100000 in
theorem t_X12_qPartOf {ρ : Nat → Nat → Option Nat} (hR : RfH ρ) {v1 : Int32} {v2 : Int32} {Q : Int64 → St → Prop} {QW : Int64 → Mem → Prop} (hQ : ∀ (r : Int64) (u : St), DK u → Q r u → QW r (emb ρ u)) {u : St} (hd : DK u) (h : s_X12_qPartOf v1 v2 Q u) : wp_X12_qPartOf SH 198 v1 v2 QW (emb ρ u) := by
  unfold wp_X12_qPartOf
  unfold s_X12_qPartOf at h
  refine ite_mono (fun hc h => ?_) (fun hc h => ?_) h
  · refine ⟨on_198, ?_⟩
    refine ⟨_, rn_198_58 hR _, ?_⟩
    obtain ⟨x2, h⟩ := h
    refine ⟨ix_i (show SH[241]? = some (100, 236) from rfl) x2, ?_⟩
    exact hQ _ _ hd h
  refine ite_mono (fun hc h => ?_) (fun hc h => ?_) h
  · refine ⟨on_198, ?_⟩
    refine ite_mono (fun hc h => ?_) (fun hc h => ?_) h
    · refine t_X12_pieAt hR (fun r5 u6 hd h => ?_) hd h
      exact hQ _ _ hd h
    · refine t_X12_pieOf hR (fun r3 u4 hd h => ?_) hd h
      exact hQ _ _ hd h
  refine ite_mono (fun hc h => ?_) (fun hc h => ?_) h
  · refine ⟨on_198, ?_⟩
    refine ite_mono (fun hc h => ?_) (fun hc h => ?_) h
    · refine t_X12_beenOf hR (fun r11 u12 hd h => ?_) hd h
      exact hQ _ _ hd h
    · refine t_X12_cellOf hR (fun r7 u8 hd h => ?_) hd h
      refine t_X12_beenOf hR (fun r9 u10 hd h => ?_) hd h
      exact hQ _ _ hd h
  refine ite_mono (fun hc h => ?_) (fun hc h => ?_) h
  · refine ⟨on_198, ?_⟩
    refine ⟨_, rn_198_48 hR _, ?_⟩
    obtain ⟨x14, h⟩ := h
    refine ⟨ix_i (show SH[235]? = some (100, 20) from rfl) x14, ?_⟩
    exact hQ _ _ hd h
  refine ite_mono (fun hc h => ?_) (fun hc h => ?_) h
  · refine ⟨on_198, ?_⟩
    refine ⟨_, rn_198_48 hR _, ?_⟩
    obtain ⟨x16, h⟩ := h
    refine ⟨ix_i (show SH[235]? = some (100, 20) from rfl) x16, ?_⟩
    exact hQ _ _ hd h
  refine ite_mono (fun hc h => ?_) (fun hc h => ?_) h
  · refine ⟨on_198, ?_⟩
    refine ite_mono (fun hc h => ?_) (fun hc h => ?_) h
    · exact t_X12_qPartOf_p180 hR hQ hd h
    · refine t_X12_cellOf hR (fun r17 u18 hd h => ?_) hd h
      exact t_X12_qPartOf_p180 hR hQ hd h
  refine ite_mono (fun hc h => ?_) (fun hc h => ?_) h
  · refine ⟨on_198, ?_⟩
    refine ⟨_, rn_198_42 hR _, ?_⟩
    obtain ⟨x20, h⟩ := h
    refine ⟨ix_i (show SH[231]? = some (100, 4) from rfl) x20, ?_⟩
    exact hQ _ _ hd h
  refine ite_mono (fun hc h => ?_) (fun hc h => ?_) h
  · refine ⟨on_198, ?_⟩
    exact hQ _ _ hd h
  refine ite_mono (fun hc h => ?_) (fun hc h => ?_) h
  · refine ⟨on_198, ?_⟩
    exact hQ _ _ hd h
  refine ite_mono (fun hc h => ?_) (fun hc h => ?_) h
  · exact hQ _ _ hd h
  refine ite_mono (fun hc h => ?_) (fun hc h => ?_) h
  · refine ⟨on_198, ?_⟩
    refine t_X12_cellOf hR (fun r21 u22 hd h => ?_) hd h
    exact hQ _ _ hd h
  refine ite_mono (fun hc h => ?_) (fun hc h => ?_) h
  · refine ⟨on_198, ?_⟩
    refine t_X12_cellOf hR (fun r23 u24 hd h => ?_) hd h
    exact hQ _ _ hd h
  refine ⟨on_198, ?_⟩
  refine t_X12_dayOf hR (fun r25 u26 hd h => ?_) hd h
  exact hQ _ _ hd h
/-! CalledRiverModel.codesTell -/
set_option maxHeartbeats 4000000 in
set_option maxRecDepth 100000 in
def sX12_codesTell_p95 (v1 : Int32) (v2 : Int32) (v3 : Int32) (Q : Int64 → St → Prop) (K19 : Int32 → St → Prop) (u : St) : Prop :=
  K19 (v3 + (1 : Int32)) u
set_option maxHeartbeats 4000000 in
set_option maxRecDepth 100000 in
def sX12_codesTell_p19b (v1 : Int32) (v2 : Int32) (Q : Int64 → St → Prop) (K19 : Int32 → St → Prop) (v3 : Int32) (u : St) : Prop :=
  vp_in ((2 : Int32) + v1) 4 ∧ (if (u.1 239 ((2 : Int32) + v1).toNatClampNeg) ≤ v3 then (vp_in (0 : Int32) 1700 ∧ (Q (u.2.1 284 (0 : Int32).toNatClampNeg) u)) else (vp_in ((1600 : Int32) + v3) 3200 ∧ (if (u.1 240 ((1600 : Int32) + v3).toNatClampNeg) < (1000 : Int32) then (if (u.1 240 ((1600 : Int32) + v3).toNatClampNeg) < (40 : Int32) then (s_X12_qJoins (u.1 240 ((1600 : Int32) + v3).toNatClampNeg) (fun u12 => sX12_codesTell_p95 v1 v2 v3 Q K19 u12) u) else (s_X12_qPartOf ((u.1 240 ((1600 : Int32) + v3).toNatClampNeg) - (40 : Int32)) v2 (fun r13 u14 => s_X12_qPuts r13 (fun u16 => sX12_codesTell_p95 v1 v2 v3 Q K19 u16) u14) u)) else (s_X12_qPuts ((u.1 240 ((1600 : Int32) + v3).toNatClampNeg) - (1000 : Int32)).toInt64 (fun u18 => sX12_codesTell_p95 v1 v2 v3 Q K19 u18) u))))
set_option maxHeartbeats 4000000 in
set_option maxRecDepth 100000 in
def sX12_codesTell_p19n (v1 : Int32) (v2 : Int32) (Q : Int64 → St → Prop) : Nat → Int32 → St → Prop
  | 0 => fun _ _ => False
  | n + 1 => sX12_codesTell_p19b v1 v2 Q (sX12_codesTell_p19n v1 v2 Q n)
set_option maxHeartbeats 4000000 in
set_option maxRecDepth 100000 in
def sX12_codesTell_p19 (v1 : Int32) (v2 : Int32) (Q : Int64 → St → Prop) (v3 : Int32) (u : St) : Prop := ∃ n, sX12_codesTell_p19n v1 v2 Q n v3 u
set_option maxHeartbeats 4000000 in
set_option maxRecDepth 100000 in
def s_X12_codesTell (v1 : Int32) (v2 : Int32) (Q : Int64 → St → Prop) (u : St) : Prop :=
  bnd (tI u 198 57 v1) (fun u1 => bnd (tI u1 198 115 (0 : Int32)) (fun u2 => vp_in ((2 : Int32) + v1) 4 ∧ (sX12_codesTell_p19 v1 v2 Q (u2.1 238 ((2 : Int32) + v1).toNatClampNeg) u2)))
set_option maxHeartbeats 4000000 in
set_option maxRecDepth 100000 in
theorem t_X12_codesTell_p95 {ρ : Nat → Nat → Option Nat} (hR : RfH ρ) {v1 : Int32} {v2 : Int32} {v3 : Int32} {Q : Int64 → St → Prop} {QW : Int64 → Mem → Prop} {K19 : Int32 → St → Prop} {KW19 : Int32 → Mem → Prop} (hQ : ∀ (r : Int64) (u : St), DK u → Q r u → QW r (emb ρ u)) (hK19 : ∀ (x3 : Int32) (u : St), DK u → K19 x3 u → KW19 x3 (emb ρ u)) {u : St} (hd : DK u) (h : sX12_codesTell_p95 v1 v2 v3 Q K19 u) : X12_codesTell_p95 SH 198 v1 v2 v3 QW KW19 (emb ρ u) := by
  unfold X12_codesTell_p95
  unfold sX12_codesTell_p95 at h
  exact hK19 _ _ hd h
set_option maxHeartbeats 4000000 in
set_option maxRecDepth 100000 in
theorem t_X12_codesTell_p19b {ρ : Nat → Nat → Option Nat} (hR : RfH ρ) {v1 : Int32} {v2 : Int32} {v3 : Int32} {Q : Int64 → St → Prop} {QW : Int64 → Mem → Prop} (hQ : ∀ (r : Int64) (u : St), DK u → Q r u → QW r (emb ρ u)) {K19 : Int32 → St → Prop} {KW19 : Int32 → Mem → Prop} (hK19 : ∀ (x3 : Int32) (u : St), DK u → K19 x3 u → KW19 x3 (emb ρ u)) {u : St} (hd : DK u) (h : sX12_codesTell_p19b v1 v2 Q K19 v3 u) : X12_codesTell_p19b SH 198 v1 v2 QW KW19 v3 (emb ρ u) := by
  unfold X12_codesTell_p19b
  unfold sX12_codesTell_p19b at h
  refine ⟨on_198, ?_⟩
  refine ⟨_, rn_198_52 hR _, ?_⟩
  obtain ⟨x6, h⟩ := h
  refine ⟨ix_i (show SH[239]? = some (100, 4) from rfl) x6, ?_⟩
  refine ite_mono (fun hc h => ?_) (fun hc h => ?_) h
  · refine ⟨_, rn_198_114 hR _, ?_⟩
    obtain ⟨x8, h⟩ := h
    refine ⟨ix_i (show SH[284]? = some (103, 1700) from rfl) x8, ?_⟩
    exact hQ _ _ hd h
  · refine ⟨_, rn_198_53 hR _, ?_⟩
    obtain ⟨x10, h⟩ := h
    refine ⟨ix_i (show SH[240]? = some (100, 3200) from rfl) x10, ?_⟩
    refine ite_mono (fun hc h => ?_) (fun hc h => ?_) h
    · refine ite_mono (fun hc h => ?_) (fun hc h => ?_) h
      · refine t_X12_qJoins hR (fun u12 hd h => ?_) hd h
        exact t_X12_codesTell_p95 hR hQ hK19 hd h
      · refine t_X12_qPartOf hR (fun r13 u14 hd h => ?_) hd h
        refine t_X12_qPuts hR (fun u16 hd h => ?_) hd h
        exact t_X12_codesTell_p95 hR hQ hK19 hd h
    · refine t_X12_qPuts hR (fun u18 hd h => ?_) hd h
      exact t_X12_codesTell_p95 hR hQ hK19 hd h
set_option maxHeartbeats 4000000 in
set_option maxRecDepth 100000 in
theorem t_X12_codesTell_p19n {ρ : Nat → Nat → Option Nat} (hR : RfH ρ) {v1 : Int32} {v2 : Int32} {Q : Int64 → St → Prop} {QW : Int64 → Mem → Prop} (hQ : ∀ (r : Int64) (u : St), DK u → Q r u → QW r (emb ρ u)) : ∀ (n : Nat) (v3 : Int32) (u : St), DK u → sX12_codesTell_p19n v1 v2 Q n v3 u → X12_codesTell_p19n SH 198 v1 v2 QW n v3 (emb ρ u)
  | 0, _, _,  _, h => h.elim
  | n + 1, v3,  u,  hd, h => t_X12_codesTell_p19b hR hQ (fun v3 u  hd h => t_X12_codesTell_p19n hR hQ n v3 u  hd h) hd h
set_option maxHeartbeats 4000000 in
set_option maxRecDepth 100000 in
theorem t_X12_codesTell_p19 {ρ : Nat → Nat → Option Nat} (hR : RfH ρ) {v1 : Int32} {v2 : Int32} {v3 : Int32} {Q : Int64 → St → Prop} {QW : Int64 → Mem → Prop} (hQ : ∀ (r : Int64) (u : St), DK u → Q r u → QW r (emb ρ u)) {u : St} (hd : DK u) (h : sX12_codesTell_p19 v1 v2 Q v3 u) : X12_codesTell_p19 SH 198 v1 v2 QW v3 (emb ρ u) := h.elim (fun n h => ⟨n, t_X12_codesTell_p19n hR hQ n _ _ hd h⟩)
set_option maxHeartbeats 4000000 in
set_option maxRecDepth 100000 in
theorem t_X12_codesTell {ρ : Nat → Nat → Option Nat} (hR : RfH ρ) {v1 : Int32} {v2 : Int32} {Q : Int64 → St → Prop} {QW : Int64 → Mem → Prop} (hQ : ∀ (r : Int64) (u : St), DK u → Q r u → QW r (emb ρ u)) {u : St} (hd : DK u) (h : s_X12_codesTell v1 v2 Q u) : wp_X12_codesTell SH 198 v1 v2 QW (emb ρ u) := by
  unfold wp_X12_codesTell
  unfold s_X12_codesTell at h
  refine ⟨on_198, ?_⟩
  refine bnd_I ?_
  replace h := bnd_e h
  refine bnd_I ?_
  replace h := bnd_e h
  refine ⟨_, rn_198_51 hR _, ?_⟩
  obtain ⟨x4, h⟩ := h
  refine ⟨ix_i (show SH[238]? = some (100, 4) from rfl) x4, ?_⟩
  exact t_X12_codesTell_p19 hR hQ hd h
/-! CalledRiverModel.goesTo -/
set_option maxHeartbeats 4000000 in
set_option maxRecDepth 100000 in
def s_X12_goesTo (v1 : Int32) (v2 : Int32) (Q : Int64 → St → Prop) (u : St) : Prop :=
  bnd (tI u 198 60 v1) (fun u1 => bnd (tI u1 198 61 v2) (fun u2 => vp_in (2 : Int32) 4 ∧ (if (u2.1 238 (2 : Int32).toNatClampNeg) = (-1 : Int32) then (vp_in (3 : Int32) 4 ∧ (Q (((v1 / (6 : Int32)) - (u2.1 231 (3 : Int32).toNatClampNeg)) + (1 : Int32)).toInt64 u2)) else (s_X12_codesTell (0 : Int32) (0 : Int32) (fun r5 u6 => Q r5 u6) u2))))
set_option maxHeartbeats 4000000 in
set_option maxRecDepth 100000 in
theorem t_X12_goesTo {ρ : Nat → Nat → Option Nat} (hR : RfH ρ) {v1 : Int32} {v2 : Int32} {Q : Int64 → St → Prop} {QW : Int64 → Mem → Prop} (hQ : ∀ (r : Int64) (u : St), DK u → Q r u → QW r (emb ρ u)) {u : St} (hd : DK u) (h : s_X12_goesTo v1 v2 Q u) : wp_X12_goesTo SH 198 v1 v2 QW (emb ρ u) := by
  unfold wp_X12_goesTo
  unfold s_X12_goesTo at h
  refine ⟨on_198, ?_⟩
  refine bnd_I ?_
  replace h := bnd_e h
  refine bnd_I ?_
  replace h := bnd_e h
  refine ⟨_, rn_198_51 hR _, ?_⟩
  obtain ⟨x4, h⟩ := h
  refine ⟨ix_i (show SH[238]? = some (100, 4) from rfl) x4, ?_⟩
  refine ite_mono (fun hc h => ?_) (fun hc h => ?_) h
  · refine ⟨_, rn_198_42 hR _, ?_⟩
    obtain ⟨x8, h⟩ := h
    refine ⟨ix_i (show SH[231]? = some (100, 4) from rfl) x8, ?_⟩
    exact hQ _ _ hd h
  · refine t_X12_codesTell hR (fun r5 u6 hd h => ?_) hd h
    exact hQ _ _ hd h
/-! CalledRiverModel.nextOf -/
set_option maxHeartbeats 4000000 in
set_option maxRecDepth 100000 in
def sX12_nextOf_p108 (v1 : Int32) (v2 : Int32) (v3 : Int64) (v5 : Int32) (Q : Int32 → St → Prop) (K24 : Int32 → Int64 → Int32 → St → Prop) (u : St) : Prop :=
  K24 v2 v3 (v5 + (1 : Int32)) u
set_option maxHeartbeats 4000000 in
set_option maxRecDepth 100000 in
def sX12_nextOf_p102 (v1 : Int32) (v5 : Int32) (v6 : Int32) (v7 : Int64) (Q : Int32 → St → Prop) (K24 : Int32 → Int64 → Int32 → St → Prop) (u : St) : Prop :=
  sX12_nextOf_p108 v1 v6 v7 v5 Q K24 u
set_option maxHeartbeats 4000000 in
set_option maxRecDepth 100000 in
def sX12_nextOf_p24b (v1 : Int32) (Q : Int32 → St → Prop) (K24 : Int32 → Int64 → Int32 → St → Prop) (v2 : Int32) (v3 : Int64) (v5 : Int32) (u : St) : Prop :=
  s_X12_cellMany  (fun r3 u4 => if r3 ≤ v5 then (Q v2 u4) else (s_X12_cellOfNumber v5 (fun r5 u6 => vp_in r5 36 ∧ (if (u6.1 243 r5.toNatClampNeg) = (-1 : Int32) then (s_X12_areBeside v1 r5 (fun r9 u10 => if r9 = 0 then (sX12_nextOf_p108 v1 v2 v3 v5 Q K24 u10) else (s_X12_canFlow v1 r5 (fun r11 u12 => if r11 = 0 then (sX12_nextOf_p108 v1 v2 v3 v5 Q K24 u12) else (s_X12_goesTo r5 (u12.1 198 64) (fun r13 u14 => if v2 = (-1 : Int32) then (sX12_nextOf_p102 v1 v5 r5 r13 Q K24 u14) else (if 0 < (lg_cmp r13 v3) then (sX12_nextOf_p102 v1 v5 r5 r13 Q K24 u14) else (sX12_nextOf_p108 v1 v2 v3 v5 Q K24 u14))) u12)) u10)) u6) else (sX12_nextOf_p108 v1 v2 v3 v5 Q K24 u6))) u4)) u
set_option maxHeartbeats 4000000 in
set_option maxRecDepth 100000 in
def sX12_nextOf_p24n (v1 : Int32) (Q : Int32 → St → Prop) : Nat → Int32 → Int64 → Int32 → St → Prop
  | 0 => fun _ _ _ _ => False
  | n + 1 => sX12_nextOf_p24b v1 Q (sX12_nextOf_p24n v1 Q n)
set_option maxHeartbeats 4000000 in
set_option maxRecDepth 100000 in
def sX12_nextOf_p24 (v1 : Int32) (Q : Int32 → St → Prop) (v2 : Int32) (v3 : Int64) (v5 : Int32) (u : St) : Prop := ∃ n, sX12_nextOf_p24n v1 Q n v2 v3 v5 u
set_option maxHeartbeats 4000000 in
set_option maxRecDepth 100000 in
def s_X12_nextOf (v1 : Int32) (Q : Int32 → St → Prop) (u : St) : Prop :=
  vp_in (3 : Int32) 4 ∧ (if (v1 / (6 : Int32)) = ((u.1 231 (3 : Int32).toNatClampNeg) - (1 : Int32)) then (Q (-1 : Int32) u) else (sX12_nextOf_p24 v1 Q (-1 : Int32) (0 : Int64) (0 : Int32) u))
set_option maxHeartbeats 4000000 in
set_option maxRecDepth 100000 in
theorem t_X12_nextOf_p108 {ρ : Nat → Nat → Option Nat} (hR : RfH ρ) {v1 : Int32} {v2 : Int32} {v3 : Int64} {v5 : Int32} {Q : Int32 → St → Prop} {QW : Int32 → Mem → Prop} {K24 : Int32 → Int64 → Int32 → St → Prop} {KW24 : Int32 → Int64 → Int32 → Mem → Prop} (hQ : ∀ (r : Int32) (u : St), DK u → Q r u → QW r (emb ρ u)) (hK24 : ∀ (x2 : Int32) (x3 : Int64) (x5 : Int32) (u : St), DK u → K24 x2 x3 x5 u → KW24 x2 x3 x5 (emb ρ u)) {u : St} (hd : DK u) (h : sX12_nextOf_p108 v1 v2 v3 v5 Q K24 u) : X12_nextOf_p108 SH 198 v1 v2 v3 v5 QW KW24 (emb ρ u) := by
  unfold X12_nextOf_p108
  unfold sX12_nextOf_p108 at h
  exact hK24 _ _ _ _ hd h
set_option maxHeartbeats 4000000 in
set_option maxRecDepth 100000 in
theorem t_X12_nextOf_p102 {ρ : Nat → Nat → Option Nat} (hR : RfH ρ) {v1 : Int32} {v5 : Int32} {v6 : Int32} {v7 : Int64} {Q : Int32 → St → Prop} {QW : Int32 → Mem → Prop} {K24 : Int32 → Int64 → Int32 → St → Prop} {KW24 : Int32 → Int64 → Int32 → Mem → Prop} (hQ : ∀ (r : Int32) (u : St), DK u → Q r u → QW r (emb ρ u)) (hK24 : ∀ (x2 : Int32) (x3 : Int64) (x5 : Int32) (u : St), DK u → K24 x2 x3 x5 u → KW24 x2 x3 x5 (emb ρ u)) {u : St} (hd : DK u) (h : sX12_nextOf_p102 v1 v5 v6 v7 Q K24 u) : X12_nextOf_p102 SH 198 v1 v5 v6 v7 QW KW24 (emb ρ u) := by
  unfold X12_nextOf_p102
  unfold sX12_nextOf_p102 at h
  exact t_X12_nextOf_p108 hR hQ hK24 hd h
set_option maxHeartbeats 4000000 in
set_option maxRecDepth 100000 in
theorem t_X12_nextOf_p24b {ρ : Nat → Nat → Option Nat} (hR : RfH ρ) {v1 : Int32} {v2 : Int32} {v3 : Int64} {v5 : Int32} {Q : Int32 → St → Prop} {QW : Int32 → Mem → Prop} (hQ : ∀ (r : Int32) (u : St), DK u → Q r u → QW r (emb ρ u)) {K24 : Int32 → Int64 → Int32 → St → Prop} {KW24 : Int32 → Int64 → Int32 → Mem → Prop} (hK24 : ∀ (x2 : Int32) (x3 : Int64) (x5 : Int32) (u : St), DK u → K24 x2 x3 x5 u → KW24 x2 x3 x5 (emb ρ u)) {u : St} (hd : DK u) (h : sX12_nextOf_p24b v1 Q K24 v2 v3 v5 u) : X12_nextOf_p24b SH 198 v1 QW KW24 v2 v3 v5 (emb ρ u) := by
  unfold X12_nextOf_p24b
  unfold sX12_nextOf_p24b at h
  refine ⟨on_198, ?_⟩
  refine t_X12_cellMany hR (fun r3 u4 hd h => ?_) hd h
  refine ite_mono (fun hc h => ?_) (fun hc h => ?_) h
  · exact hQ _ _ hd h
  · refine t_X12_cellOfNumber hR (fun r5 u6 hd h => ?_) hd h
    refine ⟨_, rn_198_65 hR _, ?_⟩
    obtain ⟨x8, h⟩ := h
    refine ⟨ix_i (show SH[243]? = some (100, 36) from rfl) x8, ?_⟩
    refine ite_mono (fun hc h => ?_) (fun hc h => ?_) h
    · refine t_X12_areBeside hR (fun r9 u10 hd h => ?_) hd h
      refine ite_mono (fun hc h => ?_) (fun hc h => ?_) h
      · exact t_X12_nextOf_p108 hR hQ hK24 hd h
      · refine t_X12_canFlow hR (fun r11 u12 hd h => ?_) hd h
        refine ite_mono (fun hc h => ?_) (fun hc h => ?_) h
        · exact t_X12_nextOf_p108 hR hQ hK24 hd h
        · refine t_X12_goesTo hR (fun r13 u14 hd h => ?_) hd h
          refine ite_mono (fun hc h => ?_) (fun hc h => ?_) h
          · exact t_X12_nextOf_p102 hR hQ hK24 hd h
          · refine ite_mono (fun hc h => ?_) (fun hc h => ?_) h
            · exact t_X12_nextOf_p102 hR hQ hK24 hd h
            · exact t_X12_nextOf_p108 hR hQ hK24 hd h
    · exact t_X12_nextOf_p108 hR hQ hK24 hd h
set_option maxHeartbeats 4000000 in
set_option maxRecDepth 100000 in
theorem t_X12_nextOf_p24n {ρ : Nat → Nat → Option Nat} (hR : RfH ρ) {v1 : Int32} {Q : Int32 → St → Prop} {QW : Int32 → Mem → Prop} (hQ : ∀ (r : Int32) (u : St), DK u → Q r u → QW r (emb ρ u)) : ∀ (n : Nat) (v2 : Int32) (v3 : Int64) (v5 : Int32) (u : St), DK u → sX12_nextOf_p24n v1 Q n v2 v3 v5 u → X12_nextOf_p24n SH 198 v1 QW n v2 v3 v5 (emb ρ u)
  | 0, _,_,_, _,  _, h => h.elim
  | n + 1, v2, v3, v5,  u,  hd, h => t_X12_nextOf_p24b hR hQ (fun v2 v3 v5 u  hd h => t_X12_nextOf_p24n hR hQ n v2 v3 v5 u  hd h) hd h
set_option maxHeartbeats 4000000 in
set_option maxRecDepth 100000 in
theorem t_X12_nextOf_p24 {ρ : Nat → Nat → Option Nat} (hR : RfH ρ) {v1 : Int32} {v2 : Int32} {v3 : Int64} {v5 : Int32} {Q : Int32 → St → Prop} {QW : Int32 → Mem → Prop} (hQ : ∀ (r : Int32) (u : St), DK u → Q r u → QW r (emb ρ u)) {u : St} (hd : DK u) (h : sX12_nextOf_p24 v1 Q v2 v3 v5 u) : X12_nextOf_p24 SH 198 v1 QW v2 v3 v5 (emb ρ u) := h.elim (fun n h => ⟨n, t_X12_nextOf_p24n hR hQ n _ _ _ _ hd h⟩)
set_option maxHeartbeats 4000000 in
set_option maxRecDepth 100000 in
theorem t_X12_nextOf {ρ : Nat → Nat → Option Nat} (hR : RfH ρ) {v1 : Int32} {Q : Int32 → St → Prop} {QW : Int32 → Mem → Prop} (hQ : ∀ (r : Int32) (u : St), DK u → Q r u → QW r (emb ρ u)) {u : St} (hd : DK u) (h : s_X12_nextOf v1 Q u) : wp_X12_nextOf SH 198 v1 QW (emb ρ u) := by
  unfold wp_X12_nextOf
  unfold s_X12_nextOf at h
  refine ⟨on_198, ?_⟩
  refine ⟨_, rn_198_42 hR _, ?_⟩
  obtain ⟨x2, h⟩ := h
  refine ⟨ix_i (show SH[231]? = some (100, 4) from rfl) x2, ?_⟩
  refine ite_mono (fun hc h => ?_) (fun hc h => ?_) h
  · exact hQ _ _ hd h
  · exact t_X12_nextOf_p24 hR hQ hd h
/-! CalledRiverModel.laysWay -/
set_option maxHeartbeats 4000000 in
set_option maxRecDepth 100000 in
def sX12_laysWay_p47b (Q : St → Prop) (K47 : Int32 → St → Prop) (v2 : Int32) (u : St) : Prop :=
  if v2 = (-1 : Int32) then (Q u) else (vp_in (u.1 198 64) 36 ∧ bnd (tI u 242 (u.1 198 64).toNatClampNeg v2) (fun u10 => vp_in v2 36 ∧ bnd (tI u10 243 v2.toNatClampNeg (u10.1 198 64)) (fun u13 => bnd (tI u13 198 64 ((u13.1 198 64) + (1 : Int32))) (fun u14 => s_X12_nextOf v2 (fun r15 u16 => K47 r15 u16) u14))))
set_option maxHeartbeats 4000000 in
set_option maxRecDepth 100000 in
def sX12_laysWay_p47n (Q : St → Prop) : Nat → Int32 → St → Prop
  | 0 => fun _ _ => False
  | n + 1 => sX12_laysWay_p47b Q (sX12_laysWay_p47n Q n)
set_option maxHeartbeats 4000000 in
set_option maxRecDepth 100000 in
def sX12_laysWay_p47 (Q : St → Prop) (v2 : Int32) (u : St) : Prop := ∃ n, sX12_laysWay_p47n Q n v2 u
set_option maxHeartbeats 4000000 in
set_option maxRecDepth 100000 in
def sX12_laysWay_p46 (s0 : Int32) (Q : St → Prop) (u : St) : Prop :=
  sX12_laysWay_p47 Q s0 u
set_option maxHeartbeats 4000000 in
set_option maxRecDepth 100000 in
def sX12_laysWay_p12b (Q : St → Prop) (K12 : Int32 → St → Prop) (v2 : Int32) (u : St) : Prop :=
  if (36 : Int32) ≤ v2 then (s_X12_hasWay  (fun r3 u4 => if r3 = 0 then (sX12_laysWay_p46 (-1 : Int32) Q u4) else (sX12_laysWay_p46 (u4.1 198 44) Q u4)) u) else (vp_in v2 36 ∧ bnd (tI u 243 v2.toNatClampNeg (-1 : Int32)) (fun u7 => K12 (v2 + (1 : Int32)) u7))
set_option maxHeartbeats 4000000 in
set_option maxRecDepth 100000 in
def sX12_laysWay_p12n (Q : St → Prop) : Nat → Int32 → St → Prop
  | 0 => fun _ _ => False
  | n + 1 => sX12_laysWay_p12b Q (sX12_laysWay_p12n Q n)
set_option maxHeartbeats 4000000 in
set_option maxRecDepth 100000 in
def sX12_laysWay_p12 (Q : St → Prop) (v2 : Int32) (u : St) : Prop := ∃ n, sX12_laysWay_p12n Q n v2 u
set_option maxHeartbeats 4000000 in
set_option maxRecDepth 100000 in
def s_X12_laysWay (v1 : Int32) (Q : St → Prop) (u : St) : Prop :=
  bnd (tI u 198 59 v1) (fun u1 => bnd (tI u1 198 64 (0 : Int32)) (fun u2 => sX12_laysWay_p12 Q (0 : Int32) u2))
set_option maxHeartbeats 4000000 in
set_option maxRecDepth 100000 in
theorem t_X12_laysWay_p47b {ρ : Nat → Nat → Option Nat} (hR : RfH ρ) {v2 : Int32} {Q : St → Prop} {QW : Mem → Prop} (hQ : ∀ (u : St), DK u → Q u → QW (emb ρ u)) {K47 : Int32 → St → Prop} {KW47 : Int32 → Mem → Prop} (hK47 : ∀ (x2 : Int32) (u : St), DK u → K47 x2 u → KW47 x2 (emb ρ u)) {u : St} (hd : DK u) (h : sX12_laysWay_p47b Q K47 v2 u) : X12_laysWay_p47b SH 198 QW KW47 v2 (emb ρ u) := by
  unfold X12_laysWay_p47b
  unfold sX12_laysWay_p47b at h
  refine ite_mono (fun hc h => ?_) (fun hc h => ?_) h
  · exact hQ _ hd h
  · refine ⟨on_198, ?_⟩
    refine ⟨_, rn_198_63 hR _, ?_⟩
    obtain ⟨x9, h⟩ := h
    refine ⟨ix_i (show SH[242]? = some (100, 36) from rfl) x9, ?_⟩
    refine bnd_I ?_
    replace h := bnd_e h
    refine ⟨_, rn_198_65 hR _, ?_⟩
    obtain ⟨x12, h⟩ := h
    refine ⟨ix_i (show SH[243]? = some (100, 36) from rfl) x12, ?_⟩
    refine bnd_I ?_
    replace h := bnd_e h
    refine bnd_I ?_
    replace h := bnd_e h
    refine t_X12_nextOf hR (fun r15 u16 hd h => ?_) hd h
    exact hK47 _ _ hd h
set_option maxHeartbeats 4000000 in
set_option maxRecDepth 100000 in
theorem t_X12_laysWay_p47n {ρ : Nat → Nat → Option Nat} (hR : RfH ρ) {Q : St → Prop} {QW : Mem → Prop} (hQ : ∀ (u : St), DK u → Q u → QW (emb ρ u)) : ∀ (n : Nat) (v2 : Int32) (u : St), DK u → sX12_laysWay_p47n Q n v2 u → X12_laysWay_p47n SH 198 QW n v2 (emb ρ u)
  | 0, _, _,  _, h => h.elim
  | n + 1, v2,  u,  hd, h => t_X12_laysWay_p47b hR hQ (fun v2 u  hd h => t_X12_laysWay_p47n hR hQ n v2 u  hd h) hd h
set_option maxHeartbeats 4000000 in
set_option maxRecDepth 100000 in
theorem t_X12_laysWay_p47 {ρ : Nat → Nat → Option Nat} (hR : RfH ρ) {v2 : Int32} {Q : St → Prop} {QW : Mem → Prop} (hQ : ∀ (u : St), DK u → Q u → QW (emb ρ u)) {u : St} (hd : DK u) (h : sX12_laysWay_p47 Q v2 u) : X12_laysWay_p47 SH 198 QW v2 (emb ρ u) := h.elim (fun n h => ⟨n, t_X12_laysWay_p47n hR hQ n _ _ hd h⟩)
set_option maxHeartbeats 4000000 in
set_option maxRecDepth 100000 in
theorem t_X12_laysWay_p46 {ρ : Nat → Nat → Option Nat} (hR : RfH ρ) {s0 : Int32} {Q : St → Prop} {QW : Mem → Prop} (hQ : ∀ (u : St), DK u → Q u → QW (emb ρ u)) {u : St} (hd : DK u) (h : sX12_laysWay_p46 s0 Q u) : X12_laysWay_p46 SH 198 s0 QW (emb ρ u) := by
  unfold X12_laysWay_p46
  unfold sX12_laysWay_p46 at h
  exact t_X12_laysWay_p47 hR hQ hd h
set_option maxHeartbeats 4000000 in
set_option maxRecDepth 100000 in
theorem t_X12_laysWay_p12b {ρ : Nat → Nat → Option Nat} (hR : RfH ρ) {v2 : Int32} {Q : St → Prop} {QW : Mem → Prop} (hQ : ∀ (u : St), DK u → Q u → QW (emb ρ u)) {K12 : Int32 → St → Prop} {KW12 : Int32 → Mem → Prop} (hK12 : ∀ (x2 : Int32) (u : St), DK u → K12 x2 u → KW12 x2 (emb ρ u)) {u : St} (hd : DK u) (h : sX12_laysWay_p12b Q K12 v2 u) : X12_laysWay_p12b SH 198 QW KW12 v2 (emb ρ u) := by
  unfold X12_laysWay_p12b
  unfold sX12_laysWay_p12b at h
  refine ite_mono (fun hc h => ?_) (fun hc h => ?_) h
  · refine ⟨on_198, ?_⟩
    refine t_X12_hasWay hR (fun r3 u4 hd h => ?_) hd h
    refine ite_mono (fun hc h => ?_) (fun hc h => ?_) h
    · exact t_X12_laysWay_p46 hR hQ hd h
    · exact t_X12_laysWay_p46 hR hQ hd h
  · refine ⟨on_198, ?_⟩
    refine ⟨_, rn_198_65 hR _, ?_⟩
    obtain ⟨x6, h⟩ := h
    refine ⟨ix_i (show SH[243]? = some (100, 36) from rfl) x6, ?_⟩
    refine bnd_I ?_
    replace h := bnd_e h
    exact hK12 _ _ hd h
set_option maxHeartbeats 4000000 in
set_option maxRecDepth 100000 in
theorem t_X12_laysWay_p12n {ρ : Nat → Nat → Option Nat} (hR : RfH ρ) {Q : St → Prop} {QW : Mem → Prop} (hQ : ∀ (u : St), DK u → Q u → QW (emb ρ u)) : ∀ (n : Nat) (v2 : Int32) (u : St), DK u → sX12_laysWay_p12n Q n v2 u → X12_laysWay_p12n SH 198 QW n v2 (emb ρ u)
  | 0, _, _,  _, h => h.elim
  | n + 1, v2,  u,  hd, h => t_X12_laysWay_p12b hR hQ (fun v2 u  hd h => t_X12_laysWay_p12n hR hQ n v2 u  hd h) hd h
set_option maxHeartbeats 4000000 in
set_option maxRecDepth 100000 in
theorem t_X12_laysWay_p12 {ρ : Nat → Nat → Option Nat} (hR : RfH ρ) {v2 : Int32} {Q : St → Prop} {QW : Mem → Prop} (hQ : ∀ (u : St), DK u → Q u → QW (emb ρ u)) {u : St} (hd : DK u) (h : sX12_laysWay_p12 Q v2 u) : X12_laysWay_p12 SH 198 QW v2 (emb ρ u) := h.elim (fun n h => ⟨n, t_X12_laysWay_p12n hR hQ n _ _ hd h⟩)
set_option maxHeartbeats 4000000 in
set_option maxRecDepth 100000 in
theorem t_X12_laysWay {ρ : Nat → Nat → Option Nat} (hR : RfH ρ) {v1 : Int32} {Q : St → Prop} {QW : Mem → Prop} (hQ : ∀ (u : St), DK u → Q u → QW (emb ρ u)) {u : St} (hd : DK u) (h : s_X12_laysWay v1 Q u) : wp_X12_laysWay SH 198 v1 QW (emb ρ u) := by
  unfold wp_X12_laysWay
  unfold s_X12_laysWay at h
  refine ⟨on_198, ?_⟩
  refine bnd_I ?_
  replace h := bnd_e h
  refine bnd_I ?_
  replace h := bnd_e h
  exact t_X12_laysWay_p12 hR hQ hd h
/-! CalledRiverModel.laysSteps -/
set_option maxHeartbeats 4000000 in
set_option maxRecDepth 100000 in
def sX12_laysSteps_p7b (v1 : Int32) (Q : St → Prop) (K7 : Int32 → St → Prop) (v2 : Int32) (u : St) : Prop :=
  s_X12_farmMany  (fun r3 u4 => if r3 ≤ v2 then (Q u4) else (s_X12_cellOf v2 (fun r7 u8 => vp_in r7 36 ∧ (vp_in (((6 : Int32) * v1) + v2) 30 ∧ bnd (tI u8 244 (((6 : Int32) * v1) + v2).toNatClampNeg (u8.1 243 r7.toNatClampNeg)) (fun u11 => K7 (v2 + (1 : Int32)) u11))) u4)) u
set_option maxHeartbeats 4000000 in
set_option maxRecDepth 100000 in
def sX12_laysSteps_p7n (v1 : Int32) (Q : St → Prop) : Nat → Int32 → St → Prop
  | 0 => fun _ _ => False
  | n + 1 => sX12_laysSteps_p7b v1 Q (sX12_laysSteps_p7n v1 Q n)
set_option maxHeartbeats 4000000 in
set_option maxRecDepth 100000 in
def sX12_laysSteps_p7 (v1 : Int32) (Q : St → Prop) (v2 : Int32) (u : St) : Prop := ∃ n, sX12_laysSteps_p7n v1 Q n v2 u
set_option maxHeartbeats 4000000 in
set_option maxRecDepth 100000 in
def s_X12_laysSteps (v1 : Int32) (Q : St → Prop) (u : St) : Prop :=
  s_X12_laysWay v1 (fun u2 => sX12_laysSteps_p7 v1 Q (0 : Int32) u2) u
set_option maxHeartbeats 4000000 in
set_option maxRecDepth 100000 in
theorem t_X12_laysSteps_p7b {ρ : Nat → Nat → Option Nat} (hR : RfH ρ) {v1 : Int32} {v2 : Int32} {Q : St → Prop} {QW : Mem → Prop} (hQ : ∀ (u : St), DK u → Q u → QW (emb ρ u)) {K7 : Int32 → St → Prop} {KW7 : Int32 → Mem → Prop} (hK7 : ∀ (x2 : Int32) (u : St), DK u → K7 x2 u → KW7 x2 (emb ρ u)) {u : St} (hd : DK u) (h : sX12_laysSteps_p7b v1 Q K7 v2 u) : X12_laysSteps_p7b SH 198 v1 QW KW7 v2 (emb ρ u) := by
  unfold X12_laysSteps_p7b
  unfold sX12_laysSteps_p7b at h
  refine ⟨on_198, ?_⟩
  refine t_X12_farmMany hR (fun r3 u4 hd h => ?_) hd h
  refine ite_mono (fun hc h => ?_) (fun hc h => ?_) h
  · exact hQ _ hd h
  · refine ⟨_, rn_198_66 hR _, ?_⟩
    refine ⟨_, rn_198_65 hR _, ?_⟩
    refine t_X12_cellOf hR (fun r7 u8 hd h => ?_) hd h
    obtain ⟨x9, h⟩ := h
    refine ⟨ix_i (show SH[243]? = some (100, 36) from rfl) x9, ?_⟩
    obtain ⟨x10, h⟩ := h
    refine ⟨ix_i (show SH[244]? = some (100, 30) from rfl) x10, ?_⟩
    refine bnd_I ?_
    replace h := bnd_e h
    exact hK7 _ _ hd h
set_option maxHeartbeats 4000000 in
set_option maxRecDepth 100000 in
theorem t_X12_laysSteps_p7n {ρ : Nat → Nat → Option Nat} (hR : RfH ρ) {v1 : Int32} {Q : St → Prop} {QW : Mem → Prop} (hQ : ∀ (u : St), DK u → Q u → QW (emb ρ u)) : ∀ (n : Nat) (v2 : Int32) (u : St), DK u → sX12_laysSteps_p7n v1 Q n v2 u → X12_laysSteps_p7n SH 198 v1 QW n v2 (emb ρ u)
  | 0, _, _,  _, h => h.elim
  | n + 1, v2,  u,  hd, h => t_X12_laysSteps_p7b hR hQ (fun v2 u  hd h => t_X12_laysSteps_p7n hR hQ n v2 u  hd h) hd h
set_option maxHeartbeats 4000000 in
set_option maxRecDepth 100000 in
theorem t_X12_laysSteps_p7 {ρ : Nat → Nat → Option Nat} (hR : RfH ρ) {v1 : Int32} {v2 : Int32} {Q : St → Prop} {QW : Mem → Prop} (hQ : ∀ (u : St), DK u → Q u → QW (emb ρ u)) {u : St} (hd : DK u) (h : sX12_laysSteps_p7 v1 Q v2 u) : X12_laysSteps_p7 SH 198 v1 QW v2 (emb ρ u) := h.elim (fun n h => ⟨n, t_X12_laysSteps_p7n hR hQ n _ _ hd h⟩)
set_option maxHeartbeats 4000000 in
set_option maxRecDepth 100000 in
theorem t_X12_laysSteps {ρ : Nat → Nat → Option Nat} (hR : RfH ρ) {v1 : Int32} {Q : St → Prop} {QW : Mem → Prop} (hQ : ∀ (u : St), DK u → Q u → QW (emb ρ u)) {u : St} (hd : DK u) (h : s_X12_laysSteps v1 Q u) : wp_X12_laysSteps SH 198 v1 QW (emb ρ u) := by
  unfold wp_X12_laysSteps
  unfold s_X12_laysSteps at h
  refine ⟨on_198, ?_⟩
  refine t_X12_laysWay hR (fun u2 hd h => ?_) hd h
  exact t_X12_laysSteps_p7 hR hQ hd h
/-! CalledRiverModel.look -/
set_option maxHeartbeats 4000000 in
set_option maxRecDepth 100000 in
def sX12_look_p39 (Q : Int32 → St → Prop) (K0 : St → Prop) (u : St) : Prop :=
  bnd (tI u 198 2 ((u.1 198 2) + (1 : Int32))) (fun u5 => K0 u5)
set_option maxHeartbeats 4000000 in
set_option maxRecDepth 100000 in
def sX12_look_p52 (Q : Int32 → St → Prop) (u : St) : Prop :=
  if (u.1 198 3) ≤ (u.1 198 2) then (Q (-1 : Int32) u) else (vp_in (u.1 198 2) 1600 ∧ (Q (u.1 199 (u.1 198 2).toNatClampNeg) u))
set_option maxHeartbeats 4000000 in
set_option maxRecDepth 100000 in
def sX12_look_p0b (Q : Int32 → St → Prop) (K0 : St → Prop) (u : St) : Prop :=
  if (u.1 198 3) ≤ (u.1 198 2) then (sX12_look_p52 Q u) else (vp_in (u.1 198 2) 1600 ∧ (if (u.1 199 (u.1 198 2).toNatClampNeg) = (10 : Int32) then (sX12_look_p39 Q K0 u) else (if (u.1 199 (u.1 198 2).toNatClampNeg) = (32 : Int32) then (sX12_look_p39 Q K0 u) else (sX12_look_p52 Q u))))
set_option maxHeartbeats 4000000 in
set_option maxRecDepth 100000 in
def sX12_look_p0n (Q : Int32 → St → Prop) : Nat → St → Prop
  | 0 => fun _ => False
  | n + 1 => sX12_look_p0b Q (sX12_look_p0n Q n)
set_option maxHeartbeats 4000000 in
set_option maxRecDepth 100000 in
def sX12_look_p0 (Q : Int32 → St → Prop) (u : St) : Prop := ∃ n, sX12_look_p0n Q n u
set_option maxHeartbeats 4000000 in
set_option maxRecDepth 100000 in
def s_X12_look (Q : Int32 → St → Prop) (u : St) : Prop :=
  sX12_look_p0 Q u
set_option maxHeartbeats 4000000 in
set_option maxRecDepth 100000 in
theorem t_X12_look_p39 {ρ : Nat → Nat → Option Nat} (hR : RfH ρ) {Q : Int32 → St → Prop} {QW : Int32 → Mem → Prop} {K0 : St → Prop} {KW0 : Mem → Prop} (hQ : ∀ (r : Int32) (u : St), DK u → Q r u → QW r (emb ρ u)) (hK0 : ∀ (u : St), DK u → K0 u → KW0 (emb ρ u)) {u : St} (hd : DK u) (h : sX12_look_p39 Q K0 u) : X12_look_p39 SH 198 QW KW0 (emb ρ u) := by
  unfold X12_look_p39
  unfold sX12_look_p39 at h
  refine ⟨on_198, ?_⟩
  refine bnd_I ?_
  replace h := bnd_e h
  exact hK0  _ hd h
set_option maxHeartbeats 4000000 in
set_option maxRecDepth 100000 in
theorem t_X12_look_p52 {ρ : Nat → Nat → Option Nat} (hR : RfH ρ) {Q : Int32 → St → Prop} {QW : Int32 → Mem → Prop} (hQ : ∀ (r : Int32) (u : St), DK u → Q r u → QW r (emb ρ u)) {u : St} (hd : DK u) (h : sX12_look_p52 Q u) : X12_look_p52 SH 198 QW (emb ρ u) := by
  unfold X12_look_p52
  unfold sX12_look_p52 at h
  refine ⟨on_198, ?_⟩
  refine ite_mono (fun hc h => ?_) (fun hc h => ?_) h
  · exact hQ _ _ hd h
  · refine ⟨_, rn_198_0 hR _, ?_⟩
    obtain ⟨x4, h⟩ := h
    refine ⟨ix_i (show SH[199]? = some (100, 1600) from rfl) x4, ?_⟩
    exact hQ _ _ hd h
set_option maxHeartbeats 4000000 in
set_option maxRecDepth 100000 in
theorem t_X12_look_p0b {ρ : Nat → Nat → Option Nat} (hR : RfH ρ) {Q : Int32 → St → Prop} {QW : Int32 → Mem → Prop} (hQ : ∀ (r : Int32) (u : St), DK u → Q r u → QW r (emb ρ u)) {K0 : St → Prop} {KW0 : Mem → Prop} (hK0 : ∀ (u : St), DK u → K0 u → KW0 (emb ρ u)) {u : St} (hd : DK u) (h : sX12_look_p0b Q K0 u) : X12_look_p0b SH 198 QW KW0 (emb ρ u) := by
  unfold X12_look_p0b
  unfold sX12_look_p0b at h
  refine ⟨on_198, ?_⟩
  refine ite_mono (fun hc h => ?_) (fun hc h => ?_) h
  · exact t_X12_look_p52 hR hQ hd h
  · refine ⟨_, rn_198_0 hR _, ?_⟩
    obtain ⟨x2, h⟩ := h
    refine ⟨ix_i (show SH[199]? = some (100, 1600) from rfl) x2, ?_⟩
    refine ite_mono (fun hc h => ?_) (fun hc h => ?_) h
    · exact t_X12_look_p39 hR hQ hK0 hd h
    · refine ite_mono (fun hc h => ?_) (fun hc h => ?_) h
      · exact t_X12_look_p39 hR hQ hK0 hd h
      · exact t_X12_look_p52 hR hQ hd h
set_option maxHeartbeats 4000000 in
set_option maxRecDepth 100000 in
theorem t_X12_look_p0n {ρ : Nat → Nat → Option Nat} (hR : RfH ρ) {Q : Int32 → St → Prop} {QW : Int32 → Mem → Prop} (hQ : ∀ (r : Int32) (u : St), DK u → Q r u → QW r (emb ρ u)) : ∀ (n : Nat) (u : St), DK u → sX12_look_p0n Q n u → X12_look_p0n SH 198 QW n (emb ρ u)
  | 0,  _,  _, h => h.elim
  | n + 1,  u,  hd, h => t_X12_look_p0b hR hQ (fun  u  hd h => t_X12_look_p0n hR hQ n  u  hd h) hd h
set_option maxHeartbeats 4000000 in
set_option maxRecDepth 100000 in
theorem t_X12_look_p0 {ρ : Nat → Nat → Option Nat} (hR : RfH ρ) {Q : Int32 → St → Prop} {QW : Int32 → Mem → Prop} (hQ : ∀ (r : Int32) (u : St), DK u → Q r u → QW r (emb ρ u)) {u : St} (hd : DK u) (h : sX12_look_p0 Q u) : X12_look_p0 SH 198 QW (emb ρ u) := h.elim (fun n h => ⟨n, t_X12_look_p0n hR hQ n _ hd h⟩)
set_option maxHeartbeats 4000000 in
set_option maxRecDepth 100000 in
theorem t_X12_look {ρ : Nat → Nat → Option Nat} (hR : RfH ρ) {Q : Int32 → St → Prop} {QW : Int32 → Mem → Prop} (hQ : ∀ (r : Int32) (u : St), DK u → Q r u → QW r (emb ρ u)) {u : St} (hd : DK u) (h : s_X12_look Q u) : wp_X12_look SH 198 QW (emb ρ u) := by
  unfold wp_X12_look
  unfold s_X12_look at h
  exact t_X12_look_p0 hR hQ hd h
/-! CalledRiverModel.isLetter -/
set_option maxHeartbeats 4000000 in
set_option maxRecDepth 100000 in
def s_X12_isLetter (v0 : Int32) (Q : Int32 → St → Prop) (u : St) : Prop :=
  if v0 < (97 : Int32) then (Q (0 : Int32) u) else (if (122 : Int32) < v0 then (Q (0 : Int32) u) else (Q (1 : Int32) u))
set_option maxHeartbeats 4000000 in
set_option maxRecDepth 100000 in
theorem t_X12_isLetter {ρ : Nat → Nat → Option Nat} (hR : RfH ρ) {v0 : Int32} {Q : Int32 → St → Prop} {QW : Int32 → Mem → Prop} (hQ : ∀ (r : Int32) (u : St), DK u → Q r u → QW r (emb ρ u)) {u : St} (hd : DK u) (h : s_X12_isLetter v0 Q u) : wp_X12_isLetter SH v0 QW (emb ρ u) := by
  unfold wp_X12_isLetter
  unfold s_X12_isLetter at h
  refine ite_mono (fun hc h => ?_) (fun hc h => ?_) h
  · exact hQ _ _ hd h
  · refine ite_mono (fun hc h => ?_) (fun hc h => ?_) h
    · exact hQ _ _ hd h
    · exact hQ _ _ hd h
/-! CalledRiverModel.isHere -/
set_option maxHeartbeats 4000000 in
set_option maxRecDepth 100000 in
def sX12_isHere_p76b (v1 : Nat) (Q : Int32 → St → Prop) (K76 : Int32 → St → Prop) (v3 : Int32) (u : St) : Prop :=
  ∃ n11 : Nat, Ar SH v1 101 n11 ∧ (if (nI n11) ≤ v3 then (Q (1 : Int32) u) else (vp_in ((u.1 198 2) + v3) 1600 ∧ (Ix SH v1 101 v3 ∧ (if (u.1 199 ((u.1 198 2) + v3).toNatClampNeg) = (u.1 v1 v3.toNatClampNeg) then (K76 (v3 + (1 : Int32)) u) else (Q (0 : Int32) u)))))
set_option maxHeartbeats 4000000 in
set_option maxRecDepth 100000 in
def sX12_isHere_p76n (v1 : Nat) (Q : Int32 → St → Prop) : Nat → Int32 → St → Prop
  | 0 => fun _ _ => False
  | n + 1 => sX12_isHere_p76b v1 Q (sX12_isHere_p76n v1 Q n)
set_option maxHeartbeats 4000000 in
set_option maxRecDepth 100000 in
def sX12_isHere_p76 (v1 : Nat) (Q : Int32 → St → Prop) (v3 : Int32) (u : St) : Prop := ∃ n, sX12_isHere_p76n v1 Q n v3 u
set_option maxHeartbeats 4000000 in
set_option maxRecDepth 100000 in
def sX12_isHere_p61 (v1 : Nat) (v2 : Int32) (Q : Int32 → St → Prop) (u : St) : Prop :=
  ∃ n9 : Nat, Ar SH v1 101 n9 ∧ (if (v2 - (u.1 198 2)) = (nI n9) then (sX12_isHere_p76 v1 Q (0 : Int32) u) else (Q (0 : Int32) u))
set_option maxHeartbeats 4000000 in
set_option maxRecDepth 100000 in
def sX12_isHere_p35b (v1 : Nat) (Q : Int32 → St → Prop) (K35 : Int32 → St → Prop) (v2 : Int32) (u : St) : Prop :=
  if (u.1 198 3) ≤ v2 then (sX12_isHere_p61 v1 v2 Q u) else (vp_in v2 1600 ∧ (s_X12_isLetter (u.1 199 v2.toNatClampNeg) (fun r7 u8 => if r7 = 0 then (sX12_isHere_p61 v1 v2 Q u8) else (K35 (v2 + (1 : Int32)) u8)) u))
set_option maxHeartbeats 4000000 in
set_option maxRecDepth 100000 in
def sX12_isHere_p35n (v1 : Nat) (Q : Int32 → St → Prop) : Nat → Int32 → St → Prop
  | 0 => fun _ _ => False
  | n + 1 => sX12_isHere_p35b v1 Q (sX12_isHere_p35n v1 Q n)
set_option maxHeartbeats 4000000 in
set_option maxRecDepth 100000 in
def sX12_isHere_p35 (v1 : Nat) (Q : Int32 → St → Prop) (v2 : Int32) (u : St) : Prop := ∃ n, sX12_isHere_p35n v1 Q n v2 u
set_option maxHeartbeats 4000000 in
set_option maxRecDepth 100000 in
def s_X12_isHere (v1 : Nat) (Q : Int32 → St → Prop) (u : St) : Prop :=
  if (u.1 198 5) = 0 then (s_X12_look  (fun r1 u2 => s_X12_isLetter r1 (fun r3 u4 => if r3 = 0 then (Q (0 : Int32) u4) else (if (u4.1 198 2) = (u4.1 198 4) then (Q (0 : Int32) u4) else (sX12_isHere_p35 v1 Q (u4.1 198 2) u4))) u2) u) else (Q (0 : Int32) u)
set_option maxHeartbeats 4000000 in
set_option maxRecDepth 100000 in
theorem t_X12_isHere_p76b {ρ : Nat → Nat → Option Nat} (hR : RfH ρ) {v1 : Nat} {v3 : Int32} {Q : Int32 → St → Prop} {QW : Int32 → Mem → Prop} (hQ : ∀ (r : Int32) (u : St), DK u → Q r u → QW r (emb ρ u)) {K76 : Int32 → St → Prop} {KW76 : Int32 → Mem → Prop} (hK76 : ∀ (x3 : Int32) (u : St), DK u → K76 x3 u → KW76 x3 (emb ρ u)) {u : St} (hd : DK u) (h : sX12_isHere_p76b v1 Q K76 v3 u) : X12_isHere_p76b SH 198 v1 QW KW76 v3 (emb ρ u) := by
  unfold X12_isHere_p76b
  unfold sX12_isHere_p76b at h
  obtain ⟨n11, hn, h⟩ := h
  refine ⟨n11, hn, ?_⟩
  refine ite_mono (fun hc h => ?_) (fun hc h => ?_) h
  · exact hQ _ _ hd h
  · refine ⟨on_198, ?_⟩
    refine ⟨_, rn_198_0 hR _, ?_⟩
    obtain ⟨x14, h⟩ := h
    refine ⟨ix_i (show SH[199]? = some (100, 1600) from rfl) x14, ?_⟩
    obtain ⟨x15, h⟩ := h
    refine ⟨x15, ?_⟩
    refine ite_mono (fun hc h => ?_) (fun hc h => ?_) h
    · exact hK76 _ _ hd h
    · exact hQ _ _ hd h
set_option maxHeartbeats 4000000 in
set_option maxRecDepth 100000 in
theorem t_X12_isHere_p76n {ρ : Nat → Nat → Option Nat} (hR : RfH ρ) {v1 : Nat} {Q : Int32 → St → Prop} {QW : Int32 → Mem → Prop} (hQ : ∀ (r : Int32) (u : St), DK u → Q r u → QW r (emb ρ u)) : ∀ (n : Nat) (v3 : Int32) (u : St), DK u → sX12_isHere_p76n v1 Q n v3 u → X12_isHere_p76n SH 198 v1 QW n v3 (emb ρ u)
  | 0, _, _,  _, h => h.elim
  | n + 1, v3,  u,  hd, h => t_X12_isHere_p76b hR hQ (fun v3 u  hd h => t_X12_isHere_p76n hR hQ n v3 u  hd h) hd h
set_option maxHeartbeats 4000000 in
set_option maxRecDepth 100000 in
theorem t_X12_isHere_p76 {ρ : Nat → Nat → Option Nat} (hR : RfH ρ) {v1 : Nat} {v3 : Int32} {Q : Int32 → St → Prop} {QW : Int32 → Mem → Prop} (hQ : ∀ (r : Int32) (u : St), DK u → Q r u → QW r (emb ρ u)) {u : St} (hd : DK u) (h : sX12_isHere_p76 v1 Q v3 u) : X12_isHere_p76 SH 198 v1 QW v3 (emb ρ u) := h.elim (fun n h => ⟨n, t_X12_isHere_p76n hR hQ n _ _ hd h⟩)
set_option maxHeartbeats 4000000 in
set_option maxRecDepth 100000 in
theorem t_X12_isHere_p61 {ρ : Nat → Nat → Option Nat} (hR : RfH ρ) {v1 : Nat} {v2 : Int32} {Q : Int32 → St → Prop} {QW : Int32 → Mem → Prop} (hQ : ∀ (r : Int32) (u : St), DK u → Q r u → QW r (emb ρ u)) {u : St} (hd : DK u) (h : sX12_isHere_p61 v1 v2 Q u) : X12_isHere_p61 SH 198 v1 v2 QW (emb ρ u) := by
  unfold X12_isHere_p61
  unfold sX12_isHere_p61 at h
  refine ⟨on_198, ?_⟩
  obtain ⟨n9, hn, h⟩ := h
  refine ⟨n9, hn, ?_⟩
  refine ite_mono (fun hc h => ?_) (fun hc h => ?_) h
  · exact t_X12_isHere_p76 hR hQ hd h
  · exact hQ _ _ hd h
set_option maxHeartbeats 4000000 in
set_option maxRecDepth 100000 in
theorem t_X12_isHere_p35b {ρ : Nat → Nat → Option Nat} (hR : RfH ρ) {v1 : Nat} {v2 : Int32} {Q : Int32 → St → Prop} {QW : Int32 → Mem → Prop} (hQ : ∀ (r : Int32) (u : St), DK u → Q r u → QW r (emb ρ u)) {K35 : Int32 → St → Prop} {KW35 : Int32 → Mem → Prop} (hK35 : ∀ (x2 : Int32) (u : St), DK u → K35 x2 u → KW35 x2 (emb ρ u)) {u : St} (hd : DK u) (h : sX12_isHere_p35b v1 Q K35 v2 u) : X12_isHere_p35b SH 198 v1 QW KW35 v2 (emb ρ u) := by
  unfold X12_isHere_p35b
  unfold sX12_isHere_p35b at h
  refine ⟨on_198, ?_⟩
  refine ite_mono (fun hc h => ?_) (fun hc h => ?_) h
  · exact t_X12_isHere_p61 hR hQ hd h
  · refine ⟨_, rn_198_0 hR _, ?_⟩
    obtain ⟨x6, h⟩ := h
    refine ⟨ix_i (show SH[199]? = some (100, 1600) from rfl) x6, ?_⟩
    refine t_X12_isLetter hR (fun r7 u8 hd h => ?_) hd h
    refine ite_mono (fun hc h => ?_) (fun hc h => ?_) h
    · exact t_X12_isHere_p61 hR hQ hd h
    · exact hK35 _ _ hd h
set_option maxHeartbeats 4000000 in
set_option maxRecDepth 100000 in
theorem t_X12_isHere_p35n {ρ : Nat → Nat → Option Nat} (hR : RfH ρ) {v1 : Nat} {Q : Int32 → St → Prop} {QW : Int32 → Mem → Prop} (hQ : ∀ (r : Int32) (u : St), DK u → Q r u → QW r (emb ρ u)) : ∀ (n : Nat) (v2 : Int32) (u : St), DK u → sX12_isHere_p35n v1 Q n v2 u → X12_isHere_p35n SH 198 v1 QW n v2 (emb ρ u)
  | 0, _, _,  _, h => h.elim
  | n + 1, v2,  u,  hd, h => t_X12_isHere_p35b hR hQ (fun v2 u  hd h => t_X12_isHere_p35n hR hQ n v2 u  hd h) hd h
set_option maxHeartbeats 4000000 in
set_option maxRecDepth 100000 in
theorem t_X12_isHere_p35 {ρ : Nat → Nat → Option Nat} (hR : RfH ρ) {v1 : Nat} {v2 : Int32} {Q : Int32 → St → Prop} {QW : Int32 → Mem → Prop} (hQ : ∀ (r : Int32) (u : St), DK u → Q r u → QW r (emb ρ u)) {u : St} (hd : DK u) (h : sX12_isHere_p35 v1 Q v2 u) : X12_isHere_p35 SH 198 v1 QW v2 (emb ρ u) := h.elim (fun n h => ⟨n, t_X12_isHere_p35n hR hQ n _ _ hd h⟩)
set_option maxHeartbeats 4000000 in
set_option maxRecDepth 100000 in
theorem t_X12_isHere {ρ : Nat → Nat → Option Nat} (hR : RfH ρ) {v1 : Nat} {Q : Int32 → St → Prop} {QW : Int32 → Mem → Prop} (hQ : ∀ (r : Int32) (u : St), DK u → Q r u → QW r (emb ρ u)) {u : St} (hd : DK u) (h : s_X12_isHere v1 Q u) : wp_X12_isHere SH 198 v1 QW (emb ρ u) := by
  unfold wp_X12_isHere
  unfold s_X12_isHere at h
  refine ⟨on_198, ?_⟩
  refine ite_mono (fun hc h => ?_) (fun hc h => ?_) h
  · refine t_X12_look hR (fun r1 u2 hd h => ?_) hd h
    refine t_X12_isLetter hR (fun r3 u4 hd h => ?_) hd h
    refine ite_mono (fun hc h => ?_) (fun hc h => ?_) h
    · exact hQ _ _ hd h
    · refine ite_mono (fun hc h => ?_) (fun hc h => ?_) h
      · exact hQ _ _ hd h
      · exact t_X12_isHere_p35 hR hQ hd h
  · exact hQ _ _ hd h
/-! CalledRiverModel.takes -/
set_option maxHeartbeats 4000000 in
set_option maxRecDepth 100000 in
def s_X12_takes (v1 : Nat) (Q : Int32 → St → Prop) (u : St) : Prop :=
  s_X12_isHere v1 (fun r1 u2 => if r1 = 0 then (Q (0 : Int32) u2) else (∃ n3 : Nat, Ar SH v1 101 n3 ∧ (bnd (tI u2 198 2 ((u2.1 198 2) + (nI n3))) (fun u5 => bnd (tI u5 198 4 (u5.1 198 2)) (fun u6 => Q (1 : Int32) u6))))) u
set_option maxHeartbeats 4000000 in
set_option maxRecDepth 100000 in
theorem t_X12_takes {ρ : Nat → Nat → Option Nat} (hR : RfH ρ) {v1 : Nat} {Q : Int32 → St → Prop} {QW : Int32 → Mem → Prop} (hQ : ∀ (r : Int32) (u : St), DK u → Q r u → QW r (emb ρ u)) {u : St} (hd : DK u) (h : s_X12_takes v1 Q u) : wp_X12_takes SH 198 v1 QW (emb ρ u) := by
  unfold wp_X12_takes
  unfold s_X12_takes at h
  refine ⟨on_198, ?_⟩
  refine t_X12_isHere hR (fun r1 u2 hd h => ?_) hd h
  refine ite_mono (fun hc h => ?_) (fun hc h => ?_) h
  · exact hQ _ _ hd h
  · obtain ⟨n3, hn, h⟩ := h
    refine ⟨n3, hn, ?_⟩
    refine bnd_I ?_
    replace h := bnd_e h
    refine bnd_I ?_
    replace h := bnd_e h
    exact hQ _ _ hd h
/-! CalledRiverModel.asks -/
set_option maxHeartbeats 4000000 in
set_option maxRecDepth 100000 in
def s_X12_asks (v1 : Nat) (Q : St → Prop) (u : St) : Prop :=
  if (u.1 198 5) = 0 then (s_X12_takes v1 (fun r1 u2 => if r1 = 0 then (s_X12_fail (1 : Int32) (u2.1 198 2) (fun u4 => Q u4) u2) else (Q u2)) u) else (Q u)
set_option maxHeartbeats 4000000 in
set_option maxRecDepth 100000 in
theorem t_X12_asks {ρ : Nat → Nat → Option Nat} (hR : RfH ρ) {v1 : Nat} {Q : St → Prop} {QW : Mem → Prop} (hQ : ∀ (u : St), DK u → Q u → QW (emb ρ u)) {u : St} (hd : DK u) (h : s_X12_asks v1 Q u) : wp_X12_asks SH 198 v1 QW (emb ρ u) := by
  unfold wp_X12_asks
  unfold s_X12_asks at h
  refine ⟨on_198, ?_⟩
  refine ite_mono (fun hc h => ?_) (fun hc h => ?_) h
  · refine t_X12_takes hR (fun r1 u2 hd h => ?_) hd h
    refine ite_mono (fun hc h => ?_) (fun hc h => ?_) h
    · refine t_X12_fail hR (fun u4 hd h => ?_) hd h
      exact hQ _ hd h
    · exact hQ _ hd h
  · exact hQ _ hd h
/-! CalledRiverModel.qKind -/
set_option maxHeartbeats 4000000 in
set_option maxRecDepth 100000 in
def sX12_qKind_p76 (s0 : Int32) (Q : Int32 → St → Prop) (u : St) : Prop :=
  if s0 = (5 : Int32) then (s_X12_asks 260 (fun u18 => Q s0 u18) u) else (Q s0 u)
set_option maxHeartbeats 4000000 in
set_option maxRecDepth 100000 in
def s_X12_qKind (Q : Int32 → St → Prop) (u : St) : Prop :=
  s_X12_takes 255 (fun r2 u3 => if r2 = 0 then (s_X12_takes 256 (fun r5 u6 => if r5 = 0 then (s_X12_takes 257 (fun r8 u9 => if r8 = 0 then (s_X12_takes 258 (fun r11 u12 => if r11 = 0 then (s_X12_takes 259 (fun r14 u15 => if r14 = 0 then (sX12_qKind_p76 (5 : Int32) Q u15) else (sX12_qKind_p76 (4 : Int32) Q u15)) u12) else (sX12_qKind_p76 (3 : Int32) Q u12)) u9) else (sX12_qKind_p76 (2 : Int32) Q u9)) u6) else (sX12_qKind_p76 (1 : Int32) Q u6)) u3) else (sX12_qKind_p76 (0 : Int32) Q u3)) u
set_option maxHeartbeats 4000000 in
set_option maxRecDepth 100000 in
theorem t_X12_qKind_p76 {ρ : Nat → Nat → Option Nat} (hR : RfH ρ) {s0 : Int32} {Q : Int32 → St → Prop} {QW : Int32 → Mem → Prop} (hQ : ∀ (r : Int32) (u : St), DK u → Q r u → QW r (emb ρ u)) {u : St} (hd : DK u) (h : sX12_qKind_p76 s0 Q u) : X12_qKind_p76 SH 198 s0 QW (emb ρ u) := by
  unfold X12_qKind_p76
  unfold sX12_qKind_p76 at h
  refine ite_mono (fun hc h => ?_) (fun hc h => ?_) h
  · refine ⟨on_198, ?_⟩
    refine ⟨_, rn_198_86 hR _, ?_⟩
    refine t_X12_asks hR (fun u18 hd h => ?_) hd h
    exact hQ _ _ hd h
  · exact hQ _ _ hd h
set_option maxHeartbeats 4000000 in
set_option maxRecDepth 100000 in
theorem t_X12_qKind {ρ : Nat → Nat → Option Nat} (hR : RfH ρ) {Q : Int32 → St → Prop} {QW : Int32 → Mem → Prop} (hQ : ∀ (r : Int32) (u : St), DK u → Q r u → QW r (emb ρ u)) {u : St} (hd : DK u) (h : s_X12_qKind Q u) : wp_X12_qKind SH 198 QW (emb ρ u) := by
  unfold wp_X12_qKind
  unfold s_X12_qKind at h
  refine ⟨on_198, ?_⟩
  refine ⟨_, rn_198_81 hR _, ?_⟩
  refine t_X12_takes hR (fun r2 u3 hd h => ?_) hd h
  refine ite_mono (fun hc h => ?_) (fun hc h => ?_) h
  · refine ⟨_, rn_198_82 hR _, ?_⟩
    refine t_X12_takes hR (fun r5 u6 hd h => ?_) hd h
    refine ite_mono (fun hc h => ?_) (fun hc h => ?_) h
    · refine ⟨_, rn_198_83 hR _, ?_⟩
      refine t_X12_takes hR (fun r8 u9 hd h => ?_) hd h
      refine ite_mono (fun hc h => ?_) (fun hc h => ?_) h
      · refine ⟨_, rn_198_84 hR _, ?_⟩
        refine t_X12_takes hR (fun r11 u12 hd h => ?_) hd h
        refine ite_mono (fun hc h => ?_) (fun hc h => ?_) h
        · refine ⟨_, rn_198_85 hR _, ?_⟩
          refine t_X12_takes hR (fun r14 u15 hd h => ?_) hd h
          refine ite_mono (fun hc h => ?_) (fun hc h => ?_) h
          · exact t_X12_qKind_p76 hR hQ hd h
          · exact t_X12_qKind_p76 hR hQ hd h
        · exact t_X12_qKind_p76 hR hQ hd h
      · exact t_X12_qKind_p76 hR hQ hd h
    · exact t_X12_qKind_p76 hR hQ hd h
  · exact t_X12_qKind_p76 hR hQ hd h
/-! CalledRiverModel.qCode -/
set_option maxHeartbeats 4000000 in
set_option maxRecDepth 100000 in
def s_X12_qCode (v1 : Int32) (Q : St → Prop) (u : St) : Prop :=
  vp_in (u.1 198 109) 1700 ∧ bnd (tI u 282 (u.1 198 109).toNatClampNeg v1) (fun u3 => bnd (tI u3 198 109 ((u3.1 198 109) + (1 : Int32))) (fun u4 => Q u4))
set_option maxHeartbeats 4000000 in
set_option maxRecDepth 100000 in
theorem t_X12_qCode {ρ : Nat → Nat → Option Nat} (hR : RfH ρ) {v1 : Int32} {Q : St → Prop} {QW : Mem → Prop} (hQ : ∀ (u : St), DK u → Q u → QW (emb ρ u)) {u : St} (hd : DK u) (h : s_X12_qCode v1 Q u) : wp_X12_qCode SH 198 v1 QW (emb ρ u) := by
  unfold wp_X12_qCode
  unfold s_X12_qCode at h
  refine ⟨on_198, ?_⟩
  refine ⟨_, rn_198_108 hR _, ?_⟩
  obtain ⟨x2, h⟩ := h
  refine ⟨ix_i (show SH[282]? = some (100, 1700) from rfl) x2, ?_⟩
  refine bnd_I ?_
  replace h := bnd_e h
  refine bnd_I ?_
  replace h := bnd_e h
  exact hQ _ hd h
/-! CalledRiverModel.qDrops -/
set_option maxHeartbeats 4000000 in
set_option maxRecDepth 100000 in
def s_X12_qDrops (Q : St → Prop) (u : St) : Prop :=
  bnd (tI u 198 111 ((u.1 198 111) - (1 : Int32))) (fun u1 => vp_in (u1.1 198 111) 1700 ∧ (s_X12_qCode (u1.1 283 (u1.1 198 111).toNatClampNeg) (fun u5 => Q u5) u1))
set_option maxHeartbeats 4000000 in
set_option maxRecDepth 100000 in
theorem t_X12_qDrops {ρ : Nat → Nat → Option Nat} (hR : RfH ρ) {Q : St → Prop} {QW : Mem → Prop} (hQ : ∀ (u : St), DK u → Q u → QW (emb ρ u)) {u : St} (hd : DK u) (h : s_X12_qDrops Q u) : wp_X12_qDrops SH 198 QW (emb ρ u) := by
  unfold wp_X12_qDrops
  unfold s_X12_qDrops at h
  refine ⟨on_198, ?_⟩
  refine bnd_I ?_
  replace h := bnd_e h
  refine ⟨_, rn_198_110 hR _, ?_⟩
  obtain ⟨x3, h⟩ := h
  refine ⟨ix_i (show SH[283]? = some (100, 1700) from rfl) x3, ?_⟩
  refine t_X12_qCode hR (fun u5 hd h => ?_) hd h
  exact hQ _ hd h
/-! CalledRiverModel.takesSign -/
set_option maxHeartbeats 4000000 in
set_option maxRecDepth 100000 in
def s_X12_takesSign (v1 : Int32) (Q : Int32 → St → Prop) (u : St) : Prop :=
  if (u.1 198 5) = 0 then (s_X12_look  (fun r1 u2 => if r1 = v1 then (bnd (tI u2 198 2 ((u2.1 198 2) + (1 : Int32))) (fun u3 => Q (1 : Int32) u3)) else (Q (0 : Int32) u2)) u) else (Q (0 : Int32) u)
set_option maxHeartbeats 4000000 in
set_option maxRecDepth 100000 in
theorem t_X12_takesSign {ρ : Nat → Nat → Option Nat} (hR : RfH ρ) {v1 : Int32} {Q : Int32 → St → Prop} {QW : Int32 → Mem → Prop} (hQ : ∀ (r : Int32) (u : St), DK u → Q r u → QW r (emb ρ u)) {u : St} (hd : DK u) (h : s_X12_takesSign v1 Q u) : wp_X12_takesSign SH 198 v1 QW (emb ρ u) := by
  unfold wp_X12_takesSign
  unfold s_X12_takesSign at h
  refine ⟨on_198, ?_⟩
  refine ite_mono (fun hc h => ?_) (fun hc h => ?_) h
  · refine t_X12_look hR (fun r1 u2 hd h => ?_) hd h
    refine ite_mono (fun hc h => ?_) (fun hc h => ?_) h
    · refine bnd_I ?_
      replace h := bnd_e h
      exact hQ _ _ hd h
    · exact hQ _ _ hd h
  · exact hQ _ _ hd h
/-! CalledRiverModel.asksSign -/
set_option maxHeartbeats 4000000 in
set_option maxRecDepth 100000 in
def s_X12_asksSign (v1 : Int32) (Q : St → Prop) (u : St) : Prop :=
  if (u.1 198 5) = 0 then (s_X12_takesSign v1 (fun r1 u2 => if r1 = 0 then (s_X12_fail (1 : Int32) (u2.1 198 2) (fun u4 => Q u4) u2) else (Q u2)) u) else (Q u)
set_option maxHeartbeats 4000000 in
set_option maxRecDepth 100000 in
theorem t_X12_asksSign {ρ : Nat → Nat → Option Nat} (hR : RfH ρ) {v1 : Int32} {Q : St → Prop} {QW : Mem → Prop} (hQ : ∀ (u : St), DK u → Q u → QW (emb ρ u)) {u : St} (hd : DK u) (h : s_X12_asksSign v1 Q u) : wp_X12_asksSign SH 198 v1 QW (emb ρ u) := by
  unfold wp_X12_asksSign
  unfold s_X12_asksSign at h
  refine ⟨on_198, ?_⟩
  refine ite_mono (fun hc h => ?_) (fun hc h => ?_) h
  · refine t_X12_takesSign hR (fun r1 u2 hd h => ?_) hd h
    refine ite_mono (fun hc h => ?_) (fun hc h => ?_) h
    · refine t_X12_fail hR (fun u4 hd h => ?_) hd h
      exact hQ _ hd h
    · exact hQ _ hd h
  · exact hQ _ hd h
/-! CalledRiverModel.qIsBracket -/
set_option maxHeartbeats 4000000 in
set_option maxRecDepth 100000 in
def s_X12_qIsBracket (v0 : Int32) (Q : Int32 → St → Prop) (u : St) : Prop :=
  if v0 < (20 : Int32) then (Q (0 : Int32) u) else (if (24 : Int32) < v0 then (Q (0 : Int32) u) else (Q (1 : Int32) u))
set_option maxHeartbeats 4000000 in
set_option maxRecDepth 100000 in
theorem t_X12_qIsBracket {ρ : Nat → Nat → Option Nat} (hR : RfH ρ) {v0 : Int32} {Q : Int32 → St → Prop} {QW : Int32 → Mem → Prop} (hQ : ∀ (r : Int32) (u : St), DK u → Q r u → QW r (emb ρ u)) {u : St} (hd : DK u) (h : s_X12_qIsBracket v0 Q u) : wp_X12_qIsBracket SH v0 QW (emb ρ u) := by
  unfold wp_X12_qIsBracket
  unfold s_X12_qIsBracket at h
  refine ite_mono (fun hc h => ?_) (fun hc h => ?_) h
  · exact hQ _ _ hd h
  · refine ite_mono (fun hc h => ?_) (fun hc h => ?_) h
    · exact hQ _ _ hd h
    · exact hQ _ _ hd h
/-! CalledRiverModel.qBracket -/
set_option maxHeartbeats 4000000 in
set_option maxRecDepth 100000 in
def sX12_qBracket_p33 (v1 : Int32) (Q : Int32 → St → Prop) (u : St) : Prop :=
  if v1 < (u.1 198 113) then (Q (-1 : Int32) u) else (vp_in v1 1700 ∧ (Q (u.1 283 v1.toNatClampNeg) u))
set_option maxHeartbeats 4000000 in
set_option maxRecDepth 100000 in
def sX12_qBracket_p7b (Q : Int32 → St → Prop) (K7 : Int32 → St → Prop) (v1 : Int32) (u : St) : Prop :=
  if v1 < (u.1 198 113) then (sX12_qBracket_p33 v1 Q u) else (vp_in v1 1700 ∧ (s_X12_qIsBracket (u.1 283 v1.toNatClampNeg) (fun r3 u4 => if r3 = 0 then (K7 (v1 + (-1 : Int32)) u4) else (sX12_qBracket_p33 v1 Q u4)) u))
set_option maxHeartbeats 4000000 in
set_option maxRecDepth 100000 in
def sX12_qBracket_p7n (Q : Int32 → St → Prop) : Nat → Int32 → St → Prop
  | 0 => fun _ _ => False
  | n + 1 => sX12_qBracket_p7b Q (sX12_qBracket_p7n Q n)
set_option maxHeartbeats 4000000 in
set_option maxRecDepth 100000 in
def sX12_qBracket_p7 (Q : Int32 → St → Prop) (v1 : Int32) (u : St) : Prop := ∃ n, sX12_qBracket_p7n Q n v1 u
set_option maxHeartbeats 4000000 in
set_option maxRecDepth 100000 in
def s_X12_qBracket (Q : Int32 → St → Prop) (u : St) : Prop :=
  sX12_qBracket_p7 Q ((u.1 198 111) - (1 : Int32)) u
set_option maxHeartbeats 4000000 in
set_option maxRecDepth 100000 in
theorem t_X12_qBracket_p33 {ρ : Nat → Nat → Option Nat} (hR : RfH ρ) {v1 : Int32} {Q : Int32 → St → Prop} {QW : Int32 → Mem → Prop} (hQ : ∀ (r : Int32) (u : St), DK u → Q r u → QW r (emb ρ u)) {u : St} (hd : DK u) (h : sX12_qBracket_p33 v1 Q u) : X12_qBracket_p33 SH 198 v1 QW (emb ρ u) := by
  unfold X12_qBracket_p33
  unfold sX12_qBracket_p33 at h
  refine ⟨on_198, ?_⟩
  refine ite_mono (fun hc h => ?_) (fun hc h => ?_) h
  · exact hQ _ _ hd h
  · refine ⟨_, rn_198_110 hR _, ?_⟩
    obtain ⟨x6, h⟩ := h
    refine ⟨ix_i (show SH[283]? = some (100, 1700) from rfl) x6, ?_⟩
    exact hQ _ _ hd h
set_option maxHeartbeats 4000000 in
set_option maxRecDepth 100000 in
theorem t_X12_qBracket_p7b {ρ : Nat → Nat → Option Nat} (hR : RfH ρ) {v1 : Int32} {Q : Int32 → St → Prop} {QW : Int32 → Mem → Prop} (hQ : ∀ (r : Int32) (u : St), DK u → Q r u → QW r (emb ρ u)) {K7 : Int32 → St → Prop} {KW7 : Int32 → Mem → Prop} (hK7 : ∀ (x1 : Int32) (u : St), DK u → K7 x1 u → KW7 x1 (emb ρ u)) {u : St} (hd : DK u) (h : sX12_qBracket_p7b Q K7 v1 u) : X12_qBracket_p7b SH 198 QW KW7 v1 (emb ρ u) := by
  unfold X12_qBracket_p7b
  unfold sX12_qBracket_p7b at h
  refine ⟨on_198, ?_⟩
  refine ite_mono (fun hc h => ?_) (fun hc h => ?_) h
  · exact t_X12_qBracket_p33 hR hQ hd h
  · refine ⟨_, rn_198_110 hR _, ?_⟩
    obtain ⟨x2, h⟩ := h
    refine ⟨ix_i (show SH[283]? = some (100, 1700) from rfl) x2, ?_⟩
    refine t_X12_qIsBracket hR (fun r3 u4 hd h => ?_) hd h
    refine ite_mono (fun hc h => ?_) (fun hc h => ?_) h
    · exact hK7 _ _ hd h
    · exact t_X12_qBracket_p33 hR hQ hd h
set_option maxHeartbeats 4000000 in
set_option maxRecDepth 100000 in
theorem t_X12_qBracket_p7n {ρ : Nat → Nat → Option Nat} (hR : RfH ρ) {Q : Int32 → St → Prop} {QW : Int32 → Mem → Prop} (hQ : ∀ (r : Int32) (u : St), DK u → Q r u → QW r (emb ρ u)) : ∀ (n : Nat) (v1 : Int32) (u : St), DK u → sX12_qBracket_p7n Q n v1 u → X12_qBracket_p7n SH 198 QW n v1 (emb ρ u)
  | 0, _, _,  _, h => h.elim
  | n + 1, v1,  u,  hd, h => t_X12_qBracket_p7b hR hQ (fun v1 u  hd h => t_X12_qBracket_p7n hR hQ n v1 u  hd h) hd h
set_option maxHeartbeats 4000000 in
set_option maxRecDepth 100000 in
theorem t_X12_qBracket_p7 {ρ : Nat → Nat → Option Nat} (hR : RfH ρ) {v1 : Int32} {Q : Int32 → St → Prop} {QW : Int32 → Mem → Prop} (hQ : ∀ (r : Int32) (u : St), DK u → Q r u → QW r (emb ρ u)) {u : St} (hd : DK u) (h : sX12_qBracket_p7 Q v1 u) : X12_qBracket_p7 SH 198 QW v1 (emb ρ u) := h.elim (fun n h => ⟨n, t_X12_qBracket_p7n hR hQ n _ _ hd h⟩)
set_option maxHeartbeats 4000000 in
set_option maxRecDepth 100000 in
theorem t_X12_qBracket {ρ : Nat → Nat → Option Nat} (hR : RfH ρ) {Q : Int32 → St → Prop} {QW : Int32 → Mem → Prop} (hQ : ∀ (r : Int32) (u : St), DK u → Q r u → QW r (emb ρ u)) {u : St} (hd : DK u) (h : s_X12_qBracket Q u) : wp_X12_qBracket SH 198 QW (emb ρ u) := by
  unfold wp_X12_qBracket
  unfold s_X12_qBracket at h
  refine ⟨on_198, ?_⟩
  exact t_X12_qBracket_p7 hR hQ hd h
/-! CalledRiverModel.qDropsToBracket -/
set_option maxHeartbeats 4000000 in
set_option maxRecDepth 100000 in
def sX12_qDropsToBracket_p0b (Q : St → Prop) (K0 : St → Prop) (u : St) : Prop :=
  if (u.1 198 111) ≤ (u.1 198 113) then (Q u) else (vp_in ((u.1 198 111) - (1 : Int32)) 1700 ∧ (s_X12_qIsBracket (u.1 283 ((u.1 198 111) - (1 : Int32)).toNatClampNeg) (fun r3 u4 => if r3 = 0 then (s_X12_qDrops  (fun u6 => K0 u6) u4) else (Q u4)) u))
set_option maxHeartbeats 4000000 in
set_option maxRecDepth 100000 in
def sX12_qDropsToBracket_p0n (Q : St → Prop) : Nat → St → Prop
  | 0 => fun _ => False
  | n + 1 => sX12_qDropsToBracket_p0b Q (sX12_qDropsToBracket_p0n Q n)
set_option maxHeartbeats 4000000 in
set_option maxRecDepth 100000 in
def sX12_qDropsToBracket_p0 (Q : St → Prop) (u : St) : Prop := ∃ n, sX12_qDropsToBracket_p0n Q n u
set_option maxHeartbeats 4000000 in
set_option maxRecDepth 100000 in
def s_X12_qDropsToBracket (Q : St → Prop) (u : St) : Prop :=
  sX12_qDropsToBracket_p0 Q u
set_option maxHeartbeats 4000000 in
set_option maxRecDepth 100000 in
theorem t_X12_qDropsToBracket_p0b {ρ : Nat → Nat → Option Nat} (hR : RfH ρ) {Q : St → Prop} {QW : Mem → Prop} (hQ : ∀ (u : St), DK u → Q u → QW (emb ρ u)) {K0 : St → Prop} {KW0 : Mem → Prop} (hK0 : ∀ (u : St), DK u → K0 u → KW0 (emb ρ u)) {u : St} (hd : DK u) (h : sX12_qDropsToBracket_p0b Q K0 u) : X12_qDropsToBracket_p0b SH 198 QW KW0 (emb ρ u) := by
  unfold X12_qDropsToBracket_p0b
  unfold sX12_qDropsToBracket_p0b at h
  refine ⟨on_198, ?_⟩
  refine ite_mono (fun hc h => ?_) (fun hc h => ?_) h
  · exact hQ _ hd h
  · refine ⟨_, rn_198_110 hR _, ?_⟩
    obtain ⟨x2, h⟩ := h
    refine ⟨ix_i (show SH[283]? = some (100, 1700) from rfl) x2, ?_⟩
    refine t_X12_qIsBracket hR (fun r3 u4 hd h => ?_) hd h
    refine ite_mono (fun hc h => ?_) (fun hc h => ?_) h
    · refine t_X12_qDrops hR (fun u6 hd h => ?_) hd h
      exact hK0  _ hd h
    · exact hQ _ hd h
set_option maxHeartbeats 4000000 in
set_option maxRecDepth 100000 in
theorem t_X12_qDropsToBracket_p0n {ρ : Nat → Nat → Option Nat} (hR : RfH ρ) {Q : St → Prop} {QW : Mem → Prop} (hQ : ∀ (u : St), DK u → Q u → QW (emb ρ u)) : ∀ (n : Nat) (u : St), DK u → sX12_qDropsToBracket_p0n Q n u → X12_qDropsToBracket_p0n SH 198 QW n (emb ρ u)
  | 0,  _,  _, h => h.elim
  | n + 1,  u,  hd, h => t_X12_qDropsToBracket_p0b hR hQ (fun  u  hd h => t_X12_qDropsToBracket_p0n hR hQ n  u  hd h) hd h
set_option maxHeartbeats 4000000 in
set_option maxRecDepth 100000 in
theorem t_X12_qDropsToBracket_p0 {ρ : Nat → Nat → Option Nat} (hR : RfH ρ) {Q : St → Prop} {QW : Mem → Prop} (hQ : ∀ (u : St), DK u → Q u → QW (emb ρ u)) {u : St} (hd : DK u) (h : sX12_qDropsToBracket_p0 Q u) : X12_qDropsToBracket_p0 SH 198 QW (emb ρ u) := h.elim (fun n h => ⟨n, t_X12_qDropsToBracket_p0n hR hQ n _ hd h⟩)
set_option maxHeartbeats 4000000 in
set_option maxRecDepth 100000 in
theorem t_X12_qDropsToBracket {ρ : Nat → Nat → Option Nat} (hR : RfH ρ) {Q : St → Prop} {QW : Mem → Prop} (hQ : ∀ (u : St), DK u → Q u → QW (emb ρ u)) {u : St} (hd : DK u) (h : s_X12_qDropsToBracket Q u) : wp_X12_qDropsToBracket SH 198 QW (emb ρ u) := by
  unfold wp_X12_qDropsToBracket
  unfold s_X12_qDropsToBracket at h
  exact t_X12_qDropsToBracket_p0 hR hQ hd h
/-! CalledRiverModel.qEndsPart -/
set_option maxHeartbeats 4000000 in
set_option maxRecDepth 100000 in
def sX12_qEndsPart_p0b (Q : St → Prop) (K0 : St → Prop) (u : St) : Prop :=
  if (u.1 198 5) = 0 then (if (u.1 198 111) ≤ (u.1 198 113) then (Q u) else (vp_in ((u.1 198 111) - (1 : Int32)) 1700 ∧ (if (u.1 283 ((u.1 198 111) - (1 : Int32)).toNatClampNeg) < (60 : Int32) then (Q u) else (bnd (tI u 198 112 ((u.1 198 112) - (1 : Int32))) (fun u3 => s_X12_qDrops  (fun u5 => K0 u5) u3))))) else (Q u)
set_option maxHeartbeats 4000000 in
set_option maxRecDepth 100000 in
def sX12_qEndsPart_p0n (Q : St → Prop) : Nat → St → Prop
  | 0 => fun _ => False
  | n + 1 => sX12_qEndsPart_p0b Q (sX12_qEndsPart_p0n Q n)
set_option maxHeartbeats 4000000 in
set_option maxRecDepth 100000 in
def sX12_qEndsPart_p0 (Q : St → Prop) (u : St) : Prop := ∃ n, sX12_qEndsPart_p0n Q n u
set_option maxHeartbeats 4000000 in
set_option maxRecDepth 100000 in
def s_X12_qEndsPart (Q : St → Prop) (u : St) : Prop :=
  sX12_qEndsPart_p0 Q u
set_option maxHeartbeats 4000000 in
set_option maxRecDepth 100000 in
theorem t_X12_qEndsPart_p0b {ρ : Nat → Nat → Option Nat} (hR : RfH ρ) {Q : St → Prop} {QW : Mem → Prop} (hQ : ∀ (u : St), DK u → Q u → QW (emb ρ u)) {K0 : St → Prop} {KW0 : Mem → Prop} (hK0 : ∀ (u : St), DK u → K0 u → KW0 (emb ρ u)) {u : St} (hd : DK u) (h : sX12_qEndsPart_p0b Q K0 u) : X12_qEndsPart_p0b SH 198 QW KW0 (emb ρ u) := by
  unfold X12_qEndsPart_p0b
  unfold sX12_qEndsPart_p0b at h
  refine ⟨on_198, ?_⟩
  refine ite_mono (fun hc h => ?_) (fun hc h => ?_) h
  · refine ite_mono (fun hc h => ?_) (fun hc h => ?_) h
    · exact hQ _ hd h
    · refine ⟨_, rn_198_110 hR _, ?_⟩
      obtain ⟨x2, h⟩ := h
      refine ⟨ix_i (show SH[283]? = some (100, 1700) from rfl) x2, ?_⟩
      refine ite_mono (fun hc h => ?_) (fun hc h => ?_) h
      · exact hQ _ hd h
      · refine bnd_I ?_
        replace h := bnd_e h
        refine t_X12_qDrops hR (fun u5 hd h => ?_) hd h
        exact hK0  _ hd h
  · exact hQ _ hd h
set_option maxHeartbeats 4000000 in
set_option maxRecDepth 100000 in
theorem t_X12_qEndsPart_p0n {ρ : Nat → Nat → Option Nat} (hR : RfH ρ) {Q : St → Prop} {QW : Mem → Prop} (hQ : ∀ (u : St), DK u → Q u → QW (emb ρ u)) : ∀ (n : Nat) (u : St), DK u → sX12_qEndsPart_p0n Q n u → X12_qEndsPart_p0n SH 198 QW n (emb ρ u)
  | 0,  _,  _, h => h.elim
  | n + 1,  u,  hd, h => t_X12_qEndsPart_p0b hR hQ (fun  u  hd h => t_X12_qEndsPart_p0n hR hQ n  u  hd h) hd h
set_option maxHeartbeats 4000000 in
set_option maxRecDepth 100000 in
theorem t_X12_qEndsPart_p0 {ρ : Nat → Nat → Option Nat} (hR : RfH ρ) {Q : St → Prop} {QW : Mem → Prop} (hQ : ∀ (u : St), DK u → Q u → QW (emb ρ u)) {u : St} (hd : DK u) (h : sX12_qEndsPart_p0 Q u) : X12_qEndsPart_p0 SH 198 QW (emb ρ u) := h.elim (fun n h => ⟨n, t_X12_qEndsPart_p0n hR hQ n _ hd h⟩)
set_option maxHeartbeats 4000000 in
set_option maxRecDepth 100000 in
theorem t_X12_qEndsPart {ρ : Nat → Nat → Option Nat} (hR : RfH ρ) {Q : St → Prop} {QW : Mem → Prop} (hQ : ∀ (u : St), DK u → Q u → QW (emb ρ u)) {u : St} (hd : DK u) (h : s_X12_qEndsPart Q u) : wp_X12_qEndsPart SH 198 QW (emb ρ u) := by
  unfold wp_X12_qEndsPart
  unfold s_X12_qEndsPart at h
  exact t_X12_qEndsPart_p0 hR hQ hd h
/-! CalledRiverModel.qIsOn -/
set_option maxHeartbeats 4000000 in
set_option maxRecDepth 100000 in
def s_X12_qIsOn (v1 : Int32) (Q : Int32 → St → Prop) (u : St) : Prop :=
  if (u.1 198 111) ≤ 0 then (Q (0 : Int32) u) else (vp_in ((u.1 198 111) - (1 : Int32)) 1700 ∧ (if (u.1 283 ((u.1 198 111) - (1 : Int32)).toNatClampNeg) = v1 then (Q (1 : Int32) u) else (Q (0 : Int32) u)))
set_option maxHeartbeats 4000000 in
set_option maxRecDepth 100000 in
theorem t_X12_qIsOn {ρ : Nat → Nat → Option Nat} (hR : RfH ρ) {v1 : Int32} {Q : Int32 → St → Prop} {QW : Int32 → Mem → Prop} (hQ : ∀ (r : Int32) (u : St), DK u → Q r u → QW r (emb ρ u)) {u : St} (hd : DK u) (h : s_X12_qIsOn v1 Q u) : wp_X12_qIsOn SH 198 v1 QW (emb ρ u) := by
  unfold wp_X12_qIsOn
  unfold s_X12_qIsOn at h
  refine ⟨on_198, ?_⟩
  refine ite_mono (fun hc h => ?_) (fun hc h => ?_) h
  · exact hQ _ _ hd h
  · refine ⟨_, rn_198_110 hR _, ?_⟩
    obtain ⟨x2, h⟩ := h
    refine ⟨ix_i (show SH[283]? = some (100, 1700) from rfl) x2, ?_⟩
    refine ite_mono (fun hc h => ?_) (fun hc h => ?_) h
    · exact hQ _ _ hd h
    · exact hQ _ _ hd h
/-! CalledRiverModel.qGoesOn -/
set_option maxHeartbeats 4000000 in
set_option maxRecDepth 100000 in
def sX12_qGoesOn_p115 (Q : Int32 → St → Prop) (K0 : St → Prop) (u : St) : Prop :=
  s_X12_qEndsPart  (fun u44 => K0 u44) u
set_option maxHeartbeats 4000000 in
set_option maxRecDepth 100000 in
def sX12_qGoesOn_p112 (s1 : Int32) (Q : Int32 → St → Prop) (K0 : St → Prop) (u : St) : Prop :=
  s_X12_qCode s1 (fun u46 => sX12_qGoesOn_p115 Q K0 u46) u
set_option maxHeartbeats 4000000 in
set_option maxRecDepth 100000 in
def sX12_qGoesOn_p43 (Q : Int32 → St → Prop) (K0 : St → Prop) (u : St) : Prop :=
  bnd (tI u 198 2 ((u.1 198 2) + (1 : Int32))) (fun u25 => s_X12_qDropsToBracket  (fun u27 => bnd (tI u27 198 111 ((u27.1 198 111) - (1 : Int32))) (fun u28 => bnd (tI u28 198 112 ((u28.1 198 112) - (1 : Int32))) (fun u29 => vp_in (u29.1 198 111) 1700 ∧ (if (u29.1 283 (u29.1 198 111).toNatClampNeg) = (20 : Int32) then (sX12_qGoesOn_p115 Q K0 u29) else (if (u29.1 283 (u29.1 198 111).toNatClampNeg) = (23 : Int32) then (sX12_qGoesOn_p112 (5 : Int32) Q K0 u29) else (sX12_qGoesOn_p112 (6 : Int32) Q K0 u29)))))) u25)
set_option maxHeartbeats 4000000 in
set_option maxRecDepth 100000 in
def sX12_qGoesOn_p178 (v1 : Int32) (Q : Int32 → St → Prop) (K162 : St → Prop) (u : St) : Prop :=
  s_X12_qDrops  (fun u68 => K162 u68) u
set_option maxHeartbeats 4000000 in
set_option maxRecDepth 100000 in
def sX12_qGoesOn_p162b (v1 : Int32) (Q : Int32 → St → Prop) (K162 : St → Prop) (u : St) : Prop :=
  s_X12_qIsOn (3 : Int32) (fun r47 u48 => if r47 = 0 then (s_X12_qIsOn (4 : Int32) (fun r49 u50 => if r49 = 0 then (vp_in (u50.1 198 111) 1700 ∧ bnd (tI u50 283 (u50.1 198 111).toNatClampNeg v1) (fun u53 => bnd (tI u53 198 111 ((u53.1 198 111) + (1 : Int32))) (fun u54 => Q (1 : Int32) u54))) else (sX12_qGoesOn_p178 v1 Q K162 u50)) u48) else (sX12_qGoesOn_p178 v1 Q K162 u48)) u
set_option maxHeartbeats 4000000 in
set_option maxRecDepth 100000 in
def sX12_qGoesOn_p162n (v1 : Int32) (Q : Int32 → St → Prop) : Nat → St → Prop
  | 0 => fun _ => False
  | n + 1 => sX12_qGoesOn_p162b v1 Q (sX12_qGoesOn_p162n v1 Q n)
set_option maxHeartbeats 4000000 in
set_option maxRecDepth 100000 in
def sX12_qGoesOn_p162 (v1 : Int32) (Q : Int32 → St → Prop) (u : St) : Prop := ∃ n, sX12_qGoesOn_p162n v1 Q n u
set_option maxHeartbeats 4000000 in
set_option maxRecDepth 100000 in
def sX12_qGoesOn_p161 (s0 : Int32) (Q : Int32 → St → Prop) (u : St) : Prop :=
  sX12_qGoesOn_p162 s0 Q u
set_option maxHeartbeats 4000000 in
set_option maxRecDepth 100000 in
def sX12_qGoesOn_p140 (Q : Int32 → St → Prop) (u : St) : Prop :=
  vp_in ((u.1 198 2) - (1 : Int32)) 1600 ∧ (if (u.1 199 ((u.1 198 2) - (1 : Int32)).toNatClampNeg) = (42 : Int32) then (sX12_qGoesOn_p161 (3 : Int32) Q u) else (sX12_qGoesOn_p161 (4 : Int32) Q u))
set_option maxHeartbeats 4000000 in
set_option maxRecDepth 100000 in
def sX12_qGoesOn_p279 (v1 : Int32) (Q : Int32 → St → Prop) (K247 : St → Prop) (u : St) : Prop :=
  s_X12_qDrops  (fun u70 => K247 u70) u
set_option maxHeartbeats 4000000 in
set_option maxRecDepth 100000 in
def sX12_qGoesOn_p247b (v1 : Int32) (Q : Int32 → St → Prop) (K247 : St → Prop) (u : St) : Prop :=
  s_X12_qIsOn (3 : Int32) (fun r55 u56 => if r55 = 0 then (s_X12_qIsOn (4 : Int32) (fun r57 u58 => if r57 = 0 then (s_X12_qIsOn (1 : Int32) (fun r59 u60 => if r59 = 0 then (s_X12_qIsOn (2 : Int32) (fun r61 u62 => if r61 = 0 then (vp_in (u62.1 198 111) 1700 ∧ bnd (tI u62 283 (u62.1 198 111).toNatClampNeg v1) (fun u65 => bnd (tI u65 198 111 ((u65.1 198 111) + (1 : Int32))) (fun u66 => Q (1 : Int32) u66))) else (sX12_qGoesOn_p279 v1 Q K247 u62)) u60) else (sX12_qGoesOn_p279 v1 Q K247 u60)) u58) else (sX12_qGoesOn_p279 v1 Q K247 u58)) u56) else (sX12_qGoesOn_p279 v1 Q K247 u56)) u
set_option maxHeartbeats 4000000 in
set_option maxRecDepth 100000 in
def sX12_qGoesOn_p247n (v1 : Int32) (Q : Int32 → St → Prop) : Nat → St → Prop
  | 0 => fun _ => False
  | n + 1 => sX12_qGoesOn_p247b v1 Q (sX12_qGoesOn_p247n v1 Q n)
set_option maxHeartbeats 4000000 in
set_option maxRecDepth 100000 in
def sX12_qGoesOn_p247 (v1 : Int32) (Q : Int32 → St → Prop) (u : St) : Prop := ∃ n, sX12_qGoesOn_p247n v1 Q n u
set_option maxHeartbeats 4000000 in
set_option maxRecDepth 100000 in
def sX12_qGoesOn_p246 (s0 : Int32) (Q : Int32 → St → Prop) (u : St) : Prop :=
  sX12_qGoesOn_p247 s0 Q u
set_option maxHeartbeats 4000000 in
set_option maxRecDepth 100000 in
def sX12_qGoesOn_p225 (Q : Int32 → St → Prop) (u : St) : Prop :=
  vp_in ((u.1 198 2) - (1 : Int32)) 1600 ∧ (if (u.1 199 ((u.1 198 2) - (1 : Int32)).toNatClampNeg) = (43 : Int32) then (sX12_qGoesOn_p246 (1 : Int32) Q u) else (sX12_qGoesOn_p246 (2 : Int32) Q u))
set_option maxHeartbeats 4000000 in
set_option maxRecDepth 100000 in
def sX12_qGoesOn_p326 (Q : Int32 → St → Prop) (u : St) : Prop :=
  s_X12_asksSign (44 : Int32) (fun u37 => if (u37.1 198 5) = 0 then (s_X12_qDropsToBracket  (fun u39 => vp_in ((u39.1 198 111) - (1 : Int32)) 1700 ∧ (bnd (tI u39 283 ((u39.1 198 111) - (1 : Int32)).toNatClampNeg ((u39.1 283 ((u39.1 198 111) - (1 : Int32)).toNatClampNeg) + (2 : Int32))) (fun u42 => Q (1 : Int32) u42))) u37) else (Q (0 : Int32) u37)) u
set_option maxHeartbeats 4000000 in
set_option maxRecDepth 100000 in
def sX12_qGoesOn_p122 (Q : Int32 → St → Prop) (u : St) : Prop :=
  s_X12_takesSign (42 : Int32) (fun r9 u10 => if r9 = 0 then (s_X12_takesSign (47 : Int32) (fun r11 u12 => if r11 = 0 then (s_X12_takesSign (43 : Int32) (fun r13 u14 => if r13 = 0 then (s_X12_takesSign (45 : Int32) (fun r15 u16 => if r15 = 0 then (s_X12_qBracket  (fun r17 u18 => if r17 = (21 : Int32) then (sX12_qGoesOn_p326 Q u18) else (s_X12_qBracket  (fun r19 u20 => if r19 = (22 : Int32) then (sX12_qGoesOn_p326 Q u20) else (s_X12_qBracket  (fun r21 u22 => if r21 = (-1 : Int32) then (Q (0 : Int32) u22) else (if (u22.1 198 5) = 0 then (s_X12_fail (1 : Int32) (u22.1 198 2) (fun u24 => Q (0 : Int32) u24) u22) else (Q (0 : Int32) u22))) u20)) u18)) u16) else (sX12_qGoesOn_p225 Q u16)) u14) else (sX12_qGoesOn_p225 Q u14)) u12) else (sX12_qGoesOn_p140 Q u12)) u10) else (sX12_qGoesOn_p140 Q u10)) u
set_option maxHeartbeats 4000000 in
set_option maxRecDepth 100000 in
def sX12_qGoesOn_p0b (Q : Int32 → St → Prop) (K0 : St → Prop) (u : St) : Prop :=
  if (u.1 198 5) = 0 then (s_X12_look  (fun r1 u2 => if r1 = (41 : Int32) then (s_X12_qBracket  (fun r3 u4 => if r3 = (20 : Int32) then (sX12_qGoesOn_p43 Q K0 u4) else (s_X12_qBracket  (fun r5 u6 => if r5 = (23 : Int32) then (sX12_qGoesOn_p43 Q K0 u6) else (s_X12_qBracket  (fun r7 u8 => if r7 = (24 : Int32) then (sX12_qGoesOn_p43 Q K0 u8) else (sX12_qGoesOn_p122 Q u8)) u6)) u4)) u2) else (sX12_qGoesOn_p122 Q u2)) u) else (sX12_qGoesOn_p122 Q u)
set_option maxHeartbeats 4000000 in
set_option maxRecDepth 100000 in
def sX12_qGoesOn_p0n (Q : Int32 → St → Prop) : Nat → St → Prop
  | 0 => fun _ => False
  | n + 1 => sX12_qGoesOn_p0b Q (sX12_qGoesOn_p0n Q n)
set_option maxHeartbeats 4000000 in
set_option maxRecDepth 100000 in
def sX12_qGoesOn_p0 (Q : Int32 → St → Prop) (u : St) : Prop := ∃ n, sX12_qGoesOn_p0n Q n u
set_option maxHeartbeats 4000000 in
set_option maxRecDepth 100000 in
def s_X12_qGoesOn (Q : Int32 → St → Prop) (u : St) : Prop :=
  sX12_qGoesOn_p0 Q u
set_option maxHeartbeats 4000000 in
set_option maxRecDepth 100000 in
theorem t_X12_qGoesOn_p115 {ρ : Nat → Nat → Option Nat} (hR : RfH ρ) {Q : Int32 → St → Prop} {QW : Int32 → Mem → Prop} {K0 : St → Prop} {KW0 : Mem → Prop} (hQ : ∀ (r : Int32) (u : St), DK u → Q r u → QW r (emb ρ u)) (hK0 : ∀ (u : St), DK u → K0 u → KW0 (emb ρ u)) {u : St} (hd : DK u) (h : sX12_qGoesOn_p115 Q K0 u) : X12_qGoesOn_p115 SH 198 QW KW0 (emb ρ u) := by
  unfold X12_qGoesOn_p115
  unfold sX12_qGoesOn_p115 at h
  refine ⟨on_198, ?_⟩
  refine t_X12_qEndsPart hR (fun u44 hd h => ?_) hd h
  exact hK0  _ hd h
set_option maxHeartbeats 4000000 in
set_option maxRecDepth 100000 in
theorem t_X12_qGoesOn_p112 {ρ : Nat → Nat → Option Nat} (hR : RfH ρ) {s1 : Int32} {Q : Int32 → St → Prop} {QW : Int32 → Mem → Prop} {K0 : St → Prop} {KW0 : Mem → Prop} (hQ : ∀ (r : Int32) (u : St), DK u → Q r u → QW r (emb ρ u)) (hK0 : ∀ (u : St), DK u → K0 u → KW0 (emb ρ u)) {u : St} (hd : DK u) (h : sX12_qGoesOn_p112 s1 Q K0 u) : X12_qGoesOn_p112 SH 198 s1 198 QW KW0 (emb ρ u) := by
  unfold X12_qGoesOn_p112
  unfold sX12_qGoesOn_p112 at h
  refine ⟨on_198, ?_⟩
  refine t_X12_qCode hR (fun u46 hd h => ?_) hd h
  exact t_X12_qGoesOn_p115 hR hQ hK0 hd h
set_option maxHeartbeats 4000000 in
set_option maxRecDepth 100000 in
theorem t_X12_qGoesOn_p43 {ρ : Nat → Nat → Option Nat} (hR : RfH ρ) {Q : Int32 → St → Prop} {QW : Int32 → Mem → Prop} {K0 : St → Prop} {KW0 : Mem → Prop} (hQ : ∀ (r : Int32) (u : St), DK u → Q r u → QW r (emb ρ u)) (hK0 : ∀ (u : St), DK u → K0 u → KW0 (emb ρ u)) {u : St} (hd : DK u) (h : sX12_qGoesOn_p43 Q K0 u) : X12_qGoesOn_p43 SH 198 QW KW0 (emb ρ u) := by
  unfold X12_qGoesOn_p43
  unfold sX12_qGoesOn_p43 at h
  refine ⟨on_198, ?_⟩
  refine bnd_I ?_
  replace h := bnd_e h
  refine t_X12_qDropsToBracket hR (fun u27 hd h => ?_) hd h
  refine bnd_I ?_
  replace h := bnd_e h
  refine bnd_I ?_
  replace h := bnd_e h
  refine ⟨_, rn_198_110 hR _, ?_⟩
  obtain ⟨x31, h⟩ := h
  refine ⟨ix_i (show SH[283]? = some (100, 1700) from rfl) x31, ?_⟩
  refine ite_mono (fun hc h => ?_) (fun hc h => ?_) h
  · exact t_X12_qGoesOn_p115 hR hQ hK0 hd h
  · refine ite_mono (fun hc h => ?_) (fun hc h => ?_) h
    · exact t_X12_qGoesOn_p112 hR hQ hK0 hd h
    · exact t_X12_qGoesOn_p112 hR hQ hK0 hd h
set_option maxHeartbeats 4000000 in
set_option maxRecDepth 100000 in
theorem t_X12_qGoesOn_p178 {ρ : Nat → Nat → Option Nat} (hR : RfH ρ) {v1 : Int32} {Q : Int32 → St → Prop} {QW : Int32 → Mem → Prop} {K162 : St → Prop} {KW162 : Mem → Prop} (hQ : ∀ (r : Int32) (u : St), DK u → Q r u → QW r (emb ρ u)) (hK162 : ∀ (u : St), DK u → K162 u → KW162 (emb ρ u)) {u : St} (hd : DK u) (h : sX12_qGoesOn_p178 v1 Q K162 u) : X12_qGoesOn_p178 SH 198 v1 QW KW162 (emb ρ u) := by
  unfold X12_qGoesOn_p178
  unfold sX12_qGoesOn_p178 at h
  refine ⟨on_198, ?_⟩
  refine t_X12_qDrops hR (fun u68 hd h => ?_) hd h
  exact hK162  _ hd h
set_option maxHeartbeats 4000000 in
set_option maxRecDepth 100000 in
theorem t_X12_qGoesOn_p162b {ρ : Nat → Nat → Option Nat} (hR : RfH ρ) {v1 : Int32} {Q : Int32 → St → Prop} {QW : Int32 → Mem → Prop} (hQ : ∀ (r : Int32) (u : St), DK u → Q r u → QW r (emb ρ u)) {K162 : St → Prop} {KW162 : Mem → Prop} (hK162 : ∀ (u : St), DK u → K162 u → KW162 (emb ρ u)) {u : St} (hd : DK u) (h : sX12_qGoesOn_p162b v1 Q K162 u) : X12_qGoesOn_p162b SH 198 v1 QW KW162 (emb ρ u) := by
  unfold X12_qGoesOn_p162b
  unfold sX12_qGoesOn_p162b at h
  refine ⟨on_198, ?_⟩
  refine t_X12_qIsOn hR (fun r47 u48 hd h => ?_) hd h
  refine ite_mono (fun hc h => ?_) (fun hc h => ?_) h
  · refine t_X12_qIsOn hR (fun r49 u50 hd h => ?_) hd h
    refine ite_mono (fun hc h => ?_) (fun hc h => ?_) h
    · refine ⟨_, rn_198_110 hR _, ?_⟩
      obtain ⟨x52, h⟩ := h
      refine ⟨ix_i (show SH[283]? = some (100, 1700) from rfl) x52, ?_⟩
      refine bnd_I ?_
      replace h := bnd_e h
      refine bnd_I ?_
      replace h := bnd_e h
      exact hQ _ _ hd h
    · exact t_X12_qGoesOn_p178 hR hQ hK162 hd h
  · exact t_X12_qGoesOn_p178 hR hQ hK162 hd h
set_option maxHeartbeats 4000000 in
set_option maxRecDepth 100000 in
theorem t_X12_qGoesOn_p162n {ρ : Nat → Nat → Option Nat} (hR : RfH ρ) {v1 : Int32} {Q : Int32 → St → Prop} {QW : Int32 → Mem → Prop} (hQ : ∀ (r : Int32) (u : St), DK u → Q r u → QW r (emb ρ u)) : ∀ (n : Nat) (u : St), DK u → sX12_qGoesOn_p162n v1 Q n u → X12_qGoesOn_p162n SH 198 v1 QW n (emb ρ u)
  | 0,  _,  _, h => h.elim
  | n + 1,  u,  hd, h => t_X12_qGoesOn_p162b hR hQ (fun  u  hd h => t_X12_qGoesOn_p162n hR hQ n  u  hd h) hd h
set_option maxHeartbeats 4000000 in
set_option maxRecDepth 100000 in
theorem t_X12_qGoesOn_p162 {ρ : Nat → Nat → Option Nat} (hR : RfH ρ) {v1 : Int32} {Q : Int32 → St → Prop} {QW : Int32 → Mem → Prop} (hQ : ∀ (r : Int32) (u : St), DK u → Q r u → QW r (emb ρ u)) {u : St} (hd : DK u) (h : sX12_qGoesOn_p162 v1 Q u) : X12_qGoesOn_p162 SH 198 v1 QW (emb ρ u) := h.elim (fun n h => ⟨n, t_X12_qGoesOn_p162n hR hQ n _ hd h⟩)
set_option maxHeartbeats 4000000 in
set_option maxRecDepth 100000 in
theorem t_X12_qGoesOn_p161 {ρ : Nat → Nat → Option Nat} (hR : RfH ρ) {s0 : Int32} {Q : Int32 → St → Prop} {QW : Int32 → Mem → Prop} (hQ : ∀ (r : Int32) (u : St), DK u → Q r u → QW r (emb ρ u)) {u : St} (hd : DK u) (h : sX12_qGoesOn_p161 s0 Q u) : X12_qGoesOn_p161 SH 198 s0 QW (emb ρ u) := by
  unfold X12_qGoesOn_p161
  unfold sX12_qGoesOn_p161 at h
  exact t_X12_qGoesOn_p162 hR hQ hd h
set_option maxHeartbeats 4000000 in
set_option maxRecDepth 100000 in
theorem t_X12_qGoesOn_p140 {ρ : Nat → Nat → Option Nat} (hR : RfH ρ) {Q : Int32 → St → Prop} {QW : Int32 → Mem → Prop} (hQ : ∀ (r : Int32) (u : St), DK u → Q r u → QW r (emb ρ u)) {u : St} (hd : DK u) (h : sX12_qGoesOn_p140 Q u) : X12_qGoesOn_p140 SH 198 QW (emb ρ u) := by
  unfold X12_qGoesOn_p140
  unfold sX12_qGoesOn_p140 at h
  refine ⟨on_198, ?_⟩
  refine ⟨_, rn_198_0 hR _, ?_⟩
  obtain ⟨x33, h⟩ := h
  refine ⟨ix_i (show SH[199]? = some (100, 1600) from rfl) x33, ?_⟩
  refine ite_mono (fun hc h => ?_) (fun hc h => ?_) h
  · exact t_X12_qGoesOn_p161 hR hQ hd h
  · exact t_X12_qGoesOn_p161 hR hQ hd h
set_option maxHeartbeats 4000000 in
set_option maxRecDepth 100000 in
theorem t_X12_qGoesOn_p279 {ρ : Nat → Nat → Option Nat} (hR : RfH ρ) {v1 : Int32} {Q : Int32 → St → Prop} {QW : Int32 → Mem → Prop} {K247 : St → Prop} {KW247 : Mem → Prop} (hQ : ∀ (r : Int32) (u : St), DK u → Q r u → QW r (emb ρ u)) (hK247 : ∀ (u : St), DK u → K247 u → KW247 (emb ρ u)) {u : St} (hd : DK u) (h : sX12_qGoesOn_p279 v1 Q K247 u) : X12_qGoesOn_p279 SH 198 v1 QW KW247 (emb ρ u) := by
  unfold X12_qGoesOn_p279
  unfold sX12_qGoesOn_p279 at h
  refine ⟨on_198, ?_⟩
  refine t_X12_qDrops hR (fun u70 hd h => ?_) hd h
  exact hK247  _ hd h
set_option maxHeartbeats 4000000 in
set_option maxRecDepth 100000 in
theorem t_X12_qGoesOn_p247b {ρ : Nat → Nat → Option Nat} (hR : RfH ρ) {v1 : Int32} {Q : Int32 → St → Prop} {QW : Int32 → Mem → Prop} (hQ : ∀ (r : Int32) (u : St), DK u → Q r u → QW r (emb ρ u)) {K247 : St → Prop} {KW247 : Mem → Prop} (hK247 : ∀ (u : St), DK u → K247 u → KW247 (emb ρ u)) {u : St} (hd : DK u) (h : sX12_qGoesOn_p247b v1 Q K247 u) : X12_qGoesOn_p247b SH 198 v1 QW KW247 (emb ρ u) := by
  unfold X12_qGoesOn_p247b
  unfold sX12_qGoesOn_p247b at h
  refine ⟨on_198, ?_⟩
  refine t_X12_qIsOn hR (fun r55 u56 hd h => ?_) hd h
  refine ite_mono (fun hc h => ?_) (fun hc h => ?_) h
  · refine t_X12_qIsOn hR (fun r57 u58 hd h => ?_) hd h
    refine ite_mono (fun hc h => ?_) (fun hc h => ?_) h
    · refine t_X12_qIsOn hR (fun r59 u60 hd h => ?_) hd h
      refine ite_mono (fun hc h => ?_) (fun hc h => ?_) h
      · refine t_X12_qIsOn hR (fun r61 u62 hd h => ?_) hd h
        refine ite_mono (fun hc h => ?_) (fun hc h => ?_) h
        · refine ⟨_, rn_198_110 hR _, ?_⟩
          obtain ⟨x64, h⟩ := h
          refine ⟨ix_i (show SH[283]? = some (100, 1700) from rfl) x64, ?_⟩
          refine bnd_I ?_
          replace h := bnd_e h
          refine bnd_I ?_
          replace h := bnd_e h
          exact hQ _ _ hd h
        · exact t_X12_qGoesOn_p279 hR hQ hK247 hd h
      · exact t_X12_qGoesOn_p279 hR hQ hK247 hd h
    · exact t_X12_qGoesOn_p279 hR hQ hK247 hd h
  · exact t_X12_qGoesOn_p279 hR hQ hK247 hd h
set_option maxHeartbeats 4000000 in
set_option maxRecDepth 100000 in
theorem t_X12_qGoesOn_p247n {ρ : Nat → Nat → Option Nat} (hR : RfH ρ) {v1 : Int32} {Q : Int32 → St → Prop} {QW : Int32 → Mem → Prop} (hQ : ∀ (r : Int32) (u : St), DK u → Q r u → QW r (emb ρ u)) : ∀ (n : Nat) (u : St), DK u → sX12_qGoesOn_p247n v1 Q n u → X12_qGoesOn_p247n SH 198 v1 QW n (emb ρ u)
  | 0,  _,  _, h => h.elim
  | n + 1,  u,  hd, h => t_X12_qGoesOn_p247b hR hQ (fun  u  hd h => t_X12_qGoesOn_p247n hR hQ n  u  hd h) hd h
set_option maxHeartbeats 4000000 in
set_option maxRecDepth 100000 in
theorem t_X12_qGoesOn_p247 {ρ : Nat → Nat → Option Nat} (hR : RfH ρ) {v1 : Int32} {Q : Int32 → St → Prop} {QW : Int32 → Mem → Prop} (hQ : ∀ (r : Int32) (u : St), DK u → Q r u → QW r (emb ρ u)) {u : St} (hd : DK u) (h : sX12_qGoesOn_p247 v1 Q u) : X12_qGoesOn_p247 SH 198 v1 QW (emb ρ u) := h.elim (fun n h => ⟨n, t_X12_qGoesOn_p247n hR hQ n _ hd h⟩)
set_option maxHeartbeats 4000000 in
set_option maxRecDepth 100000 in
theorem t_X12_qGoesOn_p246 {ρ : Nat → Nat → Option Nat} (hR : RfH ρ) {s0 : Int32} {Q : Int32 → St → Prop} {QW : Int32 → Mem → Prop} (hQ : ∀ (r : Int32) (u : St), DK u → Q r u → QW r (emb ρ u)) {u : St} (hd : DK u) (h : sX12_qGoesOn_p246 s0 Q u) : X12_qGoesOn_p246 SH 198 s0 QW (emb ρ u) := by
  unfold X12_qGoesOn_p246
  unfold sX12_qGoesOn_p246 at h
  exact t_X12_qGoesOn_p247 hR hQ hd h
set_option maxHeartbeats 4000000 in
set_option maxRecDepth 100000 in
theorem t_X12_qGoesOn_p225 {ρ : Nat → Nat → Option Nat} (hR : RfH ρ) {Q : Int32 → St → Prop} {QW : Int32 → Mem → Prop} (hQ : ∀ (r : Int32) (u : St), DK u → Q r u → QW r (emb ρ u)) {u : St} (hd : DK u) (h : sX12_qGoesOn_p225 Q u) : X12_qGoesOn_p225 SH 198 QW (emb ρ u) := by
  unfold X12_qGoesOn_p225
  unfold sX12_qGoesOn_p225 at h
  refine ⟨on_198, ?_⟩
  refine ⟨_, rn_198_0 hR _, ?_⟩
  obtain ⟨x35, h⟩ := h
  refine ⟨ix_i (show SH[199]? = some (100, 1600) from rfl) x35, ?_⟩
  refine ite_mono (fun hc h => ?_) (fun hc h => ?_) h
  · exact t_X12_qGoesOn_p246 hR hQ hd h
  · exact t_X12_qGoesOn_p246 hR hQ hd h
set_option maxHeartbeats 4000000 in
set_option maxRecDepth 100000 in
theorem t_X12_qGoesOn_p326 {ρ : Nat → Nat → Option Nat} (hR : RfH ρ) {Q : Int32 → St → Prop} {QW : Int32 → Mem → Prop} (hQ : ∀ (r : Int32) (u : St), DK u → Q r u → QW r (emb ρ u)) {u : St} (hd : DK u) (h : sX12_qGoesOn_p326 Q u) : X12_qGoesOn_p326 SH 198 QW (emb ρ u) := by
  unfold X12_qGoesOn_p326
  unfold sX12_qGoesOn_p326 at h
  refine ⟨on_198, ?_⟩
  refine t_X12_asksSign hR (fun u37 hd h => ?_) hd h
  refine ite_mono (fun hc h => ?_) (fun hc h => ?_) h
  · refine t_X12_qDropsToBracket hR (fun u39 hd h => ?_) hd h
    refine ⟨_, rn_198_110 hR _, ?_⟩
    obtain ⟨x41, h⟩ := h
    refine ⟨ix_i (show SH[283]? = some (100, 1700) from rfl) x41, ?_⟩
    refine bnd_I ?_
    replace h := bnd_e h
    exact hQ _ _ hd h
  · exact hQ _ _ hd h
set_option maxHeartbeats 4000000 in
set_option maxRecDepth 100000 in
theorem t_X12_qGoesOn_p122 {ρ : Nat → Nat → Option Nat} (hR : RfH ρ) {Q : Int32 → St → Prop} {QW : Int32 → Mem → Prop} (hQ : ∀ (r : Int32) (u : St), DK u → Q r u → QW r (emb ρ u)) {u : St} (hd : DK u) (h : sX12_qGoesOn_p122 Q u) : X12_qGoesOn_p122 SH 198 QW (emb ρ u) := by
  unfold X12_qGoesOn_p122
  unfold sX12_qGoesOn_p122 at h
  refine ⟨on_198, ?_⟩
  refine t_X12_takesSign hR (fun r9 u10 hd h => ?_) hd h
  refine ite_mono (fun hc h => ?_) (fun hc h => ?_) h
  · refine t_X12_takesSign hR (fun r11 u12 hd h => ?_) hd h
    refine ite_mono (fun hc h => ?_) (fun hc h => ?_) h
    · refine t_X12_takesSign hR (fun r13 u14 hd h => ?_) hd h
      refine ite_mono (fun hc h => ?_) (fun hc h => ?_) h
      · refine t_X12_takesSign hR (fun r15 u16 hd h => ?_) hd h
        refine ite_mono (fun hc h => ?_) (fun hc h => ?_) h
        · refine t_X12_qBracket hR (fun r17 u18 hd h => ?_) hd h
          refine ite_mono (fun hc h => ?_) (fun hc h => ?_) h
          · exact t_X12_qGoesOn_p326 hR hQ hd h
          · refine t_X12_qBracket hR (fun r19 u20 hd h => ?_) hd h
            refine ite_mono (fun hc h => ?_) (fun hc h => ?_) h
            · exact t_X12_qGoesOn_p326 hR hQ hd h
            · refine t_X12_qBracket hR (fun r21 u22 hd h => ?_) hd h
              refine ite_mono (fun hc h => ?_) (fun hc h => ?_) h
              · exact hQ _ _ hd h
              · refine ite_mono (fun hc h => ?_) (fun hc h => ?_) h
                · refine t_X12_fail hR (fun u24 hd h => ?_) hd h
                  exact hQ _ _ hd h
                · exact hQ _ _ hd h
        · exact t_X12_qGoesOn_p225 hR hQ hd h
      · exact t_X12_qGoesOn_p225 hR hQ hd h
    · exact t_X12_qGoesOn_p140 hR hQ hd h
  · exact t_X12_qGoesOn_p140 hR hQ hd h
set_option maxHeartbeats 4000000 in
set_option maxRecDepth 100000 in
theorem t_X12_qGoesOn_p0b {ρ : Nat → Nat → Option Nat} (hR : RfH ρ) {Q : Int32 → St → Prop} {QW : Int32 → Mem → Prop} (hQ : ∀ (r : Int32) (u : St), DK u → Q r u → QW r (emb ρ u)) {K0 : St → Prop} {KW0 : Mem → Prop} (hK0 : ∀ (u : St), DK u → K0 u → KW0 (emb ρ u)) {u : St} (hd : DK u) (h : sX12_qGoesOn_p0b Q K0 u) : X12_qGoesOn_p0b SH 198 QW KW0 (emb ρ u) := by
  unfold X12_qGoesOn_p0b
  unfold sX12_qGoesOn_p0b at h
  refine ⟨on_198, ?_⟩
  refine ite_mono (fun hc h => ?_) (fun hc h => ?_) h
  · refine t_X12_look hR (fun r1 u2 hd h => ?_) hd h
    refine ite_mono (fun hc h => ?_) (fun hc h => ?_) h
    · refine t_X12_qBracket hR (fun r3 u4 hd h => ?_) hd h
      refine ite_mono (fun hc h => ?_) (fun hc h => ?_) h
      · exact t_X12_qGoesOn_p43 hR hQ hK0 hd h
      · refine t_X12_qBracket hR (fun r5 u6 hd h => ?_) hd h
        refine ite_mono (fun hc h => ?_) (fun hc h => ?_) h
        · exact t_X12_qGoesOn_p43 hR hQ hK0 hd h
        · refine t_X12_qBracket hR (fun r7 u8 hd h => ?_) hd h
          refine ite_mono (fun hc h => ?_) (fun hc h => ?_) h
          · exact t_X12_qGoesOn_p43 hR hQ hK0 hd h
          · exact t_X12_qGoesOn_p122 hR hQ hd h
    · exact t_X12_qGoesOn_p122 hR hQ hd h
  · exact t_X12_qGoesOn_p122 hR hQ hd h
set_option maxHeartbeats 4000000 in
set_option maxRecDepth 100000 in
theorem t_X12_qGoesOn_p0n {ρ : Nat → Nat → Option Nat} (hR : RfH ρ) {Q : Int32 → St → Prop} {QW : Int32 → Mem → Prop} (hQ : ∀ (r : Int32) (u : St), DK u → Q r u → QW r (emb ρ u)) : ∀ (n : Nat) (u : St), DK u → sX12_qGoesOn_p0n Q n u → X12_qGoesOn_p0n SH 198 QW n (emb ρ u)
  | 0,  _,  _, h => h.elim
  | n + 1,  u,  hd, h => t_X12_qGoesOn_p0b hR hQ (fun  u  hd h => t_X12_qGoesOn_p0n hR hQ n  u  hd h) hd h
set_option maxHeartbeats 4000000 in
set_option maxRecDepth 100000 in
theorem t_X12_qGoesOn_p0 {ρ : Nat → Nat → Option Nat} (hR : RfH ρ) {Q : Int32 → St → Prop} {QW : Int32 → Mem → Prop} (hQ : ∀ (r : Int32) (u : St), DK u → Q r u → QW r (emb ρ u)) {u : St} (hd : DK u) (h : sX12_qGoesOn_p0 Q u) : X12_qGoesOn_p0 SH 198 QW (emb ρ u) := h.elim (fun n h => ⟨n, t_X12_qGoesOn_p0n hR hQ n _ hd h⟩)
set_option maxHeartbeats 4000000 in
set_option maxRecDepth 100000 in
theorem t_X12_qGoesOn {ρ : Nat → Nat → Option Nat} (hR : RfH ρ) {Q : Int32 → St → Prop} {QW : Int32 → Mem → Prop} (hQ : ∀ (r : Int32) (u : St), DK u → Q r u → QW r (emb ρ u)) {u : St} (hd : DK u) (h : s_X12_qGoesOn Q u) : wp_X12_qGoesOn SH 198 QW (emb ρ u) := by
  unfold wp_X12_qGoesOn
  unfold s_X12_qGoesOn at h
  exact t_X12_qGoesOn_p0 hR hQ hd h
/-! CalledRiverModel.isDigit -/
set_option maxHeartbeats 4000000 in
set_option maxRecDepth 100000 in
def s_X12_isDigit (v0 : Int32) (Q : Int32 → St → Prop) (u : St) : Prop :=
  if v0 < (48 : Int32) then (Q (0 : Int32) u) else (if (57 : Int32) < v0 then (Q (0 : Int32) u) else (Q (1 : Int32) u))
set_option maxHeartbeats 4000000 in
set_option maxRecDepth 100000 in
theorem t_X12_isDigit {ρ : Nat → Nat → Option Nat} (hR : RfH ρ) {v0 : Int32} {Q : Int32 → St → Prop} {QW : Int32 → Mem → Prop} (hQ : ∀ (r : Int32) (u : St), DK u → Q r u → QW r (emb ρ u)) {u : St} (hd : DK u) (h : s_X12_isDigit v0 Q u) : wp_X12_isDigit SH v0 QW (emb ρ u) := by
  unfold wp_X12_isDigit
  unfold s_X12_isDigit at h
  refine ite_mono (fun hc h => ?_) (fun hc h => ?_) h
  · exact hQ _ _ hd h
  · refine ite_mono (fun hc h => ?_) (fun hc h => ?_) h
    · exact hQ _ _ hd h
    · exact hQ _ _ hd h
/-! CalledRiverModel.number -/
set_option maxHeartbeats 4000000 in
set_option maxRecDepth 100000 in
def sX12_number_p30 (Q : Int32 → St → Prop) (u : St) : Prop :=
  s_X12_fail (1 : Int32) (u.1 198 2) (fun u6 => Q (0 : Int32) u6) u
set_option maxHeartbeats 4000000 in
set_option maxRecDepth 100000 in
def sX12_number_p129 (v1 : Int32) (v2 : Int32) (v3 : Int32) (v4 : Int32) (Q : Int32 → St → Prop) (u : St) : Prop :=
  bnd (tI u 198 4 (u.1 198 2)) (fun u16 => bnd (tI u16 198 10 v3) (fun u17 => s_X12_isIn v4.toInt64 v1.toInt64 v2.toInt64 (fun r18 u19 => if r18 = 0 then (s_X12_fail (2 : Int32) v3 (fun u21 => Q v4 u21) u19) else (Q v4 u19)) u17))
set_option maxHeartbeats 4000000 in
set_option maxRecDepth 100000 in
def sX12_number_p49b (v1 : Int32) (v2 : Int32) (v3 : Int32) (Q : Int32 → St → Prop) (K49 : Int32 → St → Prop) (v4 : Int32) (u : St) : Prop :=
  if (u.1 198 3) ≤ (u.1 198 2) then (sX12_number_p129 v1 v2 v3 v4 Q u) else (vp_in (u.1 198 2) 1600 ∧ (s_X12_isDigit (u.1 199 (u.1 198 2).toNatClampNeg) (fun r9 u10 => if r9 = 0 then (sX12_number_p129 v1 v2 v3 v4 Q u10) else (if ((u10.1 198 2) - v3) = (4 : Int32) then (s_X12_fail (1 : Int32) (u10.1 198 2) (fun u15 => Q (0 : Int32) u15) u10) else (vp_in (u10.1 198 2) 1600 ∧ (bnd (tI u10 198 2 ((u10.1 198 2) + (1 : Int32))) (fun u13 => K49 ((((10 : Int32) * v4) + (u10.1 199 (u10.1 198 2).toNatClampNeg)) - (48 : Int32)) u13))))) u))
set_option maxHeartbeats 4000000 in
set_option maxRecDepth 100000 in
def sX12_number_p49n (v1 : Int32) (v2 : Int32) (v3 : Int32) (Q : Int32 → St → Prop) : Nat → Int32 → St → Prop
  | 0 => fun _ _ => False
  | n + 1 => sX12_number_p49b v1 v2 v3 Q (sX12_number_p49n v1 v2 v3 Q n)
set_option maxHeartbeats 4000000 in
set_option maxRecDepth 100000 in
def sX12_number_p49 (v1 : Int32) (v2 : Int32) (v3 : Int32) (Q : Int32 → St → Prop) (v4 : Int32) (u : St) : Prop := ∃ n, sX12_number_p49n v1 v2 v3 Q n v4 u
set_option maxHeartbeats 4000000 in
set_option maxRecDepth 100000 in
def s_X12_number (v1 : Int32) (v2 : Int32) (Q : Int32 → St → Prop) (u : St) : Prop :=
  if (u.1 198 5) = 0 then (s_X12_look  (fun r1 u2 => s_X12_isDigit r1 (fun r3 u4 => if r3 = 0 then (sX12_number_p30 Q u4) else (if (u4.1 198 2) = (u4.1 198 4) then (sX12_number_p30 Q u4) else (sX12_number_p49 v1 v2 (u4.1 198 2) Q (0 : Int32) u4))) u2) u) else (Q (0 : Int32) u)
set_option maxHeartbeats 4000000 in
set_option maxRecDepth 100000 in
theorem t_X12_number_p30 {ρ : Nat → Nat → Option Nat} (hR : RfH ρ) {Q : Int32 → St → Prop} {QW : Int32 → Mem → Prop} (hQ : ∀ (r : Int32) (u : St), DK u → Q r u → QW r (emb ρ u)) {u : St} (hd : DK u) (h : sX12_number_p30 Q u) : X12_number_p30 SH 198 QW (emb ρ u) := by
  unfold X12_number_p30
  unfold sX12_number_p30 at h
  refine ⟨on_198, ?_⟩
  refine t_X12_fail hR (fun u6 hd h => ?_) hd h
  exact hQ _ _ hd h
set_option maxHeartbeats 4000000 in
set_option maxRecDepth 100000 in
theorem t_X12_number_p129 {ρ : Nat → Nat → Option Nat} (hR : RfH ρ) {v1 : Int32} {v2 : Int32} {v3 : Int32} {v4 : Int32} {Q : Int32 → St → Prop} {QW : Int32 → Mem → Prop} (hQ : ∀ (r : Int32) (u : St), DK u → Q r u → QW r (emb ρ u)) {u : St} (hd : DK u) (h : sX12_number_p129 v1 v2 v3 v4 Q u) : X12_number_p129 SH 198 v1 v2 v3 v4 QW (emb ρ u) := by
  unfold X12_number_p129
  unfold sX12_number_p129 at h
  refine ⟨on_198, ?_⟩
  refine bnd_I ?_
  replace h := bnd_e h
  refine bnd_I ?_
  replace h := bnd_e h
  refine t_X12_isIn hR (fun r18 u19 hd h => ?_) hd h
  refine ite_mono (fun hc h => ?_) (fun hc h => ?_) h
  · refine t_X12_fail hR (fun u21 hd h => ?_) hd h
    exact hQ _ _ hd h
  · exact hQ _ _ hd h
set_option maxHeartbeats 4000000 in
set_option maxRecDepth 100000 in
theorem t_X12_number_p49b {ρ : Nat → Nat → Option Nat} (hR : RfH ρ) {v1 : Int32} {v2 : Int32} {v3 : Int32} {v4 : Int32} {Q : Int32 → St → Prop} {QW : Int32 → Mem → Prop} (hQ : ∀ (r : Int32) (u : St), DK u → Q r u → QW r (emb ρ u)) {K49 : Int32 → St → Prop} {KW49 : Int32 → Mem → Prop} (hK49 : ∀ (x4 : Int32) (u : St), DK u → K49 x4 u → KW49 x4 (emb ρ u)) {u : St} (hd : DK u) (h : sX12_number_p49b v1 v2 v3 Q K49 v4 u) : X12_number_p49b SH 198 v1 v2 v3 QW KW49 v4 (emb ρ u) := by
  unfold X12_number_p49b
  unfold sX12_number_p49b at h
  refine ⟨on_198, ?_⟩
  refine ite_mono (fun hc h => ?_) (fun hc h => ?_) h
  · exact t_X12_number_p129 hR hQ hd h
  · refine ⟨_, rn_198_0 hR _, ?_⟩
    obtain ⟨x8, h⟩ := h
    refine ⟨ix_i (show SH[199]? = some (100, 1600) from rfl) x8, ?_⟩
    refine t_X12_isDigit hR (fun r9 u10 hd h => ?_) hd h
    refine ite_mono (fun hc h => ?_) (fun hc h => ?_) h
    · exact t_X12_number_p129 hR hQ hd h
    · refine ite_mono (fun hc h => ?_) (fun hc h => ?_) h
      · refine t_X12_fail hR (fun u15 hd h => ?_) hd h
        exact hQ _ _ hd h
      · refine ⟨_, rn_198_0 hR _, ?_⟩
        obtain ⟨x12, h⟩ := h
        refine ⟨ix_i (show SH[199]? = some (100, 1600) from rfl) x12, ?_⟩
        refine bnd_I ?_
        replace h := bnd_e h
        exact hK49 _ _ hd h
set_option maxHeartbeats 4000000 in
set_option maxRecDepth 100000 in
theorem t_X12_number_p49n {ρ : Nat → Nat → Option Nat} (hR : RfH ρ) {v1 : Int32} {v2 : Int32} {v3 : Int32} {Q : Int32 → St → Prop} {QW : Int32 → Mem → Prop} (hQ : ∀ (r : Int32) (u : St), DK u → Q r u → QW r (emb ρ u)) : ∀ (n : Nat) (v4 : Int32) (u : St), DK u → sX12_number_p49n v1 v2 v3 Q n v4 u → X12_number_p49n SH 198 v1 v2 v3 QW n v4 (emb ρ u)
  | 0, _, _,  _, h => h.elim
  | n + 1, v4,  u,  hd, h => t_X12_number_p49b hR hQ (fun v4 u  hd h => t_X12_number_p49n hR hQ n v4 u  hd h) hd h
set_option maxHeartbeats 4000000 in
set_option maxRecDepth 100000 in
theorem t_X12_number_p49 {ρ : Nat → Nat → Option Nat} (hR : RfH ρ) {v1 : Int32} {v2 : Int32} {v3 : Int32} {v4 : Int32} {Q : Int32 → St → Prop} {QW : Int32 → Mem → Prop} (hQ : ∀ (r : Int32) (u : St), DK u → Q r u → QW r (emb ρ u)) {u : St} (hd : DK u) (h : sX12_number_p49 v1 v2 v3 Q v4 u) : X12_number_p49 SH 198 v1 v2 v3 QW v4 (emb ρ u) := h.elim (fun n h => ⟨n, t_X12_number_p49n hR hQ n _ _ hd h⟩)
set_option maxHeartbeats 4000000 in
set_option maxRecDepth 100000 in
theorem t_X12_number {ρ : Nat → Nat → Option Nat} (hR : RfH ρ) {v1 : Int32} {v2 : Int32} {Q : Int32 → St → Prop} {QW : Int32 → Mem → Prop} (hQ : ∀ (r : Int32) (u : St), DK u → Q r u → QW r (emb ρ u)) {u : St} (hd : DK u) (h : s_X12_number v1 v2 Q u) : wp_X12_number SH 198 v1 v2 QW (emb ρ u) := by
  unfold wp_X12_number
  unfold s_X12_number at h
  refine ⟨on_198, ?_⟩
  refine ite_mono (fun hc h => ?_) (fun hc h => ?_) h
  · refine t_X12_look hR (fun r1 u2 hd h => ?_) hd h
    refine t_X12_isDigit hR (fun r3 u4 hd h => ?_) hd h
    refine ite_mono (fun hc h => ?_) (fun hc h => ?_) h
    · exact t_X12_number_p30 hR hQ hd h
    · refine ite_mono (fun hc h => ?_) (fun hc h => ?_) h
      · exact t_X12_number_p30 hR hQ hd h
      · exact t_X12_number_p49 hR hQ hd h
  · exact hQ _ _ hd h
/-! CalledRiverModel.qAsksWord -/
set_option maxHeartbeats 4000000 in
set_option maxRecDepth 100000 in
def s_X12_qAsksWord (v1 : Int32) (Q : St → Prop) (u : St) : Prop :=
  if v1 = (0 : Int32) then (s_X12_asks 267 (fun u3 => Q u3) u) else if v1 = (1 : Int32) then (s_X12_asks 268 (fun u6 => Q u6) u) else if v1 = (2 : Int32) then (s_X12_asks 269 (fun u9 => Q u9) u) else if v1 = (3 : Int32) then (s_X12_asks 270 (fun u12 => Q u12) u) else if v1 = (4 : Int32) then (s_X12_asks 271 (fun u15 => Q u15) u) else if v1 = (5 : Int32) then (s_X12_asks 272 (fun u18 => Q u18) u) else if v1 = (6 : Int32) then (s_X12_asks 273 (fun u21 => Q u21) u) else if v1 = (7 : Int32) then (s_X12_asks 274 (fun u24 => Q u24) u) else if v1 = (8 : Int32) then (s_X12_asks 275 (fun u27 => Q u27) u) else if v1 = (9 : Int32) then (s_X12_asks 276 (fun u30 => Q u30) u) else if v1 = (10 : Int32) then (s_X12_asks 277 (fun u33 => Q u33) u) else if v1 = (11 : Int32) then (s_X12_asks 278 (fun u36 => Q u36) u) else if v1 = (12 : Int32) then (s_X12_asks 279 (fun u39 => Q u39) u) else if v1 = (13 : Int32) then (s_X12_asks 280 (fun u42 => Q u42) u) else (s_X12_asks 281 (fun u45 => Q u45) u)
set_option maxHeartbeats 4000000 in
set_option maxRecDepth 100000 in
theorem t_X12_qAsksWord {ρ : Nat → Nat → Option Nat} (hR : RfH ρ) {v1 : Int32} {Q : St → Prop} {QW : Mem → Prop} (hQ : ∀ (u : St), DK u → Q u → QW (emb ρ u)) {u : St} (hd : DK u) (h : s_X12_qAsksWord v1 Q u) : wp_X12_qAsksWord SH 198 v1 QW (emb ρ u) := by
  unfold wp_X12_qAsksWord
  unfold s_X12_qAsksWord at h
  refine ite_mono (fun hc h => ?_) (fun hc h => ?_) h
  · refine ⟨on_198, ?_⟩
    refine ⟨_, rn_198_93 hR _, ?_⟩
    refine t_X12_asks hR (fun u3 hd h => ?_) hd h
    exact hQ _ hd h
  refine ite_mono (fun hc h => ?_) (fun hc h => ?_) h
  · refine ⟨on_198, ?_⟩
    refine ⟨_, rn_198_94 hR _, ?_⟩
    refine t_X12_asks hR (fun u6 hd h => ?_) hd h
    exact hQ _ hd h
  refine ite_mono (fun hc h => ?_) (fun hc h => ?_) h
  · refine ⟨on_198, ?_⟩
    refine ⟨_, rn_198_95 hR _, ?_⟩
    refine t_X12_asks hR (fun u9 hd h => ?_) hd h
    exact hQ _ hd h
  refine ite_mono (fun hc h => ?_) (fun hc h => ?_) h
  · refine ⟨on_198, ?_⟩
    refine ⟨_, rn_198_96 hR _, ?_⟩
    refine t_X12_asks hR (fun u12 hd h => ?_) hd h
    exact hQ _ hd h
  refine ite_mono (fun hc h => ?_) (fun hc h => ?_) h
  · refine ⟨on_198, ?_⟩
    refine ⟨_, rn_198_97 hR _, ?_⟩
    refine t_X12_asks hR (fun u15 hd h => ?_) hd h
    exact hQ _ hd h
  refine ite_mono (fun hc h => ?_) (fun hc h => ?_) h
  · refine ⟨on_198, ?_⟩
    refine ⟨_, rn_198_98 hR _, ?_⟩
    refine t_X12_asks hR (fun u18 hd h => ?_) hd h
    exact hQ _ hd h
  refine ite_mono (fun hc h => ?_) (fun hc h => ?_) h
  · refine ⟨on_198, ?_⟩
    refine ⟨_, rn_198_99 hR _, ?_⟩
    refine t_X12_asks hR (fun u21 hd h => ?_) hd h
    exact hQ _ hd h
  refine ite_mono (fun hc h => ?_) (fun hc h => ?_) h
  · refine ⟨on_198, ?_⟩
    refine ⟨_, rn_198_100 hR _, ?_⟩
    refine t_X12_asks hR (fun u24 hd h => ?_) hd h
    exact hQ _ hd h
  refine ite_mono (fun hc h => ?_) (fun hc h => ?_) h
  · refine ⟨on_198, ?_⟩
    refine ⟨_, rn_198_101 hR _, ?_⟩
    refine t_X12_asks hR (fun u27 hd h => ?_) hd h
    exact hQ _ hd h
  refine ite_mono (fun hc h => ?_) (fun hc h => ?_) h
  · refine ⟨on_198, ?_⟩
    refine ⟨_, rn_198_102 hR _, ?_⟩
    refine t_X12_asks hR (fun u30 hd h => ?_) hd h
    exact hQ _ hd h
  refine ite_mono (fun hc h => ?_) (fun hc h => ?_) h
  · refine ⟨on_198, ?_⟩
    refine ⟨_, rn_198_103 hR _, ?_⟩
    refine t_X12_asks hR (fun u33 hd h => ?_) hd h
    exact hQ _ hd h
  refine ite_mono (fun hc h => ?_) (fun hc h => ?_) h
  · refine ⟨on_198, ?_⟩
    refine ⟨_, rn_198_104 hR _, ?_⟩
    refine t_X12_asks hR (fun u36 hd h => ?_) hd h
    exact hQ _ hd h
  refine ite_mono (fun hc h => ?_) (fun hc h => ?_) h
  · refine ⟨on_198, ?_⟩
    refine ⟨_, rn_198_105 hR _, ?_⟩
    refine t_X12_asks hR (fun u39 hd h => ?_) hd h
    exact hQ _ hd h
  refine ite_mono (fun hc h => ?_) (fun hc h => ?_) h
  · refine ⟨on_198, ?_⟩
    refine ⟨_, rn_198_106 hR _, ?_⟩
    refine t_X12_asks hR (fun u42 hd h => ?_) hd h
    exact hQ _ hd h
  refine ⟨on_198, ?_⟩
  refine ⟨_, rn_198_107 hR _, ?_⟩
  refine t_X12_asks hR (fun u45 hd h => ?_) hd h
  exact hQ _ hd h
/-! CalledRiverModel.qOpens -/
set_option maxHeartbeats 4000000 in
set_option maxRecDepth 100000 in
def s_X12_qOpens (v1 : Int32) (v2 : Int32) (Q : St → Prop) (u : St) : Prop :=
  if (u.1 198 5) = 0 then (if (u.1 198 112) = (6 : Int32) then (s_X12_fail (4 : Int32) v2 (fun u7 => Q u7) u) else (bnd (tI u 198 112 ((u.1 198 112) + (1 : Int32))) (fun u1 => vp_in (u1.1 198 111) 1700 ∧ bnd (tI u1 283 (u1.1 198 111).toNatClampNeg v1) (fun u4 => bnd (tI u4 198 111 ((u4.1 198 111) + (1 : Int32))) (fun u5 => Q u5))))) else (Q u)
set_option maxHeartbeats 4000000 in
set_option maxRecDepth 100000 in
theorem t_X12_qOpens {ρ : Nat → Nat → Option Nat} (hR : RfH ρ) {v1 : Int32} {v2 : Int32} {Q : St → Prop} {QW : Mem → Prop} (hQ : ∀ (u : St), DK u → Q u → QW (emb ρ u)) {u : St} (hd : DK u) (h : s_X12_qOpens v1 v2 Q u) : wp_X12_qOpens SH 198 v1 v2 QW (emb ρ u) := by
  unfold wp_X12_qOpens
  unfold s_X12_qOpens at h
  refine ⟨on_198, ?_⟩
  refine ite_mono (fun hc h => ?_) (fun hc h => ?_) h
  · refine ite_mono (fun hc h => ?_) (fun hc h => ?_) h
    · refine t_X12_fail hR (fun u7 hd h => ?_) hd h
      exact hQ _ hd h
    · refine bnd_I ?_
      replace h := bnd_e h
      refine ⟨_, rn_198_110 hR _, ?_⟩
      obtain ⟨x3, h⟩ := h
      refine ⟨ix_i (show SH[283]? = some (100, 1700) from rfl) x3, ?_⟩
      refine bnd_I ?_
      replace h := bnd_e h
      refine bnd_I ?_
      replace h := bnd_e h
      exact hQ _ hd h
  · exact hQ _ hd h
/-! CalledRiverModel.isAllowed -/
set_option maxHeartbeats 4000000 in
set_option maxRecDepth 100000 in
def s_X12_isAllowed (v1 : Int32) (Q : Int32 → St → Prop) (u : St) : Prop :=
  if (u.1 198 57) = 0 then (if (8 : Int32) ≤ v1 then (Q (0 : Int32) u) else (Q (1 : Int32) u)) else (if (u.1 198 57) = (1 : Int32) then (if v1 < (3 : Int32) then (Q (1 : Int32) u) else (if v1 = (8 : Int32) then (Q (1 : Int32) u) else (Q (0 : Int32) u))) else (if v1 < (3 : Int32) then (Q (1 : Int32) u) else (if v1 = (5 : Int32) then (Q (1 : Int32) u) else (if v1 ≤ (8 : Int32) then (Q (0 : Int32) u) else (Q (1 : Int32) u)))))
set_option maxHeartbeats 4000000 in
set_option maxRecDepth 100000 in
theorem t_X12_isAllowed {ρ : Nat → Nat → Option Nat} (hR : RfH ρ) {v1 : Int32} {Q : Int32 → St → Prop} {QW : Int32 → Mem → Prop} (hQ : ∀ (r : Int32) (u : St), DK u → Q r u → QW r (emb ρ u)) {u : St} (hd : DK u) (h : s_X12_isAllowed v1 Q u) : wp_X12_isAllowed SH 198 v1 QW (emb ρ u) := by
  unfold wp_X12_isAllowed
  unfold s_X12_isAllowed at h
  refine ⟨on_198, ?_⟩
  refine ite_mono (fun hc h => ?_) (fun hc h => ?_) h
  · refine ite_mono (fun hc h => ?_) (fun hc h => ?_) h
    · exact hQ _ _ hd h
    · exact hQ _ _ hd h
  · refine ite_mono (fun hc h => ?_) (fun hc h => ?_) h
    · refine ite_mono (fun hc h => ?_) (fun hc h => ?_) h
      · exact hQ _ _ hd h
      · refine ite_mono (fun hc h => ?_) (fun hc h => ?_) h
        · exact hQ _ _ hd h
        · exact hQ _ _ hd h
    · refine ite_mono (fun hc h => ?_) (fun hc h => ?_) h
      · exact hQ _ _ hd h
      · refine ite_mono (fun hc h => ?_) (fun hc h => ?_) h
        · exact hQ _ _ hd h
        · refine ite_mono (fun hc h => ?_) (fun hc h => ?_) h
          · exact hQ _ _ hd h
          · exact hQ _ _ hd h
/-! CalledRiverModel.qWordHere -/
set_option maxHeartbeats 4000000 in
set_option maxRecDepth 100000 in
def sX12_qWordHere_p136 (Q : Int32 → St → Prop) (u : St) : Prop :=
  s_X12_isHere 276 (fun r29 u30 => if r29 = 0 then (s_X12_isHere 277 (fun r32 u33 => if r32 = 0 then (s_X12_isHere 278 (fun r35 u36 => if r35 = 0 then (s_X12_isHere 279 (fun r38 u39 => if r38 = 0 then (s_X12_isHere 280 (fun r41 u42 => if r41 = 0 then (s_X12_isHere 281 (fun r44 u45 => if r44 = 0 then (Q (-1 : Int32) u45) else (Q (14 : Int32) u45)) u42) else (Q (13 : Int32) u42)) u39) else (Q (12 : Int32) u39)) u36) else (Q (11 : Int32) u36)) u33) else (Q (10 : Int32) u33)) u30) else (Q (9 : Int32) u30)) u
set_option maxHeartbeats 4000000 in
set_option maxRecDepth 100000 in
def sX12_qWordHere_p114 (Q : Int32 → St → Prop) (u : St) : Prop :=
  if (2 : Int32) ≤ (u.1 198 57) then (sX12_qWordHere_p136 Q u) else (s_X12_isHere 275 (fun r26 u27 => if r26 = 0 then (sX12_qWordHere_p136 Q u27) else (Q (8 : Int32) u27)) u)
set_option maxHeartbeats 4000000 in
set_option maxRecDepth 100000 in
def s_X12_qWordHere (Q : Int32 → St → Prop) (u : St) : Prop :=
  s_X12_isHere 267 (fun r2 u3 => if r2 = 0 then (s_X12_isHere 268 (fun r5 u6 => if r5 = 0 then (s_X12_isHere 269 (fun r8 u9 => if r8 = 0 then (s_X12_isHere 270 (fun r11 u12 => if r11 = 0 then (s_X12_isHere 271 (fun r14 u15 => if r14 = 0 then (s_X12_isHere 272 (fun r17 u18 => if r17 = 0 then (s_X12_isHere 273 (fun r20 u21 => if r20 = 0 then (if (2 : Int32) ≤ (u21.1 198 57) then (sX12_qWordHere_p114 Q u21) else (s_X12_isHere 274 (fun r23 u24 => if r23 = 0 then (sX12_qWordHere_p114 Q u24) else (Q (7 : Int32) u24)) u21)) else (Q (6 : Int32) u21)) u18) else (Q (5 : Int32) u18)) u15) else (Q (4 : Int32) u15)) u12) else (Q (3 : Int32) u12)) u9) else (Q (2 : Int32) u9)) u6) else (Q (1 : Int32) u6)) u3) else (Q (0 : Int32) u3)) u
set_option maxHeartbeats 4000000 in
set_option maxRecDepth 100000 in
theorem t_X12_qWordHere_p136 {ρ : Nat → Nat → Option Nat} (hR : RfH ρ) {Q : Int32 → St → Prop} {QW : Int32 → Mem → Prop} (hQ : ∀ (r : Int32) (u : St), DK u → Q r u → QW r (emb ρ u)) {u : St} (hd : DK u) (h : sX12_qWordHere_p136 Q u) : X12_qWordHere_p136 SH 198 QW (emb ρ u) := by
  unfold X12_qWordHere_p136
  unfold sX12_qWordHere_p136 at h
  refine ⟨on_198, ?_⟩
  refine ⟨_, rn_198_102 hR _, ?_⟩
  refine t_X12_isHere hR (fun r29 u30 hd h => ?_) hd h
  refine ite_mono (fun hc h => ?_) (fun hc h => ?_) h
  · refine ⟨_, rn_198_103 hR _, ?_⟩
    refine t_X12_isHere hR (fun r32 u33 hd h => ?_) hd h
    refine ite_mono (fun hc h => ?_) (fun hc h => ?_) h
    · refine ⟨_, rn_198_104 hR _, ?_⟩
      refine t_X12_isHere hR (fun r35 u36 hd h => ?_) hd h
      refine ite_mono (fun hc h => ?_) (fun hc h => ?_) h
      · refine ⟨_, rn_198_105 hR _, ?_⟩
        refine t_X12_isHere hR (fun r38 u39 hd h => ?_) hd h
        refine ite_mono (fun hc h => ?_) (fun hc h => ?_) h
        · refine ⟨_, rn_198_106 hR _, ?_⟩
          refine t_X12_isHere hR (fun r41 u42 hd h => ?_) hd h
          refine ite_mono (fun hc h => ?_) (fun hc h => ?_) h
          · refine ⟨_, rn_198_107 hR _, ?_⟩
            refine t_X12_isHere hR (fun r44 u45 hd h => ?_) hd h
            refine ite_mono (fun hc h => ?_) (fun hc h => ?_) h
            · exact hQ _ _ hd h
            · exact hQ _ _ hd h
          · exact hQ _ _ hd h
        · exact hQ _ _ hd h
      · exact hQ _ _ hd h
    · exact hQ _ _ hd h
  · exact hQ _ _ hd h
set_option maxHeartbeats 4000000 in
set_option maxRecDepth 100000 in
theorem t_X12_qWordHere_p114 {ρ : Nat → Nat → Option Nat} (hR : RfH ρ) {Q : Int32 → St → Prop} {QW : Int32 → Mem → Prop} (hQ : ∀ (r : Int32) (u : St), DK u → Q r u → QW r (emb ρ u)) {u : St} (hd : DK u) (h : sX12_qWordHere_p114 Q u) : X12_qWordHere_p114 SH 198 QW (emb ρ u) := by
  unfold X12_qWordHere_p114
  unfold sX12_qWordHere_p114 at h
  refine ⟨on_198, ?_⟩
  refine ite_mono (fun hc h => ?_) (fun hc h => ?_) h
  · exact t_X12_qWordHere_p136 hR hQ hd h
  · refine ⟨_, rn_198_101 hR _, ?_⟩
    refine t_X12_isHere hR (fun r26 u27 hd h => ?_) hd h
    refine ite_mono (fun hc h => ?_) (fun hc h => ?_) h
    · exact t_X12_qWordHere_p136 hR hQ hd h
    · exact hQ _ _ hd h
set_option maxHeartbeats 4000000 in
set_option maxRecDepth 100000 in
theorem t_X12_qWordHere {ρ : Nat → Nat → Option Nat} (hR : RfH ρ) {Q : Int32 → St → Prop} {QW : Int32 → Mem → Prop} (hQ : ∀ (r : Int32) (u : St), DK u → Q r u → QW r (emb ρ u)) {u : St} (hd : DK u) (h : s_X12_qWordHere Q u) : wp_X12_qWordHere SH 198 QW (emb ρ u) := by
  unfold wp_X12_qWordHere
  unfold s_X12_qWordHere at h
  refine ⟨on_198, ?_⟩
  refine ⟨_, rn_198_93 hR _, ?_⟩
  refine t_X12_isHere hR (fun r2 u3 hd h => ?_) hd h
  refine ite_mono (fun hc h => ?_) (fun hc h => ?_) h
  · refine ⟨_, rn_198_94 hR _, ?_⟩
    refine t_X12_isHere hR (fun r5 u6 hd h => ?_) hd h
    refine ite_mono (fun hc h => ?_) (fun hc h => ?_) h
    · refine ⟨_, rn_198_95 hR _, ?_⟩
      refine t_X12_isHere hR (fun r8 u9 hd h => ?_) hd h
      refine ite_mono (fun hc h => ?_) (fun hc h => ?_) h
      · refine ⟨_, rn_198_96 hR _, ?_⟩
        refine t_X12_isHere hR (fun r11 u12 hd h => ?_) hd h
        refine ite_mono (fun hc h => ?_) (fun hc h => ?_) h
        · refine ⟨_, rn_198_97 hR _, ?_⟩
          refine t_X12_isHere hR (fun r14 u15 hd h => ?_) hd h
          refine ite_mono (fun hc h => ?_) (fun hc h => ?_) h
          · refine ⟨_, rn_198_98 hR _, ?_⟩
            refine t_X12_isHere hR (fun r17 u18 hd h => ?_) hd h
            refine ite_mono (fun hc h => ?_) (fun hc h => ?_) h
            · refine ⟨_, rn_198_99 hR _, ?_⟩
              refine t_X12_isHere hR (fun r20 u21 hd h => ?_) hd h
              refine ite_mono (fun hc h => ?_) (fun hc h => ?_) h
              · refine ite_mono (fun hc h => ?_) (fun hc h => ?_) h
                · exact t_X12_qWordHere_p114 hR hQ hd h
                · refine ⟨_, rn_198_100 hR _, ?_⟩
                  refine t_X12_isHere hR (fun r23 u24 hd h => ?_) hd h
                  refine ite_mono (fun hc h => ?_) (fun hc h => ?_) h
                  · exact t_X12_qWordHere_p114 hR hQ hd h
                  · exact hQ _ _ hd h
              · exact hQ _ _ hd h
            · exact hQ _ _ hd h
          · exact hQ _ _ hd h
        · exact hQ _ _ hd h
      · exact hQ _ _ hd h
    · exact hQ _ _ hd h
  · exact hQ _ _ hd h
/-! CalledRiverModel.qWordOf -/
set_option maxHeartbeats 4000000 in
set_option maxRecDepth 100000 in
def s_X12_qWordOf (v1 : Int32) (v2 : Int32) (Q : Int32 → St → Prop) (u : St) : Prop :=
  s_X12_qWordHere  (fun r1 u2 => if r1 < v1 then (Q (-1 : Int32) u2) else (if v2 ≤ r1 then (Q (-1 : Int32) u2) else (s_X12_isAllowed r1 (fun r3 u4 => if r3 = 0 then (Q (-1 : Int32) u4) else (Q r1 u4)) u2))) u
set_option maxHeartbeats 4000000 in
set_option maxRecDepth 100000 in
theorem t_X12_qWordOf {ρ : Nat → Nat → Option Nat} (hR : RfH ρ) {v1 : Int32} {v2 : Int32} {Q : Int32 → St → Prop} {QW : Int32 → Mem → Prop} (hQ : ∀ (r : Int32) (u : St), DK u → Q r u → QW r (emb ρ u)) {u : St} (hd : DK u) (h : s_X12_qWordOf v1 v2 Q u) : wp_X12_qWordOf SH 198 v1 v2 QW (emb ρ u) := by
  unfold wp_X12_qWordOf
  unfold s_X12_qWordOf at h
  refine ⟨on_198, ?_⟩
  refine t_X12_qWordHere hR (fun r1 u2 hd h => ?_) hd h
  refine ite_mono (fun hc h => ?_) (fun hc h => ?_) h
  · exact hQ _ _ hd h
  · refine ite_mono (fun hc h => ?_) (fun hc h => ?_) h
    · exact hQ _ _ hd h
    · refine t_X12_isAllowed hR (fun r3 u4 hd h => ?_) hd h
      refine ite_mono (fun hc h => ?_) (fun hc h => ?_) h
      · exact hQ _ _ hd h
      · exact hQ _ _ hd h
/-! CalledRiverModel.qPartTold -/
set_option maxHeartbeats 4000000 in
set_option maxRecDepth 100000 in
def sX12_qPartTold_p183 (v1 : Int32) (Q : St → Prop) (K2 : Int32 → St → Prop) (u : St) : Prop :=
  K2 v1 u
set_option maxHeartbeats 4000000 in
set_option maxRecDepth 100000 in
def sX12_qPartTold_p144 (v1 : Int32) (Q : St → Prop) (K2 : Int32 → St → Prop) (u : St) : Prop :=
  s_X12_asksSign (40 : Int32) (fun u37 => sX12_qPartTold_p183 v1 Q K2 u37) u
set_option maxHeartbeats 4000000 in
set_option maxRecDepth 100000 in
def sX12_qPartTold_p139 (v1 : Int32) (v5 : Int32) (s1 : Int32) (Q : St → Prop) (K2 : Int32 → St → Prop) (u : St) : Prop :=
  s_X12_qOpens s1 v5 (fun u39 => sX12_qPartTold_p144 v1 Q K2 u39) u
set_option maxHeartbeats 4000000 in
set_option maxRecDepth 100000 in
def sX12_qPartTold_p118 (v1 : Int32) (v4 : Int32) (s0 : Int32) (Q : St → Prop) (K2 : Int32 → St → Prop) (u : St) : Prop :=
  if s0 = (-1 : Int32) then (sX12_qPartTold_p144 v1 Q K2 u) else (if v4 = 0 then (sX12_qPartTold_p139 v1 s0 (22 : Int32) Q K2 u) else (sX12_qPartTold_p139 v1 s0 (21 : Int32) Q K2 u))
set_option maxHeartbeats 4000000 in
set_option maxRecDepth 100000 in
def sX12_qPartTold_p101 (v1 : Int32) (v4 : Int32) (Q : St → Prop) (K2 : Int32 → St → Prop) (u : St) : Prop :=
  s_X12_look  (fun r30 u31 => if r30 = (40 : Int32) then (sX12_qPartTold_p118 v1 v4 (u31.1 198 2) Q K2 u31) else (sX12_qPartTold_p118 v1 v4 (-1 : Int32) Q K2 u31)) u
set_option maxHeartbeats 4000000 in
set_option maxRecDepth 100000 in
def sX12_qPartTold_p78 (v1 : Int32) (Q : St → Prop) (K2 : Int32 → St → Prop) (u : St) : Prop :=
  s_X12_takes 265 (fun r23 u24 => if r23 = 0 then (s_X12_asks 266 (fun u27 => sX12_qPartTold_p101 v1 r23 Q K2 u27) u24) else (sX12_qPartTold_p101 v1 r23 Q K2 u24)) u
set_option maxHeartbeats 4000000 in
set_option maxRecDepth 100000 in
def sX12_qPartTold_p237 (s1 : Int32) (Q : St → Prop) (u : St) : Prop :=
  s_X12_qCode s1 (fun u33 => s_X12_qEndsPart  (fun u35 => Q u35) u33) u
set_option maxHeartbeats 4000000 in
set_option maxRecDepth 100000 in
def sX12_qPartTold_p212 (v2 : Int32) (Q : St → Prop) (u : St) : Prop :=
  if v2 = (-1 : Int32) then (s_X12_number (0 : Int32) (9999 : Int32) (fun r28 u29 => sX12_qPartTold_p237 ((1000 : Int32) + r28) Q u29) u) else (sX12_qPartTold_p237 ((40 : Int32) + v2) Q u)
set_option maxHeartbeats 4000000 in
set_option maxRecDepth 100000 in
def sX12_qPartTold_p186 (Q : St → Prop) (u : St) : Prop :=
  if (u.1 198 5) = 0 then (s_X12_qWordOf (0 : Int32) (13 : Int32) (fun r18 u19 => if r18 = (-1 : Int32) then (sX12_qPartTold_p212 r18 Q u19) else (s_X12_qAsksWord r18 (fun u21 => sX12_qPartTold_p212 r18 Q u21) u19)) u) else (Q u)
set_option maxHeartbeats 4000000 in
set_option maxRecDepth 100000 in
def sX12_qPartTold_p2b (Q : St → Prop) (K2 : Int32 → St → Prop) (v1 : Int32) (u : St) : Prop :=
  if v1 = 0 then (sX12_qPartTold_p186 Q u) else (if (u.1 198 5) = 0 then (s_X12_look  (fun r1 u2 => s_X12_qWordOf (13 : Int32) (15 : Int32) (fun r3 u4 => if r1 = (40 : Int32) then (s_X12_qOpens (20 : Int32) (u4.1 198 2) (fun u16 => bnd (tI u16 198 2 ((u16.1 198 2) + (1 : Int32))) (fun u17 => sX12_qPartTold_p183 v1 Q K2 u17)) u4) else (s_X12_isHere 265 (fun r6 u7 => if r6 = 0 then (s_X12_isHere 266 (fun r9 u10 => if r9 = 0 then (if r3 = (-1 : Int32) then (sX12_qPartTold_p183 (0 : Int32) Q K2 u10) else (s_X12_qOpens (((60 : Int32) + r3) - (13 : Int32)) (u10.1 198 2) (fun u12 => s_X12_qAsksWord r3 (fun u14 => sX12_qPartTold_p183 v1 Q K2 u14) u12) u10)) else (sX12_qPartTold_p78 v1 Q K2 u10)) u7) else (sX12_qPartTold_p78 v1 Q K2 u7)) u4)) u2) u) else (sX12_qPartTold_p186 Q u))
set_option maxHeartbeats 4000000 in
set_option maxRecDepth 100000 in
def sX12_qPartTold_p2n (Q : St → Prop) : Nat → Int32 → St → Prop
  | 0 => fun _ _ => False
  | n + 1 => sX12_qPartTold_p2b Q (sX12_qPartTold_p2n Q n)
set_option maxHeartbeats 4000000 in
set_option maxRecDepth 100000 in
def sX12_qPartTold_p2 (Q : St → Prop) (v1 : Int32) (u : St) : Prop := ∃ n, sX12_qPartTold_p2n Q n v1 u
set_option maxHeartbeats 4000000 in
set_option maxRecDepth 100000 in
def s_X12_qPartTold (Q : St → Prop) (u : St) : Prop :=
  sX12_qPartTold_p2 Q (1 : Int32) u
set_option maxHeartbeats 4000000 in
set_option maxRecDepth 100000 in
theorem t_X12_qPartTold_p183 {ρ : Nat → Nat → Option Nat} (hR : RfH ρ) {v1 : Int32} {Q : St → Prop} {QW : Mem → Prop} {K2 : Int32 → St → Prop} {KW2 : Int32 → Mem → Prop} (hQ : ∀ (u : St), DK u → Q u → QW (emb ρ u)) (hK2 : ∀ (x1 : Int32) (u : St), DK u → K2 x1 u → KW2 x1 (emb ρ u)) {u : St} (hd : DK u) (h : sX12_qPartTold_p183 v1 Q K2 u) : X12_qPartTold_p183 SH 198 v1 QW KW2 (emb ρ u) := by
  unfold X12_qPartTold_p183
  unfold sX12_qPartTold_p183 at h
  exact hK2 _ _ hd h
set_option maxHeartbeats 4000000 in
set_option maxRecDepth 100000 in
theorem t_X12_qPartTold_p144 {ρ : Nat → Nat → Option Nat} (hR : RfH ρ) {v1 : Int32} {Q : St → Prop} {QW : Mem → Prop} {K2 : Int32 → St → Prop} {KW2 : Int32 → Mem → Prop} (hQ : ∀ (u : St), DK u → Q u → QW (emb ρ u)) (hK2 : ∀ (x1 : Int32) (u : St), DK u → K2 x1 u → KW2 x1 (emb ρ u)) {u : St} (hd : DK u) (h : sX12_qPartTold_p144 v1 Q K2 u) : X12_qPartTold_p144 SH 198 v1 QW KW2 (emb ρ u) := by
  unfold X12_qPartTold_p144
  unfold sX12_qPartTold_p144 at h
  refine ⟨on_198, ?_⟩
  refine t_X12_asksSign hR (fun u37 hd h => ?_) hd h
  exact t_X12_qPartTold_p183 hR hQ hK2 hd h
set_option maxHeartbeats 4000000 in
set_option maxRecDepth 100000 in
theorem t_X12_qPartTold_p139 {ρ : Nat → Nat → Option Nat} (hR : RfH ρ) {v1 : Int32} {v5 : Int32} {s1 : Int32} {Q : St → Prop} {QW : Mem → Prop} {K2 : Int32 → St → Prop} {KW2 : Int32 → Mem → Prop} (hQ : ∀ (u : St), DK u → Q u → QW (emb ρ u)) (hK2 : ∀ (x1 : Int32) (u : St), DK u → K2 x1 u → KW2 x1 (emb ρ u)) {u : St} (hd : DK u) (h : sX12_qPartTold_p139 v1 v5 s1 Q K2 u) : X12_qPartTold_p139 SH 198 v1 v5 s1 198 QW KW2 (emb ρ u) := by
  unfold X12_qPartTold_p139
  unfold sX12_qPartTold_p139 at h
  refine ⟨on_198, ?_⟩
  refine t_X12_qOpens hR (fun u39 hd h => ?_) hd h
  exact t_X12_qPartTold_p144 hR hQ hK2 hd h
set_option maxHeartbeats 4000000 in
set_option maxRecDepth 100000 in
theorem t_X12_qPartTold_p118 {ρ : Nat → Nat → Option Nat} (hR : RfH ρ) {v1 : Int32} {v4 : Int32} {s0 : Int32} {Q : St → Prop} {QW : Mem → Prop} {K2 : Int32 → St → Prop} {KW2 : Int32 → Mem → Prop} (hQ : ∀ (u : St), DK u → Q u → QW (emb ρ u)) (hK2 : ∀ (x1 : Int32) (u : St), DK u → K2 x1 u → KW2 x1 (emb ρ u)) {u : St} (hd : DK u) (h : sX12_qPartTold_p118 v1 v4 s0 Q K2 u) : X12_qPartTold_p118 SH 198 v1 v4 s0 QW KW2 (emb ρ u) := by
  unfold X12_qPartTold_p118
  unfold sX12_qPartTold_p118 at h
  refine ite_mono (fun hc h => ?_) (fun hc h => ?_) h
  · exact t_X12_qPartTold_p144 hR hQ hK2 hd h
  · refine ite_mono (fun hc h => ?_) (fun hc h => ?_) h
    · exact t_X12_qPartTold_p139 hR hQ hK2 hd h
    · exact t_X12_qPartTold_p139 hR hQ hK2 hd h
set_option maxHeartbeats 4000000 in
set_option maxRecDepth 100000 in
theorem t_X12_qPartTold_p101 {ρ : Nat → Nat → Option Nat} (hR : RfH ρ) {v1 : Int32} {v4 : Int32} {Q : St → Prop} {QW : Mem → Prop} {K2 : Int32 → St → Prop} {KW2 : Int32 → Mem → Prop} (hQ : ∀ (u : St), DK u → Q u → QW (emb ρ u)) (hK2 : ∀ (x1 : Int32) (u : St), DK u → K2 x1 u → KW2 x1 (emb ρ u)) {u : St} (hd : DK u) (h : sX12_qPartTold_p101 v1 v4 Q K2 u) : X12_qPartTold_p101 SH 198 v1 v4 QW KW2 (emb ρ u) := by
  unfold X12_qPartTold_p101
  unfold sX12_qPartTold_p101 at h
  refine ⟨on_198, ?_⟩
  refine t_X12_look hR (fun r30 u31 hd h => ?_) hd h
  refine ite_mono (fun hc h => ?_) (fun hc h => ?_) h
  · exact t_X12_qPartTold_p118 hR hQ hK2 hd h
  · exact t_X12_qPartTold_p118 hR hQ hK2 hd h
set_option maxHeartbeats 4000000 in
set_option maxRecDepth 100000 in
theorem t_X12_qPartTold_p78 {ρ : Nat → Nat → Option Nat} (hR : RfH ρ) {v1 : Int32} {Q : St → Prop} {QW : Mem → Prop} {K2 : Int32 → St → Prop} {KW2 : Int32 → Mem → Prop} (hQ : ∀ (u : St), DK u → Q u → QW (emb ρ u)) (hK2 : ∀ (x1 : Int32) (u : St), DK u → K2 x1 u → KW2 x1 (emb ρ u)) {u : St} (hd : DK u) (h : sX12_qPartTold_p78 v1 Q K2 u) : X12_qPartTold_p78 SH 198 v1 QW KW2 (emb ρ u) := by
  unfold X12_qPartTold_p78
  unfold sX12_qPartTold_p78 at h
  refine ⟨on_198, ?_⟩
  refine ⟨_, rn_198_91 hR _, ?_⟩
  refine t_X12_takes hR (fun r23 u24 hd h => ?_) hd h
  refine ite_mono (fun hc h => ?_) (fun hc h => ?_) h
  · refine ⟨_, rn_198_92 hR _, ?_⟩
    refine t_X12_asks hR (fun u27 hd h => ?_) hd h
    exact t_X12_qPartTold_p101 hR hQ hK2 hd h
  · exact t_X12_qPartTold_p101 hR hQ hK2 hd h
set_option maxHeartbeats 4000000 in
set_option maxRecDepth 100000 in
theorem t_X12_qPartTold_p237 {ρ : Nat → Nat → Option Nat} (hR : RfH ρ) {s1 : Int32} {Q : St → Prop} {QW : Mem → Prop} (hQ : ∀ (u : St), DK u → Q u → QW (emb ρ u)) {u : St} (hd : DK u) (h : sX12_qPartTold_p237 s1 Q u) : X12_qPartTold_p237 SH 198 s1 198 QW (emb ρ u) := by
  unfold X12_qPartTold_p237
  unfold sX12_qPartTold_p237 at h
  refine ⟨on_198, ?_⟩
  refine t_X12_qCode hR (fun u33 hd h => ?_) hd h
  refine ⟨on_198, ?_⟩
  refine t_X12_qEndsPart hR (fun u35 hd h => ?_) hd h
  exact hQ _ hd h
set_option maxHeartbeats 4000000 in
set_option maxRecDepth 100000 in
theorem t_X12_qPartTold_p212 {ρ : Nat → Nat → Option Nat} (hR : RfH ρ) {v2 : Int32} {Q : St → Prop} {QW : Mem → Prop} (hQ : ∀ (u : St), DK u → Q u → QW (emb ρ u)) {u : St} (hd : DK u) (h : sX12_qPartTold_p212 v2 Q u) : X12_qPartTold_p212 SH 198 v2 QW (emb ρ u) := by
  unfold X12_qPartTold_p212
  unfold sX12_qPartTold_p212 at h
  refine ite_mono (fun hc h => ?_) (fun hc h => ?_) h
  · refine ⟨on_198, ?_⟩
    refine t_X12_number hR (fun r28 u29 hd h => ?_) hd h
    exact t_X12_qPartTold_p237 hR hQ hd h
  · exact t_X12_qPartTold_p237 hR hQ hd h
set_option maxHeartbeats 4000000 in
set_option maxRecDepth 100000 in
theorem t_X12_qPartTold_p186 {ρ : Nat → Nat → Option Nat} (hR : RfH ρ) {Q : St → Prop} {QW : Mem → Prop} (hQ : ∀ (u : St), DK u → Q u → QW (emb ρ u)) {u : St} (hd : DK u) (h : sX12_qPartTold_p186 Q u) : X12_qPartTold_p186 SH 198 QW (emb ρ u) := by
  unfold X12_qPartTold_p186
  unfold sX12_qPartTold_p186 at h
  refine ⟨on_198, ?_⟩
  refine ite_mono (fun hc h => ?_) (fun hc h => ?_) h
  · refine t_X12_qWordOf hR (fun r18 u19 hd h => ?_) hd h
    refine ite_mono (fun hc h => ?_) (fun hc h => ?_) h
    · exact t_X12_qPartTold_p212 hR hQ hd h
    · refine t_X12_qAsksWord hR (fun u21 hd h => ?_) hd h
      exact t_X12_qPartTold_p212 hR hQ hd h
  · exact hQ _ hd h
set_option maxHeartbeats 4000000 in
set_option maxRecDepth 100000 in
theorem t_X12_qPartTold_p2b {ρ : Nat → Nat → Option Nat} (hR : RfH ρ) {v1 : Int32} {Q : St → Prop} {QW : Mem → Prop} (hQ : ∀ (u : St), DK u → Q u → QW (emb ρ u)) {K2 : Int32 → St → Prop} {KW2 : Int32 → Mem → Prop} (hK2 : ∀ (x1 : Int32) (u : St), DK u → K2 x1 u → KW2 x1 (emb ρ u)) {u : St} (hd : DK u) (h : sX12_qPartTold_p2b Q K2 v1 u) : X12_qPartTold_p2b SH 198 QW KW2 v1 (emb ρ u) := by
  unfold X12_qPartTold_p2b
  unfold sX12_qPartTold_p2b at h
  refine ite_mono (fun hc h => ?_) (fun hc h => ?_) h
  · exact t_X12_qPartTold_p186 hR hQ hd h
  · refine ⟨on_198, ?_⟩
    refine ite_mono (fun hc h => ?_) (fun hc h => ?_) h
    · refine t_X12_look hR (fun r1 u2 hd h => ?_) hd h
      refine t_X12_qWordOf hR (fun r3 u4 hd h => ?_) hd h
      refine ite_mono (fun hc h => ?_) (fun hc h => ?_) h
      · refine t_X12_qOpens hR (fun u16 hd h => ?_) hd h
        refine bnd_I ?_
        replace h := bnd_e h
        exact t_X12_qPartTold_p183 hR hQ hK2 hd h
      · refine ⟨_, rn_198_91 hR _, ?_⟩
        refine t_X12_isHere hR (fun r6 u7 hd h => ?_) hd h
        refine ite_mono (fun hc h => ?_) (fun hc h => ?_) h
        · refine ⟨_, rn_198_92 hR _, ?_⟩
          refine t_X12_isHere hR (fun r9 u10 hd h => ?_) hd h
          refine ite_mono (fun hc h => ?_) (fun hc h => ?_) h
          · refine ite_mono (fun hc h => ?_) (fun hc h => ?_) h
            · exact t_X12_qPartTold_p183 hR hQ hK2 hd h
            · refine t_X12_qOpens hR (fun u12 hd h => ?_) hd h
              refine t_X12_qAsksWord hR (fun u14 hd h => ?_) hd h
              exact t_X12_qPartTold_p183 hR hQ hK2 hd h
          · exact t_X12_qPartTold_p78 hR hQ hK2 hd h
        · exact t_X12_qPartTold_p78 hR hQ hK2 hd h
    · exact t_X12_qPartTold_p186 hR hQ hd h
set_option maxHeartbeats 4000000 in
set_option maxRecDepth 100000 in
theorem t_X12_qPartTold_p2n {ρ : Nat → Nat → Option Nat} (hR : RfH ρ) {Q : St → Prop} {QW : Mem → Prop} (hQ : ∀ (u : St), DK u → Q u → QW (emb ρ u)) : ∀ (n : Nat) (v1 : Int32) (u : St), DK u → sX12_qPartTold_p2n Q n v1 u → X12_qPartTold_p2n SH 198 QW n v1 (emb ρ u)
  | 0, _, _,  _, h => h.elim
  | n + 1, v1,  u,  hd, h => t_X12_qPartTold_p2b hR hQ (fun v1 u  hd h => t_X12_qPartTold_p2n hR hQ n v1 u  hd h) hd h
set_option maxHeartbeats 4000000 in
set_option maxRecDepth 100000 in
theorem t_X12_qPartTold_p2 {ρ : Nat → Nat → Option Nat} (hR : RfH ρ) {v1 : Int32} {Q : St → Prop} {QW : Mem → Prop} (hQ : ∀ (u : St), DK u → Q u → QW (emb ρ u)) {u : St} (hd : DK u) (h : sX12_qPartTold_p2 Q v1 u) : X12_qPartTold_p2 SH 198 QW v1 (emb ρ u) := h.elim (fun n h => ⟨n, t_X12_qPartTold_p2n hR hQ n _ _ hd h⟩)
set_option maxHeartbeats 4000000 in
set_option maxRecDepth 100000 in
theorem t_X12_qPartTold {ρ : Nat → Nat → Option Nat} (hR : RfH ρ) {Q : St → Prop} {QW : Mem → Prop} (hQ : ∀ (u : St), DK u → Q u → QW (emb ρ u)) {u : St} (hd : DK u) (h : s_X12_qPartTold Q u) : wp_X12_qPartTold SH 198 QW (emb ρ u) := by
  unfold wp_X12_qPartTold
  unfold s_X12_qPartTold at h
  exact t_X12_qPartTold_p2 hR hQ hd h
/-! CalledRiverModel.qSums -/
set_option maxHeartbeats 4000000 in
set_option maxRecDepth 100000 in
def sX12_qSums_p49 (v1 : Int32) (s0 : Int32) (Q : St → Prop) (K15 : Int32 → St → Prop) (u : St) : Prop :=
  K15 s0 u
set_option maxHeartbeats 4000000 in
set_option maxRecDepth 100000 in
def sX12_qSums_p48 (v1 : Int32) (Q : St → Prop) (K15 : Int32 → St → Prop) (u : St) : Prop :=
  sX12_qSums_p49 v1 (0 : Int32) Q K15 u
set_option maxHeartbeats 4000000 in
set_option maxRecDepth 100000 in
def sX12_qSums_p78 (v1 : Int32) (Q : St → Prop) (u : St) : Prop :=
  bnd (tI u 198 113 v1) (fun u8 => Q u8)
set_option maxHeartbeats 4000000 in
set_option maxRecDepth 100000 in
def sX12_qSums_p53b (v1 : Int32) (Q : St → Prop) (K53 : St → Prop) (u : St) : Prop :=
  if (u.1 198 5) = 0 then (if (u.1 198 111) ≤ (u.1 198 113) then (sX12_qSums_p78 v1 Q u) else (s_X12_qDrops  (fun u7 => K53 u7) u)) else (sX12_qSums_p78 v1 Q u)
set_option maxHeartbeats 4000000 in
set_option maxRecDepth 100000 in
def sX12_qSums_p53n (v1 : Int32) (Q : St → Prop) : Nat → St → Prop
  | 0 => fun _ => False
  | n + 1 => sX12_qSums_p53b v1 Q (sX12_qSums_p53n v1 Q n)
set_option maxHeartbeats 4000000 in
set_option maxRecDepth 100000 in
def sX12_qSums_p53 (v1 : Int32) (Q : St → Prop) (u : St) : Prop := ∃ n, sX12_qSums_p53n v1 Q n u
set_option maxHeartbeats 4000000 in
set_option maxRecDepth 100000 in
def sX12_qSums_p15b (v1 : Int32) (Q : St → Prop) (K15 : Int32 → St → Prop) (v2 : Int32) (u : St) : Prop :=
  if v2 = 0 then (sX12_qSums_p53 v1 Q u) else (if (u.1 198 5) = 0 then (s_X12_qPartTold  (fun u3 => if (u3.1 198 5) = 0 then (s_X12_qGoesOn  (fun r4 u5 => if r4 = 0 then (sX12_qSums_p48 v1 Q K15 u5) else (sX12_qSums_p49 v1 (1 : Int32) Q K15 u5)) u3) else (sX12_qSums_p48 v1 Q K15 u3)) u) else (sX12_qSums_p53 v1 Q u))
set_option maxHeartbeats 4000000 in
set_option maxRecDepth 100000 in
def sX12_qSums_p15n (v1 : Int32) (Q : St → Prop) : Nat → Int32 → St → Prop
  | 0 => fun _ _ => False
  | n + 1 => sX12_qSums_p15b v1 Q (sX12_qSums_p15n v1 Q n)
set_option maxHeartbeats 4000000 in
set_option maxRecDepth 100000 in
def sX12_qSums_p15 (v1 : Int32) (Q : St → Prop) (v2 : Int32) (u : St) : Prop := ∃ n, sX12_qSums_p15n v1 Q n v2 u
set_option maxHeartbeats 4000000 in
set_option maxRecDepth 100000 in
def s_X12_qSums (Q : St → Prop) (u : St) : Prop :=
  bnd (tI u 198 113 (u.1 198 111)) (fun u1 => sX12_qSums_p15 (u.1 198 113) Q (1 : Int32) u1)
set_option maxHeartbeats 4000000 in
set_option maxRecDepth 100000 in
theorem t_X12_qSums_p49 {ρ : Nat → Nat → Option Nat} (hR : RfH ρ) {v1 : Int32} {s0 : Int32} {Q : St → Prop} {QW : Mem → Prop} {K15 : Int32 → St → Prop} {KW15 : Int32 → Mem → Prop} (hQ : ∀ (u : St), DK u → Q u → QW (emb ρ u)) (hK15 : ∀ (x2 : Int32) (u : St), DK u → K15 x2 u → KW15 x2 (emb ρ u)) {u : St} (hd : DK u) (h : sX12_qSums_p49 v1 s0 Q K15 u) : X12_qSums_p49 SH 198 v1 s0 QW KW15 (emb ρ u) := by
  unfold X12_qSums_p49
  unfold sX12_qSums_p49 at h
  exact hK15 _ _ hd h
set_option maxHeartbeats 4000000 in
set_option maxRecDepth 100000 in
theorem t_X12_qSums_p48 {ρ : Nat → Nat → Option Nat} (hR : RfH ρ) {v1 : Int32} {Q : St → Prop} {QW : Mem → Prop} {K15 : Int32 → St → Prop} {KW15 : Int32 → Mem → Prop} (hQ : ∀ (u : St), DK u → Q u → QW (emb ρ u)) (hK15 : ∀ (x2 : Int32) (u : St), DK u → K15 x2 u → KW15 x2 (emb ρ u)) {u : St} (hd : DK u) (h : sX12_qSums_p48 v1 Q K15 u) : X12_qSums_p48 SH 198 v1 QW KW15 (emb ρ u) := by
  unfold X12_qSums_p48
  unfold sX12_qSums_p48 at h
  exact t_X12_qSums_p49 hR hQ hK15 hd h
set_option maxHeartbeats 4000000 in
set_option maxRecDepth 100000 in
theorem t_X12_qSums_p78 {ρ : Nat → Nat → Option Nat} (hR : RfH ρ) {v1 : Int32} {Q : St → Prop} {QW : Mem → Prop} (hQ : ∀ (u : St), DK u → Q u → QW (emb ρ u)) {u : St} (hd : DK u) (h : sX12_qSums_p78 v1 Q u) : X12_qSums_p78 SH 198 v1 QW (emb ρ u) := by
  unfold X12_qSums_p78
  unfold sX12_qSums_p78 at h
  refine ⟨on_198, ?_⟩
  refine bnd_I ?_
  replace h := bnd_e h
  exact hQ _ hd h
set_option maxHeartbeats 4000000 in
set_option maxRecDepth 100000 in
theorem t_X12_qSums_p53b {ρ : Nat → Nat → Option Nat} (hR : RfH ρ) {v1 : Int32} {Q : St → Prop} {QW : Mem → Prop} (hQ : ∀ (u : St), DK u → Q u → QW (emb ρ u)) {K53 : St → Prop} {KW53 : Mem → Prop} (hK53 : ∀ (u : St), DK u → K53 u → KW53 (emb ρ u)) {u : St} (hd : DK u) (h : sX12_qSums_p53b v1 Q K53 u) : X12_qSums_p53b SH 198 v1 QW KW53 (emb ρ u) := by
  unfold X12_qSums_p53b
  unfold sX12_qSums_p53b at h
  refine ⟨on_198, ?_⟩
  refine ite_mono (fun hc h => ?_) (fun hc h => ?_) h
  · refine ite_mono (fun hc h => ?_) (fun hc h => ?_) h
    · exact t_X12_qSums_p78 hR hQ hd h
    · refine t_X12_qDrops hR (fun u7 hd h => ?_) hd h
      exact hK53  _ hd h
  · exact t_X12_qSums_p78 hR hQ hd h
set_option maxHeartbeats 4000000 in
set_option maxRecDepth 100000 in
theorem t_X12_qSums_p53n {ρ : Nat → Nat → Option Nat} (hR : RfH ρ) {v1 : Int32} {Q : St → Prop} {QW : Mem → Prop} (hQ : ∀ (u : St), DK u → Q u → QW (emb ρ u)) : ∀ (n : Nat) (u : St), DK u → sX12_qSums_p53n v1 Q n u → X12_qSums_p53n SH 198 v1 QW n (emb ρ u)
  | 0,  _,  _, h => h.elim
  | n + 1,  u,  hd, h => t_X12_qSums_p53b hR hQ (fun  u  hd h => t_X12_qSums_p53n hR hQ n  u  hd h) hd h
set_option maxHeartbeats 4000000 in
set_option maxRecDepth 100000 in
theorem t_X12_qSums_p53 {ρ : Nat → Nat → Option Nat} (hR : RfH ρ) {v1 : Int32} {Q : St → Prop} {QW : Mem → Prop} (hQ : ∀ (u : St), DK u → Q u → QW (emb ρ u)) {u : St} (hd : DK u) (h : sX12_qSums_p53 v1 Q u) : X12_qSums_p53 SH 198 v1 QW (emb ρ u) := h.elim (fun n h => ⟨n, t_X12_qSums_p53n hR hQ n _ hd h⟩)
set_option maxHeartbeats 4000000 in
set_option maxRecDepth 100000 in
theorem t_X12_qSums_p15b {ρ : Nat → Nat → Option Nat} (hR : RfH ρ) {v1 : Int32} {v2 : Int32} {Q : St → Prop} {QW : Mem → Prop} (hQ : ∀ (u : St), DK u → Q u → QW (emb ρ u)) {K15 : Int32 → St → Prop} {KW15 : Int32 → Mem → Prop} (hK15 : ∀ (x2 : Int32) (u : St), DK u → K15 x2 u → KW15 x2 (emb ρ u)) {u : St} (hd : DK u) (h : sX12_qSums_p15b v1 Q K15 v2 u) : X12_qSums_p15b SH 198 v1 QW KW15 v2 (emb ρ u) := by
  unfold X12_qSums_p15b
  unfold sX12_qSums_p15b at h
  refine ite_mono (fun hc h => ?_) (fun hc h => ?_) h
  · exact t_X12_qSums_p53 hR hQ hd h
  · refine ⟨on_198, ?_⟩
    refine ite_mono (fun hc h => ?_) (fun hc h => ?_) h
    · refine t_X12_qPartTold hR (fun u3 hd h => ?_) hd h
      refine ite_mono (fun hc h => ?_) (fun hc h => ?_) h
      · refine t_X12_qGoesOn hR (fun r4 u5 hd h => ?_) hd h
        refine ite_mono (fun hc h => ?_) (fun hc h => ?_) h
        · exact t_X12_qSums_p48 hR hQ hK15 hd h
        · exact t_X12_qSums_p49 hR hQ hK15 hd h
      · exact t_X12_qSums_p48 hR hQ hK15 hd h
    · exact t_X12_qSums_p53 hR hQ hd h
set_option maxHeartbeats 4000000 in
set_option maxRecDepth 100000 in
theorem t_X12_qSums_p15n {ρ : Nat → Nat → Option Nat} (hR : RfH ρ) {v1 : Int32} {Q : St → Prop} {QW : Mem → Prop} (hQ : ∀ (u : St), DK u → Q u → QW (emb ρ u)) : ∀ (n : Nat) (v2 : Int32) (u : St), DK u → sX12_qSums_p15n v1 Q n v2 u → X12_qSums_p15n SH 198 v1 QW n v2 (emb ρ u)
  | 0, _, _,  _, h => h.elim
  | n + 1, v2,  u,  hd, h => t_X12_qSums_p15b hR hQ (fun v2 u  hd h => t_X12_qSums_p15n hR hQ n v2 u  hd h) hd h
set_option maxHeartbeats 4000000 in
set_option maxRecDepth 100000 in
theorem t_X12_qSums_p15 {ρ : Nat → Nat → Option Nat} (hR : RfH ρ) {v1 : Int32} {v2 : Int32} {Q : St → Prop} {QW : Mem → Prop} (hQ : ∀ (u : St), DK u → Q u → QW (emb ρ u)) {u : St} (hd : DK u) (h : sX12_qSums_p15 v1 Q v2 u) : X12_qSums_p15 SH 198 v1 QW v2 (emb ρ u) := h.elim (fun n h => ⟨n, t_X12_qSums_p15n hR hQ n _ _ hd h⟩)
set_option maxHeartbeats 4000000 in
set_option maxRecDepth 100000 in
theorem t_X12_qSums {ρ : Nat → Nat → Option Nat} (hR : RfH ρ) {Q : St → Prop} {QW : Mem → Prop} (hQ : ∀ (u : St), DK u → Q u → QW (emb ρ u)) {u : St} (hd : DK u) (h : s_X12_qSums Q u) : wp_X12_qSums SH 198 QW (emb ρ u) := by
  unfold wp_X12_qSums
  unfold s_X12_qSums at h
  refine ⟨on_198, ?_⟩
  refine bnd_I ?_
  replace h := bnd_e h
  exact t_X12_qSums_p15 hR hQ hd h
/-! CalledRiverModel.qTakes -/
set_option maxHeartbeats 4000000 in
set_option maxRecDepth 100000 in
def sX12_qTakes_p133 (Q : St → Prop) (u : St) : Prop :=
  bnd (tI u 198 117 (0 : Int32)) (fun u4 => Q u4)
set_option maxHeartbeats 4000000 in
set_option maxRecDepth 100000 in
def sX12_qTakes_p128 (v2 : Int64) (Q : St → Prop) (u : St) : Prop :=
  bnd (tL u 198 116 v2) (fun u5 => sX12_qTakes_p133 Q u5)
set_option maxHeartbeats 4000000 in
set_option maxRecDepth 100000 in
def sX12_qTakes_p90 (v1 : Int32) (v2 : Int64) (Q : St → Prop) (u : St) : Prop :=
  if v1 ≤ (3 : Int32) then (sX12_qTakes_p133 Q u) else (if (u.1 198 117) = 0 then (if v1 = (4 : Int32) then (if (lg_cmp v2 (u.2.1 198 116)) ≤ 0 then (sX12_qTakes_p133 Q u) else (sX12_qTakes_p128 v2 Q u)) else (if 0 ≤ (lg_cmp v2 (u.2.1 198 116)) then (sX12_qTakes_p133 Q u) else (sX12_qTakes_p128 v2 Q u))) else (sX12_qTakes_p128 v2 Q u))
set_option maxHeartbeats 4000000 in
set_option maxRecDepth 100000 in
def sX12_qTakes_p75 (v1 : Int32) (v2 : Int64) (Q : St → Prop) (u : St) : Prop :=
  if v1 = (3 : Int32) then (bnd (tL u 198 116 ((u.2.1 198 116) + v2)) (fun u3 => sX12_qTakes_p90 v1 v2 Q u3)) else (sX12_qTakes_p90 v1 v2 Q u)
set_option maxHeartbeats 4000000 in
set_option maxRecDepth 100000 in
def sX12_qTakes_p55 (v1 : Int32) (v2 : Int64) (v5 : Int32) (Q : St → Prop) (u : St) : Prop :=
  if v1 = (2 : Int32) then (if v5 = 0 then (sX12_qTakes_p75 v1 v2 Q u) else (bnd (tL u 198 116 ((u.2.1 198 116) + (1 : Int64))) (fun u2 => sX12_qTakes_p75 v1 v2 Q u2))) else (sX12_qTakes_p75 v1 v2 Q u)
set_option maxHeartbeats 4000000 in
set_option maxRecDepth 100000 in
def sX12_qTakes_p48 (v1 : Int32) (v2 : Int64) (v4 : Int32) (v5 : Int32) (Q : St → Prop) (u : St) : Prop :=
  bnd (tL u 198 116 v4.toInt64) (fun u1 => sX12_qTakes_p55 v1 v2 v5 Q u1)
set_option maxHeartbeats 4000000 in
set_option maxRecDepth 100000 in
def sX12_qTakes_p38 (v1 : Int32) (v2 : Int64) (v4 : Int32) (v5 : Int32) (Q : St → Prop) (u : St) : Prop :=
  if v1 = (1 : Int32) then (if v5 = 0 then (sX12_qTakes_p55 v1 v2 v5 Q u) else (sX12_qTakes_p48 v1 v2 v4 v5 Q u)) else (sX12_qTakes_p55 v1 v2 v5 Q u)
set_option maxHeartbeats 4000000 in
set_option maxRecDepth 100000 in
def sX12_qTakes_p16 (v1 : Int32) (v2 : Int64) (v4 : Int32) (s0 : Int32) (Q : St → Prop) (u : St) : Prop :=
  if v1 = 0 then (if s0 = 0 then (sX12_qTakes_p38 v1 v2 v4 s0 Q u) else (if (lg_cmp (u.2.1 198 116) (-1 : Int64)) = 0 then (sX12_qTakes_p48 v1 v2 v4 s0 Q u) else (sX12_qTakes_p38 v1 v2 v4 s0 Q u))) else (sX12_qTakes_p38 v1 v2 v4 s0 Q u)
set_option maxHeartbeats 4000000 in
set_option maxRecDepth 100000 in
def sX12_qTakes_p15 (v1 : Int32) (v2 : Int64) (v4 : Int32) (Q : St → Prop) (u : St) : Prop :=
  sX12_qTakes_p16 v1 v2 v4 (0 : Int32) Q u
set_option maxHeartbeats 4000000 in
set_option maxRecDepth 100000 in
def s_X12_qTakes (v1 : Int32) (v2 : Int64) (v4 : Int32) (Q : St → Prop) (u : St) : Prop :=
  if (3 : Int32) ≤ v1 then (sX12_qTakes_p15 v1 v2 v4 Q u) else (if (lg_cmp v2 (1 : Int64)) = 0 then (sX12_qTakes_p16 v1 v2 v4 (1 : Int32) Q u) else (sX12_qTakes_p15 v1 v2 v4 Q u))
set_option maxHeartbeats 4000000 in
set_option maxRecDepth 100000 in
theorem t_X12_qTakes_p133 {ρ : Nat → Nat → Option Nat} (hR : RfH ρ) {Q : St → Prop} {QW : Mem → Prop} (hQ : ∀ (u : St), DK u → Q u → QW (emb ρ u)) {u : St} (hd : DK u) (h : sX12_qTakes_p133 Q u) : X12_qTakes_p133 SH 198 QW (emb ρ u) := by
  unfold X12_qTakes_p133
  unfold sX12_qTakes_p133 at h
  refine ⟨on_198, ?_⟩
  refine bnd_I ?_
  replace h := bnd_e h
  exact hQ _ hd h
set_option maxHeartbeats 4000000 in
set_option maxRecDepth 100000 in
theorem t_X12_qTakes_p128 {ρ : Nat → Nat → Option Nat} (hR : RfH ρ) {v2 : Int64} {Q : St → Prop} {QW : Mem → Prop} (hQ : ∀ (u : St), DK u → Q u → QW (emb ρ u)) {u : St} (hd : DK u) (h : sX12_qTakes_p128 v2 Q u) : X12_qTakes_p128 SH 198 v2 QW (emb ρ u) := by
  unfold X12_qTakes_p128
  unfold sX12_qTakes_p128 at h
  refine ⟨on_198, ?_⟩
  refine bnd_L ?_
  replace h := bnd_e h
  exact t_X12_qTakes_p133 hR hQ hd h
set_option maxHeartbeats 4000000 in
set_option maxRecDepth 100000 in
theorem t_X12_qTakes_p90 {ρ : Nat → Nat → Option Nat} (hR : RfH ρ) {v1 : Int32} {v2 : Int64} {Q : St → Prop} {QW : Mem → Prop} (hQ : ∀ (u : St), DK u → Q u → QW (emb ρ u)) {u : St} (hd : DK u) (h : sX12_qTakes_p90 v1 v2 Q u) : X12_qTakes_p90 SH 198 v1 v2 QW (emb ρ u) := by
  unfold X12_qTakes_p90
  unfold sX12_qTakes_p90 at h
  refine ite_mono (fun hc h => ?_) (fun hc h => ?_) h
  · exact t_X12_qTakes_p133 hR hQ hd h
  · refine ⟨on_198, ?_⟩
    refine ite_mono (fun hc h => ?_) (fun hc h => ?_) h
    · refine ite_mono (fun hc h => ?_) (fun hc h => ?_) h
      · refine ite_mono (fun hc h => ?_) (fun hc h => ?_) h
        · exact t_X12_qTakes_p133 hR hQ hd h
        · exact t_X12_qTakes_p128 hR hQ hd h
      · refine ite_mono (fun hc h => ?_) (fun hc h => ?_) h
        · exact t_X12_qTakes_p133 hR hQ hd h
        · exact t_X12_qTakes_p128 hR hQ hd h
    · exact t_X12_qTakes_p128 hR hQ hd h
set_option maxHeartbeats 4000000 in
set_option maxRecDepth 100000 in
theorem t_X12_qTakes_p75 {ρ : Nat → Nat → Option Nat} (hR : RfH ρ) {v1 : Int32} {v2 : Int64} {Q : St → Prop} {QW : Mem → Prop} (hQ : ∀ (u : St), DK u → Q u → QW (emb ρ u)) {u : St} (hd : DK u) (h : sX12_qTakes_p75 v1 v2 Q u) : X12_qTakes_p75 SH 198 v1 v2 QW (emb ρ u) := by
  unfold X12_qTakes_p75
  unfold sX12_qTakes_p75 at h
  refine ite_mono (fun hc h => ?_) (fun hc h => ?_) h
  · refine ⟨on_198, ?_⟩
    refine bnd_L ?_
    replace h := bnd_e h
    exact t_X12_qTakes_p90 hR hQ hd h
  · exact t_X12_qTakes_p90 hR hQ hd h
set_option maxHeartbeats 4000000 in
set_option maxRecDepth 100000 in
theorem t_X12_qTakes_p55 {ρ : Nat → Nat → Option Nat} (hR : RfH ρ) {v1 : Int32} {v2 : Int64} {v5 : Int32} {Q : St → Prop} {QW : Mem → Prop} (hQ : ∀ (u : St), DK u → Q u → QW (emb ρ u)) {u : St} (hd : DK u) (h : sX12_qTakes_p55 v1 v2 v5 Q u) : X12_qTakes_p55 SH 198 v1 v2 v5 QW (emb ρ u) := by
  unfold X12_qTakes_p55
  unfold sX12_qTakes_p55 at h
  refine ite_mono (fun hc h => ?_) (fun hc h => ?_) h
  · refine ite_mono (fun hc h => ?_) (fun hc h => ?_) h
    · exact t_X12_qTakes_p75 hR hQ hd h
    · refine ⟨on_198, ?_⟩
      refine bnd_L ?_
      replace h := bnd_e h
      exact t_X12_qTakes_p75 hR hQ hd h
  · exact t_X12_qTakes_p75 hR hQ hd h
set_option maxHeartbeats 4000000 in
set_option maxRecDepth 100000 in
theorem t_X12_qTakes_p48 {ρ : Nat → Nat → Option Nat} (hR : RfH ρ) {v1 : Int32} {v2 : Int64} {v4 : Int32} {v5 : Int32} {Q : St → Prop} {QW : Mem → Prop} (hQ : ∀ (u : St), DK u → Q u → QW (emb ρ u)) {u : St} (hd : DK u) (h : sX12_qTakes_p48 v1 v2 v4 v5 Q u) : X12_qTakes_p48 SH 198 v1 v2 v4 v5 QW (emb ρ u) := by
  unfold X12_qTakes_p48
  unfold sX12_qTakes_p48 at h
  refine ⟨on_198, ?_⟩
  refine bnd_L ?_
  replace h := bnd_e h
  exact t_X12_qTakes_p55 hR hQ hd h
set_option maxHeartbeats 4000000 in
set_option maxRecDepth 100000 in
theorem t_X12_qTakes_p38 {ρ : Nat → Nat → Option Nat} (hR : RfH ρ) {v1 : Int32} {v2 : Int64} {v4 : Int32} {v5 : Int32} {Q : St → Prop} {QW : Mem → Prop} (hQ : ∀ (u : St), DK u → Q u → QW (emb ρ u)) {u : St} (hd : DK u) (h : sX12_qTakes_p38 v1 v2 v4 v5 Q u) : X12_qTakes_p38 SH 198 v1 v2 v4 v5 QW (emb ρ u) := by
  unfold X12_qTakes_p38
  unfold sX12_qTakes_p38 at h
  refine ite_mono (fun hc h => ?_) (fun hc h => ?_) h
  · refine ite_mono (fun hc h => ?_) (fun hc h => ?_) h
    · exact t_X12_qTakes_p55 hR hQ hd h
    · exact t_X12_qTakes_p48 hR hQ hd h
  · exact t_X12_qTakes_p55 hR hQ hd h
set_option maxHeartbeats 4000000 in
set_option maxRecDepth 100000 in
theorem t_X12_qTakes_p16 {ρ : Nat → Nat → Option Nat} (hR : RfH ρ) {v1 : Int32} {v2 : Int64} {v4 : Int32} {s0 : Int32} {Q : St → Prop} {QW : Mem → Prop} (hQ : ∀ (u : St), DK u → Q u → QW (emb ρ u)) {u : St} (hd : DK u) (h : sX12_qTakes_p16 v1 v2 v4 s0 Q u) : X12_qTakes_p16 SH 198 v1 v2 v4 s0 QW (emb ρ u) := by
  unfold X12_qTakes_p16
  unfold sX12_qTakes_p16 at h
  refine ite_mono (fun hc h => ?_) (fun hc h => ?_) h
  · refine ite_mono (fun hc h => ?_) (fun hc h => ?_) h
    · exact t_X12_qTakes_p38 hR hQ hd h
    · refine ⟨on_198, ?_⟩
      refine ite_mono (fun hc h => ?_) (fun hc h => ?_) h
      · exact t_X12_qTakes_p48 hR hQ hd h
      · exact t_X12_qTakes_p38 hR hQ hd h
  · exact t_X12_qTakes_p38 hR hQ hd h
set_option maxHeartbeats 4000000 in
set_option maxRecDepth 100000 in
theorem t_X12_qTakes_p15 {ρ : Nat → Nat → Option Nat} (hR : RfH ρ) {v1 : Int32} {v2 : Int64} {v4 : Int32} {Q : St → Prop} {QW : Mem → Prop} (hQ : ∀ (u : St), DK u → Q u → QW (emb ρ u)) {u : St} (hd : DK u) (h : sX12_qTakes_p15 v1 v2 v4 Q u) : X12_qTakes_p15 SH 198 v1 v2 v4 QW (emb ρ u) := by
  unfold X12_qTakes_p15
  unfold sX12_qTakes_p15 at h
  exact t_X12_qTakes_p16 hR hQ hd h
set_option maxHeartbeats 4000000 in
set_option maxRecDepth 100000 in
theorem t_X12_qTakes {ρ : Nat → Nat → Option Nat} (hR : RfH ρ) {v1 : Int32} {v2 : Int64} {v4 : Int32} {Q : St → Prop} {QW : Mem → Prop} (hQ : ∀ (u : St), DK u → Q u → QW (emb ρ u)) {u : St} (hd : DK u) (h : s_X12_qTakes v1 v2 v4 Q u) : wp_X12_qTakes SH 198 v1 v2 v4 QW (emb ρ u) := by
  unfold wp_X12_qTakes
  unfold s_X12_qTakes at h
  refine ite_mono (fun hc h => ?_) (fun hc h => ?_) h
  · exact t_X12_qTakes_p15 hR hQ hd h
  · refine ite_mono (fun hc h => ?_) (fun hc h => ?_) h
    · exact t_X12_qTakes_p16 hR hQ hd h
    · exact t_X12_qTakes_p15 hR hQ hd h
/-! CalledRiverModel.qDropsNots -/
set_option maxHeartbeats 4000000 in
set_option maxRecDepth 100000 in
def sX12_qDropsNots_p0b (Q : St → Prop) (K0 : St → Prop) (u : St) : Prop :=
  if (u.1 198 5) = 0 then (s_X12_qIsOn (12 : Int32) (fun r1 u2 => if r1 = 0 then (Q u2) else (bnd (tI u2 198 112 ((u2.1 198 112) - (1 : Int32))) (fun u3 => s_X12_qDrops  (fun u5 => K0 u5) u3))) u) else (Q u)
set_option maxHeartbeats 4000000 in
set_option maxRecDepth 100000 in
def sX12_qDropsNots_p0n (Q : St → Prop) : Nat → St → Prop
  | 0 => fun _ => False
  | n + 1 => sX12_qDropsNots_p0b Q (sX12_qDropsNots_p0n Q n)
set_option maxHeartbeats 4000000 in
set_option maxRecDepth 100000 in
def sX12_qDropsNots_p0 (Q : St → Prop) (u : St) : Prop := ∃ n, sX12_qDropsNots_p0n Q n u
set_option maxHeartbeats 4000000 in
set_option maxRecDepth 100000 in
def s_X12_qDropsNots (Q : St → Prop) (u : St) : Prop :=
  sX12_qDropsNots_p0 Q u
set_option maxHeartbeats 4000000 in
set_option maxRecDepth 100000 in
theorem t_X12_qDropsNots_p0b {ρ : Nat → Nat → Option Nat} (hR : RfH ρ) {Q : St → Prop} {QW : Mem → Prop} (hQ : ∀ (u : St), DK u → Q u → QW (emb ρ u)) {K0 : St → Prop} {KW0 : Mem → Prop} (hK0 : ∀ (u : St), DK u → K0 u → KW0 (emb ρ u)) {u : St} (hd : DK u) (h : sX12_qDropsNots_p0b Q K0 u) : X12_qDropsNots_p0b SH 198 QW KW0 (emb ρ u) := by
  unfold X12_qDropsNots_p0b
  unfold sX12_qDropsNots_p0b at h
  refine ⟨on_198, ?_⟩
  refine ite_mono (fun hc h => ?_) (fun hc h => ?_) h
  · refine t_X12_qIsOn hR (fun r1 u2 hd h => ?_) hd h
    refine ite_mono (fun hc h => ?_) (fun hc h => ?_) h
    · exact hQ _ hd h
    · refine bnd_I ?_
      replace h := bnd_e h
      refine t_X12_qDrops hR (fun u5 hd h => ?_) hd h
      exact hK0  _ hd h
  · exact hQ _ hd h
set_option maxHeartbeats 4000000 in
set_option maxRecDepth 100000 in
theorem t_X12_qDropsNots_p0n {ρ : Nat → Nat → Option Nat} (hR : RfH ρ) {Q : St → Prop} {QW : Mem → Prop} (hQ : ∀ (u : St), DK u → Q u → QW (emb ρ u)) : ∀ (n : Nat) (u : St), DK u → sX12_qDropsNots_p0n Q n u → X12_qDropsNots_p0n SH 198 QW n (emb ρ u)
  | 0,  _,  _, h => h.elim
  | n + 1,  u,  hd, h => t_X12_qDropsNots_p0b hR hQ (fun  u  hd h => t_X12_qDropsNots_p0n hR hQ n  u  hd h) hd h
set_option maxHeartbeats 4000000 in
set_option maxRecDepth 100000 in
theorem t_X12_qDropsNots_p0 {ρ : Nat → Nat → Option Nat} (hR : RfH ρ) {Q : St → Prop} {QW : Mem → Prop} (hQ : ∀ (u : St), DK u → Q u → QW (emb ρ u)) {u : St} (hd : DK u) (h : sX12_qDropsNots_p0 Q u) : X12_qDropsNots_p0 SH 198 QW (emb ρ u) := h.elim (fun n h => ⟨n, t_X12_qDropsNots_p0n hR hQ n _ hd h⟩)
set_option maxHeartbeats 4000000 in
set_option maxRecDepth 100000 in
theorem t_X12_qDropsNots {ρ : Nat → Nat → Option Nat} (hR : RfH ρ) {Q : St → Prop} {QW : Mem → Prop} (hQ : ∀ (u : St), DK u → Q u → QW (emb ρ u)) {u : St} (hd : DK u) (h : s_X12_qDropsNots Q u) : wp_X12_qDropsNots SH 198 QW (emb ρ u) := by
  unfold wp_X12_qDropsNots
  unfold s_X12_qDropsNots at h
  exact t_X12_qDropsNots_p0 hR hQ hd h
/-! CalledRiverModel.qFact -/
set_option maxHeartbeats 4000000 in
set_option maxRecDepth 100000 in
def sX12_qFact_p102 (s1 : Int32) (Q : St → Prop) (u : St) : Prop :=
  s_X12_qCode s1 (fun u16 => Q u16) u
set_option maxHeartbeats 4000000 in
set_option maxRecDepth 100000 in
def sX12_qFact_p63 (v1 : Int32) (Q : St → Prop) (u : St) : Prop :=
  bnd (tI u 198 2 ((u.1 198 2) + (1 : Int32))) (fun u12 => s_X12_qSums  (fun u14 => if v1 = (60 : Int32) then (sX12_qFact_p102 (7 : Int32) Q u14) else (if v1 = (62 : Int32) then (sX12_qFact_p102 (8 : Int32) Q u14) else (sX12_qFact_p102 (9 : Int32) Q u14))) u12)
set_option maxHeartbeats 4000000 in
set_option maxRecDepth 100000 in
def s_X12_qFact (Q : St → Prop) (u : St) : Prop :=
  s_X12_takes 264 (fun r2 u3 => if r2 = 0 then (s_X12_qSums  (fun u5 => if (u5.1 198 5) = 0 then (s_X12_look  (fun r6 u7 => if r6 = (60 : Int32) then (sX12_qFact_p63 r6 Q u7) else (if r6 = (62 : Int32) then (sX12_qFact_p63 r6 Q u7) else (if r6 = (61 : Int32) then (sX12_qFact_p63 r6 Q u7) else (s_X12_fail (1 : Int32) (u7.1 198 2) (fun u9 => Q u9) u7)))) u5) else (Q u5)) u3) else (s_X12_qCode (13 : Int32) (fun u11 => Q u11) u3)) u
set_option maxHeartbeats 4000000 in
set_option maxRecDepth 100000 in
theorem t_X12_qFact_p102 {ρ : Nat → Nat → Option Nat} (hR : RfH ρ) {s1 : Int32} {Q : St → Prop} {QW : Mem → Prop} (hQ : ∀ (u : St), DK u → Q u → QW (emb ρ u)) {u : St} (hd : DK u) (h : sX12_qFact_p102 s1 Q u) : X12_qFact_p102 SH s1 198 QW (emb ρ u) := by
  unfold X12_qFact_p102
  unfold sX12_qFact_p102 at h
  refine ⟨on_198, ?_⟩
  refine t_X12_qCode hR (fun u16 hd h => ?_) hd h
  exact hQ _ hd h
set_option maxHeartbeats 4000000 in
set_option maxRecDepth 100000 in
theorem t_X12_qFact_p63 {ρ : Nat → Nat → Option Nat} (hR : RfH ρ) {v1 : Int32} {Q : St → Prop} {QW : Mem → Prop} (hQ : ∀ (u : St), DK u → Q u → QW (emb ρ u)) {u : St} (hd : DK u) (h : sX12_qFact_p63 v1 Q u) : X12_qFact_p63 SH 198 v1 QW (emb ρ u) := by
  unfold X12_qFact_p63
  unfold sX12_qFact_p63 at h
  refine ⟨on_198, ?_⟩
  refine bnd_I ?_
  replace h := bnd_e h
  refine t_X12_qSums hR (fun u14 hd h => ?_) hd h
  refine ite_mono (fun hc h => ?_) (fun hc h => ?_) h
  · exact t_X12_qFact_p102 hR hQ hd h
  · refine ite_mono (fun hc h => ?_) (fun hc h => ?_) h
    · exact t_X12_qFact_p102 hR hQ hd h
    · exact t_X12_qFact_p102 hR hQ hd h
set_option maxHeartbeats 4000000 in
set_option maxRecDepth 100000 in
theorem t_X12_qFact {ρ : Nat → Nat → Option Nat} (hR : RfH ρ) {Q : St → Prop} {QW : Mem → Prop} (hQ : ∀ (u : St), DK u → Q u → QW (emb ρ u)) {u : St} (hd : DK u) (h : s_X12_qFact Q u) : wp_X12_qFact SH 198 QW (emb ρ u) := by
  unfold wp_X12_qFact
  unfold s_X12_qFact at h
  refine ⟨on_198, ?_⟩
  refine ⟨_, rn_198_90 hR _, ?_⟩
  refine t_X12_takes hR (fun r2 u3 hd h => ?_) hd h
  refine ite_mono (fun hc h => ?_) (fun hc h => ?_) h
  · refine t_X12_qSums hR (fun u5 hd h => ?_) hd h
    refine ite_mono (fun hc h => ?_) (fun hc h => ?_) h
    · refine t_X12_look hR (fun r6 u7 hd h => ?_) hd h
      refine ite_mono (fun hc h => ?_) (fun hc h => ?_) h
      · exact t_X12_qFact_p63 hR hQ hd h
      · refine ite_mono (fun hc h => ?_) (fun hc h => ?_) h
        · exact t_X12_qFact_p63 hR hQ hd h
        · refine ite_mono (fun hc h => ?_) (fun hc h => ?_) h
          · exact t_X12_qFact_p63 hR hQ hd h
          · refine t_X12_fail hR (fun u9 hd h => ?_) hd h
            exact hQ _ hd h
    · exact hQ _ hd h
  · refine t_X12_qCode hR (fun u11 hd h => ?_) hd h
    exact hQ _ hd h
/-! CalledRiverModel.qHasSquare -/
set_option maxHeartbeats 4000000 in
set_option maxRecDepth 100000 in
def sX12_qHasSquare_p2b (Q : Int32 → St → Prop) (K2 : Int32 → St → Prop) (v1 : Int32) (u : St) : Prop :=
  if (u.1 198 111) ≤ v1 then (Q (0 : Int32) u) else (vp_in v1 1700 ∧ (if (u.1 283 v1.toNatClampNeg) = (25 : Int32) then (Q (1 : Int32) u) else (K2 (v1 + (1 : Int32)) u)))
set_option maxHeartbeats 4000000 in
set_option maxRecDepth 100000 in
def sX12_qHasSquare_p2n (Q : Int32 → St → Prop) : Nat → Int32 → St → Prop
  | 0 => fun _ _ => False
  | n + 1 => sX12_qHasSquare_p2b Q (sX12_qHasSquare_p2n Q n)
set_option maxHeartbeats 4000000 in
set_option maxRecDepth 100000 in
def sX12_qHasSquare_p2 (Q : Int32 → St → Prop) (v1 : Int32) (u : St) : Prop := ∃ n, sX12_qHasSquare_p2n Q n v1 u
set_option maxHeartbeats 4000000 in
set_option maxRecDepth 100000 in
def s_X12_qHasSquare (Q : Int32 → St → Prop) (u : St) : Prop :=
  sX12_qHasSquare_p2 Q (0 : Int32) u
set_option maxHeartbeats 4000000 in
set_option maxRecDepth 100000 in
theorem t_X12_qHasSquare_p2b {ρ : Nat → Nat → Option Nat} (hR : RfH ρ) {v1 : Int32} {Q : Int32 → St → Prop} {QW : Int32 → Mem → Prop} (hQ : ∀ (r : Int32) (u : St), DK u → Q r u → QW r (emb ρ u)) {K2 : Int32 → St → Prop} {KW2 : Int32 → Mem → Prop} (hK2 : ∀ (x1 : Int32) (u : St), DK u → K2 x1 u → KW2 x1 (emb ρ u)) {u : St} (hd : DK u) (h : sX12_qHasSquare_p2b Q K2 v1 u) : X12_qHasSquare_p2b SH 198 QW KW2 v1 (emb ρ u) := by
  unfold X12_qHasSquare_p2b
  unfold sX12_qHasSquare_p2b at h
  refine ⟨on_198, ?_⟩
  refine ite_mono (fun hc h => ?_) (fun hc h => ?_) h
  · exact hQ _ _ hd h
  · refine ⟨_, rn_198_110 hR _, ?_⟩
    obtain ⟨x2, h⟩ := h
    refine ⟨ix_i (show SH[283]? = some (100, 1700) from rfl) x2, ?_⟩
    refine ite_mono (fun hc h => ?_) (fun hc h => ?_) h
    · exact hQ _ _ hd h
    · exact hK2 _ _ hd h
set_option maxHeartbeats 4000000 in
set_option maxRecDepth 100000 in
theorem t_X12_qHasSquare_p2n {ρ : Nat → Nat → Option Nat} (hR : RfH ρ) {Q : Int32 → St → Prop} {QW : Int32 → Mem → Prop} (hQ : ∀ (r : Int32) (u : St), DK u → Q r u → QW r (emb ρ u)) : ∀ (n : Nat) (v1 : Int32) (u : St), DK u → sX12_qHasSquare_p2n Q n v1 u → X12_qHasSquare_p2n SH 198 QW n v1 (emb ρ u)
  | 0, _, _,  _, h => h.elim
  | n + 1, v1,  u,  hd, h => t_X12_qHasSquare_p2b hR hQ (fun v1 u  hd h => t_X12_qHasSquare_p2n hR hQ n v1 u  hd h) hd h
set_option maxHeartbeats 4000000 in
set_option maxRecDepth 100000 in
theorem t_X12_qHasSquare_p2 {ρ : Nat → Nat → Option Nat} (hR : RfH ρ) {v1 : Int32} {Q : Int32 → St → Prop} {QW : Int32 → Mem → Prop} (hQ : ∀ (r : Int32) (u : St), DK u → Q r u → QW r (emb ρ u)) {u : St} (hd : DK u) (h : sX12_qHasSquare_p2 Q v1 u) : X12_qHasSquare_p2 SH 198 QW v1 (emb ρ u) := h.elim (fun n h => ⟨n, t_X12_qHasSquare_p2n hR hQ n _ _ hd h⟩)
set_option maxHeartbeats 4000000 in
set_option maxRecDepth 100000 in
theorem t_X12_qHasSquare {ρ : Nat → Nat → Option Nat} (hR : RfH ρ) {Q : Int32 → St → Prop} {QW : Int32 → Mem → Prop} (hQ : ∀ (r : Int32) (u : St), DK u → Q r u → QW r (emb ρ u)) {u : St} (hd : DK u) (h : s_X12_qHasSquare Q u) : wp_X12_qHasSquare SH 198 QW (emb ρ u) := by
  unfold wp_X12_qHasSquare
  unfold s_X12_qHasSquare at h
  exact t_X12_qHasSquare_p2 hR hQ hd h
/-! CalledRiverModel.qGoesOnTest -/
set_option maxHeartbeats 4000000 in
set_option maxRecDepth 100000 in
def sX12_qGoesOnTest_p33b (Q : Int32 → St → Prop) (K0 : St → Prop) (K33 : St → Prop) (u : St) : Prop :=
  s_X12_qIsOn (25 : Int32) (fun r16 u17 => if r16 = 0 then (s_X12_qDrops  (fun u23 => K33 u23) u17) else (bnd (tI u17 198 111 ((u17.1 198 111) - (1 : Int32))) (fun u18 => bnd (tI u18 198 112 ((u18.1 198 112) - (1 : Int32))) (fun u19 => s_X12_qDropsNots  (fun u21 => K0 u21) u19)))) u
set_option maxHeartbeats 4000000 in
set_option maxRecDepth 100000 in
def sX12_qGoesOnTest_p33n (Q : Int32 → St → Prop) (K0 : St → Prop) : Nat → St → Prop
  | 0 => fun _ => False
  | n + 1 => sX12_qGoesOnTest_p33b Q K0 (sX12_qGoesOnTest_p33n Q K0 n)
set_option maxHeartbeats 4000000 in
set_option maxRecDepth 100000 in
def sX12_qGoesOnTest_p33 (Q : Int32 → St → Prop) (K0 : St → Prop) (u : St) : Prop := ∃ n, sX12_qGoesOnTest_p33n Q K0 n u
set_option maxHeartbeats 4000000 in
set_option maxRecDepth 100000 in
def sX12_qGoesOnTest_p87b (Q : Int32 → St → Prop) (K87 : St → Prop) (u : St) : Prop :=
  s_X12_qIsOn (10 : Int32) (fun r32 u33 => if r32 = 0 then (vp_in (u33.1 198 111) 1700 ∧ bnd (tI u33 283 (u33.1 198 111).toNatClampNeg (10 : Int32)) (fun u36 => bnd (tI u36 198 111 ((u36.1 198 111) + (1 : Int32))) (fun u37 => Q (1 : Int32) u37))) else (s_X12_qDrops  (fun u39 => K87 u39) u33)) u
set_option maxHeartbeats 4000000 in
set_option maxRecDepth 100000 in
def sX12_qGoesOnTest_p87n (Q : Int32 → St → Prop) : Nat → St → Prop
  | 0 => fun _ => False
  | n + 1 => sX12_qGoesOnTest_p87b Q (sX12_qGoesOnTest_p87n Q n)
set_option maxHeartbeats 4000000 in
set_option maxRecDepth 100000 in
def sX12_qGoesOnTest_p87 (Q : Int32 → St → Prop) (u : St) : Prop := ∃ n, sX12_qGoesOnTest_p87n Q n u
set_option maxHeartbeats 4000000 in
set_option maxRecDepth 100000 in
def sX12_qGoesOnTest_p155 (Q : Int32 → St → Prop) (K137 : St → Prop) (u : St) : Prop :=
  s_X12_qDrops  (fun u41 => K137 u41) u
set_option maxHeartbeats 4000000 in
set_option maxRecDepth 100000 in
def sX12_qGoesOnTest_p137b (Q : Int32 → St → Prop) (K137 : St → Prop) (u : St) : Prop :=
  s_X12_qIsOn (10 : Int32) (fun r24 u25 => if r24 = 0 then (s_X12_qIsOn (11 : Int32) (fun r26 u27 => if r26 = 0 then (vp_in (u27.1 198 111) 1700 ∧ bnd (tI u27 283 (u27.1 198 111).toNatClampNeg (11 : Int32)) (fun u30 => bnd (tI u30 198 111 ((u30.1 198 111) + (1 : Int32))) (fun u31 => Q (1 : Int32) u31))) else (sX12_qGoesOnTest_p155 Q K137 u27)) u25) else (sX12_qGoesOnTest_p155 Q K137 u25)) u
set_option maxHeartbeats 4000000 in
set_option maxRecDepth 100000 in
def sX12_qGoesOnTest_p137n (Q : Int32 → St → Prop) : Nat → St → Prop
  | 0 => fun _ => False
  | n + 1 => sX12_qGoesOnTest_p137b Q (sX12_qGoesOnTest_p137n Q n)
set_option maxHeartbeats 4000000 in
set_option maxRecDepth 100000 in
def sX12_qGoesOnTest_p137 (Q : Int32 → St → Prop) (u : St) : Prop := ∃ n, sX12_qGoesOnTest_p137n Q n u
set_option maxHeartbeats 4000000 in
set_option maxRecDepth 100000 in
def sX12_qGoesOnTest_p76 (Q : Int32 → St → Prop) (u : St) : Prop :=
  s_X12_takes 262 (fun r7 u8 => if r7 = 0 then (s_X12_takes 263 (fun r10 u11 => if r10 = 0 then (if (u11.1 198 5) = 0 then (s_X12_qHasSquare  (fun r12 u13 => if r12 = 0 then (Q (0 : Int32) u13) else (s_X12_fail (1 : Int32) (u13.1 198 2) (fun u15 => Q (0 : Int32) u15) u13)) u11) else (Q (0 : Int32) u11)) else (sX12_qGoesOnTest_p137 Q u11)) u8) else (sX12_qGoesOnTest_p87 Q u8)) u
set_option maxHeartbeats 4000000 in
set_option maxRecDepth 100000 in
def sX12_qGoesOnTest_p0b (Q : Int32 → St → Prop) (K0 : St → Prop) (u : St) : Prop :=
  if (u.1 198 5) = 0 then (s_X12_look  (fun r1 u2 => if r1 = (93 : Int32) then (s_X12_qHasSquare  (fun r3 u4 => if r3 = 0 then (sX12_qGoesOnTest_p76 Q u4) else (bnd (tI u4 198 2 ((u4.1 198 2) + (1 : Int32))) (fun u5 => sX12_qGoesOnTest_p33 Q K0 u5))) u2) else (sX12_qGoesOnTest_p76 Q u2)) u) else (sX12_qGoesOnTest_p76 Q u)
set_option maxHeartbeats 4000000 in
set_option maxRecDepth 100000 in
def sX12_qGoesOnTest_p0n (Q : Int32 → St → Prop) : Nat → St → Prop
  | 0 => fun _ => False
  | n + 1 => sX12_qGoesOnTest_p0b Q (sX12_qGoesOnTest_p0n Q n)
set_option maxHeartbeats 4000000 in
set_option maxRecDepth 100000 in
def sX12_qGoesOnTest_p0 (Q : Int32 → St → Prop) (u : St) : Prop := ∃ n, sX12_qGoesOnTest_p0n Q n u
set_option maxHeartbeats 4000000 in
set_option maxRecDepth 100000 in
def s_X12_qGoesOnTest (Q : Int32 → St → Prop) (u : St) : Prop :=
  sX12_qGoesOnTest_p0 Q u
set_option maxHeartbeats 4000000 in
set_option maxRecDepth 100000 in
theorem t_X12_qGoesOnTest_p33b {ρ : Nat → Nat → Option Nat} (hR : RfH ρ) {Q : Int32 → St → Prop} {QW : Int32 → Mem → Prop} {K0 : St → Prop} {KW0 : Mem → Prop} (hQ : ∀ (r : Int32) (u : St), DK u → Q r u → QW r (emb ρ u)) (hK0 : ∀ (u : St), DK u → K0 u → KW0 (emb ρ u)) {K33 : St → Prop} {KW33 : Mem → Prop} (hK33 : ∀ (u : St), DK u → K33 u → KW33 (emb ρ u)) {u : St} (hd : DK u) (h : sX12_qGoesOnTest_p33b Q K0 K33 u) : X12_qGoesOnTest_p33b SH 198 QW KW0 KW33 (emb ρ u) := by
  unfold X12_qGoesOnTest_p33b
  unfold sX12_qGoesOnTest_p33b at h
  refine ⟨on_198, ?_⟩
  refine t_X12_qIsOn hR (fun r16 u17 hd h => ?_) hd h
  refine ite_mono (fun hc h => ?_) (fun hc h => ?_) h
  · refine t_X12_qDrops hR (fun u23 hd h => ?_) hd h
    exact hK33  _ hd h
  · refine bnd_I ?_
    replace h := bnd_e h
    refine bnd_I ?_
    replace h := bnd_e h
    refine t_X12_qDropsNots hR (fun u21 hd h => ?_) hd h
    exact hK0  _ hd h
set_option maxHeartbeats 4000000 in
set_option maxRecDepth 100000 in
theorem t_X12_qGoesOnTest_p33n {ρ : Nat → Nat → Option Nat} (hR : RfH ρ) {Q : Int32 → St → Prop} {QW : Int32 → Mem → Prop} {K0 : St → Prop} {KW0 : Mem → Prop} (hQ : ∀ (r : Int32) (u : St), DK u → Q r u → QW r (emb ρ u)) (hK0 : ∀ (u : St), DK u → K0 u → KW0 (emb ρ u)) : ∀ (n : Nat) (u : St), DK u → sX12_qGoesOnTest_p33n Q K0 n u → X12_qGoesOnTest_p33n SH 198 QW KW0 n (emb ρ u)
  | 0,  _,  _, h => h.elim
  | n + 1,  u,  hd, h => t_X12_qGoesOnTest_p33b hR hQ hK0 (fun  u  hd h => t_X12_qGoesOnTest_p33n hR hQ hK0 n  u  hd h) hd h
set_option maxHeartbeats 4000000 in
set_option maxRecDepth 100000 in
theorem t_X12_qGoesOnTest_p33 {ρ : Nat → Nat → Option Nat} (hR : RfH ρ) {Q : Int32 → St → Prop} {QW : Int32 → Mem → Prop} {K0 : St → Prop} {KW0 : Mem → Prop} (hQ : ∀ (r : Int32) (u : St), DK u → Q r u → QW r (emb ρ u)) (hK0 : ∀ (u : St), DK u → K0 u → KW0 (emb ρ u)) {u : St} (hd : DK u) (h : sX12_qGoesOnTest_p33 Q K0 u) : X12_qGoesOnTest_p33 SH 198 QW KW0 (emb ρ u) := h.elim (fun n h => ⟨n, t_X12_qGoesOnTest_p33n hR hQ hK0 n _ hd h⟩)
set_option maxHeartbeats 4000000 in
set_option maxRecDepth 100000 in
theorem t_X12_qGoesOnTest_p87b {ρ : Nat → Nat → Option Nat} (hR : RfH ρ) {Q : Int32 → St → Prop} {QW : Int32 → Mem → Prop} (hQ : ∀ (r : Int32) (u : St), DK u → Q r u → QW r (emb ρ u)) {K87 : St → Prop} {KW87 : Mem → Prop} (hK87 : ∀ (u : St), DK u → K87 u → KW87 (emb ρ u)) {u : St} (hd : DK u) (h : sX12_qGoesOnTest_p87b Q K87 u) : X12_qGoesOnTest_p87b SH 198 QW KW87 (emb ρ u) := by
  unfold X12_qGoesOnTest_p87b
  unfold sX12_qGoesOnTest_p87b at h
  refine ⟨on_198, ?_⟩
  refine t_X12_qIsOn hR (fun r32 u33 hd h => ?_) hd h
  refine ite_mono (fun hc h => ?_) (fun hc h => ?_) h
  · refine ⟨_, rn_198_110 hR _, ?_⟩
    obtain ⟨x35, h⟩ := h
    refine ⟨ix_i (show SH[283]? = some (100, 1700) from rfl) x35, ?_⟩
    refine bnd_I ?_
    replace h := bnd_e h
    refine bnd_I ?_
    replace h := bnd_e h
    exact hQ _ _ hd h
  · refine t_X12_qDrops hR (fun u39 hd h => ?_) hd h
    exact hK87  _ hd h
set_option maxHeartbeats 4000000 in
set_option maxRecDepth 100000 in
theorem t_X12_qGoesOnTest_p87n {ρ : Nat → Nat → Option Nat} (hR : RfH ρ) {Q : Int32 → St → Prop} {QW : Int32 → Mem → Prop} (hQ : ∀ (r : Int32) (u : St), DK u → Q r u → QW r (emb ρ u)) : ∀ (n : Nat) (u : St), DK u → sX12_qGoesOnTest_p87n Q n u → X12_qGoesOnTest_p87n SH 198 QW n (emb ρ u)
  | 0,  _,  _, h => h.elim
  | n + 1,  u,  hd, h => t_X12_qGoesOnTest_p87b hR hQ (fun  u  hd h => t_X12_qGoesOnTest_p87n hR hQ n  u  hd h) hd h
set_option maxHeartbeats 4000000 in
set_option maxRecDepth 100000 in
theorem t_X12_qGoesOnTest_p87 {ρ : Nat → Nat → Option Nat} (hR : RfH ρ) {Q : Int32 → St → Prop} {QW : Int32 → Mem → Prop} (hQ : ∀ (r : Int32) (u : St), DK u → Q r u → QW r (emb ρ u)) {u : St} (hd : DK u) (h : sX12_qGoesOnTest_p87 Q u) : X12_qGoesOnTest_p87 SH 198 QW (emb ρ u) := h.elim (fun n h => ⟨n, t_X12_qGoesOnTest_p87n hR hQ n _ hd h⟩)
set_option maxHeartbeats 4000000 in
set_option maxRecDepth 100000 in
theorem t_X12_qGoesOnTest_p155 {ρ : Nat → Nat → Option Nat} (hR : RfH ρ) {Q : Int32 → St → Prop} {QW : Int32 → Mem → Prop} {K137 : St → Prop} {KW137 : Mem → Prop} (hQ : ∀ (r : Int32) (u : St), DK u → Q r u → QW r (emb ρ u)) (hK137 : ∀ (u : St), DK u → K137 u → KW137 (emb ρ u)) {u : St} (hd : DK u) (h : sX12_qGoesOnTest_p155 Q K137 u) : X12_qGoesOnTest_p155 SH 198 QW KW137 (emb ρ u) := by
  unfold X12_qGoesOnTest_p155
  unfold sX12_qGoesOnTest_p155 at h
  refine ⟨on_198, ?_⟩
  refine t_X12_qDrops hR (fun u41 hd h => ?_) hd h
  exact hK137  _ hd h
set_option maxHeartbeats 4000000 in
set_option maxRecDepth 100000 in
theorem t_X12_qGoesOnTest_p137b {ρ : Nat → Nat → Option Nat} (hR : RfH ρ) {Q : Int32 → St → Prop} {QW : Int32 → Mem → Prop} (hQ : ∀ (r : Int32) (u : St), DK u → Q r u → QW r (emb ρ u)) {K137 : St → Prop} {KW137 : Mem → Prop} (hK137 : ∀ (u : St), DK u → K137 u → KW137 (emb ρ u)) {u : St} (hd : DK u) (h : sX12_qGoesOnTest_p137b Q K137 u) : X12_qGoesOnTest_p137b SH 198 QW KW137 (emb ρ u) := by
  unfold X12_qGoesOnTest_p137b
  unfold sX12_qGoesOnTest_p137b at h
  refine ⟨on_198, ?_⟩
  refine t_X12_qIsOn hR (fun r24 u25 hd h => ?_) hd h
  refine ite_mono (fun hc h => ?_) (fun hc h => ?_) h
  · refine t_X12_qIsOn hR (fun r26 u27 hd h => ?_) hd h
    refine ite_mono (fun hc h => ?_) (fun hc h => ?_) h
    · refine ⟨_, rn_198_110 hR _, ?_⟩
      obtain ⟨x29, h⟩ := h
      refine ⟨ix_i (show SH[283]? = some (100, 1700) from rfl) x29, ?_⟩
      refine bnd_I ?_
      replace h := bnd_e h
      refine bnd_I ?_
      replace h := bnd_e h
      exact hQ _ _ hd h
    · exact t_X12_qGoesOnTest_p155 hR hQ hK137 hd h
  · exact t_X12_qGoesOnTest_p155 hR hQ hK137 hd h
set_option maxHeartbeats 4000000 in
set_option maxRecDepth 100000 in
theorem t_X12_qGoesOnTest_p137n {ρ : Nat → Nat → Option Nat} (hR : RfH ρ) {Q : Int32 → St → Prop} {QW : Int32 → Mem → Prop} (hQ : ∀ (r : Int32) (u : St), DK u → Q r u → QW r (emb ρ u)) : ∀ (n : Nat) (u : St), DK u → sX12_qGoesOnTest_p137n Q n u → X12_qGoesOnTest_p137n SH 198 QW n (emb ρ u)
  | 0,  _,  _, h => h.elim
  | n + 1,  u,  hd, h => t_X12_qGoesOnTest_p137b hR hQ (fun  u  hd h => t_X12_qGoesOnTest_p137n hR hQ n  u  hd h) hd h
set_option maxHeartbeats 4000000 in
set_option maxRecDepth 100000 in
theorem t_X12_qGoesOnTest_p137 {ρ : Nat → Nat → Option Nat} (hR : RfH ρ) {Q : Int32 → St → Prop} {QW : Int32 → Mem → Prop} (hQ : ∀ (r : Int32) (u : St), DK u → Q r u → QW r (emb ρ u)) {u : St} (hd : DK u) (h : sX12_qGoesOnTest_p137 Q u) : X12_qGoesOnTest_p137 SH 198 QW (emb ρ u) := h.elim (fun n h => ⟨n, t_X12_qGoesOnTest_p137n hR hQ n _ hd h⟩)
set_option maxHeartbeats 4000000 in
set_option maxRecDepth 100000 in
theorem t_X12_qGoesOnTest_p76 {ρ : Nat → Nat → Option Nat} (hR : RfH ρ) {Q : Int32 → St → Prop} {QW : Int32 → Mem → Prop} (hQ : ∀ (r : Int32) (u : St), DK u → Q r u → QW r (emb ρ u)) {u : St} (hd : DK u) (h : sX12_qGoesOnTest_p76 Q u) : X12_qGoesOnTest_p76 SH 198 QW (emb ρ u) := by
  unfold X12_qGoesOnTest_p76
  unfold sX12_qGoesOnTest_p76 at h
  refine ⟨on_198, ?_⟩
  refine ⟨_, rn_198_88 hR _, ?_⟩
  refine t_X12_takes hR (fun r7 u8 hd h => ?_) hd h
  refine ite_mono (fun hc h => ?_) (fun hc h => ?_) h
  · refine ⟨_, rn_198_89 hR _, ?_⟩
    refine t_X12_takes hR (fun r10 u11 hd h => ?_) hd h
    refine ite_mono (fun hc h => ?_) (fun hc h => ?_) h
    · refine ite_mono (fun hc h => ?_) (fun hc h => ?_) h
      · refine t_X12_qHasSquare hR (fun r12 u13 hd h => ?_) hd h
        refine ite_mono (fun hc h => ?_) (fun hc h => ?_) h
        · exact hQ _ _ hd h
        · refine t_X12_fail hR (fun u15 hd h => ?_) hd h
          exact hQ _ _ hd h
      · exact hQ _ _ hd h
    · exact t_X12_qGoesOnTest_p137 hR hQ hd h
  · exact t_X12_qGoesOnTest_p87 hR hQ hd h
set_option maxHeartbeats 4000000 in
set_option maxRecDepth 100000 in
theorem t_X12_qGoesOnTest_p0b {ρ : Nat → Nat → Option Nat} (hR : RfH ρ) {Q : Int32 → St → Prop} {QW : Int32 → Mem → Prop} (hQ : ∀ (r : Int32) (u : St), DK u → Q r u → QW r (emb ρ u)) {K0 : St → Prop} {KW0 : Mem → Prop} (hK0 : ∀ (u : St), DK u → K0 u → KW0 (emb ρ u)) {u : St} (hd : DK u) (h : sX12_qGoesOnTest_p0b Q K0 u) : X12_qGoesOnTest_p0b SH 198 QW KW0 (emb ρ u) := by
  unfold X12_qGoesOnTest_p0b
  unfold sX12_qGoesOnTest_p0b at h
  refine ⟨on_198, ?_⟩
  refine ite_mono (fun hc h => ?_) (fun hc h => ?_) h
  · refine t_X12_look hR (fun r1 u2 hd h => ?_) hd h
    refine ite_mono (fun hc h => ?_) (fun hc h => ?_) h
    · refine t_X12_qHasSquare hR (fun r3 u4 hd h => ?_) hd h
      refine ite_mono (fun hc h => ?_) (fun hc h => ?_) h
      · exact t_X12_qGoesOnTest_p76 hR hQ hd h
      · refine bnd_I ?_
        replace h := bnd_e h
        exact t_X12_qGoesOnTest_p33 hR hQ hK0 hd h
    · exact t_X12_qGoesOnTest_p76 hR hQ hd h
  · exact t_X12_qGoesOnTest_p76 hR hQ hd h
set_option maxHeartbeats 4000000 in
set_option maxRecDepth 100000 in
theorem t_X12_qGoesOnTest_p0n {ρ : Nat → Nat → Option Nat} (hR : RfH ρ) {Q : Int32 → St → Prop} {QW : Int32 → Mem → Prop} (hQ : ∀ (r : Int32) (u : St), DK u → Q r u → QW r (emb ρ u)) : ∀ (n : Nat) (u : St), DK u → sX12_qGoesOnTest_p0n Q n u → X12_qGoesOnTest_p0n SH 198 QW n (emb ρ u)
  | 0,  _,  _, h => h.elim
  | n + 1,  u,  hd, h => t_X12_qGoesOnTest_p0b hR hQ (fun  u  hd h => t_X12_qGoesOnTest_p0n hR hQ n  u  hd h) hd h
set_option maxHeartbeats 4000000 in
set_option maxRecDepth 100000 in
theorem t_X12_qGoesOnTest_p0 {ρ : Nat → Nat → Option Nat} (hR : RfH ρ) {Q : Int32 → St → Prop} {QW : Int32 → Mem → Prop} (hQ : ∀ (r : Int32) (u : St), DK u → Q r u → QW r (emb ρ u)) {u : St} (hd : DK u) (h : sX12_qGoesOnTest_p0 Q u) : X12_qGoesOnTest_p0 SH 198 QW (emb ρ u) := h.elim (fun n h => ⟨n, t_X12_qGoesOnTest_p0n hR hQ n _ hd h⟩)
set_option maxHeartbeats 4000000 in
set_option maxRecDepth 100000 in
theorem t_X12_qGoesOnTest {ρ : Nat → Nat → Option Nat} (hR : RfH ρ) {Q : Int32 → St → Prop} {QW : Int32 → Mem → Prop} (hQ : ∀ (r : Int32) (u : St), DK u → Q r u → QW r (emb ρ u)) {u : St} (hd : DK u) (h : s_X12_qGoesOnTest Q u) : wp_X12_qGoesOnTest SH 198 QW (emb ρ u) := by
  unfold wp_X12_qGoesOnTest
  unfold s_X12_qGoesOnTest at h
  exact t_X12_qGoesOnTest_p0 hR hQ hd h
/-! CalledRiverModel.qTest -/
set_option maxHeartbeats 4000000 in
set_option maxRecDepth 100000 in
def sX12_qTest_p106 (s0 : Int32) (Q : St → Prop) (K2 : Int32 → St → Prop) (u : St) : Prop :=
  K2 s0 u
set_option maxHeartbeats 4000000 in
set_option maxRecDepth 100000 in
def sX12_qTest_p105 (Q : St → Prop) (K2 : Int32 → St → Prop) (u : St) : Prop :=
  sX12_qTest_p106 (0 : Int32) Q K2 u
set_option maxHeartbeats 4000000 in
set_option maxRecDepth 100000 in
def sX12_qTest_p110b (Q : St → Prop) (K110 : St → Prop) (u : St) : Prop :=
  if (u.1 198 5) = 0 then (if (u.1 198 111) ≤ 0 then (Q u) else (s_X12_qDrops  (fun u21 => K110 u21) u)) else (Q u)
set_option maxHeartbeats 4000000 in
set_option maxRecDepth 100000 in
def sX12_qTest_p110n (Q : St → Prop) : Nat → St → Prop
  | 0 => fun _ => False
  | n + 1 => sX12_qTest_p110b Q (sX12_qTest_p110n Q n)
set_option maxHeartbeats 4000000 in
set_option maxRecDepth 100000 in
def sX12_qTest_p110 (Q : St → Prop) (u : St) : Prop := ∃ n, sX12_qTest_p110n Q n u
set_option maxHeartbeats 4000000 in
set_option maxRecDepth 100000 in
def sX12_qTest_p2b (Q : St → Prop) (K2 : Int32 → St → Prop) (v1 : Int32) (u : St) : Prop :=
  if v1 = 0 then (sX12_qTest_p110 Q u) else (if (u.1 198 5) = 0 then (s_X12_look  (fun r1 u2 => if r1 = (91 : Int32) then (s_X12_qOpens (25 : Int32) (u2.1 198 2) (fun u18 => bnd (tI u18 198 2 ((u18.1 198 2) + (1 : Int32))) (fun u19 => K2 v1 u19)) u2) else (s_X12_isHere 261 (fun r4 u5 => if r4 = 0 then (s_X12_qFact  (fun u7 => s_X12_qDropsNots  (fun u9 => if (u9.1 198 5) = 0 then (s_X12_qGoesOnTest  (fun r10 u11 => if r10 = 0 then (sX12_qTest_p105 Q K2 u11) else (sX12_qTest_p106 (1 : Int32) Q K2 u11)) u9) else (sX12_qTest_p105 Q K2 u9)) u7) u5) else (s_X12_qOpens (12 : Int32) (u5.1 198 2) (fun u13 => s_X12_asks 261 (fun u16 => K2 v1 u16) u13) u5)) u2)) u) else (sX12_qTest_p110 Q u))
set_option maxHeartbeats 4000000 in
set_option maxRecDepth 100000 in
def sX12_qTest_p2n (Q : St → Prop) : Nat → Int32 → St → Prop
  | 0 => fun _ _ => False
  | n + 1 => sX12_qTest_p2b Q (sX12_qTest_p2n Q n)
set_option maxHeartbeats 4000000 in
set_option maxRecDepth 100000 in
def sX12_qTest_p2 (Q : St → Prop) (v1 : Int32) (u : St) : Prop := ∃ n, sX12_qTest_p2n Q n v1 u
set_option maxHeartbeats 4000000 in
set_option maxRecDepth 100000 in
def s_X12_qTest (Q : St → Prop) (u : St) : Prop :=
  sX12_qTest_p2 Q (1 : Int32) u
set_option maxHeartbeats 4000000 in
set_option maxRecDepth 100000 in
theorem t_X12_qTest_p106 {ρ : Nat → Nat → Option Nat} (hR : RfH ρ) {s0 : Int32} {Q : St → Prop} {QW : Mem → Prop} {K2 : Int32 → St → Prop} {KW2 : Int32 → Mem → Prop} (hQ : ∀ (u : St), DK u → Q u → QW (emb ρ u)) (hK2 : ∀ (x1 : Int32) (u : St), DK u → K2 x1 u → KW2 x1 (emb ρ u)) {u : St} (hd : DK u) (h : sX12_qTest_p106 s0 Q K2 u) : X12_qTest_p106 SH 198 s0 QW KW2 (emb ρ u) := by
  unfold X12_qTest_p106
  unfold sX12_qTest_p106 at h
  exact hK2 _ _ hd h
set_option maxHeartbeats 4000000 in
set_option maxRecDepth 100000 in
theorem t_X12_qTest_p105 {ρ : Nat → Nat → Option Nat} (hR : RfH ρ) {Q : St → Prop} {QW : Mem → Prop} {K2 : Int32 → St → Prop} {KW2 : Int32 → Mem → Prop} (hQ : ∀ (u : St), DK u → Q u → QW (emb ρ u)) (hK2 : ∀ (x1 : Int32) (u : St), DK u → K2 x1 u → KW2 x1 (emb ρ u)) {u : St} (hd : DK u) (h : sX12_qTest_p105 Q K2 u) : X12_qTest_p105 SH 198 QW KW2 (emb ρ u) := by
  unfold X12_qTest_p105
  unfold sX12_qTest_p105 at h
  exact t_X12_qTest_p106 hR hQ hK2 hd h
set_option maxHeartbeats 4000000 in
set_option maxRecDepth 100000 in
theorem t_X12_qTest_p110b {ρ : Nat → Nat → Option Nat} (hR : RfH ρ) {Q : St → Prop} {QW : Mem → Prop} (hQ : ∀ (u : St), DK u → Q u → QW (emb ρ u)) {K110 : St → Prop} {KW110 : Mem → Prop} (hK110 : ∀ (u : St), DK u → K110 u → KW110 (emb ρ u)) {u : St} (hd : DK u) (h : sX12_qTest_p110b Q K110 u) : X12_qTest_p110b SH 198 QW KW110 (emb ρ u) := by
  unfold X12_qTest_p110b
  unfold sX12_qTest_p110b at h
  refine ⟨on_198, ?_⟩
  refine ite_mono (fun hc h => ?_) (fun hc h => ?_) h
  · refine ite_mono (fun hc h => ?_) (fun hc h => ?_) h
    · exact hQ _ hd h
    · refine t_X12_qDrops hR (fun u21 hd h => ?_) hd h
      exact hK110  _ hd h
  · exact hQ _ hd h
set_option maxHeartbeats 4000000 in
set_option maxRecDepth 100000 in
theorem t_X12_qTest_p110n {ρ : Nat → Nat → Option Nat} (hR : RfH ρ) {Q : St → Prop} {QW : Mem → Prop} (hQ : ∀ (u : St), DK u → Q u → QW (emb ρ u)) : ∀ (n : Nat) (u : St), DK u → sX12_qTest_p110n Q n u → X12_qTest_p110n SH 198 QW n (emb ρ u)
  | 0,  _,  _, h => h.elim
  | n + 1,  u,  hd, h => t_X12_qTest_p110b hR hQ (fun  u  hd h => t_X12_qTest_p110n hR hQ n  u  hd h) hd h
set_option maxHeartbeats 4000000 in
set_option maxRecDepth 100000 in
theorem t_X12_qTest_p110 {ρ : Nat → Nat → Option Nat} (hR : RfH ρ) {Q : St → Prop} {QW : Mem → Prop} (hQ : ∀ (u : St), DK u → Q u → QW (emb ρ u)) {u : St} (hd : DK u) (h : sX12_qTest_p110 Q u) : X12_qTest_p110 SH 198 QW (emb ρ u) := h.elim (fun n h => ⟨n, t_X12_qTest_p110n hR hQ n _ hd h⟩)
set_option maxHeartbeats 4000000 in
set_option maxRecDepth 100000 in
theorem t_X12_qTest_p2b {ρ : Nat → Nat → Option Nat} (hR : RfH ρ) {v1 : Int32} {Q : St → Prop} {QW : Mem → Prop} (hQ : ∀ (u : St), DK u → Q u → QW (emb ρ u)) {K2 : Int32 → St → Prop} {KW2 : Int32 → Mem → Prop} (hK2 : ∀ (x1 : Int32) (u : St), DK u → K2 x1 u → KW2 x1 (emb ρ u)) {u : St} (hd : DK u) (h : sX12_qTest_p2b Q K2 v1 u) : X12_qTest_p2b SH 198 QW KW2 v1 (emb ρ u) := by
  unfold X12_qTest_p2b
  unfold sX12_qTest_p2b at h
  refine ite_mono (fun hc h => ?_) (fun hc h => ?_) h
  · exact t_X12_qTest_p110 hR hQ hd h
  · refine ⟨on_198, ?_⟩
    refine ite_mono (fun hc h => ?_) (fun hc h => ?_) h
    · refine t_X12_look hR (fun r1 u2 hd h => ?_) hd h
      refine ite_mono (fun hc h => ?_) (fun hc h => ?_) h
      · refine t_X12_qOpens hR (fun u18 hd h => ?_) hd h
        refine bnd_I ?_
        replace h := bnd_e h
        exact hK2 _ _ hd h
      · refine ⟨_, rn_198_87 hR _, ?_⟩
        refine t_X12_isHere hR (fun r4 u5 hd h => ?_) hd h
        refine ite_mono (fun hc h => ?_) (fun hc h => ?_) h
        · refine t_X12_qFact hR (fun u7 hd h => ?_) hd h
          refine t_X12_qDropsNots hR (fun u9 hd h => ?_) hd h
          refine ite_mono (fun hc h => ?_) (fun hc h => ?_) h
          · refine t_X12_qGoesOnTest hR (fun r10 u11 hd h => ?_) hd h
            refine ite_mono (fun hc h => ?_) (fun hc h => ?_) h
            · exact t_X12_qTest_p105 hR hQ hK2 hd h
            · exact t_X12_qTest_p106 hR hQ hK2 hd h
          · exact t_X12_qTest_p105 hR hQ hK2 hd h
        · refine t_X12_qOpens hR (fun u13 hd h => ?_) hd h
          refine ⟨_, rn_198_87 hR _, ?_⟩
          refine t_X12_asks hR (fun u16 hd h => ?_) hd h
          exact hK2 _ _ hd h
    · exact t_X12_qTest_p110 hR hQ hd h
set_option maxHeartbeats 4000000 in
set_option maxRecDepth 100000 in
theorem t_X12_qTest_p2n {ρ : Nat → Nat → Option Nat} (hR : RfH ρ) {Q : St → Prop} {QW : Mem → Prop} (hQ : ∀ (u : St), DK u → Q u → QW (emb ρ u)) : ∀ (n : Nat) (v1 : Int32) (u : St), DK u → sX12_qTest_p2n Q n v1 u → X12_qTest_p2n SH 198 QW n v1 (emb ρ u)
  | 0, _, _,  _, h => h.elim
  | n + 1, v1,  u,  hd, h => t_X12_qTest_p2b hR hQ (fun v1 u  hd h => t_X12_qTest_p2n hR hQ n v1 u  hd h) hd h
set_option maxHeartbeats 4000000 in
set_option maxRecDepth 100000 in
theorem t_X12_qTest_p2 {ρ : Nat → Nat → Option Nat} (hR : RfH ρ) {v1 : Int32} {Q : St → Prop} {QW : Mem → Prop} (hQ : ∀ (u : St), DK u → Q u → QW (emb ρ u)) {u : St} (hd : DK u) (h : sX12_qTest_p2 Q v1 u) : X12_qTest_p2 SH 198 QW v1 (emb ρ u) := h.elim (fun n h => ⟨n, t_X12_qTest_p2n hR hQ n _ _ hd h⟩)
set_option maxHeartbeats 4000000 in
set_option maxRecDepth 100000 in
theorem t_X12_qTest {ρ : Nat → Nat → Option Nat} (hR : RfH ρ) {Q : St → Prop} {QW : Mem → Prop} (hQ : ∀ (u : St), DK u → Q u → QW (emb ρ u)) {u : St} (hd : DK u) (h : s_X12_qTest Q u) : wp_X12_qTest SH 198 QW (emb ρ u) := by
  unfold wp_X12_qTest
  unfold s_X12_qTest at h
  exact t_X12_qTest_p2 hR hQ hd h
/-! CalledRiverModel.isCaller -/
set_option maxHeartbeats 4000000 in
set_option maxRecDepth 100000 in
def s_X12_isCaller (v1 : Int64) (Q : Int32 → St → Prop) (u : St) : Prop :=
  s_X12_callerMany  (fun r1 u2 => s_X12_isIn v1 (0 : Int64) (r1 - (1 : Int32)).toInt64 (fun r3 u4 => (r3 = 0 ∨ r3 = 1) ∧ Q r3 u4) u2) u
set_option maxHeartbeats 4000000 in
set_option maxRecDepth 100000 in
theorem t_X12_isCaller {ρ : Nat → Nat → Option Nat} (hR : RfH ρ) {v1 : Int64} {Q : Int32 → St → Prop} {QW : Int32 → Mem → Prop} (hQ : ∀ (r : Int32) (u : St), DK u → Q r u → QW r (emb ρ u)) {u : St} (hd : DK u) (h : s_X12_isCaller v1 Q u) : wp_X12_isCaller SH 198 v1 QW (emb ρ u) := by
  unfold wp_X12_isCaller
  unfold s_X12_isCaller at h
  refine ⟨on_198, ?_⟩
  refine t_X12_callerMany hR (fun r1 u2 hd h => ?_) hd h
  refine t_X12_isIn hR (fun r3 u4 hd h => ?_) hd h
  exact ⟨h.1, hQ _ _ hd h.2⟩
/-! CalledRiverModel.qOf -/
set_option maxHeartbeats 4000000 in
set_option maxRecDepth 100000 in
def s_X12_qOf (v1 : Int32) (v2 : Int64) (v4 : Int32) (Q : Int64 → St → Prop) (u : St) : Prop :=
  if v1 = (0 : Int32) then (s_X12_isCaller v2 (fun r1 u2 => if r1 = 0 then (Q (0 : Int64) u2) else (vp_in (((6 : Int32) * v2.toInt32) + v4) 30 ∧ (if (u2.1 244 (((6 : Int32) * v2.toInt32) + v4).toNatClampNeg) < 0 then (Q (0 : Int64) u2) else (s_X12_dayOf v4 (fun r5 u6 => if r5 < (u2.1 244 (((6 : Int32) * v2.toInt32) + v4).toNatClampNeg) then (Q (0 : Int64) u6) else (Q (1 : Int64) u6)) u2)))) u) else (s_X12_isCaller v2 (fun r7 u8 => if r7 = 0 then (Q (-1 : Int64) u8) else (vp_in (((6 : Int32) * v2.toInt32) + v4) 30 ∧ (Q (u8.1 244 (((6 : Int32) * v2.toInt32) + v4).toNatClampNeg).toInt64 u8))) u)
set_option maxHeartbeats 4000000 in
set_option maxRecDepth 100000 in
theorem t_X12_qOf {ρ : Nat → Nat → Option Nat} (hR : RfH ρ) {v1 : Int32} {v2 : Int64} {v4 : Int32} {Q : Int64 → St → Prop} {QW : Int64 → Mem → Prop} (hQ : ∀ (r : Int64) (u : St), DK u → Q r u → QW r (emb ρ u)) {u : St} (hd : DK u) (h : s_X12_qOf v1 v2 v4 Q u) : wp_X12_qOf SH 198 v1 v2 v4 QW (emb ρ u) := by
  unfold wp_X12_qOf
  unfold s_X12_qOf at h
  refine ite_mono (fun hc h => ?_) (fun hc h => ?_) h
  · refine ⟨on_198, ?_⟩
    refine t_X12_isCaller hR (fun r1 u2 hd h => ?_) hd h
    refine ite_mono (fun hc h => ?_) (fun hc h => ?_) h
    · exact hQ _ _ hd h
    · refine ⟨_, rn_198_66 hR _, ?_⟩
      obtain ⟨x4, h⟩ := h
      refine ⟨ix_i (show SH[244]? = some (100, 30) from rfl) x4, ?_⟩
      refine ite_mono (fun hc h => ?_) (fun hc h => ?_) h
      · exact hQ _ _ hd h
      · refine t_X12_dayOf hR (fun r5 u6 hd h => ?_) hd h
        refine ite_mono (fun hc h => ?_) (fun hc h => ?_) h
        · exact hQ _ _ hd h
        · exact hQ _ _ hd h
  refine ⟨on_198, ?_⟩
  refine t_X12_isCaller hR (fun r7 u8 hd h => ?_) hd h
  refine ite_mono (fun hc h => ?_) (fun hc h => ?_) h
  · exact hQ _ _ hd h
  · refine ⟨_, rn_198_66 hR _, ?_⟩
    obtain ⟨x10, h⟩ := h
    refine ⟨ix_i (show SH[244]? = some (100, 30) from rfl) x10, ?_⟩
    exact hQ _ _ hd h
/-! CalledRiverModel.qTold -/
set_option maxHeartbeats 4000000 in
set_option maxRecDepth 100000 in
def sX12_qTold_p162 (v1 : Int32) (v2 : Int32) (Q : Int64 → St → Prop) (K7 : Int32 → St → Prop) (u : St) : Prop :=
  K7 (v2 + (1 : Int32)) u
set_option maxHeartbeats 4000000 in
set_option maxRecDepth 100000 in
def sX12_qTold_p7b (v1 : Int32) (Q : Int64 → St → Prop) (K7 : Int32 → St → Prop) (v2 : Int32) (u : St) : Prop :=
  if (u.1 198 109) ≤ v2 then (vp_in (0 : Int32) 1700 ∧ (Q (u.2.1 284 (0 : Int32).toNatClampNeg) u)) else (vp_in v2 1700 ∧ (if (u.1 282 v2.toNatClampNeg) < (1000 : Int32) then (if (u.1 282 v2.toNatClampNeg) < (60 : Int32) then (if (u.1 282 v2.toNatClampNeg) < (40 : Int32) then (if (u.1 282 v2.toNatClampNeg) = (13 : Int32) then (s_X12_qPuts (1 : Int64) (fun u12 => sX12_qTold_p162 v1 v2 Q K7 u12) u) else (if (u.1 282 v2.toNatClampNeg) = (12 : Int32) then (vp_in ((u.1 198 115) - (1 : Int32)) 1700 ∧ (bnd (tL u 284 ((u.1 198 115) - (1 : Int32)).toNatClampNeg ((1 : Int64) - (u.2.1 284 ((u.1 198 115) - (1 : Int32)).toNatClampNeg))) (fun u10 => sX12_qTold_p162 v1 v2 Q K7 u10))) else (s_X12_qJoins (u.1 282 v2.toNatClampNeg) (fun u7 => sX12_qTold_p162 v1 v2 Q K7 u7) u))) else (s_X12_qPartOf ((u.1 282 v2.toNatClampNeg) - (40 : Int32)) v1 (fun r13 u14 => s_X12_qClip r13 (fun r15 u16 => s_X12_qPuts r15 (fun u18 => sX12_qTold_p162 v1 v2 Q K7 u18) u16) u14) u)) else (vp_in ((u.1 198 115) - (1 : Int32)) 1700 ∧ (s_X12_qOf ((u.1 282 v2.toNatClampNeg) - (60 : Int32)) (u.2.1 284 ((u.1 198 115) - (1 : Int32)).toNatClampNeg) v1 (fun r21 u22 => s_X12_qClip r21 (fun r23 u24 => bnd (tL u24 284 ((u.1 198 115) - (1 : Int32)).toNatClampNeg r23) (fun u25 => sX12_qTold_p162 v1 v2 Q K7 u25)) u22) u))) else (s_X12_qPuts ((u.1 282 v2.toNatClampNeg) - (1000 : Int32)).toInt64 (fun u27 => sX12_qTold_p162 v1 v2 Q K7 u27) u)))
set_option maxHeartbeats 4000000 in
set_option maxRecDepth 100000 in
def sX12_qTold_p7n (v1 : Int32) (Q : Int64 → St → Prop) : Nat → Int32 → St → Prop
  | 0 => fun _ _ => False
  | n + 1 => sX12_qTold_p7b v1 Q (sX12_qTold_p7n v1 Q n)
set_option maxHeartbeats 4000000 in
set_option maxRecDepth 100000 in
def sX12_qTold_p7 (v1 : Int32) (Q : Int64 → St → Prop) (v2 : Int32) (u : St) : Prop := ∃ n, sX12_qTold_p7n v1 Q n v2 u
set_option maxHeartbeats 4000000 in
set_option maxRecDepth 100000 in
def s_X12_qTold (v1 : Int32) (Q : Int64 → St → Prop) (u : St) : Prop :=
  bnd (tI u 198 115 (0 : Int32)) (fun u1 => sX12_qTold_p7 v1 Q (0 : Int32) u1)
set_option maxHeartbeats 4000000 in
set_option maxRecDepth 100000 in
theorem t_X12_qTold_p162 {ρ : Nat → Nat → Option Nat} (hR : RfH ρ) {v1 : Int32} {v2 : Int32} {Q : Int64 → St → Prop} {QW : Int64 → Mem → Prop} {K7 : Int32 → St → Prop} {KW7 : Int32 → Mem → Prop} (hQ : ∀ (r : Int64) (u : St), DK u → Q r u → QW r (emb ρ u)) (hK7 : ∀ (x2 : Int32) (u : St), DK u → K7 x2 u → KW7 x2 (emb ρ u)) {u : St} (hd : DK u) (h : sX12_qTold_p162 v1 v2 Q K7 u) : X12_qTold_p162 SH 198 v1 v2 QW KW7 (emb ρ u) := by
  unfold X12_qTold_p162
  unfold sX12_qTold_p162 at h
  exact hK7 _ _ hd h
set_option maxHeartbeats 4000000 in
set_option maxRecDepth 100000 in
theorem t_X12_qTold_p7b {ρ : Nat → Nat → Option Nat} (hR : RfH ρ) {v1 : Int32} {v2 : Int32} {Q : Int64 → St → Prop} {QW : Int64 → Mem → Prop} (hQ : ∀ (r : Int64) (u : St), DK u → Q r u → QW r (emb ρ u)) {K7 : Int32 → St → Prop} {KW7 : Int32 → Mem → Prop} (hK7 : ∀ (x2 : Int32) (u : St), DK u → K7 x2 u → KW7 x2 (emb ρ u)) {u : St} (hd : DK u) (h : sX12_qTold_p7b v1 Q K7 v2 u) : X12_qTold_p7b SH 198 v1 QW KW7 v2 (emb ρ u) := by
  unfold X12_qTold_p7b
  unfold sX12_qTold_p7b at h
  refine ⟨on_198, ?_⟩
  refine ite_mono (fun hc h => ?_) (fun hc h => ?_) h
  · refine ⟨_, rn_198_114 hR _, ?_⟩
    obtain ⟨x3, h⟩ := h
    refine ⟨ix_i (show SH[284]? = some (103, 1700) from rfl) x3, ?_⟩
    exact hQ _ _ hd h
  · refine ⟨_, rn_198_108 hR _, ?_⟩
    obtain ⟨x5, h⟩ := h
    refine ⟨ix_i (show SH[282]? = some (100, 1700) from rfl) x5, ?_⟩
    refine ite_mono (fun hc h => ?_) (fun hc h => ?_) h
    · refine ite_mono (fun hc h => ?_) (fun hc h => ?_) h
      · refine ite_mono (fun hc h => ?_) (fun hc h => ?_) h
        · refine ite_mono (fun hc h => ?_) (fun hc h => ?_) h
          · refine t_X12_qPuts hR (fun u12 hd h => ?_) hd h
            exact t_X12_qTold_p162 hR hQ hK7 hd h
          · refine ite_mono (fun hc h => ?_) (fun hc h => ?_) h
            · refine ⟨_, rn_198_114 hR _, ?_⟩
              obtain ⟨x9, h⟩ := h
              refine ⟨ix_i (show SH[284]? = some (103, 1700) from rfl) x9, ?_⟩
              refine bnd_L ?_
              replace h := bnd_e h
              exact t_X12_qTold_p162 hR hQ hK7 hd h
            · refine t_X12_qJoins hR (fun u7 hd h => ?_) hd h
              exact t_X12_qTold_p162 hR hQ hK7 hd h
        · refine t_X12_qPartOf hR (fun r13 u14 hd h => ?_) hd h
          refine t_X12_qClip hR (fun r15 u16 hd h => ?_) hd h
          refine t_X12_qPuts hR (fun u18 hd h => ?_) hd h
          exact t_X12_qTold_p162 hR hQ hK7 hd h
      · refine ⟨_, rn_198_114 hR _, ?_⟩
        obtain ⟨x20, h⟩ := h
        refine ⟨ix_i (show SH[284]? = some (103, 1700) from rfl) x20, ?_⟩
        refine t_X12_qOf hR (fun r21 u22 hd h => ?_) hd h
        refine t_X12_qClip hR (fun r23 u24 hd h => ?_) hd h
        refine bnd_L ?_
        replace h := bnd_e h
        exact t_X12_qTold_p162 hR hQ hK7 hd h
    · refine t_X12_qPuts hR (fun u27 hd h => ?_) hd h
      exact t_X12_qTold_p162 hR hQ hK7 hd h
set_option maxHeartbeats 4000000 in
set_option maxRecDepth 100000 in
theorem t_X12_qTold_p7n {ρ : Nat → Nat → Option Nat} (hR : RfH ρ) {v1 : Int32} {Q : Int64 → St → Prop} {QW : Int64 → Mem → Prop} (hQ : ∀ (r : Int64) (u : St), DK u → Q r u → QW r (emb ρ u)) : ∀ (n : Nat) (v2 : Int32) (u : St), DK u → sX12_qTold_p7n v1 Q n v2 u → X12_qTold_p7n SH 198 v1 QW n v2 (emb ρ u)
  | 0, _, _,  _, h => h.elim
  | n + 1, v2,  u,  hd, h => t_X12_qTold_p7b hR hQ (fun v2 u  hd h => t_X12_qTold_p7n hR hQ n v2 u  hd h) hd h
set_option maxHeartbeats 4000000 in
set_option maxRecDepth 100000 in
theorem t_X12_qTold_p7 {ρ : Nat → Nat → Option Nat} (hR : RfH ρ) {v1 : Int32} {v2 : Int32} {Q : Int64 → St → Prop} {QW : Int64 → Mem → Prop} (hQ : ∀ (r : Int64) (u : St), DK u → Q r u → QW r (emb ρ u)) {u : St} (hd : DK u) (h : sX12_qTold_p7 v1 Q v2 u) : X12_qTold_p7 SH 198 v1 QW v2 (emb ρ u) := h.elim (fun n h => ⟨n, t_X12_qTold_p7n hR hQ n _ _ hd h⟩)
set_option maxHeartbeats 4000000 in
set_option maxRecDepth 100000 in
theorem t_X12_qTold {ρ : Nat → Nat → Option Nat} (hR : RfH ρ) {v1 : Int32} {Q : Int64 → St → Prop} {QW : Int64 → Mem → Prop} (hQ : ∀ (r : Int64) (u : St), DK u → Q r u → QW r (emb ρ u)) {u : St} (hd : DK u) (h : s_X12_qTold v1 Q u) : wp_X12_qTold SH 198 v1 QW (emb ρ u) := by
  unfold wp_X12_qTold
  unfold s_X12_qTold at h
  refine ⟨on_198, ?_⟩
  refine bnd_I ?_
  replace h := bnd_e h
  exact t_X12_qTold_p7 hR hQ hd h
/-! CalledRiverModel.ask -/
set_option maxHeartbeats 4000000 in
set_option maxRecDepth 100000 in
def sX12_ask_p209b (v1 : Int32) (Q : Int64 → St → Prop) (K209 : Int32 → St → Prop) (v2 : Int32) (u : St) : Prop :=
  s_X12_farmMany  (fun r32 u33 => if r32 ≤ v2 then (Q (u33.2.1 198 116) u33) else (s_X12_qTold v2 (fun r34 u35 => s_X12_qTakes v1 r34 v2 (fun u37 => K209 (v2 + (1 : Int32)) u37) u35) u33)) u
set_option maxHeartbeats 4000000 in
set_option maxRecDepth 100000 in
def sX12_ask_p209n (v1 : Int32) (Q : Int64 → St → Prop) : Nat → Int32 → St → Prop
  | 0 => fun _ _ => False
  | n + 1 => sX12_ask_p209b v1 Q (sX12_ask_p209n v1 Q n)
set_option maxHeartbeats 4000000 in
set_option maxRecDepth 100000 in
def sX12_ask_p209 (v1 : Int32) (Q : Int64 → St → Prop) (v2 : Int32) (u : St) : Prop := ∃ n, sX12_ask_p209n v1 Q n v2 u
set_option maxHeartbeats 4000000 in
set_option maxRecDepth 100000 in
def sX12_ask_p183b (v1 : Int32) (Q : Int64 → St → Prop) (K183 : Int32 → St → Prop) (v2 : Int32) (u : St) : Prop :=
  s_X12_callerMany  (fun r27 u28 => if r27 ≤ v2 then (bnd (tI u28 198 57 (2 : Int32)) (fun u29 => sX12_ask_p209 v1 Q (0 : Int32) u29)) else (s_X12_laysSteps v2 (fun u31 => K183 (v2 + (1 : Int32)) u31) u28)) u
set_option maxHeartbeats 4000000 in
set_option maxRecDepth 100000 in
def sX12_ask_p183n (v1 : Int32) (Q : Int64 → St → Prop) : Nat → Int32 → St → Prop
  | 0 => fun _ _ => False
  | n + 1 => sX12_ask_p183b v1 Q (sX12_ask_p183n v1 Q n)
set_option maxHeartbeats 4000000 in
set_option maxRecDepth 100000 in
def sX12_ask_p183 (v1 : Int32) (Q : Int64 → St → Prop) (v2 : Int32) (u : St) : Prop := ∃ n, sX12_ask_p183n v1 Q n v2 u
set_option maxHeartbeats 4000000 in
set_option maxRecDepth 100000 in
def sX12_ask_p173 (v1 : Int32) (s1 : Int64) (Q : Int64 → St → Prop) (u : St) : Prop :=
  bnd (tL u 198 116 s1) (fun u25 => bnd (tI u25 198 117 (1 : Int32)) (fun u26 => sX12_ask_p183 v1 Q (0 : Int32) u26))
set_option maxHeartbeats 4000000 in
set_option maxRecDepth 100000 in
def sX12_ask_p133 (v1 : Int32) (Q : Int64 → St → Prop) (u : St) : Prop :=
  bnd (tI u 198 7 (u.1 198 5)) (fun u23 => bnd (tI u23 198 8 (u23.1 198 6)) (fun u24 => if (u24.1 198 5) = 0 then (if (2 : Int32) ≤ v1 then (sX12_ask_p173 v1 (0 : Int64) Q u24) else (sX12_ask_p173 v1 (-1 : Int64) Q u24)) else (Q (-1000000000000000 : Int64) u24)))
set_option maxHeartbeats 4000000 in
set_option maxRecDepth 100000 in
def sX12_ask_p109 (v1 : Int32) (Q : Int64 → St → Prop) (u : St) : Prop :=
  if (u.1 198 5) = 0 then (s_X12_look  (fun r19 u20 => if r19 = (-1 : Int32) then (sX12_ask_p133 v1 Q u20) else (s_X12_fail (1 : Int32) (u20.1 198 2) (fun u22 => sX12_ask_p133 v1 Q u22) u20)) u) else (sX12_ask_p133 v1 Q u)
set_option maxHeartbeats 4000000 in
set_option maxRecDepth 100000 in
def sX12_ask_p98 (v1 : Int32) (Q : Int64 → St → Prop) (u : St) : Prop :=
  if (u.1 198 5) = 0 then (s_X12_qSums  (fun u18 => sX12_ask_p109 v1 Q u18) u) else (sX12_ask_p109 v1 Q u)
set_option maxHeartbeats 4000000 in
set_option maxRecDepth 100000 in
def s_X12_ask (Q : Int64 → St → Prop) (u : St) : Prop :=
  if (u.1 198 56) = 0 then (bnd (tI u 198 1 (0 : Int32)) (fun u16 => Q (-1000000000000000 : Int64) u16)) else (bnd (tI u 198 3 (u.1 198 1)) (fun u1 => bnd (tI u1 198 1 (0 : Int32)) (fun u2 => bnd (tI u2 198 2 (0 : Int32)) (fun u3 => bnd (tI u3 198 4 (-1 : Int32)) (fun u4 => bnd (tI u4 198 5 (0 : Int32)) (fun u5 => bnd (tI u5 198 6 (-1 : Int32)) (fun u6 => bnd (tI u6 198 57 (2 : Int32)) (fun u7 => bnd (tI u7 198 109 (0 : Int32)) (fun u8 => bnd (tI u8 198 111 (0 : Int32)) (fun u9 => bnd (tI u9 198 112 (0 : Int32)) (fun u10 => bnd (tI u10 198 113 (0 : Int32)) (fun u11 => s_X12_qKind  (fun r12 u13 => if (u13.1 198 5) = 0 then (if (3 : Int32) ≤ r12 then (sX12_ask_p98 r12 Q u13) else (s_X12_qTest  (fun u15 => sX12_ask_p109 r12 Q u15) u13)) else (sX12_ask_p98 r12 Q u13)) u11))))))))))))
set_option maxHeartbeats 4000000 in
set_option maxRecDepth 100000 in
theorem t_X12_ask_p209b {ρ : Nat → Nat → Option Nat} (hR : RfH ρ) {v1 : Int32} {v2 : Int32} {Q : Int64 → St → Prop} {QW : Int64 → Mem → Prop} (hQ : ∀ (r : Int64) (u : St), DK u → Q r u → QW r (emb ρ u)) {K209 : Int32 → St → Prop} {KW209 : Int32 → Mem → Prop} (hK209 : ∀ (x2 : Int32) (u : St), DK u → K209 x2 u → KW209 x2 (emb ρ u)) {u : St} (hd : DK u) (h : sX12_ask_p209b v1 Q K209 v2 u) : X12_ask_p209b SH 198 v1 QW KW209 v2 (emb ρ u) := by
  unfold X12_ask_p209b
  unfold sX12_ask_p209b at h
  refine ⟨on_198, ?_⟩
  refine t_X12_farmMany hR (fun r32 u33 hd h => ?_) hd h
  refine ite_mono (fun hc h => ?_) (fun hc h => ?_) h
  · exact hQ _ _ hd h
  · refine t_X12_qTold hR (fun r34 u35 hd h => ?_) hd h
    refine t_X12_qTakes hR (fun u37 hd h => ?_) hd h
    exact hK209 _ _ hd h
set_option maxHeartbeats 4000000 in
set_option maxRecDepth 100000 in
theorem t_X12_ask_p209n {ρ : Nat → Nat → Option Nat} (hR : RfH ρ) {v1 : Int32} {Q : Int64 → St → Prop} {QW : Int64 → Mem → Prop} (hQ : ∀ (r : Int64) (u : St), DK u → Q r u → QW r (emb ρ u)) : ∀ (n : Nat) (v2 : Int32) (u : St), DK u → sX12_ask_p209n v1 Q n v2 u → X12_ask_p209n SH 198 v1 QW n v2 (emb ρ u)
  | 0, _, _,  _, h => h.elim
  | n + 1, v2,  u,  hd, h => t_X12_ask_p209b hR hQ (fun v2 u  hd h => t_X12_ask_p209n hR hQ n v2 u  hd h) hd h
set_option maxHeartbeats 4000000 in
set_option maxRecDepth 100000 in
theorem t_X12_ask_p209 {ρ : Nat → Nat → Option Nat} (hR : RfH ρ) {v1 : Int32} {v2 : Int32} {Q : Int64 → St → Prop} {QW : Int64 → Mem → Prop} (hQ : ∀ (r : Int64) (u : St), DK u → Q r u → QW r (emb ρ u)) {u : St} (hd : DK u) (h : sX12_ask_p209 v1 Q v2 u) : X12_ask_p209 SH 198 v1 QW v2 (emb ρ u) := h.elim (fun n h => ⟨n, t_X12_ask_p209n hR hQ n _ _ hd h⟩)
set_option maxHeartbeats 4000000 in
set_option maxRecDepth 100000 in
theorem t_X12_ask_p183b {ρ : Nat → Nat → Option Nat} (hR : RfH ρ) {v1 : Int32} {v2 : Int32} {Q : Int64 → St → Prop} {QW : Int64 → Mem → Prop} (hQ : ∀ (r : Int64) (u : St), DK u → Q r u → QW r (emb ρ u)) {K183 : Int32 → St → Prop} {KW183 : Int32 → Mem → Prop} (hK183 : ∀ (x2 : Int32) (u : St), DK u → K183 x2 u → KW183 x2 (emb ρ u)) {u : St} (hd : DK u) (h : sX12_ask_p183b v1 Q K183 v2 u) : X12_ask_p183b SH 198 v1 QW KW183 v2 (emb ρ u) := by
  unfold X12_ask_p183b
  unfold sX12_ask_p183b at h
  refine ⟨on_198, ?_⟩
  refine t_X12_callerMany hR (fun r27 u28 hd h => ?_) hd h
  refine ite_mono (fun hc h => ?_) (fun hc h => ?_) h
  · refine bnd_I ?_
    replace h := bnd_e h
    exact t_X12_ask_p209 hR hQ hd h
  · refine t_X12_laysSteps hR (fun u31 hd h => ?_) hd h
    exact hK183 _ _ hd h
set_option maxHeartbeats 4000000 in
set_option maxRecDepth 100000 in
theorem t_X12_ask_p183n {ρ : Nat → Nat → Option Nat} (hR : RfH ρ) {v1 : Int32} {Q : Int64 → St → Prop} {QW : Int64 → Mem → Prop} (hQ : ∀ (r : Int64) (u : St), DK u → Q r u → QW r (emb ρ u)) : ∀ (n : Nat) (v2 : Int32) (u : St), DK u → sX12_ask_p183n v1 Q n v2 u → X12_ask_p183n SH 198 v1 QW n v2 (emb ρ u)
  | 0, _, _,  _, h => h.elim
  | n + 1, v2,  u,  hd, h => t_X12_ask_p183b hR hQ (fun v2 u  hd h => t_X12_ask_p183n hR hQ n v2 u  hd h) hd h
set_option maxHeartbeats 4000000 in
set_option maxRecDepth 100000 in
theorem t_X12_ask_p183 {ρ : Nat → Nat → Option Nat} (hR : RfH ρ) {v1 : Int32} {v2 : Int32} {Q : Int64 → St → Prop} {QW : Int64 → Mem → Prop} (hQ : ∀ (r : Int64) (u : St), DK u → Q r u → QW r (emb ρ u)) {u : St} (hd : DK u) (h : sX12_ask_p183 v1 Q v2 u) : X12_ask_p183 SH 198 v1 QW v2 (emb ρ u) := h.elim (fun n h => ⟨n, t_X12_ask_p183n hR hQ n _ _ hd h⟩)
set_option maxHeartbeats 4000000 in
set_option maxRecDepth 100000 in
theorem t_X12_ask_p173 {ρ : Nat → Nat → Option Nat} (hR : RfH ρ) {v1 : Int32} {s1 : Int64} {Q : Int64 → St → Prop} {QW : Int64 → Mem → Prop} (hQ : ∀ (r : Int64) (u : St), DK u → Q r u → QW r (emb ρ u)) {u : St} (hd : DK u) (h : sX12_ask_p173 v1 s1 Q u) : X12_ask_p173 SH 198 v1 s1 198 QW (emb ρ u) := by
  unfold X12_ask_p173
  unfold sX12_ask_p173 at h
  refine ⟨on_198, ?_⟩
  refine bnd_L ?_
  replace h := bnd_e h
  refine ⟨on_198, ?_⟩
  refine bnd_I ?_
  replace h := bnd_e h
  exact t_X12_ask_p183 hR hQ hd h
set_option maxHeartbeats 4000000 in
set_option maxRecDepth 100000 in
theorem t_X12_ask_p133 {ρ : Nat → Nat → Option Nat} (hR : RfH ρ) {v1 : Int32} {Q : Int64 → St → Prop} {QW : Int64 → Mem → Prop} (hQ : ∀ (r : Int64) (u : St), DK u → Q r u → QW r (emb ρ u)) {u : St} (hd : DK u) (h : sX12_ask_p133 v1 Q u) : X12_ask_p133 SH 198 v1 QW (emb ρ u) := by
  unfold X12_ask_p133
  unfold sX12_ask_p133 at h
  refine ⟨on_198, ?_⟩
  refine bnd_I ?_
  replace h := bnd_e h
  refine bnd_I ?_
  replace h := bnd_e h
  refine ite_mono (fun hc h => ?_) (fun hc h => ?_) h
  · refine ite_mono (fun hc h => ?_) (fun hc h => ?_) h
    · exact t_X12_ask_p173 hR hQ hd h
    · exact t_X12_ask_p173 hR hQ hd h
  · exact hQ _ _ hd h
set_option maxHeartbeats 4000000 in
set_option maxRecDepth 100000 in
theorem t_X12_ask_p109 {ρ : Nat → Nat → Option Nat} (hR : RfH ρ) {v1 : Int32} {Q : Int64 → St → Prop} {QW : Int64 → Mem → Prop} (hQ : ∀ (r : Int64) (u : St), DK u → Q r u → QW r (emb ρ u)) {u : St} (hd : DK u) (h : sX12_ask_p109 v1 Q u) : X12_ask_p109 SH 198 v1 QW (emb ρ u) := by
  unfold X12_ask_p109
  unfold sX12_ask_p109 at h
  refine ⟨on_198, ?_⟩
  refine ite_mono (fun hc h => ?_) (fun hc h => ?_) h
  · refine t_X12_look hR (fun r19 u20 hd h => ?_) hd h
    refine ite_mono (fun hc h => ?_) (fun hc h => ?_) h
    · exact t_X12_ask_p133 hR hQ hd h
    · refine t_X12_fail hR (fun u22 hd h => ?_) hd h
      exact t_X12_ask_p133 hR hQ hd h
  · exact t_X12_ask_p133 hR hQ hd h
set_option maxHeartbeats 4000000 in
set_option maxRecDepth 100000 in
theorem t_X12_ask_p98 {ρ : Nat → Nat → Option Nat} (hR : RfH ρ) {v1 : Int32} {Q : Int64 → St → Prop} {QW : Int64 → Mem → Prop} (hQ : ∀ (r : Int64) (u : St), DK u → Q r u → QW r (emb ρ u)) {u : St} (hd : DK u) (h : sX12_ask_p98 v1 Q u) : X12_ask_p98 SH 198 v1 QW (emb ρ u) := by
  unfold X12_ask_p98
  unfold sX12_ask_p98 at h
  refine ⟨on_198, ?_⟩
  refine ite_mono (fun hc h => ?_) (fun hc h => ?_) h
  · refine t_X12_qSums hR (fun u18 hd h => ?_) hd h
    exact t_X12_ask_p109 hR hQ hd h
  · exact t_X12_ask_p109 hR hQ hd h
set_option maxHeartbeats 4000000 in
set_option maxRecDepth 100000 in
theorem t_X12_ask {ρ : Nat → Nat → Option Nat} (hR : RfH ρ) {Q : Int64 → St → Prop} {QW : Int64 → Mem → Prop} (hQ : ∀ (r : Int64) (u : St), DK u → Q r u → QW r (emb ρ u)) {u : St} (hd : DK u) (h : s_X12_ask Q u) : wp_X12_ask SH 198 QW (emb ρ u) := by
  unfold wp_X12_ask
  unfold s_X12_ask at h
  refine ⟨on_198, ?_⟩
  refine ite_mono (fun hc h => ?_) (fun hc h => ?_) h
  · refine bnd_I ?_
    replace h := bnd_e h
    exact hQ _ _ hd h
  · refine bnd_I ?_
    replace h := bnd_e h
    refine bnd_I ?_
    replace h := bnd_e h
    refine bnd_I ?_
    replace h := bnd_e h
    refine bnd_I ?_
    replace h := bnd_e h
    refine bnd_I ?_
    replace h := bnd_e h
    refine bnd_I ?_
    replace h := bnd_e h
    refine bnd_I ?_
    replace h := bnd_e h
    refine bnd_I ?_
    replace h := bnd_e h
    refine bnd_I ?_
    replace h := bnd_e h
    refine bnd_I ?_
    replace h := bnd_e h
    refine bnd_I ?_
    replace h := bnd_e h
    refine t_X12_qKind hR (fun r12 u13 hd h => ?_) hd h
    refine ite_mono (fun hc h => ?_) (fun hc h => ?_) h
    · refine ite_mono (fun hc h => ?_) (fun hc h => ?_) h
      · exact t_X12_ask_p98 hR hQ hd h
      · refine t_X12_qTest hR (fun u15 hd h => ?_) hd h
        exact t_X12_ask_p109 hR hQ hd h
    · exact t_X12_ask_p98 hR hQ hd h
/-! CalledRiverModel.isFarm -/
set_option maxHeartbeats 4000000 in
set_option maxRecDepth 100000 in
def s_X12_isFarm (v1 : Int32) (Q : Int32 → St → Prop) (u : St) : Prop :=
  s_X12_farmMany  (fun r1 u2 => s_X12_isIn v1.toInt64 (0 : Int64) (r1 - (1 : Int32)).toInt64 (fun r3 u4 => (r3 = 0 ∨ r3 = 1) ∧ Q r3 u4) u2) u
set_option maxHeartbeats 4000000 in
set_option maxRecDepth 100000 in
theorem t_X12_isFarm {ρ : Nat → Nat → Option Nat} (hR : RfH ρ) {v1 : Int32} {Q : Int32 → St → Prop} {QW : Int32 → Mem → Prop} (hQ : ∀ (r : Int32) (u : St), DK u → Q r u → QW r (emb ρ u)) {u : St} (hd : DK u) (h : s_X12_isFarm v1 Q u) : wp_X12_isFarm SH 198 v1 QW (emb ρ u) := by
  unfold wp_X12_isFarm
  unfold s_X12_isFarm at h
  refine ⟨on_198, ?_⟩
  refine t_X12_farmMany hR (fun r1 u2 hd h => ?_) hd h
  refine t_X12_isIn hR (fun r3 u4 hd h => ?_) hd h
  exact ⟨h.1, hQ _ _ hd h.2⟩
/-! CalledRiverModel.isRefused -/
set_option maxHeartbeats 4000000 in
set_option maxRecDepth 100000 in
def s_X12_isRefused (Q : Int32 → St → Prop) (u : St) : Prop :=
  vp_in (3 : Int32) 6 ∧ (bnd (tI u 200 (3 : Int32).toNatClampNeg ((u.1 200 (3 : Int32).toNatClampNeg) + (1 : Int32))) (fun u3 => Q (0 : Int32) u3))
set_option maxHeartbeats 4000000 in
set_option maxRecDepth 100000 in
theorem t_X12_isRefused {ρ : Nat → Nat → Option Nat} (hR : RfH ρ) {Q : Int32 → St → Prop} {QW : Int32 → Mem → Prop} (hQ : ∀ (r : Int32) (u : St), DK u → Q r u → QW r (emb ρ u)) {u : St} (hd : DK u) (h : s_X12_isRefused Q u) : wp_X12_isRefused SH 198 QW (emb ρ u) := by
  unfold wp_X12_isRefused
  unfold s_X12_isRefused at h
  refine ⟨on_198, ?_⟩
  refine ⟨_, rn_198_9 hR _, ?_⟩
  obtain ⟨x2, h⟩ := h
  refine ⟨ix_i (show SH[200]? = some (100, 6) from rfl) x2, ?_⟩
  refine bnd_I ?_
  replace h := bnd_e h
  exact hQ _ _ hd h
/-! CalledRiverModel.keeps -/
set_option maxHeartbeats 4000000 in
set_option maxRecDepth 100000 in
def sX12_keeps_p15b (Q : St → Prop) (K15 : Int32 → St → Prop) (v1 : Int32) (u : St) : Prop :=
  if (236 : Int32) ≤ v1 then (if (20 : Int32) ≤ (u.1 198 78) then (Q u) else (bnd (tI u 198 78 ((u.1 198 78) + (1 : Int32))) (fun u2 => Q u2))) else (vp_in v1 236 ∧ (vp_in (((236 : Int32) * (u.1 198 79)) + v1) 4720 ∧ bnd (tI u 254 (((236 : Int32) * (u.1 198 79)) + v1).toNatClampNeg (u.1 241 v1.toNatClampNeg)) (fun u7 => K15 (v1 + (1 : Int32)) u7)))
set_option maxHeartbeats 4000000 in
set_option maxRecDepth 100000 in
def sX12_keeps_p15n (Q : St → Prop) : Nat → Int32 → St → Prop
  | 0 => fun _ _ => False
  | n + 1 => sX12_keeps_p15b Q (sX12_keeps_p15n Q n)
set_option maxHeartbeats 4000000 in
set_option maxRecDepth 100000 in
def sX12_keeps_p15 (Q : St → Prop) (v1 : Int32) (u : St) : Prop := ∃ n, sX12_keeps_p15n Q n v1 u
set_option maxHeartbeats 4000000 in
set_option maxRecDepth 100000 in
def s_X12_keeps (Q : St → Prop) (u : St) : Prop :=
  bnd (tI u 198 79 (((u.1 198 79) + (1 : Int32)) - ((u.1 198 79) + (1 : Int32)) / (20 : Int32) * (20 : Int32))) (fun u1 => sX12_keeps_p15 Q (0 : Int32) u1)
set_option maxHeartbeats 4000000 in
set_option maxRecDepth 100000 in
theorem t_X12_keeps_p15b {ρ : Nat → Nat → Option Nat} (hR : RfH ρ) {v1 : Int32} {Q : St → Prop} {QW : Mem → Prop} (hQ : ∀ (u : St), DK u → Q u → QW (emb ρ u)) {K15 : Int32 → St → Prop} {KW15 : Int32 → Mem → Prop} (hK15 : ∀ (x1 : Int32) (u : St), DK u → K15 x1 u → KW15 x1 (emb ρ u)) {u : St} (hd : DK u) (h : sX12_keeps_p15b Q K15 v1 u) : X12_keeps_p15b SH 198 QW KW15 v1 (emb ρ u) := by
  unfold X12_keeps_p15b
  unfold sX12_keeps_p15b at h
  refine ite_mono (fun hc h => ?_) (fun hc h => ?_) h
  · refine ⟨on_198, ?_⟩
    refine ite_mono (fun hc h => ?_) (fun hc h => ?_) h
    · exact hQ _ hd h
    · refine bnd_I ?_
      replace h := bnd_e h
      exact hQ _ hd h
  · refine ⟨on_198, ?_⟩
    refine ⟨_, rn_198_77 hR _, ?_⟩
    refine ⟨_, rn_198_58 hR _, ?_⟩
    obtain ⟨x5, h⟩ := h
    refine ⟨ix_i (show SH[241]? = some (100, 236) from rfl) x5, ?_⟩
    obtain ⟨x6, h⟩ := h
    refine ⟨ix_i (show SH[254]? = some (100, 4720) from rfl) x6, ?_⟩
    refine bnd_I ?_
    replace h := bnd_e h
    exact hK15 _ _ hd h
set_option maxHeartbeats 4000000 in
set_option maxRecDepth 100000 in
theorem t_X12_keeps_p15n {ρ : Nat → Nat → Option Nat} (hR : RfH ρ) {Q : St → Prop} {QW : Mem → Prop} (hQ : ∀ (u : St), DK u → Q u → QW (emb ρ u)) : ∀ (n : Nat) (v1 : Int32) (u : St), DK u → sX12_keeps_p15n Q n v1 u → X12_keeps_p15n SH 198 QW n v1 (emb ρ u)
  | 0, _, _,  _, h => h.elim
  | n + 1, v1,  u,  hd, h => t_X12_keeps_p15b hR hQ (fun v1 u  hd h => t_X12_keeps_p15n hR hQ n v1 u  hd h) hd h
set_option maxHeartbeats 4000000 in
set_option maxRecDepth 100000 in
theorem t_X12_keeps_p15 {ρ : Nat → Nat → Option Nat} (hR : RfH ρ) {v1 : Int32} {Q : St → Prop} {QW : Mem → Prop} (hQ : ∀ (u : St), DK u → Q u → QW (emb ρ u)) {u : St} (hd : DK u) (h : sX12_keeps_p15 Q v1 u) : X12_keeps_p15 SH 198 QW v1 (emb ρ u) := h.elim (fun n h => ⟨n, t_X12_keeps_p15n hR hQ n _ _ hd h⟩)
set_option maxHeartbeats 4000000 in
set_option maxRecDepth 100000 in
theorem t_X12_keeps {ρ : Nat → Nat → Option Nat} (hR : RfH ρ) {Q : St → Prop} {QW : Mem → Prop} (hQ : ∀ (u : St), DK u → Q u → QW (emb ρ u)) {u : St} (hd : DK u) (h : s_X12_keeps Q u) : wp_X12_keeps SH 198 QW (emb ρ u) := by
  unfold wp_X12_keeps
  unfold s_X12_keeps at h
  refine ⟨on_198, ?_⟩
  refine bnd_I ?_
  replace h := bnd_e h
  exact t_X12_keeps_p15 hR hQ hd h
/-! CalledRiverModel.bake -/
set_option maxHeartbeats 4000000 in
set_option maxRecDepth 100000 in
def sX12_bake_p29 (Q : Int32 → St → Prop) (u : St) : Prop :=
  s_X12_isRefused  (fun r12 u13 => (r12 = 0 ∨ r12 = 1) ∧ Q r12 u13) u
set_option maxHeartbeats 4000000 in
set_option maxRecDepth 100000 in
def s_X12_bake (v1 : Int32) (v2 : Int32) (Q : Int32 → St → Prop) (u : St) : Prop :=
  s_X12_isFarm v1 (fun r1 u2 => if r1 = 0 then (sX12_bake_p29 Q u2) else (s_X12_isIn v2.toInt64 (0 : Int64) (9 : Int64) (fun r3 u4 => if r3 = 0 then (sX12_bake_p29 Q u4) else (s_X12_pieOf v1 (fun r5 u6 => if r5 = v2 then (sX12_bake_p29 Q u6) else (s_X12_keeps  (fun u8 => vp_in ((109 : Int32) + v1) 236 ∧ bnd (tI u8 241 ((109 : Int32) + v1).toNatClampNeg v2) (fun u11 => Q (1 : Int32) u11)) u6)) u4)) u2)) u
set_option maxHeartbeats 4000000 in
set_option maxRecDepth 100000 in
theorem t_X12_bake_p29 {ρ : Nat → Nat → Option Nat} (hR : RfH ρ) {Q : Int32 → St → Prop} {QW : Int32 → Mem → Prop} (hQ : ∀ (r : Int32) (u : St), DK u → Q r u → QW r (emb ρ u)) {u : St} (hd : DK u) (h : sX12_bake_p29 Q u) : X12_bake_p29 SH 198 QW (emb ρ u) := by
  unfold X12_bake_p29
  unfold sX12_bake_p29 at h
  refine ⟨on_198, ?_⟩
  refine t_X12_isRefused hR (fun r12 u13 hd h => ?_) hd h
  exact ⟨h.1, hQ _ _ hd h.2⟩
set_option maxHeartbeats 4000000 in
set_option maxRecDepth 100000 in
theorem t_X12_bake {ρ : Nat → Nat → Option Nat} (hR : RfH ρ) {v1 : Int32} {v2 : Int32} {Q : Int32 → St → Prop} {QW : Int32 → Mem → Prop} (hQ : ∀ (r : Int32) (u : St), DK u → Q r u → QW r (emb ρ u)) {u : St} (hd : DK u) (h : s_X12_bake v1 v2 Q u) : wp_X12_bake SH 198 v1 v2 QW (emb ρ u) := by
  unfold wp_X12_bake
  unfold s_X12_bake at h
  refine ⟨on_198, ?_⟩
  refine t_X12_isFarm hR (fun r1 u2 hd h => ?_) hd h
  refine ite_mono (fun hc h => ?_) (fun hc h => ?_) h
  · exact t_X12_bake_p29 hR hQ hd h
  · refine t_X12_isIn hR (fun r3 u4 hd h => ?_) hd h
    refine ite_mono (fun hc h => ?_) (fun hc h => ?_) h
    · exact t_X12_bake_p29 hR hQ hd h
    · refine t_X12_pieOf hR (fun r5 u6 hd h => ?_) hd h
      refine ite_mono (fun hc h => ?_) (fun hc h => ?_) h
      · exact t_X12_bake_p29 hR hQ hd h
      · refine t_X12_keeps hR (fun u8 hd h => ?_) hd h
        refine ⟨_, rn_198_58 hR _, ?_⟩
        obtain ⟨x10, h⟩ := h
        refine ⟨ix_i (show SH[241]? = some (100, 236) from rfl) x10, ?_⟩
        refine bnd_I ?_
        replace h := bnd_e h
        exact hQ _ _ hd h
