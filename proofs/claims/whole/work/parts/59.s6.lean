/-! CalledRiverModel.isWatered -/
set_option maxHeartbeats 4000000 in
set_option maxRecDepth 100000 in
def s_X12_isWatered (v1 : Int32) (Q : Int32 → St → Prop) (u : St) : Prop :=
  s_X12_cellOf v1 (fun r2 u3 => vp_in r2 36 ∧ (if (u3.1 243 r2.toNatClampNeg) = (-1 : Int32) then (Q (0 : Int32) u3) else (s_X12_dayOf v1 (fun r5 u6 => if r5 < (u3.1 243 r2.toNatClampNeg) then (Q (0 : Int32) u6) else (Q (1 : Int32) u6)) u3))) u
set_option maxHeartbeats 4000000 in
set_option maxRecDepth 100000 in
theorem t_X12_isWatered {ρ : Nat → Nat → Option Nat} (hR : RfH ρ) {v1 : Int32} {Q : Int32 → St → Prop} {QW : Int32 → Mem → Prop} (hQ : ∀ (r : Int32) (u : St), DK u → Q r u → QW r (emb ρ u)) {u : St} (hd : DK u) (h : s_X12_isWatered v1 Q u) : wp_X12_isWatered SH 198 v1 QW (emb ρ u) := by
  unfold wp_X12_isWatered
  unfold s_X12_isWatered at h
  refine ⟨on_198, ?_⟩
  refine ⟨_, rn_198_65 hR _, ?_⟩
  refine t_X12_cellOf hR (fun r2 u3 hd h => ?_) hd h
  obtain ⟨x4, h⟩ := h
  refine ⟨ix_i (show SH[243]? = some (100, 36) from rfl) x4, ?_⟩
  refine ite_mono (fun hc h => ?_) (fun hc h => ?_) h
  · exact hQ _ _ hd h
  · refine t_X12_dayOf hR (fun r5 u6 hd h => ?_) hd h
    refine ite_mono (fun hc h => ?_) (fun hc h => ?_) h
    · exact hQ _ _ hd h
    · exact hQ _ _ hd h
/-! CalledRiverModel.bakedBy -/
set_option maxHeartbeats 4000000 in
set_option maxRecDepth 100000 in
def sX12_bakedBy_p30 (v1 : Int32) (s1 : Int32) (Q : Int32 → St → Prop) (u : St) : Prop :=
  bnd (tI u 198 62 s1) (fun u7 => s_X12_codesTell (1 : Int32) v1 (fun r8 u9 => if 0 ≤ (lg_cmp r8 (0 : Int64)) then (if (lg_cmp r8 (9 : Int64)) ≤ 0 then (Q r8.toInt32 u9) else (Q (9 : Int32) u9)) else (Q (0 : Int32) u9)) u7)
set_option maxHeartbeats 4000000 in
set_option maxRecDepth 100000 in
def s_X12_bakedBy (v1 : Int32) (Q : Int32 → St → Prop) (u : St) : Prop :=
  vp_in (3 : Int32) 4 ∧ (if (u.1 238 (3 : Int32).toNatClampNeg) = (-1 : Int32) then (s_X12_pieOf v1 (fun r5 u6 => Q r5 u6) u) else (s_X12_isWatered v1 (fun r3 u4 => if r3 = 0 then (sX12_bakedBy_p30 v1 (0 : Int32) Q u4) else (sX12_bakedBy_p30 v1 (1 : Int32) Q u4)) u))
set_option maxHeartbeats 4000000 in
set_option maxRecDepth 100000 in
theorem t_X12_bakedBy_p30 {ρ : Nat → Nat → Option Nat} (hR : RfH ρ) {v1 : Int32} {s1 : Int32} {Q : Int32 → St → Prop} {QW : Int32 → Mem → Prop} (hQ : ∀ (r : Int32) (u : St), DK u → Q r u → QW r (emb ρ u)) {u : St} (hd : DK u) (h : sX12_bakedBy_p30 v1 s1 Q u) : X12_bakedBy_p30 SH 198 v1 s1 198 QW (emb ρ u) := by
  unfold X12_bakedBy_p30
  unfold sX12_bakedBy_p30 at h
  refine ⟨on_198, ?_⟩
  refine bnd_I ?_
  replace h := bnd_e h
  refine ⟨on_198, ?_⟩
  refine t_X12_codesTell hR (fun r8 u9 hd h => ?_) hd h
  refine ite_mono (fun hc h => ?_) (fun hc h => ?_) h
  · refine ite_mono (fun hc h => ?_) (fun hc h => ?_) h
    · exact hQ _ _ hd h
    · exact hQ _ _ hd h
  · exact hQ _ _ hd h
set_option maxHeartbeats 4000000 in
set_option maxRecDepth 100000 in
theorem t_X12_bakedBy {ρ : Nat → Nat → Option Nat} (hR : RfH ρ) {v1 : Int32} {Q : Int32 → St → Prop} {QW : Int32 → Mem → Prop} (hQ : ∀ (r : Int32) (u : St), DK u → Q r u → QW r (emb ρ u)) {u : St} (hd : DK u) (h : s_X12_bakedBy v1 Q u) : wp_X12_bakedBy SH 198 v1 QW (emb ρ u) := by
  unfold wp_X12_bakedBy
  unfold s_X12_bakedBy at h
  refine ⟨on_198, ?_⟩
  refine ⟨_, rn_198_51 hR _, ?_⟩
  obtain ⟨x2, h⟩ := h
  refine ⟨ix_i (show SH[238]? = some (100, 4) from rfl) x2, ?_⟩
  refine ite_mono (fun hc h => ?_) (fun hc h => ?_) h
  · refine t_X12_pieOf hR (fun r5 u6 hd h => ?_) hd h
    exact hQ _ _ hd h
  · refine t_X12_isWatered hR (fun r3 u4 hd h => ?_) hd h
    refine ite_mono (fun hc h => ?_) (fun hc h => ?_) h
    · exact t_X12_bakedBy_p30 hR hQ hd h
    · exact t_X12_bakedBy_p30 hR hQ hd h
/-! CalledRiverModel.bits -/
set_option maxHeartbeats 4000000 in
set_option maxRecDepth 100000 in
def sX12_bits_p4b (Q : Int32 → St → Prop) (K4 : Int32 → Int32 → St → Prop) (v1 : Int32) (v2 : Int32) (u : St) : Prop :=
  if v2 = 0 then (Q v1 u) else (K4 (v1 + (1 : Int32)) (v2 &&& (v2 - (1 : Int32))) u)
set_option maxHeartbeats 4000000 in
set_option maxRecDepth 100000 in
def sX12_bits_p4n (Q : Int32 → St → Prop) : Nat → Int32 → Int32 → St → Prop
  | 0 => fun _ _ _ => False
  | n + 1 => sX12_bits_p4b Q (sX12_bits_p4n Q n)
set_option maxHeartbeats 4000000 in
set_option maxRecDepth 100000 in
def sX12_bits_p4 (Q : Int32 → St → Prop) (v1 : Int32) (v2 : Int32) (u : St) : Prop := ∃ n, sX12_bits_p4n Q n v1 v2 u
set_option maxHeartbeats 4000000 in
set_option maxRecDepth 100000 in
def s_X12_bits (v0 : Int32) (Q : Int32 → St → Prop) (u : St) : Prop :=
  sX12_bits_p4 Q (0 : Int32) v0 u
set_option maxHeartbeats 4000000 in
set_option maxRecDepth 100000 in
theorem t_X12_bits_p4b {ρ : Nat → Nat → Option Nat} (hR : RfH ρ) {v1 : Int32} {v2 : Int32} {Q : Int32 → St → Prop} {QW : Int32 → Mem → Prop} (hQ : ∀ (r : Int32) (u : St), DK u → Q r u → QW r (emb ρ u)) {K4 : Int32 → Int32 → St → Prop} {KW4 : Int32 → Int32 → Mem → Prop} (hK4 : ∀ (x1 : Int32) (x2 : Int32) (u : St), DK u → K4 x1 x2 u → KW4 x1 x2 (emb ρ u)) {u : St} (hd : DK u) (h : sX12_bits_p4b Q K4 v1 v2 u) : X12_bits_p4b SH QW KW4 v1 v2 (emb ρ u) := by
  unfold X12_bits_p4b
  unfold sX12_bits_p4b at h
  refine ite_mono (fun hc h => ?_) (fun hc h => ?_) h
  · exact hQ _ _ hd h
  · exact hK4 _ _ _ hd h
set_option maxHeartbeats 4000000 in
set_option maxRecDepth 100000 in
theorem t_X12_bits_p4n {ρ : Nat → Nat → Option Nat} (hR : RfH ρ) {Q : Int32 → St → Prop} {QW : Int32 → Mem → Prop} (hQ : ∀ (r : Int32) (u : St), DK u → Q r u → QW r (emb ρ u)) : ∀ (n : Nat) (v1 : Int32) (v2 : Int32) (u : St), DK u → sX12_bits_p4n Q n v1 v2 u → X12_bits_p4n SH QW n v1 v2 (emb ρ u)
  | 0, _,_, _,  _, h => h.elim
  | n + 1, v1, v2,  u,  hd, h => t_X12_bits_p4b hR hQ (fun v1 v2 u  hd h => t_X12_bits_p4n hR hQ n v1 v2 u  hd h) hd h
set_option maxHeartbeats 4000000 in
set_option maxRecDepth 100000 in
theorem t_X12_bits_p4 {ρ : Nat → Nat → Option Nat} (hR : RfH ρ) {v1 : Int32} {v2 : Int32} {Q : Int32 → St → Prop} {QW : Int32 → Mem → Prop} (hQ : ∀ (r : Int32) (u : St), DK u → Q r u → QW r (emb ρ u)) {u : St} (hd : DK u) (h : sX12_bits_p4 Q v1 v2 u) : X12_bits_p4 SH QW v1 v2 (emb ρ u) := h.elim (fun n h => ⟨n, t_X12_bits_p4n hR hQ n _ _ _ hd h⟩)
set_option maxHeartbeats 4000000 in
set_option maxRecDepth 100000 in
theorem t_X12_bits {ρ : Nat → Nat → Option Nat} (hR : RfH ρ) {v0 : Int32} {Q : Int32 → St → Prop} {QW : Int32 → Mem → Prop} (hQ : ∀ (r : Int32) (u : St), DK u → Q r u → QW r (emb ρ u)) {u : St} (hd : DK u) (h : s_X12_bits v0 Q u) : wp_X12_bits SH v0 QW (emb ρ u) := by
  unfold wp_X12_bits
  unfold s_X12_bits at h
  exact t_X12_bits_p4 hR hQ hd h
/-! CalledRiverModel.wateredSet -/
set_option maxHeartbeats 4000000 in
set_option maxRecDepth 100000 in
def sX12_wateredSet_p26 (v1 : Int32) (v2 : Int32) (Q : Int32 → St → Prop) (K4 : Int32 → Int32 → St → Prop) (u : St) : Prop :=
  K4 v1 (v2 + (1 : Int32)) u
set_option maxHeartbeats 4000000 in
set_option maxRecDepth 100000 in
def sX12_wateredSet_p4b (Q : Int32 → St → Prop) (K4 : Int32 → Int32 → St → Prop) (v1 : Int32) (v2 : Int32) (u : St) : Prop :=
  s_X12_farmMany  (fun r1 u2 => if r1 ≤ v2 then (Q v1 u2) else (s_X12_isWatered v2 (fun r3 u4 => if r3 = 0 then (sX12_wateredSet_p26 v1 v2 Q K4 u4) else (sX12_wateredSet_p26 (v1 ||| ((1 : Int32) <<< (v2 &&& 31))) v2 Q K4 u4)) u2)) u
set_option maxHeartbeats 4000000 in
set_option maxRecDepth 100000 in
def sX12_wateredSet_p4n (Q : Int32 → St → Prop) : Nat → Int32 → Int32 → St → Prop
  | 0 => fun _ _ _ => False
  | n + 1 => sX12_wateredSet_p4b Q (sX12_wateredSet_p4n Q n)
set_option maxHeartbeats 4000000 in
set_option maxRecDepth 100000 in
def sX12_wateredSet_p4 (Q : Int32 → St → Prop) (v1 : Int32) (v2 : Int32) (u : St) : Prop := ∃ n, sX12_wateredSet_p4n Q n v1 v2 u
set_option maxHeartbeats 4000000 in
set_option maxRecDepth 100000 in
def s_X12_wateredSet (Q : Int32 → St → Prop) (u : St) : Prop :=
  sX12_wateredSet_p4 Q (0 : Int32) (0 : Int32) u
set_option maxHeartbeats 4000000 in
set_option maxRecDepth 100000 in
theorem t_X12_wateredSet_p26 {ρ : Nat → Nat → Option Nat} (hR : RfH ρ) {v1 : Int32} {v2 : Int32} {Q : Int32 → St → Prop} {QW : Int32 → Mem → Prop} {K4 : Int32 → Int32 → St → Prop} {KW4 : Int32 → Int32 → Mem → Prop} (hQ : ∀ (r : Int32) (u : St), DK u → Q r u → QW r (emb ρ u)) (hK4 : ∀ (x1 : Int32) (x2 : Int32) (u : St), DK u → K4 x1 x2 u → KW4 x1 x2 (emb ρ u)) {u : St} (hd : DK u) (h : sX12_wateredSet_p26 v1 v2 Q K4 u) : X12_wateredSet_p26 SH 198 v1 v2 QW KW4 (emb ρ u) := by
  unfold X12_wateredSet_p26
  unfold sX12_wateredSet_p26 at h
  exact hK4 _ _ _ hd h
set_option maxHeartbeats 4000000 in
set_option maxRecDepth 100000 in
theorem t_X12_wateredSet_p4b {ρ : Nat → Nat → Option Nat} (hR : RfH ρ) {v1 : Int32} {v2 : Int32} {Q : Int32 → St → Prop} {QW : Int32 → Mem → Prop} (hQ : ∀ (r : Int32) (u : St), DK u → Q r u → QW r (emb ρ u)) {K4 : Int32 → Int32 → St → Prop} {KW4 : Int32 → Int32 → Mem → Prop} (hK4 : ∀ (x1 : Int32) (x2 : Int32) (u : St), DK u → K4 x1 x2 u → KW4 x1 x2 (emb ρ u)) {u : St} (hd : DK u) (h : sX12_wateredSet_p4b Q K4 v1 v2 u) : X12_wateredSet_p4b SH 198 QW KW4 v1 v2 (emb ρ u) := by
  unfold X12_wateredSet_p4b
  unfold sX12_wateredSet_p4b at h
  refine ⟨on_198, ?_⟩
  refine t_X12_farmMany hR (fun r1 u2 hd h => ?_) hd h
  refine ite_mono (fun hc h => ?_) (fun hc h => ?_) h
  · exact hQ _ _ hd h
  · refine t_X12_isWatered hR (fun r3 u4 hd h => ?_) hd h
    refine ite_mono (fun hc h => ?_) (fun hc h => ?_) h
    · exact t_X12_wateredSet_p26 hR hQ hK4 hd h
    · exact t_X12_wateredSet_p26 hR hQ hK4 hd h
set_option maxHeartbeats 4000000 in
set_option maxRecDepth 100000 in
theorem t_X12_wateredSet_p4n {ρ : Nat → Nat → Option Nat} (hR : RfH ρ) {Q : Int32 → St → Prop} {QW : Int32 → Mem → Prop} (hQ : ∀ (r : Int32) (u : St), DK u → Q r u → QW r (emb ρ u)) : ∀ (n : Nat) (v1 : Int32) (v2 : Int32) (u : St), DK u → sX12_wateredSet_p4n Q n v1 v2 u → X12_wateredSet_p4n SH 198 QW n v1 v2 (emb ρ u)
  | 0, _,_, _,  _, h => h.elim
  | n + 1, v1, v2,  u,  hd, h => t_X12_wateredSet_p4b hR hQ (fun v1 v2 u  hd h => t_X12_wateredSet_p4n hR hQ n v1 v2 u  hd h) hd h
set_option maxHeartbeats 4000000 in
set_option maxRecDepth 100000 in
theorem t_X12_wateredSet_p4 {ρ : Nat → Nat → Option Nat} (hR : RfH ρ) {v1 : Int32} {v2 : Int32} {Q : Int32 → St → Prop} {QW : Int32 → Mem → Prop} (hQ : ∀ (r : Int32) (u : St), DK u → Q r u → QW r (emb ρ u)) {u : St} (hd : DK u) (h : sX12_wateredSet_p4 Q v1 v2 u) : X12_wateredSet_p4 SH 198 QW v1 v2 (emb ρ u) := h.elim (fun n h => ⟨n, t_X12_wateredSet_p4n hR hQ n _ _ _ hd h⟩)
set_option maxHeartbeats 4000000 in
set_option maxRecDepth 100000 in
theorem t_X12_wateredSet {ρ : Nat → Nat → Option Nat} (hR : RfH ρ) {Q : Int32 → St → Prop} {QW : Int32 → Mem → Prop} (hQ : ∀ (r : Int32) (u : St), DK u → Q r u → QW r (emb ρ u)) {u : St} (hd : DK u) (h : s_X12_wateredSet Q u) : wp_X12_wateredSet SH 198 QW (emb ρ u) := by
  unfold wp_X12_wateredSet
  unfold s_X12_wateredSet at h
  exact t_X12_wateredSet_p4 hR hQ hd h
/-! CalledRiverModel.best -/
set_option maxHeartbeats 4000000 in
set_option maxRecDepth 100000 in
def sX12_best_p81 (v1 : Int32) (v2 : Int32) (v3 : Int32) (v4 : Int32) (Q : Int32 → St → Prop) (K18 : Int32 → Int32 → Int32 → Int32 → St → Prop) (u : St) : Prop :=
  K18 v1 v2 v3 (v4 + (1 : Int32)) u
set_option maxHeartbeats 4000000 in
set_option maxRecDepth 100000 in
def sX12_best_p70 (v4 : Int32) (v5 : Int32) (Q : Int32 → St → Prop) (K18 : Int32 → Int32 → Int32 → Int32 → St → Prop) (u : St) : Prop :=
  sX12_best_p81 v4 v5 (u.1 198 64) v4 Q K18 u
set_option maxHeartbeats 4000000 in
set_option maxRecDepth 100000 in
def sX12_best_p18b (Q : Int32 → St → Prop) (K18 : Int32 → Int32 → Int32 → Int32 → St → Prop) (v1 : Int32) (v2 : Int32) (v3 : Int32) (v4 : Int32) (u : St) : Prop :=
  s_X12_callerMany  (fun r3 u4 => if r3 ≤ v4 then (Q v1 u4) else (s_X12_laysWay v4 (fun u6 => s_X12_wateredSet  (fun r7 u8 => s_X12_bits r7 (fun r9 u10 => if v1 = (-1 : Int32) then (sX12_best_p70 v4 r9 Q K18 u10) else (if r9 < v2 then (sX12_best_p81 v1 v2 v3 v4 Q K18 u10) else (if r9 = v2 then (if (u10.1 198 64) < v3 then (sX12_best_p70 v4 r9 Q K18 u10) else (sX12_best_p81 v1 v2 v3 v4 Q K18 u10)) else (sX12_best_p70 v4 r9 Q K18 u10)))) u8) u6) u4)) u
set_option maxHeartbeats 4000000 in
set_option maxRecDepth 100000 in
def sX12_best_p18n (Q : Int32 → St → Prop) : Nat → Int32 → Int32 → Int32 → Int32 → St → Prop
  | 0 => fun _ _ _ _ _ => False
  | n + 1 => sX12_best_p18b Q (sX12_best_p18n Q n)
set_option maxHeartbeats 4000000 in
set_option maxRecDepth 100000 in
def sX12_best_p18 (Q : Int32 → St → Prop) (v1 : Int32) (v2 : Int32) (v3 : Int32) (v4 : Int32) (u : St) : Prop := ∃ n, sX12_best_p18n Q n v1 v2 v3 v4 u
set_option maxHeartbeats 4000000 in
set_option maxRecDepth 100000 in
def s_X12_best (Q : Int32 → St → Prop) (u : St) : Prop :=
  s_X12_hasWay  (fun r1 u2 => if r1 = 0 then (Q (-1 : Int32) u2) else (sX12_best_p18 Q (-1 : Int32) (0 : Int32) (0 : Int32) (0 : Int32) u2)) u
set_option maxHeartbeats 4000000 in
set_option maxRecDepth 100000 in
theorem t_X12_best_p81 {ρ : Nat → Nat → Option Nat} (hR : RfH ρ) {v1 : Int32} {v2 : Int32} {v3 : Int32} {v4 : Int32} {Q : Int32 → St → Prop} {QW : Int32 → Mem → Prop} {K18 : Int32 → Int32 → Int32 → Int32 → St → Prop} {KW18 : Int32 → Int32 → Int32 → Int32 → Mem → Prop} (hQ : ∀ (r : Int32) (u : St), DK u → Q r u → QW r (emb ρ u)) (hK18 : ∀ (x1 : Int32) (x2 : Int32) (x3 : Int32) (x4 : Int32) (u : St), DK u → K18 x1 x2 x3 x4 u → KW18 x1 x2 x3 x4 (emb ρ u)) {u : St} (hd : DK u) (h : sX12_best_p81 v1 v2 v3 v4 Q K18 u) : X12_best_p81 SH 198 v1 v2 v3 v4 QW KW18 (emb ρ u) := by
  unfold X12_best_p81
  unfold sX12_best_p81 at h
  exact hK18 _ _ _ _ _ hd h
set_option maxHeartbeats 4000000 in
set_option maxRecDepth 100000 in
theorem t_X12_best_p70 {ρ : Nat → Nat → Option Nat} (hR : RfH ρ) {v4 : Int32} {v5 : Int32} {Q : Int32 → St → Prop} {QW : Int32 → Mem → Prop} {K18 : Int32 → Int32 → Int32 → Int32 → St → Prop} {KW18 : Int32 → Int32 → Int32 → Int32 → Mem → Prop} (hQ : ∀ (r : Int32) (u : St), DK u → Q r u → QW r (emb ρ u)) (hK18 : ∀ (x1 : Int32) (x2 : Int32) (x3 : Int32) (x4 : Int32) (u : St), DK u → K18 x1 x2 x3 x4 u → KW18 x1 x2 x3 x4 (emb ρ u)) {u : St} (hd : DK u) (h : sX12_best_p70 v4 v5 Q K18 u) : X12_best_p70 SH 198 v4 v5 QW KW18 (emb ρ u) := by
  unfold X12_best_p70
  unfold sX12_best_p70 at h
  refine ⟨on_198, ?_⟩
  exact t_X12_best_p81 hR hQ hK18 hd h
set_option maxHeartbeats 4000000 in
set_option maxRecDepth 100000 in
theorem t_X12_best_p18b {ρ : Nat → Nat → Option Nat} (hR : RfH ρ) {v1 : Int32} {v2 : Int32} {v3 : Int32} {v4 : Int32} {Q : Int32 → St → Prop} {QW : Int32 → Mem → Prop} (hQ : ∀ (r : Int32) (u : St), DK u → Q r u → QW r (emb ρ u)) {K18 : Int32 → Int32 → Int32 → Int32 → St → Prop} {KW18 : Int32 → Int32 → Int32 → Int32 → Mem → Prop} (hK18 : ∀ (x1 : Int32) (x2 : Int32) (x3 : Int32) (x4 : Int32) (u : St), DK u → K18 x1 x2 x3 x4 u → KW18 x1 x2 x3 x4 (emb ρ u)) {u : St} (hd : DK u) (h : sX12_best_p18b Q K18 v1 v2 v3 v4 u) : X12_best_p18b SH 198 QW KW18 v1 v2 v3 v4 (emb ρ u) := by
  unfold X12_best_p18b
  unfold sX12_best_p18b at h
  refine ⟨on_198, ?_⟩
  refine t_X12_callerMany hR (fun r3 u4 hd h => ?_) hd h
  refine ite_mono (fun hc h => ?_) (fun hc h => ?_) h
  · exact hQ _ _ hd h
  · refine t_X12_laysWay hR (fun u6 hd h => ?_) hd h
    refine t_X12_wateredSet hR (fun r7 u8 hd h => ?_) hd h
    refine t_X12_bits hR (fun r9 u10 hd h => ?_) hd h
    refine ite_mono (fun hc h => ?_) (fun hc h => ?_) h
    · exact t_X12_best_p70 hR hQ hK18 hd h
    · refine ite_mono (fun hc h => ?_) (fun hc h => ?_) h
      · exact t_X12_best_p81 hR hQ hK18 hd h
      · refine ite_mono (fun hc h => ?_) (fun hc h => ?_) h
        · refine ite_mono (fun hc h => ?_) (fun hc h => ?_) h
          · exact t_X12_best_p70 hR hQ hK18 hd h
          · exact t_X12_best_p81 hR hQ hK18 hd h
        · exact t_X12_best_p70 hR hQ hK18 hd h
set_option maxHeartbeats 4000000 in
set_option maxRecDepth 100000 in
theorem t_X12_best_p18n {ρ : Nat → Nat → Option Nat} (hR : RfH ρ) {Q : Int32 → St → Prop} {QW : Int32 → Mem → Prop} (hQ : ∀ (r : Int32) (u : St), DK u → Q r u → QW r (emb ρ u)) : ∀ (n : Nat) (v1 : Int32) (v2 : Int32) (v3 : Int32) (v4 : Int32) (u : St), DK u → sX12_best_p18n Q n v1 v2 v3 v4 u → X12_best_p18n SH 198 QW n v1 v2 v3 v4 (emb ρ u)
  | 0, _,_,_,_, _,  _, h => h.elim
  | n + 1, v1, v2, v3, v4,  u,  hd, h => t_X12_best_p18b hR hQ (fun v1 v2 v3 v4 u  hd h => t_X12_best_p18n hR hQ n v1 v2 v3 v4 u  hd h) hd h
set_option maxHeartbeats 4000000 in
set_option maxRecDepth 100000 in
theorem t_X12_best_p18 {ρ : Nat → Nat → Option Nat} (hR : RfH ρ) {v1 : Int32} {v2 : Int32} {v3 : Int32} {v4 : Int32} {Q : Int32 → St → Prop} {QW : Int32 → Mem → Prop} (hQ : ∀ (r : Int32) (u : St), DK u → Q r u → QW r (emb ρ u)) {u : St} (hd : DK u) (h : sX12_best_p18 Q v1 v2 v3 v4 u) : X12_best_p18 SH 198 QW v1 v2 v3 v4 (emb ρ u) := h.elim (fun n h => ⟨n, t_X12_best_p18n hR hQ n _ _ _ _ _ hd h⟩)
set_option maxHeartbeats 4000000 in
set_option maxRecDepth 100000 in
theorem t_X12_best {ρ : Nat → Nat → Option Nat} (hR : RfH ρ) {Q : Int32 → St → Prop} {QW : Int32 → Mem → Prop} (hQ : ∀ (r : Int32) (u : St), DK u → Q r u → QW r (emb ρ u)) {u : St} (hd : DK u) (h : s_X12_best Q u) : wp_X12_best SH 198 QW (emb ρ u) := by
  unfold wp_X12_best
  unfold s_X12_best at h
  refine ⟨on_198, ?_⟩
  refine t_X12_hasWay hR (fun r1 u2 hd h => ?_) hd h
  refine ite_mono (fun hc h => ?_) (fun hc h => ?_) h
  · exact hQ _ _ hd h
  · exact t_X12_best_p18 hR hQ hd h
/-! CalledRiverModel.bid -/
set_option maxHeartbeats 4000000 in
set_option maxRecDepth 100000 in
def sX12_bid_p72 (v1 : Int32) (v2 : Int32) (v3 : Int32) (v4 : Int32) (v5 : Int32) (Q : Int32 → St → Prop) (K31 : Int32 → Int32 → St → Prop) (u : St) : Prop :=
  K31 v4 (v5 + (1 : Int32)) u
set_option maxHeartbeats 4000000 in
set_option maxRecDepth 100000 in
def sX12_bid_p78 (v1 : Int32) (v3 : Int32) (v4 : Int32) (Q : Int32 → St → Prop) (u : St) : Prop :=
  vp_in ((109 : Int32) + v1) 236 ∧ bnd (tI u 241 ((109 : Int32) + v1).toNatClampNeg v3) (fun u16 => Q v4 u16)
set_option maxHeartbeats 4000000 in
set_option maxRecDepth 100000 in
def sX12_bid_p31b (v1 : Int32) (v2 : Int32) (v3 : Int32) (Q : Int32 → St → Prop) (K31 : Int32 → Int32 → St → Prop) (v4 : Int32) (v5 : Int32) (u : St) : Prop :=
  if (9 : Int32) < v5 then (sX12_bid_p78 v1 v3 v4 Q u) else (if v4 = (-1 : Int32) then (vp_in ((109 : Int32) + v1) 236 ∧ bnd (tI u 241 ((109 : Int32) + v1).toNatClampNeg v5) (fun u9 => s_X12_laysWay v2 (fun u11 => s_X12_isWatered v1 (fun r12 u13 => if r12 = 0 then (sX12_bid_p72 v1 v2 v3 v4 v5 Q K31 u13) else (sX12_bid_p72 v1 v2 v3 v5 v5 Q K31 u13)) u11) u9)) else (sX12_bid_p78 v1 v3 v4 Q u))
set_option maxHeartbeats 4000000 in
set_option maxRecDepth 100000 in
def sX12_bid_p31n (v1 : Int32) (v2 : Int32) (v3 : Int32) (Q : Int32 → St → Prop) : Nat → Int32 → Int32 → St → Prop
  | 0 => fun _ _ _ => False
  | n + 1 => sX12_bid_p31b v1 v2 v3 Q (sX12_bid_p31n v1 v2 v3 Q n)
set_option maxHeartbeats 4000000 in
set_option maxRecDepth 100000 in
def sX12_bid_p31 (v1 : Int32) (v2 : Int32) (v3 : Int32) (Q : Int32 → St → Prop) (v4 : Int32) (v5 : Int32) (u : St) : Prop := ∃ n, sX12_bid_p31n v1 v2 v3 Q n v4 v5 u
set_option maxHeartbeats 4000000 in
set_option maxRecDepth 100000 in
def s_X12_bid (v1 : Int32) (v2 : Int32) (Q : Int32 → St → Prop) (u : St) : Prop :=
  s_X12_isFarm v1 (fun r1 u2 => if r1 = 0 then (Q (-1 : Int32) u2) else (s_X12_isCaller v2.toInt64 (fun r3 u4 => if r3 = 0 then (Q (-1 : Int32) u4) else (s_X12_pieOf v1 (fun r5 u6 => sX12_bid_p31 v1 v2 r5 Q (-1 : Int32) (0 : Int32) u6) u4)) u2)) u
set_option maxHeartbeats 4000000 in
set_option maxRecDepth 100000 in
theorem t_X12_bid_p72 {ρ : Nat → Nat → Option Nat} (hR : RfH ρ) {v1 : Int32} {v2 : Int32} {v3 : Int32} {v4 : Int32} {v5 : Int32} {Q : Int32 → St → Prop} {QW : Int32 → Mem → Prop} {K31 : Int32 → Int32 → St → Prop} {KW31 : Int32 → Int32 → Mem → Prop} (hQ : ∀ (r : Int32) (u : St), DK u → Q r u → QW r (emb ρ u)) (hK31 : ∀ (x4 : Int32) (x5 : Int32) (u : St), DK u → K31 x4 x5 u → KW31 x4 x5 (emb ρ u)) {u : St} (hd : DK u) (h : sX12_bid_p72 v1 v2 v3 v4 v5 Q K31 u) : X12_bid_p72 SH 198 v1 v2 v3 v4 v5 QW KW31 (emb ρ u) := by
  unfold X12_bid_p72
  unfold sX12_bid_p72 at h
  exact hK31 _ _ _ hd h
set_option maxHeartbeats 4000000 in
set_option maxRecDepth 100000 in
theorem t_X12_bid_p78 {ρ : Nat → Nat → Option Nat} (hR : RfH ρ) {v1 : Int32} {v3 : Int32} {v4 : Int32} {Q : Int32 → St → Prop} {QW : Int32 → Mem → Prop} (hQ : ∀ (r : Int32) (u : St), DK u → Q r u → QW r (emb ρ u)) {u : St} (hd : DK u) (h : sX12_bid_p78 v1 v3 v4 Q u) : X12_bid_p78 SH 198 v1 v3 v4 QW (emb ρ u) := by
  unfold X12_bid_p78
  unfold sX12_bid_p78 at h
  refine ⟨on_198, ?_⟩
  refine ⟨_, rn_198_58 hR _, ?_⟩
  obtain ⟨x15, h⟩ := h
  refine ⟨ix_i (show SH[241]? = some (100, 236) from rfl) x15, ?_⟩
  refine bnd_I ?_
  replace h := bnd_e h
  exact hQ _ _ hd h
set_option maxHeartbeats 4000000 in
set_option maxRecDepth 100000 in
theorem t_X12_bid_p31b {ρ : Nat → Nat → Option Nat} (hR : RfH ρ) {v1 : Int32} {v2 : Int32} {v3 : Int32} {v4 : Int32} {v5 : Int32} {Q : Int32 → St → Prop} {QW : Int32 → Mem → Prop} (hQ : ∀ (r : Int32) (u : St), DK u → Q r u → QW r (emb ρ u)) {K31 : Int32 → Int32 → St → Prop} {KW31 : Int32 → Int32 → Mem → Prop} (hK31 : ∀ (x4 : Int32) (x5 : Int32) (u : St), DK u → K31 x4 x5 u → KW31 x4 x5 (emb ρ u)) {u : St} (hd : DK u) (h : sX12_bid_p31b v1 v2 v3 Q K31 v4 v5 u) : X12_bid_p31b SH 198 v1 v2 v3 QW KW31 v4 v5 (emb ρ u) := by
  unfold X12_bid_p31b
  unfold sX12_bid_p31b at h
  refine ite_mono (fun hc h => ?_) (fun hc h => ?_) h
  · exact t_X12_bid_p78 hR hQ hd h
  · refine ite_mono (fun hc h => ?_) (fun hc h => ?_) h
    · refine ⟨on_198, ?_⟩
      refine ⟨_, rn_198_58 hR _, ?_⟩
      obtain ⟨x8, h⟩ := h
      refine ⟨ix_i (show SH[241]? = some (100, 236) from rfl) x8, ?_⟩
      refine bnd_I ?_
      replace h := bnd_e h
      refine t_X12_laysWay hR (fun u11 hd h => ?_) hd h
      refine t_X12_isWatered hR (fun r12 u13 hd h => ?_) hd h
      refine ite_mono (fun hc h => ?_) (fun hc h => ?_) h
      · exact t_X12_bid_p72 hR hQ hK31 hd h
      · exact t_X12_bid_p72 hR hQ hK31 hd h
    · exact t_X12_bid_p78 hR hQ hd h
set_option maxHeartbeats 4000000 in
set_option maxRecDepth 100000 in
theorem t_X12_bid_p31n {ρ : Nat → Nat → Option Nat} (hR : RfH ρ) {v1 : Int32} {v2 : Int32} {v3 : Int32} {Q : Int32 → St → Prop} {QW : Int32 → Mem → Prop} (hQ : ∀ (r : Int32) (u : St), DK u → Q r u → QW r (emb ρ u)) : ∀ (n : Nat) (v4 : Int32) (v5 : Int32) (u : St), DK u → sX12_bid_p31n v1 v2 v3 Q n v4 v5 u → X12_bid_p31n SH 198 v1 v2 v3 QW n v4 v5 (emb ρ u)
  | 0, _,_, _,  _, h => h.elim
  | n + 1, v4, v5,  u,  hd, h => t_X12_bid_p31b hR hQ (fun v4 v5 u  hd h => t_X12_bid_p31n hR hQ n v4 v5 u  hd h) hd h
set_option maxHeartbeats 4000000 in
set_option maxRecDepth 100000 in
theorem t_X12_bid_p31 {ρ : Nat → Nat → Option Nat} (hR : RfH ρ) {v1 : Int32} {v2 : Int32} {v3 : Int32} {v4 : Int32} {v5 : Int32} {Q : Int32 → St → Prop} {QW : Int32 → Mem → Prop} (hQ : ∀ (r : Int32) (u : St), DK u → Q r u → QW r (emb ρ u)) {u : St} (hd : DK u) (h : sX12_bid_p31 v1 v2 v3 Q v4 v5 u) : X12_bid_p31 SH 198 v1 v2 v3 QW v4 v5 (emb ρ u) := h.elim (fun n h => ⟨n, t_X12_bid_p31n hR hQ n _ _ _ hd h⟩)
set_option maxHeartbeats 4000000 in
set_option maxRecDepth 100000 in
theorem t_X12_bid {ρ : Nat → Nat → Option Nat} (hR : RfH ρ) {v1 : Int32} {v2 : Int32} {Q : Int32 → St → Prop} {QW : Int32 → Mem → Prop} (hQ : ∀ (r : Int32) (u : St), DK u → Q r u → QW r (emb ρ u)) {u : St} (hd : DK u) (h : s_X12_bid v1 v2 Q u) : wp_X12_bid SH 198 v1 v2 QW (emb ρ u) := by
  unfold wp_X12_bid
  unfold s_X12_bid at h
  refine ⟨on_198, ?_⟩
  refine t_X12_isFarm hR (fun r1 u2 hd h => ?_) hd h
  refine ite_mono (fun hc h => ?_) (fun hc h => ?_) h
  · exact hQ _ _ hd h
  · refine t_X12_isCaller hR (fun r3 u4 hd h => ?_) hd h
    refine ite_mono (fun hc h => ?_) (fun hc h => ?_) h
    · exact hQ _ _ hd h
    · refine t_X12_pieOf hR (fun r5 u6 hd h => ?_) hd h
      exact t_X12_bid_p31 hR hQ hd h
/-! CalledRiverModel.caller -/
set_option maxHeartbeats 4000000 in
set_option maxRecDepth 100000 in
def s_X12_caller (v1 : Int32) (v2 : Int32) (Q : Int32 → St → Prop) (u : St) : Prop :=
  s_X12_isCaller v1.toInt64 (fun r1 u2 => if r1 = 0 then (Q (-1 : Int32) u2) else (s_X12_isIn v2.toInt64 (0 : Int64) (1 : Int64) (fun r3 u4 => if r3 = 0 then (Q (-1 : Int32) u4) else (vp_in (((10 : Int32) + ((2 : Int32) * v1)) + v2) 20 ∧ (Q (u4.1 235 (((10 : Int32) + ((2 : Int32) * v1)) + v2).toNatClampNeg) u4))) u2)) u
set_option maxHeartbeats 4000000 in
set_option maxRecDepth 100000 in
theorem t_X12_caller {ρ : Nat → Nat → Option Nat} (hR : RfH ρ) {v1 : Int32} {v2 : Int32} {Q : Int32 → St → Prop} {QW : Int32 → Mem → Prop} (hQ : ∀ (r : Int32) (u : St), DK u → Q r u → QW r (emb ρ u)) {u : St} (hd : DK u) (h : s_X12_caller v1 v2 Q u) : wp_X12_caller SH 198 v1 v2 QW (emb ρ u) := by
  unfold wp_X12_caller
  unfold s_X12_caller at h
  refine ⟨on_198, ?_⟩
  refine t_X12_isCaller hR (fun r1 u2 hd h => ?_) hd h
  refine ite_mono (fun hc h => ?_) (fun hc h => ?_) h
  · exact hQ _ _ hd h
  · refine t_X12_isIn hR (fun r3 u4 hd h => ?_) hd h
    refine ite_mono (fun hc h => ?_) (fun hc h => ?_) h
    · exact hQ _ _ hd h
    · refine ⟨_, rn_198_48 hR _, ?_⟩
      obtain ⟨x6, h⟩ := h
      refine ⟨ix_i (show SH[235]? = some (100, 20) from rfl) x6, ?_⟩
      exact hQ _ _ hd h
/-! CalledRiverModel.isFull -/
set_option maxHeartbeats 4000000 in
set_option maxRecDepth 100000 in
def sX12_isFull_p23 (Q : Int32 → St → Prop) (u : St) : Prop :=
  if (u.1 198 5) = 0 then (Q (0 : Int32) u) else (Q (1 : Int32) u)
set_option maxHeartbeats 4000000 in
set_option maxRecDepth 100000 in
def s_X12_isFull (v1 : Int32) (v2 : Int32) (v3 : Int32) (Q : Int32 → St → Prop) (u : St) : Prop :=
  if (u.1 198 5) = 0 then (vp_in v1 4 ∧ (if (u.1 232 v1.toNatClampNeg) = v2 then (s_X12_fail (5 : Int32) v3 (fun u4 => sX12_isFull_p23 Q u4) u) else (sX12_isFull_p23 Q u))) else (sX12_isFull_p23 Q u)
set_option maxHeartbeats 4000000 in
set_option maxRecDepth 100000 in
theorem t_X12_isFull_p23 {ρ : Nat → Nat → Option Nat} (hR : RfH ρ) {Q : Int32 → St → Prop} {QW : Int32 → Mem → Prop} (hQ : ∀ (r : Int32) (u : St), DK u → Q r u → QW r (emb ρ u)) {u : St} (hd : DK u) (h : sX12_isFull_p23 Q u) : X12_isFull_p23 SH 198 QW (emb ρ u) := by
  unfold X12_isFull_p23
  unfold sX12_isFull_p23 at h
  refine ⟨on_198, ?_⟩
  refine ite_mono (fun hc h => ?_) (fun hc h => ?_) h
  · exact hQ _ _ hd h
  · exact hQ _ _ hd h
set_option maxHeartbeats 4000000 in
set_option maxRecDepth 100000 in
theorem t_X12_isFull {ρ : Nat → Nat → Option Nat} (hR : RfH ρ) {v1 : Int32} {v2 : Int32} {v3 : Int32} {Q : Int32 → St → Prop} {QW : Int32 → Mem → Prop} (hQ : ∀ (r : Int32) (u : St), DK u → Q r u → QW r (emb ρ u)) {u : St} (hd : DK u) (h : s_X12_isFull v1 v2 v3 Q u) : wp_X12_isFull SH 198 v1 v2 v3 QW (emb ρ u) := by
  unfold wp_X12_isFull
  unfold s_X12_isFull at h
  refine ⟨on_198, ?_⟩
  refine ite_mono (fun hc h => ?_) (fun hc h => ?_) h
  · refine ⟨_, rn_198_45 hR _, ?_⟩
    obtain ⟨x2, h⟩ := h
    refine ⟨ix_i (show SH[232]? = some (100, 4) from rfl) x2, ?_⟩
    refine ite_mono (fun hc h => ?_) (fun hc h => ?_) h
    · refine t_X12_fail hR (fun u4 hd h => ?_) hd h
      exact t_X12_isFull_p23 hR hQ hd h
    · exact t_X12_isFull_p23 hR hQ hd h
  · exact t_X12_isFull_p23 hR hQ hd h
/-! CalledRiverModel.isOwnHere -/
set_option maxHeartbeats 4000000 in
set_option maxRecDepth 100000 in
def sX12_isOwnHere_p370 (Q : Int32 → St → Prop) (u : St) : Prop :=
  Q (1 : Int32) u
set_option maxHeartbeats 4000000 in
set_option maxRecDepth 100000 in
def sX12_isOwnHere_p299 (s0 : Int32) (Q : Int32 → St → Prop) (u : St) : Prop :=
  if s0 = 0 then (s_X12_isHere 225 (fun r74 u75 => if r74 = 0 then (s_X12_isHere 226 (fun r77 u78 => if r77 = 0 then (s_X12_isHere 227 (fun r80 u81 => if r80 = 0 then (s_X12_isHere 228 (fun r83 u84 => if r83 = 0 then (s_X12_isHere 229 (fun r86 u87 => if r86 = 0 then (s_X12_isHere 230 (fun r89 u90 => if r89 = 0 then (Q (0 : Int32) u90) else (sX12_isOwnHere_p370 Q u90)) u87) else (sX12_isOwnHere_p370 Q u87)) u84) else (sX12_isOwnHere_p370 Q u84)) u81) else (sX12_isOwnHere_p370 Q u81)) u78) else (sX12_isOwnHere_p370 Q u78)) u75) else (sX12_isOwnHere_p370 Q u75)) u) else (sX12_isOwnHere_p370 Q u)
set_option maxHeartbeats 4000000 in
set_option maxRecDepth 100000 in
def sX12_isOwnHere_p294 (Q : Int32 → St → Prop) (u : St) : Prop :=
  sX12_isOwnHere_p299 (1 : Int32) Q u
set_option maxHeartbeats 4000000 in
set_option maxRecDepth 100000 in
def sX12_isOwnHere_p223 (s0 : Int32) (Q : Int32 → St → Prop) (u : St) : Prop :=
  if s0 = 0 then (s_X12_isHere 219 (fun r56 u57 => if r56 = 0 then (s_X12_isHere 220 (fun r59 u60 => if r59 = 0 then (s_X12_isHere 221 (fun r62 u63 => if r62 = 0 then (s_X12_isHere 222 (fun r65 u66 => if r65 = 0 then (s_X12_isHere 223 (fun r68 u69 => if r68 = 0 then (s_X12_isHere 224 (fun r71 u72 => if r71 = 0 then (sX12_isOwnHere_p299 (0 : Int32) Q u72) else (sX12_isOwnHere_p294 Q u72)) u69) else (sX12_isOwnHere_p294 Q u69)) u66) else (sX12_isOwnHere_p294 Q u66)) u63) else (sX12_isOwnHere_p294 Q u63)) u60) else (sX12_isOwnHere_p294 Q u60)) u57) else (sX12_isOwnHere_p294 Q u57)) u) else (sX12_isOwnHere_p294 Q u)
set_option maxHeartbeats 4000000 in
set_option maxRecDepth 100000 in
def sX12_isOwnHere_p218 (Q : Int32 → St → Prop) (u : St) : Prop :=
  sX12_isOwnHere_p223 (1 : Int32) Q u
set_option maxHeartbeats 4000000 in
set_option maxRecDepth 100000 in
def sX12_isOwnHere_p147 (s0 : Int32) (Q : Int32 → St → Prop) (u : St) : Prop :=
  if s0 = 0 then (s_X12_isHere 213 (fun r38 u39 => if r38 = 0 then (s_X12_isHere 214 (fun r41 u42 => if r41 = 0 then (s_X12_isHere 215 (fun r44 u45 => if r44 = 0 then (s_X12_isHere 216 (fun r47 u48 => if r47 = 0 then (s_X12_isHere 217 (fun r50 u51 => if r50 = 0 then (s_X12_isHere 218 (fun r53 u54 => if r53 = 0 then (sX12_isOwnHere_p223 (0 : Int32) Q u54) else (sX12_isOwnHere_p218 Q u54)) u51) else (sX12_isOwnHere_p218 Q u51)) u48) else (sX12_isOwnHere_p218 Q u48)) u45) else (sX12_isOwnHere_p218 Q u45)) u42) else (sX12_isOwnHere_p218 Q u42)) u39) else (sX12_isOwnHere_p218 Q u39)) u) else (sX12_isOwnHere_p218 Q u)
set_option maxHeartbeats 4000000 in
set_option maxRecDepth 100000 in
def sX12_isOwnHere_p142 (Q : Int32 → St → Prop) (u : St) : Prop :=
  sX12_isOwnHere_p147 (1 : Int32) Q u
set_option maxHeartbeats 4000000 in
set_option maxRecDepth 100000 in
def sX12_isOwnHere_p71 (s0 : Int32) (Q : Int32 → St → Prop) (u : St) : Prop :=
  if s0 = 0 then (s_X12_isHere 207 (fun r20 u21 => if r20 = 0 then (s_X12_isHere 208 (fun r23 u24 => if r23 = 0 then (s_X12_isHere 209 (fun r26 u27 => if r26 = 0 then (s_X12_isHere 210 (fun r29 u30 => if r29 = 0 then (s_X12_isHere 211 (fun r32 u33 => if r32 = 0 then (s_X12_isHere 212 (fun r35 u36 => if r35 = 0 then (sX12_isOwnHere_p147 (0 : Int32) Q u36) else (sX12_isOwnHere_p142 Q u36)) u33) else (sX12_isOwnHere_p142 Q u33)) u30) else (sX12_isOwnHere_p142 Q u30)) u27) else (sX12_isOwnHere_p142 Q u27)) u24) else (sX12_isOwnHere_p142 Q u24)) u21) else (sX12_isOwnHere_p142 Q u21)) u) else (sX12_isOwnHere_p142 Q u)
set_option maxHeartbeats 4000000 in
set_option maxRecDepth 100000 in
def sX12_isOwnHere_p66 (Q : Int32 → St → Prop) (u : St) : Prop :=
  sX12_isOwnHere_p71 (1 : Int32) Q u
set_option maxHeartbeats 4000000 in
set_option maxRecDepth 100000 in
def s_X12_isOwnHere (Q : Int32 → St → Prop) (u : St) : Prop :=
  s_X12_isHere 201 (fun r2 u3 => if r2 = 0 then (s_X12_isHere 202 (fun r5 u6 => if r5 = 0 then (s_X12_isHere 203 (fun r8 u9 => if r8 = 0 then (s_X12_isHere 204 (fun r11 u12 => if r11 = 0 then (s_X12_isHere 205 (fun r14 u15 => if r14 = 0 then (s_X12_isHere 206 (fun r17 u18 => if r17 = 0 then (sX12_isOwnHere_p71 (0 : Int32) Q u18) else (sX12_isOwnHere_p66 Q u18)) u15) else (sX12_isOwnHere_p66 Q u15)) u12) else (sX12_isOwnHere_p66 Q u12)) u9) else (sX12_isOwnHere_p66 Q u9)) u6) else (sX12_isOwnHere_p66 Q u6)) u3) else (sX12_isOwnHere_p66 Q u3)) u
set_option maxHeartbeats 4000000 in
set_option maxRecDepth 100000 in
theorem t_X12_isOwnHere_p370 {ρ : Nat → Nat → Option Nat} (hR : RfH ρ) {Q : Int32 → St → Prop} {QW : Int32 → Mem → Prop} (hQ : ∀ (r : Int32) (u : St), DK u → Q r u → QW r (emb ρ u)) {u : St} (hd : DK u) (h : sX12_isOwnHere_p370 Q u) : X12_isOwnHere_p370 SH QW (emb ρ u) := by
  unfold X12_isOwnHere_p370
  unfold sX12_isOwnHere_p370 at h
  exact hQ _ _ hd h
set_option maxHeartbeats 4000000 in
set_option maxRecDepth 100000 in
theorem t_X12_isOwnHere_p299 {ρ : Nat → Nat → Option Nat} (hR : RfH ρ) {s0 : Int32} {Q : Int32 → St → Prop} {QW : Int32 → Mem → Prop} (hQ : ∀ (r : Int32) (u : St), DK u → Q r u → QW r (emb ρ u)) {u : St} (hd : DK u) (h : sX12_isOwnHere_p299 s0 Q u) : X12_isOwnHere_p299 SH 198 s0 QW (emb ρ u) := by
  unfold X12_isOwnHere_p299
  unfold sX12_isOwnHere_p299 at h
  refine ite_mono (fun hc h => ?_) (fun hc h => ?_) h
  · refine ⟨on_198, ?_⟩
    refine ⟨_, rn_198_35 hR _, ?_⟩
    refine t_X12_isHere hR (fun r74 u75 hd h => ?_) hd h
    refine ite_mono (fun hc h => ?_) (fun hc h => ?_) h
    · refine ⟨_, rn_198_36 hR _, ?_⟩
      refine t_X12_isHere hR (fun r77 u78 hd h => ?_) hd h
      refine ite_mono (fun hc h => ?_) (fun hc h => ?_) h
      · refine ⟨_, rn_198_37 hR _, ?_⟩
        refine t_X12_isHere hR (fun r80 u81 hd h => ?_) hd h
        refine ite_mono (fun hc h => ?_) (fun hc h => ?_) h
        · refine ⟨_, rn_198_38 hR _, ?_⟩
          refine t_X12_isHere hR (fun r83 u84 hd h => ?_) hd h
          refine ite_mono (fun hc h => ?_) (fun hc h => ?_) h
          · refine ⟨_, rn_198_39 hR _, ?_⟩
            refine t_X12_isHere hR (fun r86 u87 hd h => ?_) hd h
            refine ite_mono (fun hc h => ?_) (fun hc h => ?_) h
            · refine ⟨_, rn_198_40 hR _, ?_⟩
              refine t_X12_isHere hR (fun r89 u90 hd h => ?_) hd h
              refine ite_mono (fun hc h => ?_) (fun hc h => ?_) h
              · exact hQ _ _ hd h
              · exact t_X12_isOwnHere_p370 hR hQ hd h
            · exact t_X12_isOwnHere_p370 hR hQ hd h
          · exact t_X12_isOwnHere_p370 hR hQ hd h
        · exact t_X12_isOwnHere_p370 hR hQ hd h
      · exact t_X12_isOwnHere_p370 hR hQ hd h
    · exact t_X12_isOwnHere_p370 hR hQ hd h
  · exact t_X12_isOwnHere_p370 hR hQ hd h
set_option maxHeartbeats 4000000 in
set_option maxRecDepth 100000 in
theorem t_X12_isOwnHere_p294 {ρ : Nat → Nat → Option Nat} (hR : RfH ρ) {Q : Int32 → St → Prop} {QW : Int32 → Mem → Prop} (hQ : ∀ (r : Int32) (u : St), DK u → Q r u → QW r (emb ρ u)) {u : St} (hd : DK u) (h : sX12_isOwnHere_p294 Q u) : X12_isOwnHere_p294 SH 198 QW (emb ρ u) := by
  unfold X12_isOwnHere_p294
  unfold sX12_isOwnHere_p294 at h
  exact t_X12_isOwnHere_p299 hR hQ hd h
set_option maxHeartbeats 4000000 in
set_option maxRecDepth 100000 in
theorem t_X12_isOwnHere_p223 {ρ : Nat → Nat → Option Nat} (hR : RfH ρ) {s0 : Int32} {Q : Int32 → St → Prop} {QW : Int32 → Mem → Prop} (hQ : ∀ (r : Int32) (u : St), DK u → Q r u → QW r (emb ρ u)) {u : St} (hd : DK u) (h : sX12_isOwnHere_p223 s0 Q u) : X12_isOwnHere_p223 SH 198 s0 QW (emb ρ u) := by
  unfold X12_isOwnHere_p223
  unfold sX12_isOwnHere_p223 at h
  refine ite_mono (fun hc h => ?_) (fun hc h => ?_) h
  · refine ⟨on_198, ?_⟩
    refine ⟨_, rn_198_29 hR _, ?_⟩
    refine t_X12_isHere hR (fun r56 u57 hd h => ?_) hd h
    refine ite_mono (fun hc h => ?_) (fun hc h => ?_) h
    · refine ⟨_, rn_198_30 hR _, ?_⟩
      refine t_X12_isHere hR (fun r59 u60 hd h => ?_) hd h
      refine ite_mono (fun hc h => ?_) (fun hc h => ?_) h
      · refine ⟨_, rn_198_31 hR _, ?_⟩
        refine t_X12_isHere hR (fun r62 u63 hd h => ?_) hd h
        refine ite_mono (fun hc h => ?_) (fun hc h => ?_) h
        · refine ⟨_, rn_198_32 hR _, ?_⟩
          refine t_X12_isHere hR (fun r65 u66 hd h => ?_) hd h
          refine ite_mono (fun hc h => ?_) (fun hc h => ?_) h
          · refine ⟨_, rn_198_33 hR _, ?_⟩
            refine t_X12_isHere hR (fun r68 u69 hd h => ?_) hd h
            refine ite_mono (fun hc h => ?_) (fun hc h => ?_) h
            · refine ⟨_, rn_198_34 hR _, ?_⟩
              refine t_X12_isHere hR (fun r71 u72 hd h => ?_) hd h
              refine ite_mono (fun hc h => ?_) (fun hc h => ?_) h
              · exact t_X12_isOwnHere_p299 hR hQ hd h
              · exact t_X12_isOwnHere_p294 hR hQ hd h
            · exact t_X12_isOwnHere_p294 hR hQ hd h
          · exact t_X12_isOwnHere_p294 hR hQ hd h
        · exact t_X12_isOwnHere_p294 hR hQ hd h
      · exact t_X12_isOwnHere_p294 hR hQ hd h
    · exact t_X12_isOwnHere_p294 hR hQ hd h
  · exact t_X12_isOwnHere_p294 hR hQ hd h
set_option maxHeartbeats 4000000 in
set_option maxRecDepth 100000 in
theorem t_X12_isOwnHere_p218 {ρ : Nat → Nat → Option Nat} (hR : RfH ρ) {Q : Int32 → St → Prop} {QW : Int32 → Mem → Prop} (hQ : ∀ (r : Int32) (u : St), DK u → Q r u → QW r (emb ρ u)) {u : St} (hd : DK u) (h : sX12_isOwnHere_p218 Q u) : X12_isOwnHere_p218 SH 198 QW (emb ρ u) := by
  unfold X12_isOwnHere_p218
  unfold sX12_isOwnHere_p218 at h
  exact t_X12_isOwnHere_p223 hR hQ hd h
set_option maxHeartbeats 4000000 in
set_option maxRecDepth 100000 in
theorem t_X12_isOwnHere_p147 {ρ : Nat → Nat → Option Nat} (hR : RfH ρ) {s0 : Int32} {Q : Int32 → St → Prop} {QW : Int32 → Mem → Prop} (hQ : ∀ (r : Int32) (u : St), DK u → Q r u → QW r (emb ρ u)) {u : St} (hd : DK u) (h : sX12_isOwnHere_p147 s0 Q u) : X12_isOwnHere_p147 SH 198 s0 QW (emb ρ u) := by
  unfold X12_isOwnHere_p147
  unfold sX12_isOwnHere_p147 at h
  refine ite_mono (fun hc h => ?_) (fun hc h => ?_) h
  · refine ⟨on_198, ?_⟩
    refine ⟨_, rn_198_23 hR _, ?_⟩
    refine t_X12_isHere hR (fun r38 u39 hd h => ?_) hd h
    refine ite_mono (fun hc h => ?_) (fun hc h => ?_) h
    · refine ⟨_, rn_198_24 hR _, ?_⟩
      refine t_X12_isHere hR (fun r41 u42 hd h => ?_) hd h
      refine ite_mono (fun hc h => ?_) (fun hc h => ?_) h
      · refine ⟨_, rn_198_25 hR _, ?_⟩
        refine t_X12_isHere hR (fun r44 u45 hd h => ?_) hd h
        refine ite_mono (fun hc h => ?_) (fun hc h => ?_) h
        · refine ⟨_, rn_198_26 hR _, ?_⟩
          refine t_X12_isHere hR (fun r47 u48 hd h => ?_) hd h
          refine ite_mono (fun hc h => ?_) (fun hc h => ?_) h
          · refine ⟨_, rn_198_27 hR _, ?_⟩
            refine t_X12_isHere hR (fun r50 u51 hd h => ?_) hd h
            refine ite_mono (fun hc h => ?_) (fun hc h => ?_) h
            · refine ⟨_, rn_198_28 hR _, ?_⟩
              refine t_X12_isHere hR (fun r53 u54 hd h => ?_) hd h
              refine ite_mono (fun hc h => ?_) (fun hc h => ?_) h
              · exact t_X12_isOwnHere_p223 hR hQ hd h
              · exact t_X12_isOwnHere_p218 hR hQ hd h
            · exact t_X12_isOwnHere_p218 hR hQ hd h
          · exact t_X12_isOwnHere_p218 hR hQ hd h
        · exact t_X12_isOwnHere_p218 hR hQ hd h
      · exact t_X12_isOwnHere_p218 hR hQ hd h
    · exact t_X12_isOwnHere_p218 hR hQ hd h
  · exact t_X12_isOwnHere_p218 hR hQ hd h
set_option maxHeartbeats 4000000 in
set_option maxRecDepth 100000 in
theorem t_X12_isOwnHere_p142 {ρ : Nat → Nat → Option Nat} (hR : RfH ρ) {Q : Int32 → St → Prop} {QW : Int32 → Mem → Prop} (hQ : ∀ (r : Int32) (u : St), DK u → Q r u → QW r (emb ρ u)) {u : St} (hd : DK u) (h : sX12_isOwnHere_p142 Q u) : X12_isOwnHere_p142 SH 198 QW (emb ρ u) := by
  unfold X12_isOwnHere_p142
  unfold sX12_isOwnHere_p142 at h
  exact t_X12_isOwnHere_p147 hR hQ hd h
set_option maxHeartbeats 4000000 in
set_option maxRecDepth 100000 in
theorem t_X12_isOwnHere_p71 {ρ : Nat → Nat → Option Nat} (hR : RfH ρ) {s0 : Int32} {Q : Int32 → St → Prop} {QW : Int32 → Mem → Prop} (hQ : ∀ (r : Int32) (u : St), DK u → Q r u → QW r (emb ρ u)) {u : St} (hd : DK u) (h : sX12_isOwnHere_p71 s0 Q u) : X12_isOwnHere_p71 SH 198 s0 QW (emb ρ u) := by
  unfold X12_isOwnHere_p71
  unfold sX12_isOwnHere_p71 at h
  refine ite_mono (fun hc h => ?_) (fun hc h => ?_) h
  · refine ⟨on_198, ?_⟩
    refine ⟨_, rn_198_17 hR _, ?_⟩
    refine t_X12_isHere hR (fun r20 u21 hd h => ?_) hd h
    refine ite_mono (fun hc h => ?_) (fun hc h => ?_) h
    · refine ⟨_, rn_198_18 hR _, ?_⟩
      refine t_X12_isHere hR (fun r23 u24 hd h => ?_) hd h
      refine ite_mono (fun hc h => ?_) (fun hc h => ?_) h
      · refine ⟨_, rn_198_19 hR _, ?_⟩
        refine t_X12_isHere hR (fun r26 u27 hd h => ?_) hd h
        refine ite_mono (fun hc h => ?_) (fun hc h => ?_) h
        · refine ⟨_, rn_198_20 hR _, ?_⟩
          refine t_X12_isHere hR (fun r29 u30 hd h => ?_) hd h
          refine ite_mono (fun hc h => ?_) (fun hc h => ?_) h
          · refine ⟨_, rn_198_21 hR _, ?_⟩
            refine t_X12_isHere hR (fun r32 u33 hd h => ?_) hd h
            refine ite_mono (fun hc h => ?_) (fun hc h => ?_) h
            · refine ⟨_, rn_198_22 hR _, ?_⟩
              refine t_X12_isHere hR (fun r35 u36 hd h => ?_) hd h
              refine ite_mono (fun hc h => ?_) (fun hc h => ?_) h
              · exact t_X12_isOwnHere_p147 hR hQ hd h
              · exact t_X12_isOwnHere_p142 hR hQ hd h
            · exact t_X12_isOwnHere_p142 hR hQ hd h
          · exact t_X12_isOwnHere_p142 hR hQ hd h
        · exact t_X12_isOwnHere_p142 hR hQ hd h
      · exact t_X12_isOwnHere_p142 hR hQ hd h
    · exact t_X12_isOwnHere_p142 hR hQ hd h
  · exact t_X12_isOwnHere_p142 hR hQ hd h
set_option maxHeartbeats 4000000 in
set_option maxRecDepth 100000 in
theorem t_X12_isOwnHere_p66 {ρ : Nat → Nat → Option Nat} (hR : RfH ρ) {Q : Int32 → St → Prop} {QW : Int32 → Mem → Prop} (hQ : ∀ (r : Int32) (u : St), DK u → Q r u → QW r (emb ρ u)) {u : St} (hd : DK u) (h : sX12_isOwnHere_p66 Q u) : X12_isOwnHere_p66 SH 198 QW (emb ρ u) := by
  unfold X12_isOwnHere_p66
  unfold sX12_isOwnHere_p66 at h
  exact t_X12_isOwnHere_p71 hR hQ hd h
set_option maxHeartbeats 4000000 in
set_option maxRecDepth 100000 in
theorem t_X12_isOwnHere {ρ : Nat → Nat → Option Nat} (hR : RfH ρ) {Q : Int32 → St → Prop} {QW : Int32 → Mem → Prop} (hQ : ∀ (r : Int32) (u : St), DK u → Q r u → QW r (emb ρ u)) {u : St} (hd : DK u) (h : s_X12_isOwnHere Q u) : wp_X12_isOwnHere SH 198 QW (emb ρ u) := by
  unfold wp_X12_isOwnHere
  unfold s_X12_isOwnHere at h
  refine ⟨on_198, ?_⟩
  refine ⟨_, rn_198_11 hR _, ?_⟩
  refine t_X12_isHere hR (fun r2 u3 hd h => ?_) hd h
  refine ite_mono (fun hc h => ?_) (fun hc h => ?_) h
  · refine ⟨_, rn_198_12 hR _, ?_⟩
    refine t_X12_isHere hR (fun r5 u6 hd h => ?_) hd h
    refine ite_mono (fun hc h => ?_) (fun hc h => ?_) h
    · refine ⟨_, rn_198_13 hR _, ?_⟩
      refine t_X12_isHere hR (fun r8 u9 hd h => ?_) hd h
      refine ite_mono (fun hc h => ?_) (fun hc h => ?_) h
      · refine ⟨_, rn_198_14 hR _, ?_⟩
        refine t_X12_isHere hR (fun r11 u12 hd h => ?_) hd h
        refine ite_mono (fun hc h => ?_) (fun hc h => ?_) h
        · refine ⟨_, rn_198_15 hR _, ?_⟩
          refine t_X12_isHere hR (fun r14 u15 hd h => ?_) hd h
          refine ite_mono (fun hc h => ?_) (fun hc h => ?_) h
          · refine ⟨_, rn_198_16 hR _, ?_⟩
            refine t_X12_isHere hR (fun r17 u18 hd h => ?_) hd h
            refine ite_mono (fun hc h => ?_) (fun hc h => ?_) h
            · exact t_X12_isOwnHere_p71 hR hQ hd h
            · exact t_X12_isOwnHere_p66 hR hQ hd h
          · exact t_X12_isOwnHere_p66 hR hQ hd h
        · exact t_X12_isOwnHere_p66 hR hQ hd h
      · exact t_X12_isOwnHere_p66 hR hQ hd h
    · exact t_X12_isOwnHere_p66 hR hQ hd h
  · exact t_X12_isOwnHere_p66 hR hQ hd h
/-! CalledRiverModel.name -/
set_option maxHeartbeats 4000000 in
set_option maxRecDepth 100000 in
def sX12_name_p37 (Q : Int64 → St → Prop) (u : St) : Prop :=
  s_X12_fail (1 : Int32) (u.1 198 2) (fun u9 => Q (0 : Int64) u9) u
set_option maxHeartbeats 4000000 in
set_option maxRecDepth 100000 in
def sX12_name_p145 (v1 : Int64) (Q : Int64 → St → Prop) (u : St) : Prop :=
  bnd (tI u 198 4 (u.1 198 2)) (fun u19 => Q v1 u19)
set_option maxHeartbeats 4000000 in
set_option maxRecDepth 100000 in
def sX12_name_p58b (Q : Int64 → St → Prop) (K58 : Int64 → St → Prop) (v1 : Int64) (u : St) : Prop :=
  if (u.1 198 3) ≤ (u.1 198 2) then (sX12_name_p145 v1 Q u) else (vp_in (u.1 198 2) 1600 ∧ (s_X12_isLetter (u.1 199 (u.1 198 2).toNatClampNeg) (fun r12 u13 => if r12 = 0 then (sX12_name_p145 v1 Q u13) else (if ((u13.1 198 2) - (u13.1 198 41)) = (6 : Int32) then (s_X12_fail (1 : Int32) (u13.1 198 2) (fun u18 => Q (0 : Int64) u18) u13) else (vp_in (u13.1 198 2) 1600 ∧ (bnd (tI u13 198 2 ((u13.1 198 2) + (1 : Int32))) (fun u16 => K58 (((((27 : Int64) * v1) + (u13.1 199 (u13.1 198 2).toNatClampNeg).toInt64) - (97 : Int64)) + (1 : Int64)) u16))))) u))
set_option maxHeartbeats 4000000 in
set_option maxRecDepth 100000 in
def sX12_name_p58n (Q : Int64 → St → Prop) : Nat → Int64 → St → Prop
  | 0 => fun _ _ => False
  | n + 1 => sX12_name_p58b Q (sX12_name_p58n Q n)
set_option maxHeartbeats 4000000 in
set_option maxRecDepth 100000 in
def sX12_name_p58 (Q : Int64 → St → Prop) (v1 : Int64) (u : St) : Prop := ∃ n, sX12_name_p58n Q n v1 u
set_option maxHeartbeats 4000000 in
set_option maxRecDepth 100000 in
def s_X12_name (Q : Int64 → St → Prop) (u : St) : Prop :=
  if (u.1 198 5) = 0 then (s_X12_look  (fun r1 u2 => s_X12_isLetter r1 (fun r3 u4 => if r3 = 0 then (sX12_name_p37 Q u4) else (if (u4.1 198 2) = (u4.1 198 4) then (sX12_name_p37 Q u4) else (s_X12_isOwnHere  (fun r5 u6 => if r5 = 0 then (bnd (tI u6 198 41 (u6.1 198 2)) (fun u7 => sX12_name_p58 Q (0 : Int64) u7)) else (sX12_name_p37 Q u6)) u4))) u2) u) else (Q (0 : Int64) u)
set_option maxHeartbeats 4000000 in
set_option maxRecDepth 100000 in
theorem t_X12_name_p37 {ρ : Nat → Nat → Option Nat} (hR : RfH ρ) {Q : Int64 → St → Prop} {QW : Int64 → Mem → Prop} (hQ : ∀ (r : Int64) (u : St), DK u → Q r u → QW r (emb ρ u)) {u : St} (hd : DK u) (h : sX12_name_p37 Q u) : X12_name_p37 SH 198 QW (emb ρ u) := by
  unfold X12_name_p37
  unfold sX12_name_p37 at h
  refine ⟨on_198, ?_⟩
  refine t_X12_fail hR (fun u9 hd h => ?_) hd h
  exact hQ _ _ hd h
set_option maxHeartbeats 4000000 in
set_option maxRecDepth 100000 in
theorem t_X12_name_p145 {ρ : Nat → Nat → Option Nat} (hR : RfH ρ) {v1 : Int64} {Q : Int64 → St → Prop} {QW : Int64 → Mem → Prop} (hQ : ∀ (r : Int64) (u : St), DK u → Q r u → QW r (emb ρ u)) {u : St} (hd : DK u) (h : sX12_name_p145 v1 Q u) : X12_name_p145 SH 198 v1 QW (emb ρ u) := by
  unfold X12_name_p145
  unfold sX12_name_p145 at h
  refine ⟨on_198, ?_⟩
  refine bnd_I ?_
  replace h := bnd_e h
  exact hQ _ _ hd h
set_option maxHeartbeats 4000000 in
set_option maxRecDepth 100000 in
theorem t_X12_name_p58b {ρ : Nat → Nat → Option Nat} (hR : RfH ρ) {v1 : Int64} {Q : Int64 → St → Prop} {QW : Int64 → Mem → Prop} (hQ : ∀ (r : Int64) (u : St), DK u → Q r u → QW r (emb ρ u)) {K58 : Int64 → St → Prop} {KW58 : Int64 → Mem → Prop} (hK58 : ∀ (x1 : Int64) (u : St), DK u → K58 x1 u → KW58 x1 (emb ρ u)) {u : St} (hd : DK u) (h : sX12_name_p58b Q K58 v1 u) : X12_name_p58b SH 198 QW KW58 v1 (emb ρ u) := by
  unfold X12_name_p58b
  unfold sX12_name_p58b at h
  refine ⟨on_198, ?_⟩
  refine ite_mono (fun hc h => ?_) (fun hc h => ?_) h
  · exact t_X12_name_p145 hR hQ hd h
  · refine ⟨_, rn_198_0 hR _, ?_⟩
    obtain ⟨x11, h⟩ := h
    refine ⟨ix_i (show SH[199]? = some (100, 1600) from rfl) x11, ?_⟩
    refine t_X12_isLetter hR (fun r12 u13 hd h => ?_) hd h
    refine ite_mono (fun hc h => ?_) (fun hc h => ?_) h
    · exact t_X12_name_p145 hR hQ hd h
    · refine ite_mono (fun hc h => ?_) (fun hc h => ?_) h
      · refine t_X12_fail hR (fun u18 hd h => ?_) hd h
        exact hQ _ _ hd h
      · refine ⟨_, rn_198_0 hR _, ?_⟩
        obtain ⟨x15, h⟩ := h
        refine ⟨ix_i (show SH[199]? = some (100, 1600) from rfl) x15, ?_⟩
        refine bnd_I ?_
        replace h := bnd_e h
        exact hK58 _ _ hd h
set_option maxHeartbeats 4000000 in
set_option maxRecDepth 100000 in
theorem t_X12_name_p58n {ρ : Nat → Nat → Option Nat} (hR : RfH ρ) {Q : Int64 → St → Prop} {QW : Int64 → Mem → Prop} (hQ : ∀ (r : Int64) (u : St), DK u → Q r u → QW r (emb ρ u)) : ∀ (n : Nat) (v1 : Int64) (u : St), DK u → sX12_name_p58n Q n v1 u → X12_name_p58n SH 198 QW n v1 (emb ρ u)
  | 0, _, _,  _, h => h.elim
  | n + 1, v1,  u,  hd, h => t_X12_name_p58b hR hQ (fun v1 u  hd h => t_X12_name_p58n hR hQ n v1 u  hd h) hd h
set_option maxHeartbeats 4000000 in
set_option maxRecDepth 100000 in
theorem t_X12_name_p58 {ρ : Nat → Nat → Option Nat} (hR : RfH ρ) {v1 : Int64} {Q : Int64 → St → Prop} {QW : Int64 → Mem → Prop} (hQ : ∀ (r : Int64) (u : St), DK u → Q r u → QW r (emb ρ u)) {u : St} (hd : DK u) (h : sX12_name_p58 Q v1 u) : X12_name_p58 SH 198 QW v1 (emb ρ u) := h.elim (fun n h => ⟨n, t_X12_name_p58n hR hQ n _ _ hd h⟩)
set_option maxHeartbeats 4000000 in
set_option maxRecDepth 100000 in
theorem t_X12_name {ρ : Nat → Nat → Option Nat} (hR : RfH ρ) {Q : Int64 → St → Prop} {QW : Int64 → Mem → Prop} (hQ : ∀ (r : Int64) (u : St), DK u → Q r u → QW r (emb ρ u)) {u : St} (hd : DK u) (h : s_X12_name Q u) : wp_X12_name SH 198 QW (emb ρ u) := by
  unfold wp_X12_name
  unfold s_X12_name at h
  refine ⟨on_198, ?_⟩
  refine ite_mono (fun hc h => ?_) (fun hc h => ?_) h
  · refine t_X12_look hR (fun r1 u2 hd h => ?_) hd h
    refine t_X12_isLetter hR (fun r3 u4 hd h => ?_) hd h
    refine ite_mono (fun hc h => ?_) (fun hc h => ?_) h
    · exact t_X12_name_p37 hR hQ hd h
    · refine ite_mono (fun hc h => ?_) (fun hc h => ?_) h
      · exact t_X12_name_p37 hR hQ hd h
      · refine t_X12_isOwnHere hR (fun r5 u6 hd h => ?_) hd h
        refine ite_mono (fun hc h => ?_) (fun hc h => ?_) h
        · refine bnd_I ?_
          replace h := bnd_e h
          exact t_X12_name_p58 hR hQ hd h
        · exact t_X12_name_p37 hR hQ hd h
  · exact hQ _ _ hd h
/-! CalledRiverModel.newName -/
set_option maxHeartbeats 4000000 in
set_option maxRecDepth 100000 in
def sX12_newName_p59 (v1 : Int64) (v3 : Int32) (v4 : Int32) (Q : Int64 → St → Prop) (K7 : Int32 → St → Prop) (K15 : Int32 → St → Prop) (u : St) : Prop :=
  K15 (v4 + (1 : Int32)) u
set_option maxHeartbeats 4000000 in
set_option maxRecDepth 100000 in
def sX12_newName_p15b (v1 : Int64) (v3 : Int32) (Q : Int64 → St → Prop) (K7 : Int32 → St → Prop) (K15 : Int32 → St → Prop) (v4 : Int32) (u : St) : Prop :=
  vp_in v3 4 ∧ (if (u.1 232 v3.toNatClampNeg) ≤ v4 then (K7 (v3 + (1 : Int32)) u) else (if (u.1 198 5) = 0 then (vp_in (((8 : Int32) * v3) + v4) 32 ∧ (if (lg_cmp (u.2.1 233 (((8 : Int32) * v3) + v4).toNatClampNeg) v1) = 0 then (s_X12_fail (3 : Int32) (u.1 198 41) (fun u8 => sX12_newName_p59 v1 v3 v4 Q K7 K15 u8) u) else (sX12_newName_p59 v1 v3 v4 Q K7 K15 u))) else (sX12_newName_p59 v1 v3 v4 Q K7 K15 u)))
set_option maxHeartbeats 4000000 in
set_option maxRecDepth 100000 in
def sX12_newName_p15n (v1 : Int64) (v3 : Int32) (Q : Int64 → St → Prop) (K7 : Int32 → St → Prop) : Nat → Int32 → St → Prop
  | 0 => fun _ _ => False
  | n + 1 => sX12_newName_p15b v1 v3 Q K7 (sX12_newName_p15n v1 v3 Q K7 n)
set_option maxHeartbeats 4000000 in
set_option maxRecDepth 100000 in
def sX12_newName_p15 (v1 : Int64) (v3 : Int32) (Q : Int64 → St → Prop) (K7 : Int32 → St → Prop) (v4 : Int32) (u : St) : Prop := ∃ n, sX12_newName_p15n v1 v3 Q K7 n v4 u
set_option maxHeartbeats 4000000 in
set_option maxRecDepth 100000 in
def sX12_newName_p7b (v1 : Int64) (Q : Int64 → St → Prop) (K7 : Int32 → St → Prop) (v3 : Int32) (u : St) : Prop :=
  if (2 : Int32) ≤ v3 then (Q v1 u) else (sX12_newName_p15 v1 v3 Q K7 (0 : Int32) u)
set_option maxHeartbeats 4000000 in
set_option maxRecDepth 100000 in
def sX12_newName_p7n (v1 : Int64) (Q : Int64 → St → Prop) : Nat → Int32 → St → Prop
  | 0 => fun _ _ => False
  | n + 1 => sX12_newName_p7b v1 Q (sX12_newName_p7n v1 Q n)
set_option maxHeartbeats 4000000 in
set_option maxRecDepth 100000 in
def sX12_newName_p7 (v1 : Int64) (Q : Int64 → St → Prop) (v3 : Int32) (u : St) : Prop := ∃ n, sX12_newName_p7n v1 Q n v3 u
set_option maxHeartbeats 4000000 in
set_option maxRecDepth 100000 in
def s_X12_newName (Q : Int64 → St → Prop) (u : St) : Prop :=
  s_X12_name  (fun r1 u2 => sX12_newName_p7 r1 Q (0 : Int32) u2) u
set_option maxHeartbeats 4000000 in
set_option maxRecDepth 100000 in
theorem t_X12_newName_p59 {ρ : Nat → Nat → Option Nat} (hR : RfH ρ) {v1 : Int64} {v3 : Int32} {v4 : Int32} {Q : Int64 → St → Prop} {QW : Int64 → Mem → Prop} {K7 : Int32 → St → Prop} {KW7 : Int32 → Mem → Prop} {K15 : Int32 → St → Prop} {KW15 : Int32 → Mem → Prop} (hQ : ∀ (r : Int64) (u : St), DK u → Q r u → QW r (emb ρ u)) (hK7 : ∀ (x3 : Int32) (u : St), DK u → K7 x3 u → KW7 x3 (emb ρ u)) (hK15 : ∀ (x4 : Int32) (u : St), DK u → K15 x4 u → KW15 x4 (emb ρ u)) {u : St} (hd : DK u) (h : sX12_newName_p59 v1 v3 v4 Q K7 K15 u) : X12_newName_p59 SH 198 v1 v3 v4 QW KW7 KW15 (emb ρ u) := by
  unfold X12_newName_p59
  unfold sX12_newName_p59 at h
  exact hK15 _ _ hd h
set_option maxHeartbeats 4000000 in
set_option maxRecDepth 100000 in
theorem t_X12_newName_p15b {ρ : Nat → Nat → Option Nat} (hR : RfH ρ) {v1 : Int64} {v3 : Int32} {v4 : Int32} {Q : Int64 → St → Prop} {QW : Int64 → Mem → Prop} {K7 : Int32 → St → Prop} {KW7 : Int32 → Mem → Prop} (hQ : ∀ (r : Int64) (u : St), DK u → Q r u → QW r (emb ρ u)) (hK7 : ∀ (x3 : Int32) (u : St), DK u → K7 x3 u → KW7 x3 (emb ρ u)) {K15 : Int32 → St → Prop} {KW15 : Int32 → Mem → Prop} (hK15 : ∀ (x4 : Int32) (u : St), DK u → K15 x4 u → KW15 x4 (emb ρ u)) {u : St} (hd : DK u) (h : sX12_newName_p15b v1 v3 Q K7 K15 v4 u) : X12_newName_p15b SH 198 v1 v3 QW KW7 KW15 v4 (emb ρ u) := by
  unfold X12_newName_p15b
  unfold sX12_newName_p15b at h
  refine ⟨on_198, ?_⟩
  refine ⟨_, rn_198_45 hR _, ?_⟩
  obtain ⟨x4, h⟩ := h
  refine ⟨ix_i (show SH[232]? = some (100, 4) from rfl) x4, ?_⟩
  refine ite_mono (fun hc h => ?_) (fun hc h => ?_) h
  · exact hK7 _ _ hd h
  · refine ite_mono (fun hc h => ?_) (fun hc h => ?_) h
    · refine ⟨_, rn_198_46 hR _, ?_⟩
      obtain ⟨x6, h⟩ := h
      refine ⟨ix_i (show SH[233]? = some (103, 32) from rfl) x6, ?_⟩
      refine ite_mono (fun hc h => ?_) (fun hc h => ?_) h
      · refine t_X12_fail hR (fun u8 hd h => ?_) hd h
        exact t_X12_newName_p59 hR hQ hK7 hK15 hd h
      · exact t_X12_newName_p59 hR hQ hK7 hK15 hd h
    · exact t_X12_newName_p59 hR hQ hK7 hK15 hd h
set_option maxHeartbeats 4000000 in
set_option maxRecDepth 100000 in
theorem t_X12_newName_p15n {ρ : Nat → Nat → Option Nat} (hR : RfH ρ) {v1 : Int64} {v3 : Int32} {Q : Int64 → St → Prop} {QW : Int64 → Mem → Prop} {K7 : Int32 → St → Prop} {KW7 : Int32 → Mem → Prop} (hQ : ∀ (r : Int64) (u : St), DK u → Q r u → QW r (emb ρ u)) (hK7 : ∀ (x3 : Int32) (u : St), DK u → K7 x3 u → KW7 x3 (emb ρ u)) : ∀ (n : Nat) (v4 : Int32) (u : St), DK u → sX12_newName_p15n v1 v3 Q K7 n v4 u → X12_newName_p15n SH 198 v1 v3 QW KW7 n v4 (emb ρ u)
  | 0, _, _,  _, h => h.elim
  | n + 1, v4,  u,  hd, h => t_X12_newName_p15b hR hQ hK7 (fun v4 u  hd h => t_X12_newName_p15n hR hQ hK7 n v4 u  hd h) hd h
set_option maxHeartbeats 4000000 in
set_option maxRecDepth 100000 in
theorem t_X12_newName_p15 {ρ : Nat → Nat → Option Nat} (hR : RfH ρ) {v1 : Int64} {v3 : Int32} {v4 : Int32} {Q : Int64 → St → Prop} {QW : Int64 → Mem → Prop} {K7 : Int32 → St → Prop} {KW7 : Int32 → Mem → Prop} (hQ : ∀ (r : Int64) (u : St), DK u → Q r u → QW r (emb ρ u)) (hK7 : ∀ (x3 : Int32) (u : St), DK u → K7 x3 u → KW7 x3 (emb ρ u)) {u : St} (hd : DK u) (h : sX12_newName_p15 v1 v3 Q K7 v4 u) : X12_newName_p15 SH 198 v1 v3 QW KW7 v4 (emb ρ u) := h.elim (fun n h => ⟨n, t_X12_newName_p15n hR hQ hK7 n _ _ hd h⟩)
set_option maxHeartbeats 4000000 in
set_option maxRecDepth 100000 in
theorem t_X12_newName_p7b {ρ : Nat → Nat → Option Nat} (hR : RfH ρ) {v1 : Int64} {v3 : Int32} {Q : Int64 → St → Prop} {QW : Int64 → Mem → Prop} (hQ : ∀ (r : Int64) (u : St), DK u → Q r u → QW r (emb ρ u)) {K7 : Int32 → St → Prop} {KW7 : Int32 → Mem → Prop} (hK7 : ∀ (x3 : Int32) (u : St), DK u → K7 x3 u → KW7 x3 (emb ρ u)) {u : St} (hd : DK u) (h : sX12_newName_p7b v1 Q K7 v3 u) : X12_newName_p7b SH 198 v1 QW KW7 v3 (emb ρ u) := by
  unfold X12_newName_p7b
  unfold sX12_newName_p7b at h
  refine ite_mono (fun hc h => ?_) (fun hc h => ?_) h
  · exact hQ _ _ hd h
  · exact t_X12_newName_p15 hR hQ hK7 hd h
set_option maxHeartbeats 4000000 in
set_option maxRecDepth 100000 in
theorem t_X12_newName_p7n {ρ : Nat → Nat → Option Nat} (hR : RfH ρ) {v1 : Int64} {Q : Int64 → St → Prop} {QW : Int64 → Mem → Prop} (hQ : ∀ (r : Int64) (u : St), DK u → Q r u → QW r (emb ρ u)) : ∀ (n : Nat) (v3 : Int32) (u : St), DK u → sX12_newName_p7n v1 Q n v3 u → X12_newName_p7n SH 198 v1 QW n v3 (emb ρ u)
  | 0, _, _,  _, h => h.elim
  | n + 1, v3,  u,  hd, h => t_X12_newName_p7b hR hQ (fun v3 u  hd h => t_X12_newName_p7n hR hQ n v3 u  hd h) hd h
set_option maxHeartbeats 4000000 in
set_option maxRecDepth 100000 in
theorem t_X12_newName_p7 {ρ : Nat → Nat → Option Nat} (hR : RfH ρ) {v1 : Int64} {v3 : Int32} {Q : Int64 → St → Prop} {QW : Int64 → Mem → Prop} (hQ : ∀ (r : Int64) (u : St), DK u → Q r u → QW r (emb ρ u)) {u : St} (hd : DK u) (h : sX12_newName_p7 v1 Q v3 u) : X12_newName_p7 SH 198 v1 QW v3 (emb ρ u) := h.elim (fun n h => ⟨n, t_X12_newName_p7n hR hQ n _ _ hd h⟩)
set_option maxHeartbeats 4000000 in
set_option maxRecDepth 100000 in
theorem t_X12_newName {ρ : Nat → Nat → Option Nat} (hR : RfH ρ) {Q : Int64 → St → Prop} {QW : Int64 → Mem → Prop} (hQ : ∀ (r : Int64) (u : St), DK u → Q r u → QW r (emb ρ u)) {u : St} (hd : DK u) (h : s_X12_newName Q u) : wp_X12_newName SH 198 QW (emb ρ u) := by
  unfold wp_X12_newName
  unfold s_X12_newName at h
  refine ⟨on_198, ?_⟩
  refine t_X12_name hR (fun r1 u2 hd h => ?_) hd h
  exact t_X12_newName_p7 hR hQ hd h
/-! CalledRiverModel.callerTold -/
set_option maxHeartbeats 4000000 in
set_option maxRecDepth 100000 in
def s_X12_callerTold (v1 : Int32) (Q : St → Prop) (u : St) : Prop :=
  s_X12_isFull (1 : Int32) (5 : Int32) v1 (fun r1 u2 => if r1 = 0 then (s_X12_newName  (fun r3 u4 => s_X12_asks 211 (fun u7 => s_X12_number (0 : Int32) (9 : Int32) (fun r8 u9 => s_X12_asks 212 (fun u12 => s_X12_number (0 : Int32) (9 : Int32) (fun r13 u14 => if (u14.1 198 5) = 0 then (vp_in (1 : Int32) 4 ∧ (vp_in ((8 : Int32) + (u14.1 232 (1 : Int32).toNatClampNeg)) 32 ∧ bnd (tL u14 233 ((8 : Int32) + (u14.1 232 (1 : Int32).toNatClampNeg)).toNatClampNeg r3) (fun u19 => vp_in ((2 : Int32) * (u19.1 232 (1 : Int32).toNatClampNeg)) 20 ∧ bnd (tI u19 235 ((2 : Int32) * (u19.1 232 (1 : Int32).toNatClampNeg)).toNatClampNeg r8) (fun u22 => vp_in (((2 : Int32) * (u22.1 232 (1 : Int32).toNatClampNeg)) + (1 : Int32)) 20 ∧ bnd (tI u22 235 (((2 : Int32) * (u22.1 232 (1 : Int32).toNatClampNeg)) + (1 : Int32)).toNatClampNeg r13) (fun u24 => bnd (tI u24 232 (1 : Int32).toNatClampNeg ((u24.1 232 (1 : Int32).toNatClampNeg) + (1 : Int32))) (fun u25 => Q u25)))))) else (Q u14)) u12) u9) u7) u4) u2) else (Q u2)) u
set_option maxHeartbeats 4000000 in
set_option maxRecDepth 100000 in
theorem t_X12_callerTold {ρ : Nat → Nat → Option Nat} (hR : RfH ρ) {v1 : Int32} {Q : St → Prop} {QW : Mem → Prop} (hQ : ∀ (u : St), DK u → Q u → QW (emb ρ u)) {u : St} (hd : DK u) (h : s_X12_callerTold v1 Q u) : wp_X12_callerTold SH 198 v1 QW (emb ρ u) := by
  unfold wp_X12_callerTold
  unfold s_X12_callerTold at h
  refine ⟨on_198, ?_⟩
  refine t_X12_isFull hR (fun r1 u2 hd h => ?_) hd h
  refine ite_mono (fun hc h => ?_) (fun hc h => ?_) h
  · refine t_X12_newName hR (fun r3 u4 hd h => ?_) hd h
    refine ⟨_, rn_198_21 hR _, ?_⟩
    refine t_X12_asks hR (fun u7 hd h => ?_) hd h
    refine t_X12_number hR (fun r8 u9 hd h => ?_) hd h
    refine ⟨_, rn_198_22 hR _, ?_⟩
    refine t_X12_asks hR (fun u12 hd h => ?_) hd h
    refine t_X12_number hR (fun r13 u14 hd h => ?_) hd h
    refine ite_mono (fun hc h => ?_) (fun hc h => ?_) h
    · refine ⟨_, rn_198_46 hR _, ?_⟩
      refine ⟨_, rn_198_45 hR _, ?_⟩
      obtain ⟨x17, h⟩ := h
      refine ⟨ix_i (show SH[232]? = some (100, 4) from rfl) x17, ?_⟩
      obtain ⟨x18, h⟩ := h
      refine ⟨ix_i (show SH[233]? = some (103, 32) from rfl) x18, ?_⟩
      refine bnd_L ?_
      replace h := bnd_e h
      refine ⟨_, rn_198_48 hR _, ?_⟩
      obtain ⟨x21, h⟩ := h
      refine ⟨ix_i (show SH[235]? = some (100, 20) from rfl) x21, ?_⟩
      refine bnd_I ?_
      replace h := bnd_e h
      obtain ⟨x23, h⟩ := h
      refine ⟨ix_i (show SH[235]? = some (100, 20) from rfl) x23, ?_⟩
      refine bnd_I ?_
      replace h := bnd_e h
      refine bnd_I ?_
      replace h := bnd_e h
      exact hQ _ hd h
    · exact hQ _ hd h
  · exact hQ _ hd h
/-! CalledRiverModel.cell -/
set_option maxHeartbeats 4000000 in
set_option maxRecDepth 100000 in
def s_X12_cell (v1 : Int32) (v2 : Int32) (v3 : Int32) (Q : Int32 → St → Prop) (u : St) : Prop :=
  s_X12_cellAt v1 v2 (fun r1 u2 => if r1 = (-1 : Int32) then (Q (-1 : Int32) u2) else (s_X12_isIn v3.toInt64 (0 : Int64) (2 : Int64) (fun r3 u4 => if r3 = 0 then (if v3 = (3 : Int32) then (s_X12_farmAt r1 (fun r5 u6 => Q r5 u6) u4) else (Q (-1 : Int32) u4)) else (vp_in (((1 : Int32) + ((3 : Int32) * r1)) + v3) 236 ∧ (Q (u4.1 241 (((1 : Int32) + ((3 : Int32) * r1)) + v3).toNatClampNeg) u4))) u2)) u
set_option maxHeartbeats 4000000 in
set_option maxRecDepth 100000 in
theorem t_X12_cell {ρ : Nat → Nat → Option Nat} (hR : RfH ρ) {v1 : Int32} {v2 : Int32} {v3 : Int32} {Q : Int32 → St → Prop} {QW : Int32 → Mem → Prop} (hQ : ∀ (r : Int32) (u : St), DK u → Q r u → QW r (emb ρ u)) {u : St} (hd : DK u) (h : s_X12_cell v1 v2 v3 Q u) : wp_X12_cell SH 198 v1 v2 v3 QW (emb ρ u) := by
  unfold wp_X12_cell
  unfold s_X12_cell at h
  refine ⟨on_198, ?_⟩
  refine t_X12_cellAt hR (fun r1 u2 hd h => ?_) hd h
  refine ite_mono (fun hc h => ?_) (fun hc h => ?_) h
  · exact hQ _ _ hd h
  · refine t_X12_isIn hR (fun r3 u4 hd h => ?_) hd h
    refine ite_mono (fun hc h => ?_) (fun hc h => ?_) h
    · refine ite_mono (fun hc h => ?_) (fun hc h => ?_) h
      · refine t_X12_farmAt hR (fun r5 u6 hd h => ?_) hd h
        exact hQ _ _ hd h
      · exact hQ _ _ hd h
    · refine ⟨_, rn_198_58 hR _, ?_⟩
      obtain ⟨x8, h⟩ := h
      refine ⟨ix_i (show SH[241]? = some (100, 236) from rfl) x8, ?_⟩
      exact hQ _ _ hd h
/-! CalledRiverModel.cellTold -/
set_option maxHeartbeats 4000000 in
set_option maxRecDepth 100000 in
def s_X12_cellTold (Q : Int32 → St → Prop) (u : St) : Prop :=
  vp_in (0 : Int32) 4 ∧ (s_X12_number (0 : Int32) ((u.1 231 (0 : Int32).toNatClampNeg) - (1 : Int32)) (fun r3 u4 => vp_in (1 : Int32) 4 ∧ (s_X12_number (0 : Int32) ((u4.1 231 (1 : Int32).toNatClampNeg) - (1 : Int32)) (fun r7 u8 => if (u8.1 198 5) = 0 then (Q (r3 + ((6 : Int32) * r7)) u8) else (Q (0 : Int32) u8)) u4)) u)
set_option maxHeartbeats 4000000 in
set_option maxRecDepth 100000 in
theorem t_X12_cellTold {ρ : Nat → Nat → Option Nat} (hR : RfH ρ) {Q : Int32 → St → Prop} {QW : Int32 → Mem → Prop} (hQ : ∀ (r : Int32) (u : St), DK u → Q r u → QW r (emb ρ u)) {u : St} (hd : DK u) (h : s_X12_cellTold Q u) : wp_X12_cellTold SH 198 QW (emb ρ u) := by
  unfold wp_X12_cellTold
  unfold s_X12_cellTold at h
  refine ⟨on_198, ?_⟩
  refine ⟨_, rn_198_42 hR _, ?_⟩
  obtain ⟨x2, h⟩ := h
  refine ⟨ix_i (show SH[231]? = some (100, 4) from rfl) x2, ?_⟩
  refine t_X12_number hR (fun r3 u4 hd h => ?_) hd h
  refine ⟨_, rn_198_42 hR _, ?_⟩
  obtain ⟨x6, h⟩ := h
  refine ⟨ix_i (show SH[231]? = some (100, 4) from rfl) x6, ?_⟩
  refine t_X12_number hR (fun r7 u8 hd h => ?_) hd h
  refine ite_mono (fun hc h => ?_) (fun hc h => ?_) h
  · exact hQ _ _ hd h
  · exact hQ _ _ hd h
/-! CalledRiverModel.drawOf -/
set_option maxHeartbeats 4000000 in
set_option maxRecDepth 100000 in
def s_X12_drawOf (v1 : Int32) (Q : Int32 → St → Prop) (u : St) : Prop :=
  bnd (tL u 198 80 ((((1103515245 : Int64) * (u.2.1 198 80)) + (12345 : Int64)) - (((1103515245 : Int64) * (u.2.1 198 80)) + (12345 : Int64)) / (2147483648 : Int64) * (2147483648 : Int64))) (fun u1 => ¬ v1.toInt64 = 0 ∧ (Q (((u1.2.1 198 80) / (64 : Int64)) - ((u1.2.1 198 80) / (64 : Int64)) / v1.toInt64 * v1.toInt64).toInt32 u1))
set_option maxHeartbeats 4000000 in
set_option maxRecDepth 100000 in
theorem t_X12_drawOf {ρ : Nat → Nat → Option Nat} (hR : RfH ρ) {v1 : Int32} {Q : Int32 → St → Prop} {QW : Int32 → Mem → Prop} (hQ : ∀ (r : Int32) (u : St), DK u → Q r u → QW r (emb ρ u)) {u : St} (hd : DK u) (h : s_X12_drawOf v1 Q u) : wp_X12_drawOf SH 198 v1 QW (emb ρ u) := by
  unfold wp_X12_drawOf
  unfold s_X12_drawOf at h
  refine ⟨on_198, ?_⟩
  refine bnd_L ?_
  replace h := bnd_e h
  refine ⟨h.1, ?_⟩
  replace h := h.2
  exact hQ _ _ hd h
/-! CalledRiverModel.isAhead -/
set_option maxHeartbeats 4000000 in
set_option maxRecDepth 100000 in
def s_X12_isAhead (v1 : Int32) (v2 : Int32) (v3 : Int32) (Q : Int32 → St → Prop) (u : St) : Prop :=
  if (u.1 198 56) = 0 then (Q (0 : Int32) u) else (s_X12_isIn v1.toInt64 v2.toInt64 v3.toInt64 (fun r1 u2 => if r1 = 0 then (Q (0 : Int32) u2) else (vp_in (0 : Int32) 236 ∧ (if (999 : Int32) < ((u2.1 241 (0 : Int32).toNatClampNeg) + v1) then (Q (0 : Int32) u2) else (Q (1 : Int32) u2)))) u)
set_option maxHeartbeats 4000000 in
set_option maxRecDepth 100000 in
theorem t_X12_isAhead {ρ : Nat → Nat → Option Nat} (hR : RfH ρ) {v1 : Int32} {v2 : Int32} {v3 : Int32} {Q : Int32 → St → Prop} {QW : Int32 → Mem → Prop} (hQ : ∀ (r : Int32) (u : St), DK u → Q r u → QW r (emb ρ u)) {u : St} (hd : DK u) (h : s_X12_isAhead v1 v2 v3 Q u) : wp_X12_isAhead SH 198 v1 v2 v3 QW (emb ρ u) := by
  unfold wp_X12_isAhead
  unfold s_X12_isAhead at h
  refine ⟨on_198, ?_⟩
  refine ite_mono (fun hc h => ?_) (fun hc h => ?_) h
  · exact hQ _ _ hd h
  · refine t_X12_isIn hR (fun r1 u2 hd h => ?_) hd h
    refine ite_mono (fun hc h => ?_) (fun hc h => ?_) h
    · exact hQ _ _ hd h
    · refine ⟨_, rn_198_58 hR _, ?_⟩
      obtain ⟨x4, h⟩ := h
      refine ⟨ix_i (show SH[241]? = some (100, 236) from rfl) x4, ?_⟩
      refine ite_mono (fun hc h => ?_) (fun hc h => ?_) h
      · exact hQ _ _ hd h
      · exact hQ _ _ hd h
/-! CalledRiverModel.refuses -/
set_option maxHeartbeats 4000000 in
set_option maxRecDepth 100000 in
def s_X12_refuses (v1 : Int32) (Q : Int32 → St → Prop) (u : St) : Prop :=
  vp_in v1 6 ∧ (bnd (tI u 200 v1.toNatClampNeg ((u.1 200 v1.toNatClampNeg) + (1 : Int32))) (fun u3 => Q (-1 : Int32) u3))
set_option maxHeartbeats 4000000 in
set_option maxRecDepth 100000 in
theorem t_X12_refuses {ρ : Nat → Nat → Option Nat} (hR : RfH ρ) {v1 : Int32} {Q : Int32 → St → Prop} {QW : Int32 → Mem → Prop} (hQ : ∀ (r : Int32) (u : St), DK u → Q r u → QW r (emb ρ u)) {u : St} (hd : DK u) (h : s_X12_refuses v1 Q u) : wp_X12_refuses SH 198 v1 QW (emb ρ u) := by
  unfold wp_X12_refuses
  unfold s_X12_refuses at h
  refine ⟨on_198, ?_⟩
  refine ⟨_, rn_198_9 hR _, ?_⟩
  obtain ⟨x2, h⟩ := h
  refine ⟨ix_i (show SH[200]? = some (100, 6) from rfl) x2, ?_⟩
  refine bnd_I ?_
  replace h := bnd_e h
  exact hQ _ _ hd h
/-! CalledRiverModel.isKept -/
set_option maxHeartbeats 4000000 in
set_option maxRecDepth 100000 in
def sX12_isKept_p56 (v1 : Int32) (v2 : Int32) (Q : St → Prop) (u : St) : Prop :=
  vp_in (115 : Int32) 236 ∧ (vp_in (0 : Int32) 236 ∧ (vp_in (((116 : Int32) + ((3 : Int32) * (u.1 241 (115 : Int32).toNatClampNeg))) - (3 : Int32)) 236 ∧ bnd (tI u 241 (((116 : Int32) + ((3 : Int32) * (u.1 241 (115 : Int32).toNatClampNeg))) - (3 : Int32)).toNatClampNeg (u.1 241 (0 : Int32).toNatClampNeg)) (fun u8 => vp_in ((((116 : Int32) + ((3 : Int32) * (u.1 241 (115 : Int32).toNatClampNeg))) - (3 : Int32)) + (1 : Int32)) 236 ∧ bnd (tI u8 241 ((((116 : Int32) + ((3 : Int32) * (u.1 241 (115 : Int32).toNatClampNeg))) - (3 : Int32)) + (1 : Int32)).toNatClampNeg v1) (fun u10 => vp_in ((((116 : Int32) + ((3 : Int32) * (u.1 241 (115 : Int32).toNatClampNeg))) - (3 : Int32)) + (2 : Int32)) 236 ∧ bnd (tI u10 241 ((((116 : Int32) + ((3 : Int32) * (u.1 241 (115 : Int32).toNatClampNeg))) - (3 : Int32)) + (2 : Int32)).toNatClampNeg v2) (fun u12 => Q u12)))))
set_option maxHeartbeats 4000000 in
set_option maxRecDepth 100000 in
def sX12_isKept_p15b (v1 : Int32) (v2 : Int32) (Q : St → Prop) (K15 : Int32 → St → Prop) (v3 : Int32) (u : St) : Prop :=
  if (233 : Int32) ≤ v3 then (sX12_isKept_p56 v1 v2 Q u) else (vp_in (v3 + (3 : Int32)) 236 ∧ (vp_in v3 236 ∧ bnd (tI u 241 v3.toNatClampNeg (u.1 241 (v3 + (3 : Int32)).toNatClampNeg)) (fun u16 => K15 (v3 + (1 : Int32)) u16)))
set_option maxHeartbeats 4000000 in
set_option maxRecDepth 100000 in
def sX12_isKept_p15n (v1 : Int32) (v2 : Int32) (Q : St → Prop) : Nat → Int32 → St → Prop
  | 0 => fun _ _ => False
  | n + 1 => sX12_isKept_p15b v1 v2 Q (sX12_isKept_p15n v1 v2 Q n)
set_option maxHeartbeats 4000000 in
set_option maxRecDepth 100000 in
def sX12_isKept_p15 (v1 : Int32) (v2 : Int32) (Q : St → Prop) (v3 : Int32) (u : St) : Prop := ∃ n, sX12_isKept_p15n v1 v2 Q n v3 u
set_option maxHeartbeats 4000000 in
set_option maxRecDepth 100000 in
def s_X12_isKept (v1 : Int32) (v2 : Int32) (Q : St → Prop) (u : St) : Prop :=
  vp_in (115 : Int32) 236 ∧ (if (u.1 241 (115 : Int32).toNatClampNeg) = (40 : Int32) then (sX12_isKept_p15 v1 v2 Q (116 : Int32) u) else (bnd (tI u 241 (115 : Int32).toNatClampNeg ((u.1 241 (115 : Int32).toNatClampNeg) + (1 : Int32))) (fun u3 => sX12_isKept_p56 v1 v2 Q u3)))
set_option maxHeartbeats 4000000 in
set_option maxRecDepth 100000 in
theorem t_X12_isKept_p56 {ρ : Nat → Nat → Option Nat} (hR : RfH ρ) {v1 : Int32} {v2 : Int32} {Q : St → Prop} {QW : Mem → Prop} (hQ : ∀ (u : St), DK u → Q u → QW (emb ρ u)) {u : St} (hd : DK u) (h : sX12_isKept_p56 v1 v2 Q u) : X12_isKept_p56 SH 198 v1 v2 QW (emb ρ u) := by
  unfold X12_isKept_p56
  unfold sX12_isKept_p56 at h
  refine ⟨on_198, ?_⟩
  refine ⟨_, rn_198_58 hR _, ?_⟩
  obtain ⟨x5, h⟩ := h
  refine ⟨ix_i (show SH[241]? = some (100, 236) from rfl) x5, ?_⟩
  obtain ⟨x6, h⟩ := h
  refine ⟨ix_i (show SH[241]? = some (100, 236) from rfl) x6, ?_⟩
  obtain ⟨x7, h⟩ := h
  refine ⟨ix_i (show SH[241]? = some (100, 236) from rfl) x7, ?_⟩
  refine bnd_I ?_
  replace h := bnd_e h
  obtain ⟨x9, h⟩ := h
  refine ⟨ix_i (show SH[241]? = some (100, 236) from rfl) x9, ?_⟩
  refine bnd_I ?_
  replace h := bnd_e h
  obtain ⟨x11, h⟩ := h
  refine ⟨ix_i (show SH[241]? = some (100, 236) from rfl) x11, ?_⟩
  refine bnd_I ?_
  replace h := bnd_e h
  exact hQ _ hd h
set_option maxHeartbeats 4000000 in
set_option maxRecDepth 100000 in
theorem t_X12_isKept_p15b {ρ : Nat → Nat → Option Nat} (hR : RfH ρ) {v1 : Int32} {v2 : Int32} {v3 : Int32} {Q : St → Prop} {QW : Mem → Prop} (hQ : ∀ (u : St), DK u → Q u → QW (emb ρ u)) {K15 : Int32 → St → Prop} {KW15 : Int32 → Mem → Prop} (hK15 : ∀ (x3 : Int32) (u : St), DK u → K15 x3 u → KW15 x3 (emb ρ u)) {u : St} (hd : DK u) (h : sX12_isKept_p15b v1 v2 Q K15 v3 u) : X12_isKept_p15b SH 198 v1 v2 QW KW15 v3 (emb ρ u) := by
  unfold X12_isKept_p15b
  unfold sX12_isKept_p15b at h
  refine ite_mono (fun hc h => ?_) (fun hc h => ?_) h
  · exact t_X12_isKept_p56 hR hQ hd h
  · refine ⟨on_198, ?_⟩
    refine ⟨_, rn_198_58 hR _, ?_⟩
    obtain ⟨x14, h⟩ := h
    refine ⟨ix_i (show SH[241]? = some (100, 236) from rfl) x14, ?_⟩
    obtain ⟨x15, h⟩ := h
    refine ⟨ix_i (show SH[241]? = some (100, 236) from rfl) x15, ?_⟩
    refine bnd_I ?_
    replace h := bnd_e h
    exact hK15 _ _ hd h
set_option maxHeartbeats 4000000 in
set_option maxRecDepth 100000 in
theorem t_X12_isKept_p15n {ρ : Nat → Nat → Option Nat} (hR : RfH ρ) {v1 : Int32} {v2 : Int32} {Q : St → Prop} {QW : Mem → Prop} (hQ : ∀ (u : St), DK u → Q u → QW (emb ρ u)) : ∀ (n : Nat) (v3 : Int32) (u : St), DK u → sX12_isKept_p15n v1 v2 Q n v3 u → X12_isKept_p15n SH 198 v1 v2 QW n v3 (emb ρ u)
  | 0, _, _,  _, h => h.elim
  | n + 1, v3,  u,  hd, h => t_X12_isKept_p15b hR hQ (fun v3 u  hd h => t_X12_isKept_p15n hR hQ n v3 u  hd h) hd h
set_option maxHeartbeats 4000000 in
set_option maxRecDepth 100000 in
theorem t_X12_isKept_p15 {ρ : Nat → Nat → Option Nat} (hR : RfH ρ) {v1 : Int32} {v2 : Int32} {v3 : Int32} {Q : St → Prop} {QW : Mem → Prop} (hQ : ∀ (u : St), DK u → Q u → QW (emb ρ u)) {u : St} (hd : DK u) (h : sX12_isKept_p15 v1 v2 Q v3 u) : X12_isKept_p15 SH 198 v1 v2 QW v3 (emb ρ u) := h.elim (fun n h => ⟨n, t_X12_isKept_p15n hR hQ n _ _ hd h⟩)
set_option maxHeartbeats 4000000 in
set_option maxRecDepth 100000 in
theorem t_X12_isKept {ρ : Nat → Nat → Option Nat} (hR : RfH ρ) {v1 : Int32} {v2 : Int32} {Q : St → Prop} {QW : Mem → Prop} (hQ : ∀ (u : St), DK u → Q u → QW (emb ρ u)) {u : St} (hd : DK u) (h : s_X12_isKept v1 v2 Q u) : wp_X12_isKept SH 198 v1 v2 QW (emb ρ u) := by
  unfold wp_X12_isKept
  unfold s_X12_isKept at h
  refine ⟨on_198, ?_⟩
  refine ⟨_, rn_198_58 hR _, ?_⟩
  obtain ⟨x2, h⟩ := h
  refine ⟨ix_i (show SH[241]? = some (100, 236) from rfl) x2, ?_⟩
  refine ite_mono (fun hc h => ?_) (fun hc h => ?_) h
  · exact t_X12_isKept_p15 hR hQ hd h
  · refine bnd_I ?_
    replace h := bnd_e h
    exact t_X12_isKept_p56 hR hQ hd h
/-! CalledRiverModel.yearGoes -/
set_option maxHeartbeats 4000000 in
set_option maxRecDepth 100000 in
def sX12_yearGoes_p49 (v1 : Int32) (v2 : Int32) (Q : Int32 → St → Prop) (K7 : Int32 → St → Prop) (u : St) : Prop :=
  K7 (v2 + (1 : Int32)) u
set_option maxHeartbeats 4000000 in
set_option maxRecDepth 100000 in
def sX12_yearGoes_p65b (v1 : Int32) (v2 : Int32) (Q : Int32 → St → Prop) (K65 : Int32 → St → Prop) (v3 : Int32) (u : St) : Prop :=
  s_X12_farmMany  (fun r16 u17 => if r16 ≤ v3 then (s_X12_isKept v1 v2 (fun u19 => vp_in (0 : Int32) 236 ∧ (bnd (tI u19 241 (0 : Int32).toNatClampNeg ((u19.1 241 (0 : Int32).toNatClampNeg) + (1 : Int32))) (fun u22 => Q v2 u22))) u17) else (s_X12_bakedBy v3 (fun r24 u25 => vp_in ((109 : Int32) + v3) 236 ∧ bnd (tI u25 241 ((109 : Int32) + v3).toNatClampNeg r24) (fun u27 => K65 (v3 + (1 : Int32)) u27)) u17)) u
set_option maxHeartbeats 4000000 in
set_option maxRecDepth 100000 in
def sX12_yearGoes_p65n (v1 : Int32) (v2 : Int32) (Q : Int32 → St → Prop) : Nat → Int32 → St → Prop
  | 0 => fun _ _ => False
  | n + 1 => sX12_yearGoes_p65b v1 v2 Q (sX12_yearGoes_p65n v1 v2 Q n)
set_option maxHeartbeats 4000000 in
set_option maxRecDepth 100000 in
def sX12_yearGoes_p65 (v1 : Int32) (v2 : Int32) (Q : Int32 → St → Prop) (v3 : Int32) (u : St) : Prop := ∃ n, sX12_yearGoes_p65n v1 v2 Q n v3 u
set_option maxHeartbeats 4000000 in
set_option maxRecDepth 100000 in
def sX12_yearGoes_p7b (v1 : Int32) (Q : Int32 → St → Prop) (K7 : Int32 → St → Prop) (v2 : Int32) (u : St) : Prop :=
  if (u.1 198 64) ≤ v2 then (s_X12_wateredSet  (fun r3 u4 => s_X12_bits r3 (fun r5 u6 => sX12_yearGoes_p65 v1 r5 Q (0 : Int32) u6) u4) u) else (vp_in v2 36 ∧ (s_X12_beenOf (u.1 242 v2.toNatClampNeg) (fun r9 u10 => if (99 : Int32) ≤ r9 then (sX12_yearGoes_p49 v1 v2 Q K7 u10) else (vp_in v2 36 ∧ (vp_in ((3 : Int32) + ((3 : Int32) * (u10.1 242 v2.toNatClampNeg))) 236 ∧ (bnd (tI u10 241 ((3 : Int32) + ((3 : Int32) * (u10.1 242 v2.toNatClampNeg))).toNatClampNeg ((u10.1 241 ((3 : Int32) + ((3 : Int32) * (u10.1 242 v2.toNatClampNeg))).toNatClampNeg) + (1 : Int32))) (fun u15 => sX12_yearGoes_p49 v1 v2 Q K7 u15))))) u))
set_option maxHeartbeats 4000000 in
set_option maxRecDepth 100000 in
def sX12_yearGoes_p7n (v1 : Int32) (Q : Int32 → St → Prop) : Nat → Int32 → St → Prop
  | 0 => fun _ _ => False
  | n + 1 => sX12_yearGoes_p7b v1 Q (sX12_yearGoes_p7n v1 Q n)
set_option maxHeartbeats 4000000 in
set_option maxRecDepth 100000 in
def sX12_yearGoes_p7 (v1 : Int32) (Q : Int32 → St → Prop) (v2 : Int32) (u : St) : Prop := ∃ n, sX12_yearGoes_p7n v1 Q n v2 u
set_option maxHeartbeats 4000000 in
set_option maxRecDepth 100000 in
def s_X12_yearGoes (v1 : Int32) (Q : Int32 → St → Prop) (u : St) : Prop :=
  s_X12_laysWay v1 (fun u2 => sX12_yearGoes_p7 v1 Q (0 : Int32) u2) u
set_option maxHeartbeats 4000000 in
set_option maxRecDepth 100000 in
theorem t_X12_yearGoes_p49 {ρ : Nat → Nat → Option Nat} (hR : RfH ρ) {v1 : Int32} {v2 : Int32} {Q : Int32 → St → Prop} {QW : Int32 → Mem → Prop} {K7 : Int32 → St → Prop} {KW7 : Int32 → Mem → Prop} (hQ : ∀ (r : Int32) (u : St), DK u → Q r u → QW r (emb ρ u)) (hK7 : ∀ (x2 : Int32) (u : St), DK u → K7 x2 u → KW7 x2 (emb ρ u)) {u : St} (hd : DK u) (h : sX12_yearGoes_p49 v1 v2 Q K7 u) : X12_yearGoes_p49 SH 198 v1 v2 QW KW7 (emb ρ u) := by
  unfold X12_yearGoes_p49
  unfold sX12_yearGoes_p49 at h
  exact hK7 _ _ hd h
set_option maxHeartbeats 4000000 in
set_option maxRecDepth 100000 in
theorem t_X12_yearGoes_p65b {ρ : Nat → Nat → Option Nat} (hR : RfH ρ) {v1 : Int32} {v2 : Int32} {v3 : Int32} {Q : Int32 → St → Prop} {QW : Int32 → Mem → Prop} (hQ : ∀ (r : Int32) (u : St), DK u → Q r u → QW r (emb ρ u)) {K65 : Int32 → St → Prop} {KW65 : Int32 → Mem → Prop} (hK65 : ∀ (x3 : Int32) (u : St), DK u → K65 x3 u → KW65 x3 (emb ρ u)) {u : St} (hd : DK u) (h : sX12_yearGoes_p65b v1 v2 Q K65 v3 u) : X12_yearGoes_p65b SH 198 v1 v2 QW KW65 v3 (emb ρ u) := by
  unfold X12_yearGoes_p65b
  unfold sX12_yearGoes_p65b at h
  refine ⟨on_198, ?_⟩
  refine t_X12_farmMany hR (fun r16 u17 hd h => ?_) hd h
  refine ite_mono (fun hc h => ?_) (fun hc h => ?_) h
  · refine t_X12_isKept hR (fun u19 hd h => ?_) hd h
    refine ⟨_, rn_198_58 hR _, ?_⟩
    obtain ⟨x21, h⟩ := h
    refine ⟨ix_i (show SH[241]? = some (100, 236) from rfl) x21, ?_⟩
    refine bnd_I ?_
    replace h := bnd_e h
    exact hQ _ _ hd h
  · refine ⟨_, rn_198_58 hR _, ?_⟩
    refine t_X12_bakedBy hR (fun r24 u25 hd h => ?_) hd h
    obtain ⟨x26, h⟩ := h
    refine ⟨ix_i (show SH[241]? = some (100, 236) from rfl) x26, ?_⟩
    refine bnd_I ?_
    replace h := bnd_e h
    exact hK65 _ _ hd h
set_option maxHeartbeats 4000000 in
set_option maxRecDepth 100000 in
theorem t_X12_yearGoes_p65n {ρ : Nat → Nat → Option Nat} (hR : RfH ρ) {v1 : Int32} {v2 : Int32} {Q : Int32 → St → Prop} {QW : Int32 → Mem → Prop} (hQ : ∀ (r : Int32) (u : St), DK u → Q r u → QW r (emb ρ u)) : ∀ (n : Nat) (v3 : Int32) (u : St), DK u → sX12_yearGoes_p65n v1 v2 Q n v3 u → X12_yearGoes_p65n SH 198 v1 v2 QW n v3 (emb ρ u)
  | 0, _, _,  _, h => h.elim
  | n + 1, v3,  u,  hd, h => t_X12_yearGoes_p65b hR hQ (fun v3 u  hd h => t_X12_yearGoes_p65n hR hQ n v3 u  hd h) hd h
set_option maxHeartbeats 4000000 in
set_option maxRecDepth 100000 in
theorem t_X12_yearGoes_p65 {ρ : Nat → Nat → Option Nat} (hR : RfH ρ) {v1 : Int32} {v2 : Int32} {v3 : Int32} {Q : Int32 → St → Prop} {QW : Int32 → Mem → Prop} (hQ : ∀ (r : Int32) (u : St), DK u → Q r u → QW r (emb ρ u)) {u : St} (hd : DK u) (h : sX12_yearGoes_p65 v1 v2 Q v3 u) : X12_yearGoes_p65 SH 198 v1 v2 QW v3 (emb ρ u) := h.elim (fun n h => ⟨n, t_X12_yearGoes_p65n hR hQ n _ _ hd h⟩)
set_option maxHeartbeats 4000000 in
set_option maxRecDepth 100000 in
theorem t_X12_yearGoes_p7b {ρ : Nat → Nat → Option Nat} (hR : RfH ρ) {v1 : Int32} {v2 : Int32} {Q : Int32 → St → Prop} {QW : Int32 → Mem → Prop} (hQ : ∀ (r : Int32) (u : St), DK u → Q r u → QW r (emb ρ u)) {K7 : Int32 → St → Prop} {KW7 : Int32 → Mem → Prop} (hK7 : ∀ (x2 : Int32) (u : St), DK u → K7 x2 u → KW7 x2 (emb ρ u)) {u : St} (hd : DK u) (h : sX12_yearGoes_p7b v1 Q K7 v2 u) : X12_yearGoes_p7b SH 198 v1 QW KW7 v2 (emb ρ u) := by
  unfold X12_yearGoes_p7b
  unfold sX12_yearGoes_p7b at h
  refine ⟨on_198, ?_⟩
  refine ite_mono (fun hc h => ?_) (fun hc h => ?_) h
  · refine t_X12_wateredSet hR (fun r3 u4 hd h => ?_) hd h
    refine t_X12_bits hR (fun r5 u6 hd h => ?_) hd h
    exact t_X12_yearGoes_p65 hR hQ hd h
  · refine ⟨_, rn_198_63 hR _, ?_⟩
    obtain ⟨x8, h⟩ := h
    refine ⟨ix_i (show SH[242]? = some (100, 36) from rfl) x8, ?_⟩
    refine t_X12_beenOf hR (fun r9 u10 hd h => ?_) hd h
    refine ite_mono (fun hc h => ?_) (fun hc h => ?_) h
    · exact t_X12_yearGoes_p49 hR hQ hK7 hd h
    · refine ⟨_, rn_198_58 hR _, ?_⟩
      refine ⟨_, rn_198_63 hR _, ?_⟩
      obtain ⟨x13, h⟩ := h
      refine ⟨ix_i (show SH[242]? = some (100, 36) from rfl) x13, ?_⟩
      obtain ⟨x14, h⟩ := h
      refine ⟨ix_i (show SH[241]? = some (100, 236) from rfl) x14, ?_⟩
      refine bnd_I ?_
      replace h := bnd_e h
      exact t_X12_yearGoes_p49 hR hQ hK7 hd h
set_option maxHeartbeats 4000000 in
set_option maxRecDepth 100000 in
theorem t_X12_yearGoes_p7n {ρ : Nat → Nat → Option Nat} (hR : RfH ρ) {v1 : Int32} {Q : Int32 → St → Prop} {QW : Int32 → Mem → Prop} (hQ : ∀ (r : Int32) (u : St), DK u → Q r u → QW r (emb ρ u)) : ∀ (n : Nat) (v2 : Int32) (u : St), DK u → sX12_yearGoes_p7n v1 Q n v2 u → X12_yearGoes_p7n SH 198 v1 QW n v2 (emb ρ u)
  | 0, _, _,  _, h => h.elim
  | n + 1, v2,  u,  hd, h => t_X12_yearGoes_p7b hR hQ (fun v2 u  hd h => t_X12_yearGoes_p7n hR hQ n v2 u  hd h) hd h
set_option maxHeartbeats 4000000 in
set_option maxRecDepth 100000 in
theorem t_X12_yearGoes_p7 {ρ : Nat → Nat → Option Nat} (hR : RfH ρ) {v1 : Int32} {v2 : Int32} {Q : Int32 → St → Prop} {QW : Int32 → Mem → Prop} (hQ : ∀ (r : Int32) (u : St), DK u → Q r u → QW r (emb ρ u)) {u : St} (hd : DK u) (h : sX12_yearGoes_p7 v1 Q v2 u) : X12_yearGoes_p7 SH 198 v1 QW v2 (emb ρ u) := h.elim (fun n h => ⟨n, t_X12_yearGoes_p7n hR hQ n _ _ hd h⟩)
set_option maxHeartbeats 4000000 in
set_option maxRecDepth 100000 in
theorem t_X12_yearGoes {ρ : Nat → Nat → Option Nat} (hR : RfH ρ) {v1 : Int32} {Q : Int32 → St → Prop} {QW : Int32 → Mem → Prop} (hQ : ∀ (r : Int32) (u : St), DK u → Q r u → QW r (emb ρ u)) {u : St} (hd : DK u) (h : s_X12_yearGoes v1 Q u) : wp_X12_yearGoes SH 198 v1 QW (emb ρ u) := by
  unfold wp_X12_yearGoes
  unfold s_X12_yearGoes at h
  refine ⟨on_198, ?_⟩
  refine t_X12_laysWay hR (fun u2 hd h => ?_) hd h
  exact t_X12_yearGoes_p7 hR hQ hd h
/-! CalledRiverModel.chance -/
set_option maxHeartbeats 4000000 in
set_option maxRecDepth 100000 in
def sX12_chance_p25 (Q : Int32 → St → Prop) (u : St) : Prop :=
  s_X12_refuses (2 : Int32) (fun r9 u10 => Q r9 u10) u
set_option maxHeartbeats 4000000 in
set_option maxRecDepth 100000 in
def sX12_chance_p39b (v1 : Int32) (Q : Int32 → St → Prop) (K39 : Int32 → Int32 → St → Prop) (v2 : Int32) (v3 : Int32) (u : St) : Prop :=
  if v1 ≤ v3 then (Q v2 u) else (s_X12_callerMany  (fun r11 u12 => s_X12_drawOf r11 (fun r13 u14 => s_X12_yearGoes r13 (fun r15 u16 => K39 (v2 + r15) (v3 + (1 : Int32)) u16) u14) u12) u)
set_option maxHeartbeats 4000000 in
set_option maxRecDepth 100000 in
def sX12_chance_p39n (v1 : Int32) (Q : Int32 → St → Prop) : Nat → Int32 → Int32 → St → Prop
  | 0 => fun _ _ _ => False
  | n + 1 => sX12_chance_p39b v1 Q (sX12_chance_p39n v1 Q n)
set_option maxHeartbeats 4000000 in
set_option maxRecDepth 100000 in
def sX12_chance_p39 (v1 : Int32) (Q : Int32 → St → Prop) (v2 : Int32) (v3 : Int32) (u : St) : Prop := ∃ n, sX12_chance_p39n v1 Q n v2 v3 u
set_option maxHeartbeats 4000000 in
set_option maxRecDepth 100000 in
def s_X12_chance (v1 : Int32) (Q : Int32 → St → Prop) (u : St) : Prop :=
  s_X12_isAhead v1 (1 : Int32) (100 : Int32) (fun r1 u2 => if r1 = 0 then (sX12_chance_p25 Q u2) else (s_X12_callerMany  (fun r3 u4 => if r3 = 0 then (sX12_chance_p25 Q u4) else (s_X12_hasWay  (fun r5 u6 => if r5 = 0 then (sX12_chance_p25 Q u6) else (s_X12_keeps  (fun u8 => sX12_chance_p39 v1 Q (0 : Int32) (0 : Int32) u8) u6)) u4)) u2)) u
set_option maxHeartbeats 4000000 in
set_option maxRecDepth 100000 in
theorem t_X12_chance_p25 {ρ : Nat → Nat → Option Nat} (hR : RfH ρ) {Q : Int32 → St → Prop} {QW : Int32 → Mem → Prop} (hQ : ∀ (r : Int32) (u : St), DK u → Q r u → QW r (emb ρ u)) {u : St} (hd : DK u) (h : sX12_chance_p25 Q u) : X12_chance_p25 SH 198 QW (emb ρ u) := by
  unfold X12_chance_p25
  unfold sX12_chance_p25 at h
  refine ⟨on_198, ?_⟩
  refine t_X12_refuses hR (fun r9 u10 hd h => ?_) hd h
  exact hQ _ _ hd h
set_option maxHeartbeats 4000000 in
set_option maxRecDepth 100000 in
theorem t_X12_chance_p39b {ρ : Nat → Nat → Option Nat} (hR : RfH ρ) {v1 : Int32} {v2 : Int32} {v3 : Int32} {Q : Int32 → St → Prop} {QW : Int32 → Mem → Prop} (hQ : ∀ (r : Int32) (u : St), DK u → Q r u → QW r (emb ρ u)) {K39 : Int32 → Int32 → St → Prop} {KW39 : Int32 → Int32 → Mem → Prop} (hK39 : ∀ (x2 : Int32) (x3 : Int32) (u : St), DK u → K39 x2 x3 u → KW39 x2 x3 (emb ρ u)) {u : St} (hd : DK u) (h : sX12_chance_p39b v1 Q K39 v2 v3 u) : X12_chance_p39b SH 198 v1 QW KW39 v2 v3 (emb ρ u) := by
  unfold X12_chance_p39b
  unfold sX12_chance_p39b at h
  refine ite_mono (fun hc h => ?_) (fun hc h => ?_) h
  · exact hQ _ _ hd h
  · refine ⟨on_198, ?_⟩
    refine t_X12_callerMany hR (fun r11 u12 hd h => ?_) hd h
    refine t_X12_drawOf hR (fun r13 u14 hd h => ?_) hd h
    refine t_X12_yearGoes hR (fun r15 u16 hd h => ?_) hd h
    exact hK39 _ _ _ hd h
set_option maxHeartbeats 4000000 in
set_option maxRecDepth 100000 in
theorem t_X12_chance_p39n {ρ : Nat → Nat → Option Nat} (hR : RfH ρ) {v1 : Int32} {Q : Int32 → St → Prop} {QW : Int32 → Mem → Prop} (hQ : ∀ (r : Int32) (u : St), DK u → Q r u → QW r (emb ρ u)) : ∀ (n : Nat) (v2 : Int32) (v3 : Int32) (u : St), DK u → sX12_chance_p39n v1 Q n v2 v3 u → X12_chance_p39n SH 198 v1 QW n v2 v3 (emb ρ u)
  | 0, _,_, _,  _, h => h.elim
  | n + 1, v2, v3,  u,  hd, h => t_X12_chance_p39b hR hQ (fun v2 v3 u  hd h => t_X12_chance_p39n hR hQ n v2 v3 u  hd h) hd h
set_option maxHeartbeats 4000000 in
set_option maxRecDepth 100000 in
theorem t_X12_chance_p39 {ρ : Nat → Nat → Option Nat} (hR : RfH ρ) {v1 : Int32} {v2 : Int32} {v3 : Int32} {Q : Int32 → St → Prop} {QW : Int32 → Mem → Prop} (hQ : ∀ (r : Int32) (u : St), DK u → Q r u → QW r (emb ρ u)) {u : St} (hd : DK u) (h : sX12_chance_p39 v1 Q v2 v3 u) : X12_chance_p39 SH 198 v1 QW v2 v3 (emb ρ u) := h.elim (fun n h => ⟨n, t_X12_chance_p39n hR hQ n _ _ _ hd h⟩)
set_option maxHeartbeats 4000000 in
set_option maxRecDepth 100000 in
theorem t_X12_chance {ρ : Nat → Nat → Option Nat} (hR : RfH ρ) {v1 : Int32} {Q : Int32 → St → Prop} {QW : Int32 → Mem → Prop} (hQ : ∀ (r : Int32) (u : St), DK u → Q r u → QW r (emb ρ u)) {u : St} (hd : DK u) (h : s_X12_chance v1 Q u) : wp_X12_chance SH 198 v1 QW (emb ρ u) := by
  unfold wp_X12_chance
  unfold s_X12_chance at h
  refine ⟨on_198, ?_⟩
  refine t_X12_isAhead hR (fun r1 u2 hd h => ?_) hd h
  refine ite_mono (fun hc h => ?_) (fun hc h => ?_) h
  · exact t_X12_chance_p25 hR hQ hd h
  · refine t_X12_callerMany hR (fun r3 u4 hd h => ?_) hd h
    refine ite_mono (fun hc h => ?_) (fun hc h => ?_) h
    · exact t_X12_chance_p25 hR hQ hd h
    · refine t_X12_hasWay hR (fun r5 u6 hd h => ?_) hd h
      refine ite_mono (fun hc h => ?_) (fun hc h => ?_) h
      · exact t_X12_chance_p25 hR hQ hd h
      · refine t_X12_keeps hR (fun u8 hd h => ?_) hd h
        exact t_X12_chance_p39 hR hQ hd h
/-! CalledRiverModel.checked -/
set_option maxHeartbeats 4000000 in
set_option maxRecDepth 100000 in
def sX12_checked_p6b (v0 : Nat) (v1 : Int32) (Q : Int32 → St → Prop) (K6 : Int32 → Int32 → St → Prop) (v2 : Int32) (v3 : Int32) (u : St) : Prop :=
  if v1 ≤ v3 then (Q v2 u) else (Ix SH v0 100 v3 ∧ (K6 ((((3 : Int32) * v2) + (u.1 v0 v3.toNatClampNeg)) - (((3 : Int32) * v2) + (u.1 v0 v3.toNatClampNeg)) / (251 : Int32) * (251 : Int32)) (v3 + (1 : Int32)) u))
set_option maxHeartbeats 4000000 in
set_option maxRecDepth 100000 in
def sX12_checked_p6n (v0 : Nat) (v1 : Int32) (Q : Int32 → St → Prop) : Nat → Int32 → Int32 → St → Prop
  | 0 => fun _ _ _ => False
  | n + 1 => sX12_checked_p6b v0 v1 Q (sX12_checked_p6n v0 v1 Q n)
set_option maxHeartbeats 4000000 in
set_option maxRecDepth 100000 in
def sX12_checked_p6 (v0 : Nat) (v1 : Int32) (Q : Int32 → St → Prop) (v2 : Int32) (v3 : Int32) (u : St) : Prop := ∃ n, sX12_checked_p6n v0 v1 Q n v2 v3 u
set_option maxHeartbeats 4000000 in
set_option maxRecDepth 100000 in
def s_X12_checked (v0 : Nat) (v1 : Int32) (Q : Int32 → St → Prop) (u : St) : Prop :=
  sX12_checked_p6 v0 v1 Q (173 : Int32) (0 : Int32) u
set_option maxHeartbeats 4000000 in
set_option maxRecDepth 100000 in
theorem t_X12_checked_p6b {ρ : Nat → Nat → Option Nat} (hR : RfH ρ) {v0 : Nat} {v1 : Int32} {v2 : Int32} {v3 : Int32} {Q : Int32 → St → Prop} {QW : Int32 → Mem → Prop} (hQ : ∀ (r : Int32) (u : St), DK u → Q r u → QW r (emb ρ u)) {K6 : Int32 → Int32 → St → Prop} {KW6 : Int32 → Int32 → Mem → Prop} (hK6 : ∀ (x2 : Int32) (x3 : Int32) (u : St), DK u → K6 x2 x3 u → KW6 x2 x3 (emb ρ u)) {u : St} (hd : DK u) (h : sX12_checked_p6b v0 v1 Q K6 v2 v3 u) : X12_checked_p6b SH v0 v1 QW KW6 v2 v3 (emb ρ u) := by
  unfold X12_checked_p6b
  unfold sX12_checked_p6b at h
  refine ite_mono (fun hc h => ?_) (fun hc h => ?_) h
  · exact hQ _ _ hd h
  · obtain ⟨x1, h⟩ := h
    refine ⟨x1, ?_⟩
    exact hK6 _ _ _ hd h
set_option maxHeartbeats 4000000 in
set_option maxRecDepth 100000 in
theorem t_X12_checked_p6n {ρ : Nat → Nat → Option Nat} (hR : RfH ρ) {v0 : Nat} {v1 : Int32} {Q : Int32 → St → Prop} {QW : Int32 → Mem → Prop} (hQ : ∀ (r : Int32) (u : St), DK u → Q r u → QW r (emb ρ u)) : ∀ (n : Nat) (v2 : Int32) (v3 : Int32) (u : St), DK u → sX12_checked_p6n v0 v1 Q n v2 v3 u → X12_checked_p6n SH v0 v1 QW n v2 v3 (emb ρ u)
  | 0, _,_, _,  _, h => h.elim
  | n + 1, v2, v3,  u,  hd, h => t_X12_checked_p6b hR hQ (fun v2 v3 u  hd h => t_X12_checked_p6n hR hQ n v2 v3 u  hd h) hd h
set_option maxHeartbeats 4000000 in
set_option maxRecDepth 100000 in
theorem t_X12_checked_p6 {ρ : Nat → Nat → Option Nat} (hR : RfH ρ) {v0 : Nat} {v1 : Int32} {v2 : Int32} {v3 : Int32} {Q : Int32 → St → Prop} {QW : Int32 → Mem → Prop} (hQ : ∀ (r : Int32) (u : St), DK u → Q r u → QW r (emb ρ u)) {u : St} (hd : DK u) (h : sX12_checked_p6 v0 v1 Q v2 v3 u) : X12_checked_p6 SH v0 v1 QW v2 v3 (emb ρ u) := h.elim (fun n h => ⟨n, t_X12_checked_p6n hR hQ n _ _ _ hd h⟩)
set_option maxHeartbeats 4000000 in
set_option maxRecDepth 100000 in
theorem t_X12_checked {ρ : Nat → Nat → Option Nat} (hR : RfH ρ) {v0 : Nat} {v1 : Int32} {Q : Int32 → St → Prop} {QW : Int32 → Mem → Prop} (hQ : ∀ (r : Int32) (u : St), DK u → Q r u → QW r (emb ρ u)) {u : St} (hd : DK u) (h : s_X12_checked v0 v1 Q u) : wp_X12_checked SH v0 v1 QW (emb ρ u) := by
  unfold wp_X12_checked
  unfold s_X12_checked at h
  exact t_X12_checked_p6 hR hQ hd h
/-! CalledRiverModel.codesTold -/
set_option maxHeartbeats 4000000 in
set_option maxRecDepth 100000 in
def sX12_codesTold_p80b (v1 : Int32) (Q : St → Prop) (K80 : Int32 → St → Prop) (v3 : Int32) (u : St) : Prop :=
  if (u.1 198 109) ≤ v3 then (vp_in v1 4 ∧ bnd (tI u 239 v1.toNatClampNeg (u.1 198 54)) (fun u17 => Q u17)) else (vp_in v3 1700 ∧ (vp_in (u.1 198 54) 3200 ∧ bnd (tI u 240 (u.1 198 54).toNatClampNeg (u.1 282 v3.toNatClampNeg)) (fun u22 => bnd (tI u22 198 54 ((u22.1 198 54) + (1 : Int32))) (fun u23 => K80 (v3 + (1 : Int32)) u23))))
set_option maxHeartbeats 4000000 in
set_option maxRecDepth 100000 in
def sX12_codesTold_p80n (v1 : Int32) (Q : St → Prop) : Nat → Int32 → St → Prop
  | 0 => fun _ _ => False
  | n + 1 => sX12_codesTold_p80b v1 Q (sX12_codesTold_p80n v1 Q n)
set_option maxHeartbeats 4000000 in
set_option maxRecDepth 100000 in
def sX12_codesTold_p80 (v1 : Int32) (Q : St → Prop) (v3 : Int32) (u : St) : Prop := ∃ n, sX12_codesTold_p80n v1 Q n v3 u
set_option maxHeartbeats 4000000 in
set_option maxRecDepth 100000 in
def sX12_codesTold_p23 (v1 : Int32) (Q : St → Prop) (u : St) : Prop :=
  if (u.1 198 5) = 0 then (bnd (tI u 198 57 v1) (fun u5 => bnd (tI u5 198 109 (0 : Int32)) (fun u6 => bnd (tI u6 198 111 (0 : Int32)) (fun u7 => bnd (tI u7 198 112 (0 : Int32)) (fun u8 => bnd (tI u8 198 113 (0 : Int32)) (fun u9 => s_X12_qSums  (fun u11 => if (u11.1 198 5) = 0 then (vp_in v1 4 ∧ bnd (tI u11 238 v1.toNatClampNeg (u11.1 198 54)) (fun u14 => sX12_codesTold_p80 v1 Q (0 : Int32) u14)) else (Q u11)) u9)))))) else (Q u)
set_option maxHeartbeats 4000000 in
set_option maxRecDepth 100000 in
def s_X12_codesTold (v1 : Int32) (v2 : Int32) (Q : St → Prop) (u : St) : Prop :=
  if (u.1 198 5) = 0 then (vp_in v1 4 ∧ (if (u.1 238 v1.toNatClampNeg) = (-1 : Int32) then (sX12_codesTold_p23 v1 Q u) else (s_X12_fail (5 : Int32) v2 (fun u4 => sX12_codesTold_p23 v1 Q u4) u))) else (sX12_codesTold_p23 v1 Q u)
set_option maxHeartbeats 4000000 in
set_option maxRecDepth 100000 in
theorem t_X12_codesTold_p80b {ρ : Nat → Nat → Option Nat} (hR : RfH ρ) {v1 : Int32} {v3 : Int32} {Q : St → Prop} {QW : Mem → Prop} (hQ : ∀ (u : St), DK u → Q u → QW (emb ρ u)) {K80 : Int32 → St → Prop} {KW80 : Int32 → Mem → Prop} (hK80 : ∀ (x3 : Int32) (u : St), DK u → K80 x3 u → KW80 x3 (emb ρ u)) {u : St} (hd : DK u) (h : sX12_codesTold_p80b v1 Q K80 v3 u) : X12_codesTold_p80b SH 198 v1 QW KW80 v3 (emb ρ u) := by
  unfold X12_codesTold_p80b
  unfold sX12_codesTold_p80b at h
  refine ⟨on_198, ?_⟩
  refine ite_mono (fun hc h => ?_) (fun hc h => ?_) h
  · refine ⟨_, rn_198_52 hR _, ?_⟩
    obtain ⟨x16, h⟩ := h
    refine ⟨ix_i (show SH[239]? = some (100, 4) from rfl) x16, ?_⟩
    refine bnd_I ?_
    replace h := bnd_e h
    exact hQ _ hd h
  · refine ⟨_, rn_198_53 hR _, ?_⟩
    refine ⟨_, rn_198_108 hR _, ?_⟩
    obtain ⟨x20, h⟩ := h
    refine ⟨ix_i (show SH[282]? = some (100, 1700) from rfl) x20, ?_⟩
    obtain ⟨x21, h⟩ := h
    refine ⟨ix_i (show SH[240]? = some (100, 3200) from rfl) x21, ?_⟩
    refine bnd_I ?_
    replace h := bnd_e h
    refine bnd_I ?_
    replace h := bnd_e h
    exact hK80 _ _ hd h
set_option maxHeartbeats 4000000 in
set_option maxRecDepth 100000 in
theorem t_X12_codesTold_p80n {ρ : Nat → Nat → Option Nat} (hR : RfH ρ) {v1 : Int32} {Q : St → Prop} {QW : Mem → Prop} (hQ : ∀ (u : St), DK u → Q u → QW (emb ρ u)) : ∀ (n : Nat) (v3 : Int32) (u : St), DK u → sX12_codesTold_p80n v1 Q n v3 u → X12_codesTold_p80n SH 198 v1 QW n v3 (emb ρ u)
  | 0, _, _,  _, h => h.elim
  | n + 1, v3,  u,  hd, h => t_X12_codesTold_p80b hR hQ (fun v3 u  hd h => t_X12_codesTold_p80n hR hQ n v3 u  hd h) hd h
set_option maxHeartbeats 4000000 in
set_option maxRecDepth 100000 in
theorem t_X12_codesTold_p80 {ρ : Nat → Nat → Option Nat} (hR : RfH ρ) {v1 : Int32} {v3 : Int32} {Q : St → Prop} {QW : Mem → Prop} (hQ : ∀ (u : St), DK u → Q u → QW (emb ρ u)) {u : St} (hd : DK u) (h : sX12_codesTold_p80 v1 Q v3 u) : X12_codesTold_p80 SH 198 v1 QW v3 (emb ρ u) := h.elim (fun n h => ⟨n, t_X12_codesTold_p80n hR hQ n _ _ hd h⟩)
set_option maxHeartbeats 4000000 in
set_option maxRecDepth 100000 in
theorem t_X12_codesTold_p23 {ρ : Nat → Nat → Option Nat} (hR : RfH ρ) {v1 : Int32} {Q : St → Prop} {QW : Mem → Prop} (hQ : ∀ (u : St), DK u → Q u → QW (emb ρ u)) {u : St} (hd : DK u) (h : sX12_codesTold_p23 v1 Q u) : X12_codesTold_p23 SH 198 v1 QW (emb ρ u) := by
  unfold X12_codesTold_p23
  unfold sX12_codesTold_p23 at h
  refine ⟨on_198, ?_⟩
  refine ite_mono (fun hc h => ?_) (fun hc h => ?_) h
  · refine bnd_I ?_
    replace h := bnd_e h
    refine bnd_I ?_
    replace h := bnd_e h
    refine bnd_I ?_
    replace h := bnd_e h
    refine bnd_I ?_
    replace h := bnd_e h
    refine bnd_I ?_
    replace h := bnd_e h
    refine t_X12_qSums hR (fun u11 hd h => ?_) hd h
    refine ite_mono (fun hc h => ?_) (fun hc h => ?_) h
    · refine ⟨_, rn_198_51 hR _, ?_⟩
      obtain ⟨x13, h⟩ := h
      refine ⟨ix_i (show SH[238]? = some (100, 4) from rfl) x13, ?_⟩
      refine bnd_I ?_
      replace h := bnd_e h
      exact t_X12_codesTold_p80 hR hQ hd h
    · exact hQ _ hd h
  · exact hQ _ hd h
set_option maxHeartbeats 4000000 in
set_option maxRecDepth 100000 in
theorem t_X12_codesTold {ρ : Nat → Nat → Option Nat} (hR : RfH ρ) {v1 : Int32} {v2 : Int32} {Q : St → Prop} {QW : Mem → Prop} (hQ : ∀ (u : St), DK u → Q u → QW (emb ρ u)) {u : St} (hd : DK u) (h : s_X12_codesTold v1 v2 Q u) : wp_X12_codesTold SH 198 v1 v2 QW (emb ρ u) := by
  unfold wp_X12_codesTold
  unfold s_X12_codesTold at h
  refine ⟨on_198, ?_⟩
  refine ite_mono (fun hc h => ?_) (fun hc h => ?_) h
  · refine ⟨_, rn_198_51 hR _, ?_⟩
    obtain ⟨x2, h⟩ := h
    refine ⟨ix_i (show SH[238]? = some (100, 4) from rfl) x2, ?_⟩
    refine ite_mono (fun hc h => ?_) (fun hc h => ?_) h
    · exact t_X12_codesTold_p23 hR hQ hd h
    · refine t_X12_fail hR (fun u4 hd h => ?_) hd h
      exact t_X12_codesTold_p23 hR hQ hd h
  · exact t_X12_codesTold_p23 hR hQ hd h
/-! CalledRiverModel.dig -/
set_option maxHeartbeats 4000000 in
set_option maxRecDepth 100000 in
def sX12_dig_p28 (Q : Int32 → St → Prop) (u : St) : Prop :=
  s_X12_refuses (3 : Int32) (fun r14 u15 => Q r14 u15) u
set_option maxHeartbeats 4000000 in
set_option maxRecDepth 100000 in
def s_X12_dig (v1 : Int32) (v2 : Int32) (Q : Int32 → St → Prop) (u : St) : Prop :=
  s_X12_cellAt v1 v2 (fun r1 u2 => if r1 = (-1 : Int32) then (sX12_dig_p28 Q u2) else (s_X12_isStone r1 (fun r3 u4 => if r3 = 0 then (s_X12_heightOf r1 (fun r5 u6 => if r5 = 0 then (sX12_dig_p28 Q u6) else (s_X12_keeps  (fun u8 => vp_in ((1 : Int32) + ((3 : Int32) * r1)) 236 ∧ (bnd (tI u8 241 ((1 : Int32) + ((3 : Int32) * r1)).toNatClampNeg ((u8.1 241 ((1 : Int32) + ((3 : Int32) * r1)).toNatClampNeg) - (1 : Int32))) (fun u11 => s_X12_heightOf r1 (fun r12 u13 => Q r12 u13) u11))) u6)) u4) else (sX12_dig_p28 Q u4)) u2)) u
set_option maxHeartbeats 4000000 in
set_option maxRecDepth 100000 in
theorem t_X12_dig_p28 {ρ : Nat → Nat → Option Nat} (hR : RfH ρ) {Q : Int32 → St → Prop} {QW : Int32 → Mem → Prop} (hQ : ∀ (r : Int32) (u : St), DK u → Q r u → QW r (emb ρ u)) {u : St} (hd : DK u) (h : sX12_dig_p28 Q u) : X12_dig_p28 SH 198 QW (emb ρ u) := by
  unfold X12_dig_p28
  unfold sX12_dig_p28 at h
  refine ⟨on_198, ?_⟩
  refine t_X12_refuses hR (fun r14 u15 hd h => ?_) hd h
  exact hQ _ _ hd h
set_option maxHeartbeats 4000000 in
set_option maxRecDepth 100000 in
theorem t_X12_dig {ρ : Nat → Nat → Option Nat} (hR : RfH ρ) {v1 : Int32} {v2 : Int32} {Q : Int32 → St → Prop} {QW : Int32 → Mem → Prop} (hQ : ∀ (r : Int32) (u : St), DK u → Q r u → QW r (emb ρ u)) {u : St} (hd : DK u) (h : s_X12_dig v1 v2 Q u) : wp_X12_dig SH 198 v1 v2 QW (emb ρ u) := by
  unfold wp_X12_dig
  unfold s_X12_dig at h
  refine ⟨on_198, ?_⟩
  refine t_X12_cellAt hR (fun r1 u2 hd h => ?_) hd h
  refine ite_mono (fun hc h => ?_) (fun hc h => ?_) h
  · exact t_X12_dig_p28 hR hQ hd h
  · refine t_X12_isStone hR (fun r3 u4 hd h => ?_) hd h
    refine ite_mono (fun hc h => ?_) (fun hc h => ?_) h
    · refine t_X12_heightOf hR (fun r5 u6 hd h => ?_) hd h
      refine ite_mono (fun hc h => ?_) (fun hc h => ?_) h
      · exact t_X12_dig_p28 hR hQ hd h
      · refine t_X12_keeps hR (fun u8 hd h => ?_) hd h
        refine ⟨_, rn_198_58 hR _, ?_⟩
        obtain ⟨x10, h⟩ := h
        refine ⟨ix_i (show SH[241]? = some (100, 236) from rfl) x10, ?_⟩
        refine bnd_I ?_
        replace h := bnd_e h
        refine t_X12_heightOf hR (fun r12 u13 hd h => ?_) hd h
        exact hQ _ _ hd h
    · exact t_X12_dig_p28 hR hQ hd h
/-! CalledRiverModel.setBehind -/
set_option maxHeartbeats 4000000 in
set_option maxRecDepth 100000 in
def s_X12_setBehind (v1 : Int32) (v2 : Int32) (v3 : Int32) (Q : Int32 → St → Prop) (u : St) : Prop :=
  s_X12_farmAt v2 (fun r1 u2 => if r1 = (-1 : Int32) then (Q v1 u2) else (s_X12_dayOf r1 (fun r3 u4 => if r3 < v3 then (Q v1 u4) else (Q (v1 ||| ((1 : Int32) <<< (r1 &&& 31))) u4)) u2)) u
set_option maxHeartbeats 4000000 in
set_option maxRecDepth 100000 in
theorem t_X12_setBehind {ρ : Nat → Nat → Option Nat} (hR : RfH ρ) {v1 : Int32} {v2 : Int32} {v3 : Int32} {Q : Int32 → St → Prop} {QW : Int32 → Mem → Prop} (hQ : ∀ (r : Int32) (u : St), DK u → Q r u → QW r (emb ρ u)) {u : St} (hd : DK u) (h : s_X12_setBehind v1 v2 v3 Q u) : wp_X12_setBehind SH 198 v1 v2 v3 QW (emb ρ u) := by
  unfold wp_X12_setBehind
  unfold s_X12_setBehind at h
  refine ⟨on_198, ?_⟩
  refine t_X12_farmAt hR (fun r1 u2 hd h => ?_) hd h
  refine ite_mono (fun hc h => ?_) (fun hc h => ?_) h
  · exact hQ _ _ hd h
  · refine t_X12_dayOf hR (fun r3 u4 hd h => ?_) hd h
    refine ite_mono (fun hc h => ?_) (fun hc h => ?_) h
    · exact hQ _ _ hd h
    · exact hQ _ _ hd h
/-! CalledRiverModel.isBegun -/
set_option maxHeartbeats 4000000 in
set_option maxRecDepth 100000 in
def sX12_isBegun_p24b (Q : Int32 → St → Prop) (K24 : Int32 → St → Prop) (v1 : Int32) (u : St) : Prop :=
  if (64 : Int32) ≤ v1 then (s_X12_hasWay  (fun r4 u5 => if r4 = 0 then (Q (0 : Int32) u5) else (s_X12_setBehind (0 : Int32) (u5.1 198 44) (0 : Int32) (fun r6 u7 => vp_in (((64 : Int32) * (u7.1 198 44)) + r6) 2304 ∧ bnd (tI u7 245 (((64 : Int32) * (u7.1 198 44)) + r6).toNatClampNeg (vp_nar .boolean (1 : Int32))) (fun u10 => vp_in r6 64 ∧ bnd (tI u10 247 r6.toNatClampNeg (vp_nar .boolean (1 : Int32))) (fun u13 => Q (1 : Int32) u13))) u5)) u) else (vp_in v1 64 ∧ bnd (tI u 247 v1.toNatClampNeg (vp_nar .boolean (0 : Int32))) (fun u16 => K24 (v1 + (1 : Int32)) u16))
set_option maxHeartbeats 4000000 in
set_option maxRecDepth 100000 in
def sX12_isBegun_p24n (Q : Int32 → St → Prop) : Nat → Int32 → St → Prop
  | 0 => fun _ _ => False
  | n + 1 => sX12_isBegun_p24b Q (sX12_isBegun_p24n Q n)
set_option maxHeartbeats 4000000 in
set_option maxRecDepth 100000 in
def sX12_isBegun_p24 (Q : Int32 → St → Prop) (v1 : Int32) (u : St) : Prop := ∃ n, sX12_isBegun_p24n Q n v1 u
set_option maxHeartbeats 4000000 in
set_option maxRecDepth 100000 in
def sX12_isBegun_p2b (Q : Int32 → St → Prop) (K2 : Int32 → St → Prop) (v1 : Int32) (u : St) : Prop :=
  if (2304 : Int32) ≤ v1 then (sX12_isBegun_p24 Q (0 : Int32) u) else (vp_in v1 2304 ∧ bnd (tI u 245 v1.toNatClampNeg (vp_nar .boolean (0 : Int32))) (fun u3 => K2 (v1 + (1 : Int32)) u3))
set_option maxHeartbeats 4000000 in
set_option maxRecDepth 100000 in
def sX12_isBegun_p2n (Q : Int32 → St → Prop) : Nat → Int32 → St → Prop
  | 0 => fun _ _ => False
  | n + 1 => sX12_isBegun_p2b Q (sX12_isBegun_p2n Q n)
set_option maxHeartbeats 4000000 in
set_option maxRecDepth 100000 in
def sX12_isBegun_p2 (Q : Int32 → St → Prop) (v1 : Int32) (u : St) : Prop := ∃ n, sX12_isBegun_p2n Q n v1 u
set_option maxHeartbeats 4000000 in
set_option maxRecDepth 100000 in
def s_X12_isBegun (Q : Int32 → St → Prop) (u : St) : Prop :=
  sX12_isBegun_p2 Q (0 : Int32) u
set_option maxHeartbeats 4000000 in
set_option maxRecDepth 100000 in
theorem t_X12_isBegun_p24b {ρ : Nat → Nat → Option Nat} (hR : RfH ρ) {v1 : Int32} {Q : Int32 → St → Prop} {QW : Int32 → Mem → Prop} (hQ : ∀ (r : Int32) (u : St), DK u → Q r u → QW r (emb ρ u)) {K24 : Int32 → St → Prop} {KW24 : Int32 → Mem → Prop} (hK24 : ∀ (x1 : Int32) (u : St), DK u → K24 x1 u → KW24 x1 (emb ρ u)) {u : St} (hd : DK u) (h : sX12_isBegun_p24b Q K24 v1 u) : X12_isBegun_p24b SH 198 QW KW24 v1 (emb ρ u) := by
  unfold X12_isBegun_p24b
  unfold sX12_isBegun_p24b at h
  refine ite_mono (fun hc h => ?_) (fun hc h => ?_) h
  · refine ⟨on_198, ?_⟩
    refine t_X12_hasWay hR (fun r4 u5 hd h => ?_) hd h
    refine ite_mono (fun hc h => ?_) (fun hc h => ?_) h
    · exact hQ _ _ hd h
    · refine t_X12_setBehind hR (fun r6 u7 hd h => ?_) hd h
      refine ⟨_, rn_198_67 hR _, ?_⟩
      obtain ⟨x9, h⟩ := h
      refine ⟨ix_i (show SH[245]? = some (102, 2304) from rfl) x9, ?_⟩
      refine bnd_I ?_
      replace h := bnd_e h
      refine ⟨_, rn_198_69 hR _, ?_⟩
      obtain ⟨x12, h⟩ := h
      refine ⟨ix_i (show SH[247]? = some (102, 64) from rfl) x12, ?_⟩
      refine bnd_I ?_
      replace h := bnd_e h
      exact hQ _ _ hd h
  · refine ⟨on_198, ?_⟩
    refine ⟨_, rn_198_69 hR _, ?_⟩
    obtain ⟨x15, h⟩ := h
    refine ⟨ix_i (show SH[247]? = some (102, 64) from rfl) x15, ?_⟩
    refine bnd_I ?_
    replace h := bnd_e h
    exact hK24 _ _ hd h
set_option maxHeartbeats 4000000 in
set_option maxRecDepth 100000 in
theorem t_X12_isBegun_p24n {ρ : Nat → Nat → Option Nat} (hR : RfH ρ) {Q : Int32 → St → Prop} {QW : Int32 → Mem → Prop} (hQ : ∀ (r : Int32) (u : St), DK u → Q r u → QW r (emb ρ u)) : ∀ (n : Nat) (v1 : Int32) (u : St), DK u → sX12_isBegun_p24n Q n v1 u → X12_isBegun_p24n SH 198 QW n v1 (emb ρ u)
  | 0, _, _,  _, h => h.elim
  | n + 1, v1,  u,  hd, h => t_X12_isBegun_p24b hR hQ (fun v1 u  hd h => t_X12_isBegun_p24n hR hQ n v1 u  hd h) hd h
set_option maxHeartbeats 4000000 in
set_option maxRecDepth 100000 in
theorem t_X12_isBegun_p24 {ρ : Nat → Nat → Option Nat} (hR : RfH ρ) {v1 : Int32} {Q : Int32 → St → Prop} {QW : Int32 → Mem → Prop} (hQ : ∀ (r : Int32) (u : St), DK u → Q r u → QW r (emb ρ u)) {u : St} (hd : DK u) (h : sX12_isBegun_p24 Q v1 u) : X12_isBegun_p24 SH 198 QW v1 (emb ρ u) := h.elim (fun n h => ⟨n, t_X12_isBegun_p24n hR hQ n _ _ hd h⟩)
set_option maxHeartbeats 4000000 in
set_option maxRecDepth 100000 in
theorem t_X12_isBegun_p2b {ρ : Nat → Nat → Option Nat} (hR : RfH ρ) {v1 : Int32} {Q : Int32 → St → Prop} {QW : Int32 → Mem → Prop} (hQ : ∀ (r : Int32) (u : St), DK u → Q r u → QW r (emb ρ u)) {K2 : Int32 → St → Prop} {KW2 : Int32 → Mem → Prop} (hK2 : ∀ (x1 : Int32) (u : St), DK u → K2 x1 u → KW2 x1 (emb ρ u)) {u : St} (hd : DK u) (h : sX12_isBegun_p2b Q K2 v1 u) : X12_isBegun_p2b SH 198 QW KW2 v1 (emb ρ u) := by
  unfold X12_isBegun_p2b
  unfold sX12_isBegun_p2b at h
  refine ite_mono (fun hc h => ?_) (fun hc h => ?_) h
  · exact t_X12_isBegun_p24 hR hQ hd h
  · refine ⟨on_198, ?_⟩
    refine ⟨_, rn_198_67 hR _, ?_⟩
    obtain ⟨x2, h⟩ := h
    refine ⟨ix_i (show SH[245]? = some (102, 2304) from rfl) x2, ?_⟩
    refine bnd_I ?_
    replace h := bnd_e h
    exact hK2 _ _ hd h
set_option maxHeartbeats 4000000 in
set_option maxRecDepth 100000 in
theorem t_X12_isBegun_p2n {ρ : Nat → Nat → Option Nat} (hR : RfH ρ) {Q : Int32 → St → Prop} {QW : Int32 → Mem → Prop} (hQ : ∀ (r : Int32) (u : St), DK u → Q r u → QW r (emb ρ u)) : ∀ (n : Nat) (v1 : Int32) (u : St), DK u → sX12_isBegun_p2n Q n v1 u → X12_isBegun_p2n SH 198 QW n v1 (emb ρ u)
  | 0, _, _,  _, h => h.elim
  | n + 1, v1,  u,  hd, h => t_X12_isBegun_p2b hR hQ (fun v1 u  hd h => t_X12_isBegun_p2n hR hQ n v1 u  hd h) hd h
set_option maxHeartbeats 4000000 in
set_option maxRecDepth 100000 in
theorem t_X12_isBegun_p2 {ρ : Nat → Nat → Option Nat} (hR : RfH ρ) {v1 : Int32} {Q : Int32 → St → Prop} {QW : Int32 → Mem → Prop} (hQ : ∀ (r : Int32) (u : St), DK u → Q r u → QW r (emb ρ u)) {u : St} (hd : DK u) (h : sX12_isBegun_p2 Q v1 u) : X12_isBegun_p2 SH 198 QW v1 (emb ρ u) := h.elim (fun n h => ⟨n, t_X12_isBegun_p2n hR hQ n _ _ hd h⟩)
set_option maxHeartbeats 4000000 in
set_option maxRecDepth 100000 in
theorem t_X12_isBegun {ρ : Nat → Nat → Option Nat} (hR : RfH ρ) {Q : Int32 → St → Prop} {QW : Int32 → Mem → Prop} (hQ : ∀ (r : Int32) (u : St), DK u → Q r u → QW r (emb ρ u)) {u : St} (hd : DK u) (h : s_X12_isBegun Q u) : wp_X12_isBegun SH 198 QW (emb ρ u) := by
  unfold wp_X12_isBegun
  unfold s_X12_isBegun at h
  exact t_X12_isBegun_p2 hR hQ hd h
/-! CalledRiverModel.isThere -/
set_option maxHeartbeats 4000000 in
set_option maxRecDepth 100000 in
def sX12_isThere_p26 (v1 : Int32) (v2 : Int32) (Q : Int32 → St → Prop) (K2 : Int32 → St → Prop) (u : St) : Prop :=
  K2 (v2 + (1 : Int32)) u
set_option maxHeartbeats 4000000 in
set_option maxRecDepth 100000 in
def sX12_isThere_p2b (v1 : Int32) (Q : Int32 → St → Prop) (K2 : Int32 → St → Prop) (v2 : Int32) (u : St) : Prop :=
  if (64 : Int32) ≤ v2 then (Q (0 : Int32) u) else (vp_in v2 64 ∧ (if (u.1 247 v2.toNatClampNeg) = 0 then (sX12_isThere_p26 v1 v2 Q K2 u) else (if (v2 &&& v1) = v1 then (Q (1 : Int32) u) else (sX12_isThere_p26 v1 v2 Q K2 u))))
set_option maxHeartbeats 4000000 in
set_option maxRecDepth 100000 in
def sX12_isThere_p2n (v1 : Int32) (Q : Int32 → St → Prop) : Nat → Int32 → St → Prop
  | 0 => fun _ _ => False
  | n + 1 => sX12_isThere_p2b v1 Q (sX12_isThere_p2n v1 Q n)
set_option maxHeartbeats 4000000 in
set_option maxRecDepth 100000 in
def sX12_isThere_p2 (v1 : Int32) (Q : Int32 → St → Prop) (v2 : Int32) (u : St) : Prop := ∃ n, sX12_isThere_p2n v1 Q n v2 u
set_option maxHeartbeats 4000000 in
set_option maxRecDepth 100000 in
def s_X12_isThere (v1 : Int32) (Q : Int32 → St → Prop) (u : St) : Prop :=
  sX12_isThere_p2 v1 Q (0 : Int32) u
set_option maxHeartbeats 4000000 in
set_option maxRecDepth 100000 in
theorem t_X12_isThere_p26 {ρ : Nat → Nat → Option Nat} (hR : RfH ρ) {v1 : Int32} {v2 : Int32} {Q : Int32 → St → Prop} {QW : Int32 → Mem → Prop} {K2 : Int32 → St → Prop} {KW2 : Int32 → Mem → Prop} (hQ : ∀ (r : Int32) (u : St), DK u → Q r u → QW r (emb ρ u)) (hK2 : ∀ (x2 : Int32) (u : St), DK u → K2 x2 u → KW2 x2 (emb ρ u)) {u : St} (hd : DK u) (h : sX12_isThere_p26 v1 v2 Q K2 u) : X12_isThere_p26 SH 198 v1 v2 QW KW2 (emb ρ u) := by
  unfold X12_isThere_p26
  unfold sX12_isThere_p26 at h
  exact hK2 _ _ hd h
set_option maxHeartbeats 4000000 in
set_option maxRecDepth 100000 in
theorem t_X12_isThere_p2b {ρ : Nat → Nat → Option Nat} (hR : RfH ρ) {v1 : Int32} {v2 : Int32} {Q : Int32 → St → Prop} {QW : Int32 → Mem → Prop} (hQ : ∀ (r : Int32) (u : St), DK u → Q r u → QW r (emb ρ u)) {K2 : Int32 → St → Prop} {KW2 : Int32 → Mem → Prop} (hK2 : ∀ (x2 : Int32) (u : St), DK u → K2 x2 u → KW2 x2 (emb ρ u)) {u : St} (hd : DK u) (h : sX12_isThere_p2b v1 Q K2 v2 u) : X12_isThere_p2b SH 198 v1 QW KW2 v2 (emb ρ u) := by
  unfold X12_isThere_p2b
  unfold sX12_isThere_p2b at h
  refine ite_mono (fun hc h => ?_) (fun hc h => ?_) h
  · exact hQ _ _ hd h
  · refine ⟨on_198, ?_⟩
    refine ⟨_, rn_198_69 hR _, ?_⟩
    obtain ⟨x2, h⟩ := h
    refine ⟨ix_i (show SH[247]? = some (102, 64) from rfl) x2, ?_⟩
    refine ite_mono (fun hc h => ?_) (fun hc h => ?_) h
    · exact t_X12_isThere_p26 hR hQ hK2 hd h
    · refine ite_mono (fun hc h => ?_) (fun hc h => ?_) h
      · exact hQ _ _ hd h
      · exact t_X12_isThere_p26 hR hQ hK2 hd h
set_option maxHeartbeats 4000000 in
set_option maxRecDepth 100000 in
theorem t_X12_isThere_p2n {ρ : Nat → Nat → Option Nat} (hR : RfH ρ) {v1 : Int32} {Q : Int32 → St → Prop} {QW : Int32 → Mem → Prop} (hQ : ∀ (r : Int32) (u : St), DK u → Q r u → QW r (emb ρ u)) : ∀ (n : Nat) (v2 : Int32) (u : St), DK u → sX12_isThere_p2n v1 Q n v2 u → X12_isThere_p2n SH 198 v1 QW n v2 (emb ρ u)
  | 0, _, _,  _, h => h.elim
  | n + 1, v2,  u,  hd, h => t_X12_isThere_p2b hR hQ (fun v2 u  hd h => t_X12_isThere_p2n hR hQ n v2 u  hd h) hd h
set_option maxHeartbeats 4000000 in
set_option maxRecDepth 100000 in
theorem t_X12_isThere_p2 {ρ : Nat → Nat → Option Nat} (hR : RfH ρ) {v1 : Int32} {v2 : Int32} {Q : Int32 → St → Prop} {QW : Int32 → Mem → Prop} (hQ : ∀ (r : Int32) (u : St), DK u → Q r u → QW r (emb ρ u)) {u : St} (hd : DK u) (h : sX12_isThere_p2 v1 Q v2 u) : X12_isThere_p2 SH 198 v1 QW v2 (emb ρ u) := h.elim (fun n h => ⟨n, t_X12_isThere_p2n hR hQ n _ _ hd h⟩)
set_option maxHeartbeats 4000000 in
set_option maxRecDepth 100000 in
theorem t_X12_isThere {ρ : Nat → Nat → Option Nat} (hR : RfH ρ) {v1 : Int32} {Q : Int32 → St → Prop} {QW : Int32 → Mem → Prop} (hQ : ∀ (r : Int32) (u : St), DK u → Q r u → QW r (emb ρ u)) {u : St} (hd : DK u) (h : s_X12_isThere v1 Q u) : wp_X12_isThere SH 198 v1 QW (emb ρ u) := by
  unfold wp_X12_isThere
  unfold s_X12_isThere at h
  exact t_X12_isThere_p2 hR hQ hd h
/-! CalledRiverModel.stepGoes -/
set_option maxHeartbeats 4000000 in
set_option maxRecDepth 100000 in
def sX12_stepGoes_p114 (v1 : Int32) (v2 : Int32) (v3 : Int32) (v4 : Int32) (Q : St → Prop) (K24 : Int32 → St → Prop) (K51 : Int32 → St → Prop) (u : St) : Prop :=
  K51 (v4 + (1 : Int32)) u
set_option maxHeartbeats 4000000 in
set_option maxRecDepth 100000 in
def sX12_stepGoes_p120 (v1 : Int32) (v2 : Int32) (Q : St → Prop) (K24 : Int32 → St → Prop) (u : St) : Prop :=
  K24 (v2 + (1 : Int32)) u
set_option maxHeartbeats 4000000 in
set_option maxRecDepth 100000 in
def sX12_stepGoes_p51b (v1 : Int32) (v2 : Int32) (v3 : Int32) (Q : St → Prop) (K24 : Int32 → St → Prop) (K51 : Int32 → St → Prop) (v4 : Int32) (u : St) : Prop :=
  if (4 : Int32) ≤ v4 then (sX12_stepGoes_p120 v1 v2 Q K24 u) else (s_X12_beside v3 v4 (fun r11 u12 => s_X12_canFlow v3 r11 (fun r13 u14 => if r13 = 0 then (sX12_stepGoes_p114 v1 v2 v3 v4 Q K24 K51 u14) else (s_X12_setBehind (v2 - v2 / (64 : Int32) * (64 : Int32)) r11 v1 (fun r15 u16 => vp_in (((64 : Int32) * r11) + r15) 2304 ∧ bnd (tI u16 246 (((64 : Int32) * r11) + r15).toNatClampNeg (vp_nar .boolean (1 : Int32))) (fun u19 => vp_in r15 64 ∧ bnd (tI u19 247 r15.toNatClampNeg (vp_nar .boolean (1 : Int32))) (fun u22 => sX12_stepGoes_p114 v1 v2 v3 v4 Q K24 K51 u22))) u14)) u12) u)
set_option maxHeartbeats 4000000 in
set_option maxRecDepth 100000 in
def sX12_stepGoes_p51n (v1 : Int32) (v2 : Int32) (v3 : Int32) (Q : St → Prop) (K24 : Int32 → St → Prop) : Nat → Int32 → St → Prop
  | 0 => fun _ _ => False
  | n + 1 => sX12_stepGoes_p51b v1 v2 v3 Q K24 (sX12_stepGoes_p51n v1 v2 v3 Q K24 n)
set_option maxHeartbeats 4000000 in
set_option maxRecDepth 100000 in
def sX12_stepGoes_p51 (v1 : Int32) (v2 : Int32) (v3 : Int32) (Q : St → Prop) (K24 : Int32 → St → Prop) (v4 : Int32) (u : St) : Prop := ∃ n, sX12_stepGoes_p51n v1 v2 v3 Q K24 n v4 u
set_option maxHeartbeats 4000000 in
set_option maxRecDepth 100000 in
def sX12_stepGoes_p128b (Q : St → Prop) (K128 : Int32 → St → Prop) (v2 : Int32) (u : St) : Prop :=
  if (2304 : Int32) ≤ v2 then (Q u) else (vp_in v2 2304 ∧ (vp_in v2 2304 ∧ bnd (tI u 245 v2.toNatClampNeg (vp_nar .boolean (u.1 246 v2.toNatClampNeg))) (fun u10 => K128 (v2 + (1 : Int32)) u10)))
set_option maxHeartbeats 4000000 in
set_option maxRecDepth 100000 in
def sX12_stepGoes_p128n (Q : St → Prop) : Nat → Int32 → St → Prop
  | 0 => fun _ _ => False
  | n + 1 => sX12_stepGoes_p128b Q (sX12_stepGoes_p128n Q n)
set_option maxHeartbeats 4000000 in
set_option maxRecDepth 100000 in
def sX12_stepGoes_p128 (Q : St → Prop) (v2 : Int32) (u : St) : Prop := ∃ n, sX12_stepGoes_p128n Q n v2 u
set_option maxHeartbeats 4000000 in
set_option maxRecDepth 100000 in
def sX12_stepGoes_p24b (v1 : Int32) (Q : St → Prop) (K24 : Int32 → St → Prop) (v2 : Int32) (u : St) : Prop :=
  if (2304 : Int32) ≤ v2 then (sX12_stepGoes_p128 Q (0 : Int32) u) else (vp_in v2 2304 ∧ (if (u.1 245 v2.toNatClampNeg) = 0 then (sX12_stepGoes_p120 v1 v2 Q K24 u) else (sX12_stepGoes_p51 v1 v2 (v2 / (64 : Int32)) Q K24 (0 : Int32) u)))
set_option maxHeartbeats 4000000 in
set_option maxRecDepth 100000 in
def sX12_stepGoes_p24n (v1 : Int32) (Q : St → Prop) : Nat → Int32 → St → Prop
  | 0 => fun _ _ => False
  | n + 1 => sX12_stepGoes_p24b v1 Q (sX12_stepGoes_p24n v1 Q n)
set_option maxHeartbeats 4000000 in
set_option maxRecDepth 100000 in
def sX12_stepGoes_p24 (v1 : Int32) (Q : St → Prop) (v2 : Int32) (u : St) : Prop := ∃ n, sX12_stepGoes_p24n v1 Q n v2 u
set_option maxHeartbeats 4000000 in
set_option maxRecDepth 100000 in
def sX12_stepGoes_p2b (v1 : Int32) (Q : St → Prop) (K2 : Int32 → St → Prop) (v2 : Int32) (u : St) : Prop :=
  if (2304 : Int32) ≤ v2 then (sX12_stepGoes_p24 v1 Q (0 : Int32) u) else (vp_in v2 2304 ∧ bnd (tI u 246 v2.toNatClampNeg (vp_nar .boolean (0 : Int32))) (fun u3 => K2 (v2 + (1 : Int32)) u3))
set_option maxHeartbeats 4000000 in
set_option maxRecDepth 100000 in
def sX12_stepGoes_p2n (v1 : Int32) (Q : St → Prop) : Nat → Int32 → St → Prop
  | 0 => fun _ _ => False
  | n + 1 => sX12_stepGoes_p2b v1 Q (sX12_stepGoes_p2n v1 Q n)
set_option maxHeartbeats 4000000 in
set_option maxRecDepth 100000 in
def sX12_stepGoes_p2 (v1 : Int32) (Q : St → Prop) (v2 : Int32) (u : St) : Prop := ∃ n, sX12_stepGoes_p2n v1 Q n v2 u
set_option maxHeartbeats 4000000 in
set_option maxRecDepth 100000 in
def s_X12_stepGoes (v1 : Int32) (Q : St → Prop) (u : St) : Prop :=
  sX12_stepGoes_p2 v1 Q (0 : Int32) u
set_option maxHeartbeats 4000000 in
set_option maxRecDepth 100000 in
theorem t_X12_stepGoes_p114 {ρ : Nat → Nat → Option Nat} (hR : RfH ρ) {v1 : Int32} {v2 : Int32} {v3 : Int32} {v4 : Int32} {Q : St → Prop} {QW : Mem → Prop} {K24 : Int32 → St → Prop} {KW24 : Int32 → Mem → Prop} {K51 : Int32 → St → Prop} {KW51 : Int32 → Mem → Prop} (hQ : ∀ (u : St), DK u → Q u → QW (emb ρ u)) (hK24 : ∀ (x2 : Int32) (u : St), DK u → K24 x2 u → KW24 x2 (emb ρ u)) (hK51 : ∀ (x4 : Int32) (u : St), DK u → K51 x4 u → KW51 x4 (emb ρ u)) {u : St} (hd : DK u) (h : sX12_stepGoes_p114 v1 v2 v3 v4 Q K24 K51 u) : X12_stepGoes_p114 SH 198 v1 v2 v3 v4 QW KW24 KW51 (emb ρ u) := by
  unfold X12_stepGoes_p114
  unfold sX12_stepGoes_p114 at h
  exact hK51 _ _ hd h
set_option maxHeartbeats 4000000 in
set_option maxRecDepth 100000 in
theorem t_X12_stepGoes_p120 {ρ : Nat → Nat → Option Nat} (hR : RfH ρ) {v1 : Int32} {v2 : Int32} {Q : St → Prop} {QW : Mem → Prop} {K24 : Int32 → St → Prop} {KW24 : Int32 → Mem → Prop} (hQ : ∀ (u : St), DK u → Q u → QW (emb ρ u)) (hK24 : ∀ (x2 : Int32) (u : St), DK u → K24 x2 u → KW24 x2 (emb ρ u)) {u : St} (hd : DK u) (h : sX12_stepGoes_p120 v1 v2 Q K24 u) : X12_stepGoes_p120 SH 198 v1 v2 QW KW24 (emb ρ u) := by
  unfold X12_stepGoes_p120
  unfold sX12_stepGoes_p120 at h
  exact hK24 _ _ hd h
set_option maxHeartbeats 4000000 in
set_option maxRecDepth 100000 in
theorem t_X12_stepGoes_p51b {ρ : Nat → Nat → Option Nat} (hR : RfH ρ) {v1 : Int32} {v2 : Int32} {v3 : Int32} {v4 : Int32} {Q : St → Prop} {QW : Mem → Prop} {K24 : Int32 → St → Prop} {KW24 : Int32 → Mem → Prop} (hQ : ∀ (u : St), DK u → Q u → QW (emb ρ u)) (hK24 : ∀ (x2 : Int32) (u : St), DK u → K24 x2 u → KW24 x2 (emb ρ u)) {K51 : Int32 → St → Prop} {KW51 : Int32 → Mem → Prop} (hK51 : ∀ (x4 : Int32) (u : St), DK u → K51 x4 u → KW51 x4 (emb ρ u)) {u : St} (hd : DK u) (h : sX12_stepGoes_p51b v1 v2 v3 Q K24 K51 v4 u) : X12_stepGoes_p51b SH 198 v1 v2 v3 QW KW24 KW51 v4 (emb ρ u) := by
  unfold X12_stepGoes_p51b
  unfold sX12_stepGoes_p51b at h
  refine ite_mono (fun hc h => ?_) (fun hc h => ?_) h
  · exact t_X12_stepGoes_p120 hR hQ hK24 hd h
  · refine ⟨on_198, ?_⟩
    refine t_X12_beside hR (fun r11 u12 hd h => ?_) hd h
    refine t_X12_canFlow hR (fun r13 u14 hd h => ?_) hd h
    refine ite_mono (fun hc h => ?_) (fun hc h => ?_) h
    · exact t_X12_stepGoes_p114 hR hQ hK24 hK51 hd h
    · refine t_X12_setBehind hR (fun r15 u16 hd h => ?_) hd h
      refine ⟨_, rn_198_68 hR _, ?_⟩
      obtain ⟨x18, h⟩ := h
      refine ⟨ix_i (show SH[246]? = some (102, 2304) from rfl) x18, ?_⟩
      refine bnd_I ?_
      replace h := bnd_e h
      refine ⟨_, rn_198_69 hR _, ?_⟩
      obtain ⟨x21, h⟩ := h
      refine ⟨ix_i (show SH[247]? = some (102, 64) from rfl) x21, ?_⟩
      refine bnd_I ?_
      replace h := bnd_e h
      exact t_X12_stepGoes_p114 hR hQ hK24 hK51 hd h
set_option maxHeartbeats 4000000 in
set_option maxRecDepth 100000 in
theorem t_X12_stepGoes_p51n {ρ : Nat → Nat → Option Nat} (hR : RfH ρ) {v1 : Int32} {v2 : Int32} {v3 : Int32} {Q : St → Prop} {QW : Mem → Prop} {K24 : Int32 → St → Prop} {KW24 : Int32 → Mem → Prop} (hQ : ∀ (u : St), DK u → Q u → QW (emb ρ u)) (hK24 : ∀ (x2 : Int32) (u : St), DK u → K24 x2 u → KW24 x2 (emb ρ u)) : ∀ (n : Nat) (v4 : Int32) (u : St), DK u → sX12_stepGoes_p51n v1 v2 v3 Q K24 n v4 u → X12_stepGoes_p51n SH 198 v1 v2 v3 QW KW24 n v4 (emb ρ u)
  | 0, _, _,  _, h => h.elim
  | n + 1, v4,  u,  hd, h => t_X12_stepGoes_p51b hR hQ hK24 (fun v4 u  hd h => t_X12_stepGoes_p51n hR hQ hK24 n v4 u  hd h) hd h
set_option maxHeartbeats 4000000 in
set_option maxRecDepth 100000 in
theorem t_X12_stepGoes_p51 {ρ : Nat → Nat → Option Nat} (hR : RfH ρ) {v1 : Int32} {v2 : Int32} {v3 : Int32} {v4 : Int32} {Q : St → Prop} {QW : Mem → Prop} {K24 : Int32 → St → Prop} {KW24 : Int32 → Mem → Prop} (hQ : ∀ (u : St), DK u → Q u → QW (emb ρ u)) (hK24 : ∀ (x2 : Int32) (u : St), DK u → K24 x2 u → KW24 x2 (emb ρ u)) {u : St} (hd : DK u) (h : sX12_stepGoes_p51 v1 v2 v3 Q K24 v4 u) : X12_stepGoes_p51 SH 198 v1 v2 v3 QW KW24 v4 (emb ρ u) := h.elim (fun n h => ⟨n, t_X12_stepGoes_p51n hR hQ hK24 n _ _ hd h⟩)
set_option maxHeartbeats 4000000 in
set_option maxRecDepth 100000 in
theorem t_X12_stepGoes_p128b {ρ : Nat → Nat → Option Nat} (hR : RfH ρ) {v2 : Int32} {Q : St → Prop} {QW : Mem → Prop} (hQ : ∀ (u : St), DK u → Q u → QW (emb ρ u)) {K128 : Int32 → St → Prop} {KW128 : Int32 → Mem → Prop} (hK128 : ∀ (x2 : Int32) (u : St), DK u → K128 x2 u → KW128 x2 (emb ρ u)) {u : St} (hd : DK u) (h : sX12_stepGoes_p128b Q K128 v2 u) : X12_stepGoes_p128b SH 198 QW KW128 v2 (emb ρ u) := by
  unfold X12_stepGoes_p128b
  unfold sX12_stepGoes_p128b at h
  refine ite_mono (fun hc h => ?_) (fun hc h => ?_) h
  · exact hQ _ hd h
  · refine ⟨on_198, ?_⟩
    refine ⟨_, rn_198_67 hR _, ?_⟩
    refine ⟨_, rn_198_68 hR _, ?_⟩
    obtain ⟨x8, h⟩ := h
    refine ⟨ix_i (show SH[246]? = some (102, 2304) from rfl) x8, ?_⟩
    obtain ⟨x9, h⟩ := h
    refine ⟨ix_i (show SH[245]? = some (102, 2304) from rfl) x9, ?_⟩
    refine bnd_I ?_
    replace h := bnd_e h
    exact hK128 _ _ hd h
set_option maxHeartbeats 4000000 in
set_option maxRecDepth 100000 in
theorem t_X12_stepGoes_p128n {ρ : Nat → Nat → Option Nat} (hR : RfH ρ) {Q : St → Prop} {QW : Mem → Prop} (hQ : ∀ (u : St), DK u → Q u → QW (emb ρ u)) : ∀ (n : Nat) (v2 : Int32) (u : St), DK u → sX12_stepGoes_p128n Q n v2 u → X12_stepGoes_p128n SH 198 QW n v2 (emb ρ u)
  | 0, _, _,  _, h => h.elim
  | n + 1, v2,  u,  hd, h => t_X12_stepGoes_p128b hR hQ (fun v2 u  hd h => t_X12_stepGoes_p128n hR hQ n v2 u  hd h) hd h
set_option maxHeartbeats 4000000 in
set_option maxRecDepth 100000 in
theorem t_X12_stepGoes_p128 {ρ : Nat → Nat → Option Nat} (hR : RfH ρ) {v2 : Int32} {Q : St → Prop} {QW : Mem → Prop} (hQ : ∀ (u : St), DK u → Q u → QW (emb ρ u)) {u : St} (hd : DK u) (h : sX12_stepGoes_p128 Q v2 u) : X12_stepGoes_p128 SH 198 QW v2 (emb ρ u) := h.elim (fun n h => ⟨n, t_X12_stepGoes_p128n hR hQ n _ _ hd h⟩)
set_option maxHeartbeats 4000000 in
set_option maxRecDepth 100000 in
theorem t_X12_stepGoes_p24b {ρ : Nat → Nat → Option Nat} (hR : RfH ρ) {v1 : Int32} {v2 : Int32} {Q : St → Prop} {QW : Mem → Prop} (hQ : ∀ (u : St), DK u → Q u → QW (emb ρ u)) {K24 : Int32 → St → Prop} {KW24 : Int32 → Mem → Prop} (hK24 : ∀ (x2 : Int32) (u : St), DK u → K24 x2 u → KW24 x2 (emb ρ u)) {u : St} (hd : DK u) (h : sX12_stepGoes_p24b v1 Q K24 v2 u) : X12_stepGoes_p24b SH 198 v1 QW KW24 v2 (emb ρ u) := by
  unfold X12_stepGoes_p24b
  unfold sX12_stepGoes_p24b at h
  refine ite_mono (fun hc h => ?_) (fun hc h => ?_) h
  · exact t_X12_stepGoes_p128 hR hQ hd h
  · refine ⟨on_198, ?_⟩
    refine ⟨_, rn_198_67 hR _, ?_⟩
    obtain ⟨x5, h⟩ := h
    refine ⟨ix_i (show SH[245]? = some (102, 2304) from rfl) x5, ?_⟩
    refine ite_mono (fun hc h => ?_) (fun hc h => ?_) h
    · exact t_X12_stepGoes_p120 hR hQ hK24 hd h
    · exact t_X12_stepGoes_p51 hR hQ hK24 hd h
set_option maxHeartbeats 4000000 in
set_option maxRecDepth 100000 in
theorem t_X12_stepGoes_p24n {ρ : Nat → Nat → Option Nat} (hR : RfH ρ) {v1 : Int32} {Q : St → Prop} {QW : Mem → Prop} (hQ : ∀ (u : St), DK u → Q u → QW (emb ρ u)) : ∀ (n : Nat) (v2 : Int32) (u : St), DK u → sX12_stepGoes_p24n v1 Q n v2 u → X12_stepGoes_p24n SH 198 v1 QW n v2 (emb ρ u)
  | 0, _, _,  _, h => h.elim
  | n + 1, v2,  u,  hd, h => t_X12_stepGoes_p24b hR hQ (fun v2 u  hd h => t_X12_stepGoes_p24n hR hQ n v2 u  hd h) hd h
set_option maxHeartbeats 4000000 in
set_option maxRecDepth 100000 in
theorem t_X12_stepGoes_p24 {ρ : Nat → Nat → Option Nat} (hR : RfH ρ) {v1 : Int32} {v2 : Int32} {Q : St → Prop} {QW : Mem → Prop} (hQ : ∀ (u : St), DK u → Q u → QW (emb ρ u)) {u : St} (hd : DK u) (h : sX12_stepGoes_p24 v1 Q v2 u) : X12_stepGoes_p24 SH 198 v1 QW v2 (emb ρ u) := h.elim (fun n h => ⟨n, t_X12_stepGoes_p24n hR hQ n _ _ hd h⟩)
set_option maxHeartbeats 4000000 in
set_option maxRecDepth 100000 in
theorem t_X12_stepGoes_p2b {ρ : Nat → Nat → Option Nat} (hR : RfH ρ) {v1 : Int32} {v2 : Int32} {Q : St → Prop} {QW : Mem → Prop} (hQ : ∀ (u : St), DK u → Q u → QW (emb ρ u)) {K2 : Int32 → St → Prop} {KW2 : Int32 → Mem → Prop} (hK2 : ∀ (x2 : Int32) (u : St), DK u → K2 x2 u → KW2 x2 (emb ρ u)) {u : St} (hd : DK u) (h : sX12_stepGoes_p2b v1 Q K2 v2 u) : X12_stepGoes_p2b SH 198 v1 QW KW2 v2 (emb ρ u) := by
  unfold X12_stepGoes_p2b
  unfold sX12_stepGoes_p2b at h
  refine ite_mono (fun hc h => ?_) (fun hc h => ?_) h
  · exact t_X12_stepGoes_p24 hR hQ hd h
  · refine ⟨on_198, ?_⟩
    refine ⟨_, rn_198_68 hR _, ?_⟩
    obtain ⟨x2, h⟩ := h
    refine ⟨ix_i (show SH[246]? = some (102, 2304) from rfl) x2, ?_⟩
    refine bnd_I ?_
    replace h := bnd_e h
    exact hK2 _ _ hd h
set_option maxHeartbeats 4000000 in
set_option maxRecDepth 100000 in
theorem t_X12_stepGoes_p2n {ρ : Nat → Nat → Option Nat} (hR : RfH ρ) {v1 : Int32} {Q : St → Prop} {QW : Mem → Prop} (hQ : ∀ (u : St), DK u → Q u → QW (emb ρ u)) : ∀ (n : Nat) (v2 : Int32) (u : St), DK u → sX12_stepGoes_p2n v1 Q n v2 u → X12_stepGoes_p2n SH 198 v1 QW n v2 (emb ρ u)
  | 0, _, _,  _, h => h.elim
  | n + 1, v2,  u,  hd, h => t_X12_stepGoes_p2b hR hQ (fun v2 u  hd h => t_X12_stepGoes_p2n hR hQ n v2 u  hd h) hd h
set_option maxHeartbeats 4000000 in
set_option maxRecDepth 100000 in
theorem t_X12_stepGoes_p2 {ρ : Nat → Nat → Option Nat} (hR : RfH ρ) {v1 : Int32} {v2 : Int32} {Q : St → Prop} {QW : Mem → Prop} (hQ : ∀ (u : St), DK u → Q u → QW (emb ρ u)) {u : St} (hd : DK u) (h : sX12_stepGoes_p2 v1 Q v2 u) : X12_stepGoes_p2 SH 198 v1 QW v2 (emb ρ u) := h.elim (fun n h => ⟨n, t_X12_stepGoes_p2n hR hQ n _ _ hd h⟩)
set_option maxHeartbeats 4000000 in
set_option maxRecDepth 100000 in
theorem t_X12_stepGoes {ρ : Nat → Nat → Option Nat} (hR : RfH ρ) {v1 : Int32} {Q : St → Prop} {QW : Mem → Prop} (hQ : ∀ (u : St), DK u → Q u → QW (emb ρ u)) {u : St} (hd : DK u) (h : s_X12_stepGoes v1 Q u) : wp_X12_stepGoes SH 198 v1 QW (emb ρ u) := by
  unfold wp_X12_stepGoes
  unfold s_X12_stepGoes at h
  exact t_X12_stepGoes_p2 hR hQ hd h
/-! CalledRiverModel.dry -/
set_option maxHeartbeats 4000000 in
set_option maxRecDepth 100000 in
def sX12_dry_p76 (v1 : Int32) (v2 : Int32) (v3 : Int32) (Q : Int32 → St → Prop) (K41 : Int32 → Int32 → St → Prop) (u : St) : Prop :=
  K41 v2 (v3 + (1 : Int32)) u
set_option maxHeartbeats 4000000 in
set_option maxRecDepth 100000 in
def sX12_dry_p62 (v1 : Int32) (v2 : Int32) (v3 : Int32) (Q : Int32 → St → Prop) (K41 : Int32 → Int32 → St → Prop) (u : St) : Prop :=
  s_X12_isThere (v1 &&& (v3 ^^^ (-1 : Int32))) (fun r11 u12 => if r11 = 0 then (sX12_dry_p76 v1 v2 v3 Q K41 u12) else (sX12_dry_p76 v1 v3 v3 Q K41 u12)) u
set_option maxHeartbeats 4000000 in
set_option maxRecDepth 100000 in
def sX12_dry_p41b (v1 : Int32) (Q : Int32 → St → Prop) (K41 : Int32 → Int32 → St → Prop) (v2 : Int32) (v3 : Int32) (u : St) : Prop :=
  if v1 < v3 then (Q v2 u) else (if v2 = (-1 : Int32) then (sX12_dry_p62 v1 v2 v3 Q K41 u) else (s_X12_bits v3 (fun r7 u8 => s_X12_bits v2 (fun r9 u10 => if r9 ≤ r7 then (sX12_dry_p76 v1 v2 v3 Q K41 u10) else (sX12_dry_p62 v1 v2 v3 Q K41 u10)) u8) u))
set_option maxHeartbeats 4000000 in
set_option maxRecDepth 100000 in
def sX12_dry_p41n (v1 : Int32) (Q : Int32 → St → Prop) : Nat → Int32 → Int32 → St → Prop
  | 0 => fun _ _ _ => False
  | n + 1 => sX12_dry_p41b v1 Q (sX12_dry_p41n v1 Q n)
set_option maxHeartbeats 4000000 in
set_option maxRecDepth 100000 in
def sX12_dry_p41 (v1 : Int32) (Q : Int32 → St → Prop) (v2 : Int32) (v3 : Int32) (u : St) : Prop := ∃ n, sX12_dry_p41n v1 Q n v2 v3 u
set_option maxHeartbeats 4000000 in
set_option maxRecDepth 100000 in
def sX12_dry_p11b (Q : Int32 → St → Prop) (K11 : Int32 → St → Prop) (v1 : Int32) (u : St) : Prop :=
  if (40 : Int32) < v1 then (s_X12_farmMany  (fun r3 u4 => sX12_dry_p41 (((1 : Int32) <<< (r3 &&& 31)) - (1 : Int32)) Q (-1 : Int32) (0 : Int32) u4) u) else (s_X12_stepGoes v1 (fun u6 => K11 (v1 + (1 : Int32)) u6) u)
set_option maxHeartbeats 4000000 in
set_option maxRecDepth 100000 in
def sX12_dry_p11n (Q : Int32 → St → Prop) : Nat → Int32 → St → Prop
  | 0 => fun _ _ => False
  | n + 1 => sX12_dry_p11b Q (sX12_dry_p11n Q n)
set_option maxHeartbeats 4000000 in
set_option maxRecDepth 100000 in
def sX12_dry_p11 (Q : Int32 → St → Prop) (v1 : Int32) (u : St) : Prop := ∃ n, sX12_dry_p11n Q n v1 u
set_option maxHeartbeats 4000000 in
set_option maxRecDepth 100000 in
def s_X12_dry (Q : Int32 → St → Prop) (u : St) : Prop :=
  s_X12_isBegun  (fun r1 u2 => if r1 = 0 then (Q (-1 : Int32) u2) else (sX12_dry_p11 Q (1 : Int32) u2)) u
set_option maxHeartbeats 4000000 in
set_option maxRecDepth 100000 in
theorem t_X12_dry_p76 {ρ : Nat → Nat → Option Nat} (hR : RfH ρ) {v1 : Int32} {v2 : Int32} {v3 : Int32} {Q : Int32 → St → Prop} {QW : Int32 → Mem → Prop} {K41 : Int32 → Int32 → St → Prop} {KW41 : Int32 → Int32 → Mem → Prop} (hQ : ∀ (r : Int32) (u : St), DK u → Q r u → QW r (emb ρ u)) (hK41 : ∀ (x2 : Int32) (x3 : Int32) (u : St), DK u → K41 x2 x3 u → KW41 x2 x3 (emb ρ u)) {u : St} (hd : DK u) (h : sX12_dry_p76 v1 v2 v3 Q K41 u) : X12_dry_p76 SH 198 v1 v2 v3 QW KW41 (emb ρ u) := by
  unfold X12_dry_p76
  unfold sX12_dry_p76 at h
  exact hK41 _ _ _ hd h
set_option maxHeartbeats 4000000 in
set_option maxRecDepth 100000 in
theorem t_X12_dry_p62 {ρ : Nat → Nat → Option Nat} (hR : RfH ρ) {v1 : Int32} {v2 : Int32} {v3 : Int32} {Q : Int32 → St → Prop} {QW : Int32 → Mem → Prop} {K41 : Int32 → Int32 → St → Prop} {KW41 : Int32 → Int32 → Mem → Prop} (hQ : ∀ (r : Int32) (u : St), DK u → Q r u → QW r (emb ρ u)) (hK41 : ∀ (x2 : Int32) (x3 : Int32) (u : St), DK u → K41 x2 x3 u → KW41 x2 x3 (emb ρ u)) {u : St} (hd : DK u) (h : sX12_dry_p62 v1 v2 v3 Q K41 u) : X12_dry_p62 SH 198 v1 v2 v3 QW KW41 (emb ρ u) := by
  unfold X12_dry_p62
  unfold sX12_dry_p62 at h
  refine ⟨on_198, ?_⟩
  refine t_X12_isThere hR (fun r11 u12 hd h => ?_) hd h
  refine ite_mono (fun hc h => ?_) (fun hc h => ?_) h
  · exact t_X12_dry_p76 hR hQ hK41 hd h
  · exact t_X12_dry_p76 hR hQ hK41 hd h
set_option maxHeartbeats 4000000 in
set_option maxRecDepth 100000 in
theorem t_X12_dry_p41b {ρ : Nat → Nat → Option Nat} (hR : RfH ρ) {v1 : Int32} {v2 : Int32} {v3 : Int32} {Q : Int32 → St → Prop} {QW : Int32 → Mem → Prop} (hQ : ∀ (r : Int32) (u : St), DK u → Q r u → QW r (emb ρ u)) {K41 : Int32 → Int32 → St → Prop} {KW41 : Int32 → Int32 → Mem → Prop} (hK41 : ∀ (x2 : Int32) (x3 : Int32) (u : St), DK u → K41 x2 x3 u → KW41 x2 x3 (emb ρ u)) {u : St} (hd : DK u) (h : sX12_dry_p41b v1 Q K41 v2 v3 u) : X12_dry_p41b SH 198 v1 QW KW41 v2 v3 (emb ρ u) := by
  unfold X12_dry_p41b
  unfold sX12_dry_p41b at h
  refine ite_mono (fun hc h => ?_) (fun hc h => ?_) h
  · exact hQ _ _ hd h
  · refine ite_mono (fun hc h => ?_) (fun hc h => ?_) h
    · exact t_X12_dry_p62 hR hQ hK41 hd h
    · refine t_X12_bits hR (fun r7 u8 hd h => ?_) hd h
      refine t_X12_bits hR (fun r9 u10 hd h => ?_) hd h
      refine ite_mono (fun hc h => ?_) (fun hc h => ?_) h
      · exact t_X12_dry_p76 hR hQ hK41 hd h
      · exact t_X12_dry_p62 hR hQ hK41 hd h
set_option maxHeartbeats 4000000 in
set_option maxRecDepth 100000 in
theorem t_X12_dry_p41n {ρ : Nat → Nat → Option Nat} (hR : RfH ρ) {v1 : Int32} {Q : Int32 → St → Prop} {QW : Int32 → Mem → Prop} (hQ : ∀ (r : Int32) (u : St), DK u → Q r u → QW r (emb ρ u)) : ∀ (n : Nat) (v2 : Int32) (v3 : Int32) (u : St), DK u → sX12_dry_p41n v1 Q n v2 v3 u → X12_dry_p41n SH 198 v1 QW n v2 v3 (emb ρ u)
  | 0, _,_, _,  _, h => h.elim
  | n + 1, v2, v3,  u,  hd, h => t_X12_dry_p41b hR hQ (fun v2 v3 u  hd h => t_X12_dry_p41n hR hQ n v2 v3 u  hd h) hd h
set_option maxHeartbeats 4000000 in
set_option maxRecDepth 100000 in
theorem t_X12_dry_p41 {ρ : Nat → Nat → Option Nat} (hR : RfH ρ) {v1 : Int32} {v2 : Int32} {v3 : Int32} {Q : Int32 → St → Prop} {QW : Int32 → Mem → Prop} (hQ : ∀ (r : Int32) (u : St), DK u → Q r u → QW r (emb ρ u)) {u : St} (hd : DK u) (h : sX12_dry_p41 v1 Q v2 v3 u) : X12_dry_p41 SH 198 v1 QW v2 v3 (emb ρ u) := h.elim (fun n h => ⟨n, t_X12_dry_p41n hR hQ n _ _ _ hd h⟩)
set_option maxHeartbeats 4000000 in
set_option maxRecDepth 100000 in
theorem t_X12_dry_p11b {ρ : Nat → Nat → Option Nat} (hR : RfH ρ) {v1 : Int32} {Q : Int32 → St → Prop} {QW : Int32 → Mem → Prop} (hQ : ∀ (r : Int32) (u : St), DK u → Q r u → QW r (emb ρ u)) {K11 : Int32 → St → Prop} {KW11 : Int32 → Mem → Prop} (hK11 : ∀ (x1 : Int32) (u : St), DK u → K11 x1 u → KW11 x1 (emb ρ u)) {u : St} (hd : DK u) (h : sX12_dry_p11b Q K11 v1 u) : X12_dry_p11b SH 198 QW KW11 v1 (emb ρ u) := by
  unfold X12_dry_p11b
  unfold sX12_dry_p11b at h
  refine ite_mono (fun hc h => ?_) (fun hc h => ?_) h
  · refine ⟨on_198, ?_⟩
    refine t_X12_farmMany hR (fun r3 u4 hd h => ?_) hd h
    exact t_X12_dry_p41 hR hQ hd h
  · refine ⟨on_198, ?_⟩
    refine t_X12_stepGoes hR (fun u6 hd h => ?_) hd h
    exact hK11 _ _ hd h
set_option maxHeartbeats 4000000 in
set_option maxRecDepth 100000 in
theorem t_X12_dry_p11n {ρ : Nat → Nat → Option Nat} (hR : RfH ρ) {Q : Int32 → St → Prop} {QW : Int32 → Mem → Prop} (hQ : ∀ (r : Int32) (u : St), DK u → Q r u → QW r (emb ρ u)) : ∀ (n : Nat) (v1 : Int32) (u : St), DK u → sX12_dry_p11n Q n v1 u → X12_dry_p11n SH 198 QW n v1 (emb ρ u)
  | 0, _, _,  _, h => h.elim
  | n + 1, v1,  u,  hd, h => t_X12_dry_p11b hR hQ (fun v1 u  hd h => t_X12_dry_p11n hR hQ n v1 u  hd h) hd h
set_option maxHeartbeats 4000000 in
set_option maxRecDepth 100000 in
theorem t_X12_dry_p11 {ρ : Nat → Nat → Option Nat} (hR : RfH ρ) {v1 : Int32} {Q : Int32 → St → Prop} {QW : Int32 → Mem → Prop} (hQ : ∀ (r : Int32) (u : St), DK u → Q r u → QW r (emb ρ u)) {u : St} (hd : DK u) (h : sX12_dry_p11 Q v1 u) : X12_dry_p11 SH 198 QW v1 (emb ρ u) := h.elim (fun n h => ⟨n, t_X12_dry_p11n hR hQ n _ _ hd h⟩)
set_option maxHeartbeats 4000000 in
set_option maxRecDepth 100000 in
theorem t_X12_dry {ρ : Nat → Nat → Option Nat} (hR : RfH ρ) {Q : Int32 → St → Prop} {QW : Int32 → Mem → Prop} (hQ : ∀ (r : Int32) (u : St), DK u → Q r u → QW r (emb ρ u)) {u : St} (hd : DK u) (h : s_X12_dry Q u) : wp_X12_dry SH 198 QW (emb ρ u) := by
  unfold wp_X12_dry
  unfold s_X12_dry at h
  refine ⟨on_198, ?_⟩
  refine t_X12_isBegun hR (fun r1 u2 hd h => ?_) hd h
  refine ite_mono (fun hc h => ?_) (fun hc h => ?_) h
  · exact hQ _ _ hd h
  · exact t_X12_dry_p11 hR hQ hd h
/-! CalledRiverModel.end -/
set_option maxHeartbeats 4000000 in
set_option maxRecDepth 100000 in
def sX12_end_p12 (Q : Int32 → St → Prop) (u : St) : Prop :=
  vp_in (0 : Int32) 6 ∧ (bnd (tI u 200 (0 : Int32).toNatClampNeg ((u.1 200 (0 : Int32).toNatClampNeg) + (1 : Int32))) (fun u4 => Q (0 : Int32) u4))
set_option maxHeartbeats 4000000 in
set_option maxRecDepth 100000 in
def s_X12_end (v1 : Int32) (Q : Int32 → St → Prop) (u : St) : Prop :=
  if v1 < 0 then (sX12_end_p12 Q u) else (if v1 ≤ (u.1 198 1) then (bnd (tI u 198 1 v1) (fun u1 => Q (1 : Int32) u1)) else (sX12_end_p12 Q u))
set_option maxHeartbeats 4000000 in
set_option maxRecDepth 100000 in
theorem t_X12_end_p12 {ρ : Nat → Nat → Option Nat} (hR : RfH ρ) {Q : Int32 → St → Prop} {QW : Int32 → Mem → Prop} (hQ : ∀ (r : Int32) (u : St), DK u → Q r u → QW r (emb ρ u)) {u : St} (hd : DK u) (h : sX12_end_p12 Q u) : X12_end_p12 SH 198 QW (emb ρ u) := by
  unfold X12_end_p12
  unfold sX12_end_p12 at h
  refine ⟨on_198, ?_⟩
  refine ⟨_, rn_198_9 hR _, ?_⟩
  obtain ⟨x3, h⟩ := h
  refine ⟨ix_i (show SH[200]? = some (100, 6) from rfl) x3, ?_⟩
  refine bnd_I ?_
  replace h := bnd_e h
  exact hQ _ _ hd h
set_option maxHeartbeats 4000000 in
set_option maxRecDepth 100000 in
theorem t_X12_end {ρ : Nat → Nat → Option Nat} (hR : RfH ρ) {v1 : Int32} {Q : Int32 → St → Prop} {QW : Int32 → Mem → Prop} (hQ : ∀ (r : Int32) (u : St), DK u → Q r u → QW r (emb ρ u)) {u : St} (hd : DK u) (h : s_X12_end v1 Q u) : wp_X12_end SH 198 v1 QW (emb ρ u) := by
  unfold wp_X12_end
  unfold s_X12_end at h
  refine ite_mono (fun hc h => ?_) (fun hc h => ?_) h
  · exact t_X12_end_p12 hR hQ hd h
  · refine ⟨on_198, ?_⟩
    refine ite_mono (fun hc h => ?_) (fun hc h => ?_) h
    · refine bnd_I ?_
      replace h := bnd_e h
      exact hQ _ _ hd h
    · exact t_X12_end_p12 hR hQ hd h
/-! CalledRiverModel.farm -/
set_option maxHeartbeats 4000000 in
set_option maxRecDepth 100000 in
def s_X12_farm (v1 : Int32) (v2 : Int32) (Q : Int32 → St → Prop) (u : St) : Prop :=
  s_X12_isFarm v1 (fun r1 u2 => if r1 = 0 then (Q (-1 : Int32) u2) else (if v2 = (0 : Int32) then (s_X12_cellOf v1 (fun r3 u4 => Q (r3 - r3 / (6 : Int32) * (6 : Int32)) u4) u2) else if v2 = (1 : Int32) then (s_X12_cellOf v1 (fun r5 u6 => Q (r5 / (6 : Int32)) u6) u2) else if v2 = (2 : Int32) then (s_X12_dayOf v1 (fun r7 u8 => Q r7 u8) u2) else if v2 = (3 : Int32) then (s_X12_pieOf v1 (fun r9 u10 => Q r9 u10) u2) else (Q (-1 : Int32) u2))) u
set_option maxHeartbeats 4000000 in
set_option maxRecDepth 100000 in
theorem t_X12_farm {ρ : Nat → Nat → Option Nat} (hR : RfH ρ) {v1 : Int32} {v2 : Int32} {Q : Int32 → St → Prop} {QW : Int32 → Mem → Prop} (hQ : ∀ (r : Int32) (u : St), DK u → Q r u → QW r (emb ρ u)) {u : St} (hd : DK u) (h : s_X12_farm v1 v2 Q u) : wp_X12_farm SH 198 v1 v2 QW (emb ρ u) := by
  unfold wp_X12_farm
  unfold s_X12_farm at h
  refine ⟨on_198, ?_⟩
  refine t_X12_isFarm hR (fun r1 u2 hd h => ?_) hd h
  refine ite_mono (fun hc h => ?_) (fun hc h => ?_) h
  · exact hQ _ _ hd h
  · refine ite_mono (fun hc h => ?_) (fun hc h => ?_) h
    · refine t_X12_cellOf hR (fun r3 u4 hd h => ?_) hd h
      exact hQ _ _ hd h
    refine ite_mono (fun hc h => ?_) (fun hc h => ?_) h
    · refine t_X12_cellOf hR (fun r5 u6 hd h => ?_) hd h
      exact hQ _ _ hd h
    refine ite_mono (fun hc h => ?_) (fun hc h => ?_) h
    · refine t_X12_dayOf hR (fun r7 u8 hd h => ?_) hd h
      exact hQ _ _ hd h
    refine ite_mono (fun hc h => ?_) (fun hc h => ?_) h
    · refine t_X12_pieOf hR (fun r9 u10 hd h => ?_) hd h
      exact hQ _ _ hd h
    exact hQ _ _ hd h
/-! CalledRiverModel.farmTold -/
set_option maxHeartbeats 4000000 in
set_option maxRecDepth 100000 in
def sX12_farmTold_p75 (v2 : Int64) (v4 : Int32) (v5 : Int32) (Q : St → Prop) (K34 : Int32 → St → Prop) (u : St) : Prop :=
  K34 (v5 + (1 : Int32)) u
set_option maxHeartbeats 4000000 in
set_option maxRecDepth 100000 in
def sX12_farmTold_p34b (v2 : Int64) (v4 : Int32) (Q : St → Prop) (K34 : Int32 → St → Prop) (v5 : Int32) (u : St) : Prop :=
  vp_in (0 : Int32) 4 ∧ (if (u.1 232 (0 : Int32).toNatClampNeg) ≤ v5 then (s_X12_asks 208 (fun u14 => s_X12_number (1 : Int32) (40 : Int32) (fun r15 u16 => s_X12_asks 209 (fun u19 => s_X12_number (0 : Int32) (9 : Int32) (fun r20 u21 => if (u21.1 198 5) = 0 then (vp_in (0 : Int32) 4 ∧ (vp_in (u21.1 232 (0 : Int32).toNatClampNeg) 32 ∧ bnd (tL u21 233 (u21.1 232 (0 : Int32).toNatClampNeg).toNatClampNeg v2) (fun u26 => vp_in ((3 : Int32) * (u26.1 232 (0 : Int32).toNatClampNeg)) 36 ∧ bnd (tI u26 234 ((3 : Int32) * (u26.1 232 (0 : Int32).toNatClampNeg)).toNatClampNeg v4) (fun u29 => vp_in (((3 : Int32) * (u29.1 232 (0 : Int32).toNatClampNeg)) + (1 : Int32)) 36 ∧ bnd (tI u29 234 (((3 : Int32) * (u29.1 232 (0 : Int32).toNatClampNeg)) + (1 : Int32)).toNatClampNeg r15) (fun u31 => vp_in (((3 : Int32) * (u31.1 232 (0 : Int32).toNatClampNeg)) + (2 : Int32)) 36 ∧ bnd (tI u31 234 (((3 : Int32) * (u31.1 232 (0 : Int32).toNatClampNeg)) + (2 : Int32)).toNatClampNeg r20) (fun u33 => bnd (tI u33 232 (0 : Int32).toNatClampNeg ((u33.1 232 (0 : Int32).toNatClampNeg) + (1 : Int32))) (fun u34 => Q u34))))))) else (Q u21)) u19) u16) u14) u) else (if (u.1 198 5) = 0 then (vp_in ((3 : Int32) * v5) 36 ∧ (if (u.1 234 ((3 : Int32) * v5).toNatClampNeg) = v4 then (s_X12_fail (2 : Int32) (u.1 198 10) (fun u38 => sX12_farmTold_p75 v2 v4 v5 Q K34 u38) u) else (sX12_farmTold_p75 v2 v4 v5 Q K34 u))) else (sX12_farmTold_p75 v2 v4 v5 Q K34 u)))
set_option maxHeartbeats 4000000 in
set_option maxRecDepth 100000 in
def sX12_farmTold_p34n (v2 : Int64) (v4 : Int32) (Q : St → Prop) : Nat → Int32 → St → Prop
  | 0 => fun _ _ => False
  | n + 1 => sX12_farmTold_p34b v2 v4 Q (sX12_farmTold_p34n v2 v4 Q n)
set_option maxHeartbeats 4000000 in
set_option maxRecDepth 100000 in
def sX12_farmTold_p34 (v2 : Int64) (v4 : Int32) (Q : St → Prop) (v5 : Int32) (u : St) : Prop := ∃ n, sX12_farmTold_p34n v2 v4 Q n v5 u
set_option maxHeartbeats 4000000 in
set_option maxRecDepth 100000 in
def s_X12_farmTold (v1 : Int32) (Q : St → Prop) (u : St) : Prop :=
  s_X12_isFull (0 : Int32) (6 : Int32) v1 (fun r1 u2 => if r1 = 0 then (s_X12_newName  (fun r3 u4 => s_X12_asks 207 (fun u7 => s_X12_cellTold  (fun r8 u9 => sX12_farmTold_p34 r3 r8 Q (0 : Int32) u9) u7) u4) u2) else (Q u2)) u
set_option maxHeartbeats 4000000 in
set_option maxRecDepth 100000 in
theorem t_X12_farmTold_p75 {ρ : Nat → Nat → Option Nat} (hR : RfH ρ) {v2 : Int64} {v4 : Int32} {v5 : Int32} {Q : St → Prop} {QW : Mem → Prop} {K34 : Int32 → St → Prop} {KW34 : Int32 → Mem → Prop} (hQ : ∀ (u : St), DK u → Q u → QW (emb ρ u)) (hK34 : ∀ (x5 : Int32) (u : St), DK u → K34 x5 u → KW34 x5 (emb ρ u)) {u : St} (hd : DK u) (h : sX12_farmTold_p75 v2 v4 v5 Q K34 u) : X12_farmTold_p75 SH 198 v2 v4 v5 QW KW34 (emb ρ u) := by
  unfold X12_farmTold_p75
  unfold sX12_farmTold_p75 at h
  exact hK34 _ _ hd h
set_option maxHeartbeats 4000000 in
set_option maxRecDepth 100000 in
theorem t_X12_farmTold_p34b {ρ : Nat → Nat → Option Nat} (hR : RfH ρ) {v2 : Int64} {v4 : Int32} {v5 : Int32} {Q : St → Prop} {QW : Mem → Prop} (hQ : ∀ (u : St), DK u → Q u → QW (emb ρ u)) {K34 : Int32 → St → Prop} {KW34 : Int32 → Mem → Prop} (hK34 : ∀ (x5 : Int32) (u : St), DK u → K34 x5 u → KW34 x5 (emb ρ u)) {u : St} (hd : DK u) (h : sX12_farmTold_p34b v2 v4 Q K34 v5 u) : X12_farmTold_p34b SH 198 v2 v4 QW KW34 v5 (emb ρ u) := by
  unfold X12_farmTold_p34b
  unfold sX12_farmTold_p34b at h
  refine ⟨on_198, ?_⟩
  refine ⟨_, rn_198_45 hR _, ?_⟩
  obtain ⟨x11, h⟩ := h
  refine ⟨ix_i (show SH[232]? = some (100, 4) from rfl) x11, ?_⟩
  refine ite_mono (fun hc h => ?_) (fun hc h => ?_) h
  · refine ⟨_, rn_198_18 hR _, ?_⟩
    refine t_X12_asks hR (fun u14 hd h => ?_) hd h
    refine t_X12_number hR (fun r15 u16 hd h => ?_) hd h
    refine ⟨_, rn_198_19 hR _, ?_⟩
    refine t_X12_asks hR (fun u19 hd h => ?_) hd h
    refine t_X12_number hR (fun r20 u21 hd h => ?_) hd h
    refine ite_mono (fun hc h => ?_) (fun hc h => ?_) h
    · refine ⟨_, rn_198_46 hR _, ?_⟩
      refine ⟨_, rn_198_45 hR _, ?_⟩
      obtain ⟨x24, h⟩ := h
      refine ⟨ix_i (show SH[232]? = some (100, 4) from rfl) x24, ?_⟩
      obtain ⟨x25, h⟩ := h
      refine ⟨ix_i (show SH[233]? = some (103, 32) from rfl) x25, ?_⟩
      refine bnd_L ?_
      replace h := bnd_e h
      refine ⟨_, rn_198_47 hR _, ?_⟩
      obtain ⟨x28, h⟩ := h
      refine ⟨ix_i (show SH[234]? = some (100, 36) from rfl) x28, ?_⟩
      refine bnd_I ?_
      replace h := bnd_e h
      obtain ⟨x30, h⟩ := h
      refine ⟨ix_i (show SH[234]? = some (100, 36) from rfl) x30, ?_⟩
      refine bnd_I ?_
      replace h := bnd_e h
      obtain ⟨x32, h⟩ := h
      refine ⟨ix_i (show SH[234]? = some (100, 36) from rfl) x32, ?_⟩
      refine bnd_I ?_
      replace h := bnd_e h
      refine bnd_I ?_
      replace h := bnd_e h
      exact hQ _ hd h
    · exact hQ _ hd h
  · refine ite_mono (fun hc h => ?_) (fun hc h => ?_) h
    · refine ⟨_, rn_198_47 hR _, ?_⟩
      obtain ⟨x36, h⟩ := h
      refine ⟨ix_i (show SH[234]? = some (100, 36) from rfl) x36, ?_⟩
      refine ite_mono (fun hc h => ?_) (fun hc h => ?_) h
      · refine t_X12_fail hR (fun u38 hd h => ?_) hd h
        exact t_X12_farmTold_p75 hR hQ hK34 hd h
      · exact t_X12_farmTold_p75 hR hQ hK34 hd h
    · exact t_X12_farmTold_p75 hR hQ hK34 hd h
set_option maxHeartbeats 4000000 in
set_option maxRecDepth 100000 in
theorem t_X12_farmTold_p34n {ρ : Nat → Nat → Option Nat} (hR : RfH ρ) {v2 : Int64} {v4 : Int32} {Q : St → Prop} {QW : Mem → Prop} (hQ : ∀ (u : St), DK u → Q u → QW (emb ρ u)) : ∀ (n : Nat) (v5 : Int32) (u : St), DK u → sX12_farmTold_p34n v2 v4 Q n v5 u → X12_farmTold_p34n SH 198 v2 v4 QW n v5 (emb ρ u)
  | 0, _, _,  _, h => h.elim
  | n + 1, v5,  u,  hd, h => t_X12_farmTold_p34b hR hQ (fun v5 u  hd h => t_X12_farmTold_p34n hR hQ n v5 u  hd h) hd h
set_option maxHeartbeats 4000000 in
set_option maxRecDepth 100000 in
theorem t_X12_farmTold_p34 {ρ : Nat → Nat → Option Nat} (hR : RfH ρ) {v2 : Int64} {v4 : Int32} {v5 : Int32} {Q : St → Prop} {QW : Mem → Prop} (hQ : ∀ (u : St), DK u → Q u → QW (emb ρ u)) {u : St} (hd : DK u) (h : sX12_farmTold_p34 v2 v4 Q v5 u) : X12_farmTold_p34 SH 198 v2 v4 QW v5 (emb ρ u) := h.elim (fun n h => ⟨n, t_X12_farmTold_p34n hR hQ n _ _ hd h⟩)
set_option maxHeartbeats 4000000 in
set_option maxRecDepth 100000 in
theorem t_X12_farmTold {ρ : Nat → Nat → Option Nat} (hR : RfH ρ) {v1 : Int32} {Q : St → Prop} {QW : Mem → Prop} (hQ : ∀ (u : St), DK u → Q u → QW (emb ρ u)) {u : St} (hd : DK u) (h : s_X12_farmTold v1 Q u) : wp_X12_farmTold SH 198 v1 QW (emb ρ u) := by
  unfold wp_X12_farmTold
  unfold s_X12_farmTold at h
  refine ⟨on_198, ?_⟩
  refine t_X12_isFull hR (fun r1 u2 hd h => ?_) hd h
  refine ite_mono (fun hc h => ?_) (fun hc h => ?_) h
  · refine t_X12_newName hR (fun r3 u4 hd h => ?_) hd h
    refine ⟨_, rn_198_17 hR _, ?_⟩
    refine t_X12_asks hR (fun u7 hd h => ?_) hd h
    refine t_X12_cellTold hR (fun r8 u9 hd h => ?_) hd h
    exact t_X12_farmTold_p34 hR hQ hd h
  · exact hQ _ hd h
/-! CalledRiverModel.fault -/
set_option maxHeartbeats 4000000 in
set_option maxRecDepth 100000 in
def s_X12_fault (v1 : Int32) (Q : Int32 → St → Prop) (u : St) : Prop :=
  if v1 = 0 then (Q (u.1 198 7) u) else (if v1 = (1 : Int32) then (Q (u.1 198 8) u) else (Q (-1 : Int32) u))
set_option maxHeartbeats 4000000 in
set_option maxRecDepth 100000 in
theorem t_X12_fault {ρ : Nat → Nat → Option Nat} (hR : RfH ρ) {v1 : Int32} {Q : Int32 → St → Prop} {QW : Int32 → Mem → Prop} (hQ : ∀ (r : Int32) (u : St), DK u → Q r u → QW r (emb ρ u)) {u : St} (hd : DK u) (h : s_X12_fault v1 Q u) : wp_X12_fault SH 198 v1 QW (emb ρ u) := by
  unfold wp_X12_fault
  unfold s_X12_fault at h
  refine ite_mono (fun hc h => ?_) (fun hc h => ?_) h
  · refine ⟨on_198, ?_⟩
    exact hQ _ _ hd h
  · refine ite_mono (fun hc h => ?_) (fun hc h => ?_) h
    · refine ⟨on_198, ?_⟩
      exact hQ _ _ hd h
    · exact hQ _ _ hd h
/-! CalledRiverModel.feed -/
set_option maxHeartbeats 4000000 in
set_option maxRecDepth 100000 in
def sX12_feed_p81 (v1 : Int32) (v2 : Int32) (v3 : Int32) (v4 : Int32) (v5 : Int32) (v6 : Int32) (s0 : Int32) (Q : Int32 → St → Prop) (K28 : Int32 → St → Prop) (u : St) : Prop :=
  vp_in (u.1 198 1) 1600 ∧ bnd (tI u 199 (u.1 198 1).toNatClampNeg ((s0 >>> (((8 : Int32) * ((3 : Int32) - (v6 - v6 / (4 : Int32) * (4 : Int32)))) &&& 31)) &&& (255 : Int32))) (fun u6 => bnd (tI u6 198 1 ((u6.1 198 1) + (1 : Int32))) (fun u7 => K28 (v6 + (1 : Int32)) u7))
set_option maxHeartbeats 4000000 in
set_option maxRecDepth 100000 in
def sX12_feed_p28b (v1 : Int32) (v2 : Int32) (v3 : Int32) (v4 : Int32) (v5 : Int32) (Q : Int32 → St → Prop) (K28 : Int32 → St → Prop) (v6 : Int32) (u : St) : Prop :=
  if (20 : Int32) ≤ v6 then (Q (u.1 198 1) u) else (if (4 : Int32) ≤ v6 then (if (8 : Int32) ≤ v6 then (if (12 : Int32) ≤ v6 then (if (16 : Int32) ≤ v6 then (sX12_feed_p81 v1 v2 v3 v4 v5 v6 v5 Q K28 u) else (sX12_feed_p81 v1 v2 v3 v4 v5 v6 v4 Q K28 u)) else (sX12_feed_p81 v1 v2 v3 v4 v5 v6 v3 Q K28 u)) else (sX12_feed_p81 v1 v2 v3 v4 v5 v6 v2 Q K28 u)) else (sX12_feed_p81 v1 v2 v3 v4 v5 v6 v1 Q K28 u))
set_option maxHeartbeats 4000000 in
set_option maxRecDepth 100000 in
def sX12_feed_p28n (v1 : Int32) (v2 : Int32) (v3 : Int32) (v4 : Int32) (v5 : Int32) (Q : Int32 → St → Prop) : Nat → Int32 → St → Prop
  | 0 => fun _ _ => False
  | n + 1 => sX12_feed_p28b v1 v2 v3 v4 v5 Q (sX12_feed_p28n v1 v2 v3 v4 v5 Q n)
set_option maxHeartbeats 4000000 in
set_option maxRecDepth 100000 in
def sX12_feed_p28 (v1 : Int32) (v2 : Int32) (v3 : Int32) (v4 : Int32) (v5 : Int32) (Q : Int32 → St → Prop) (v6 : Int32) (u : St) : Prop := ∃ n, sX12_feed_p28n v1 v2 v3 v4 v5 Q n v6 u
set_option maxHeartbeats 4000000 in
set_option maxRecDepth 100000 in
def s_X12_feed (v1 : Int32) (v2 : Int32) (v3 : Int32) (v4 : Int32) (v5 : Int32) (Q : Int32 → St → Prop) (u : St) : Prop :=
  if ((u.1 198 1) + (20 : Int32)) ≤ (1600 : Int32) then (sX12_feed_p28 v1 v2 v3 v4 v5 Q (0 : Int32) u) else (vp_in (0 : Int32) 6 ∧ (bnd (tI u 200 (0 : Int32).toNatClampNeg ((u.1 200 (0 : Int32).toNatClampNeg) + (1 : Int32))) (fun u3 => Q (-1 : Int32) u3)))
set_option maxHeartbeats 4000000 in
set_option maxRecDepth 100000 in
theorem t_X12_feed_p81 {ρ : Nat → Nat → Option Nat} (hR : RfH ρ) {v1 : Int32} {v2 : Int32} {v3 : Int32} {v4 : Int32} {v5 : Int32} {v6 : Int32} {s0 : Int32} {Q : Int32 → St → Prop} {QW : Int32 → Mem → Prop} {K28 : Int32 → St → Prop} {KW28 : Int32 → Mem → Prop} (hQ : ∀ (r : Int32) (u : St), DK u → Q r u → QW r (emb ρ u)) (hK28 : ∀ (x6 : Int32) (u : St), DK u → K28 x6 u → KW28 x6 (emb ρ u)) {u : St} (hd : DK u) (h : sX12_feed_p81 v1 v2 v3 v4 v5 v6 s0 Q K28 u) : X12_feed_p81 SH 198 v1 v2 v3 v4 v5 v6 s0 QW KW28 (emb ρ u) := by
  unfold X12_feed_p81
  unfold sX12_feed_p81 at h
  refine ⟨on_198, ?_⟩
  refine ⟨_, rn_198_0 hR _, ?_⟩
  obtain ⟨x5, h⟩ := h
  refine ⟨ix_i (show SH[199]? = some (100, 1600) from rfl) x5, ?_⟩
  refine bnd_I ?_
  replace h := bnd_e h
  refine bnd_I ?_
  replace h := bnd_e h
  exact hK28 _ _ hd h
set_option maxHeartbeats 4000000 in
set_option maxRecDepth 100000 in
theorem t_X12_feed_p28b {ρ : Nat → Nat → Option Nat} (hR : RfH ρ) {v1 : Int32} {v2 : Int32} {v3 : Int32} {v4 : Int32} {v5 : Int32} {v6 : Int32} {Q : Int32 → St → Prop} {QW : Int32 → Mem → Prop} (hQ : ∀ (r : Int32) (u : St), DK u → Q r u → QW r (emb ρ u)) {K28 : Int32 → St → Prop} {KW28 : Int32 → Mem → Prop} (hK28 : ∀ (x6 : Int32) (u : St), DK u → K28 x6 u → KW28 x6 (emb ρ u)) {u : St} (hd : DK u) (h : sX12_feed_p28b v1 v2 v3 v4 v5 Q K28 v6 u) : X12_feed_p28b SH 198 v1 v2 v3 v4 v5 QW KW28 v6 (emb ρ u) := by
  unfold X12_feed_p28b
  unfold sX12_feed_p28b at h
  refine ite_mono (fun hc h => ?_) (fun hc h => ?_) h
  · refine ⟨on_198, ?_⟩
    exact hQ _ _ hd h
  · refine ite_mono (fun hc h => ?_) (fun hc h => ?_) h
    · refine ite_mono (fun hc h => ?_) (fun hc h => ?_) h
      · refine ite_mono (fun hc h => ?_) (fun hc h => ?_) h
        · refine ite_mono (fun hc h => ?_) (fun hc h => ?_) h
          · exact t_X12_feed_p81 hR hQ hK28 hd h
          · exact t_X12_feed_p81 hR hQ hK28 hd h
        · exact t_X12_feed_p81 hR hQ hK28 hd h
      · exact t_X12_feed_p81 hR hQ hK28 hd h
    · exact t_X12_feed_p81 hR hQ hK28 hd h
set_option maxHeartbeats 4000000 in
set_option maxRecDepth 100000 in
theorem t_X12_feed_p28n {ρ : Nat → Nat → Option Nat} (hR : RfH ρ) {v1 : Int32} {v2 : Int32} {v3 : Int32} {v4 : Int32} {v5 : Int32} {Q : Int32 → St → Prop} {QW : Int32 → Mem → Prop} (hQ : ∀ (r : Int32) (u : St), DK u → Q r u → QW r (emb ρ u)) : ∀ (n : Nat) (v6 : Int32) (u : St), DK u → sX12_feed_p28n v1 v2 v3 v4 v5 Q n v6 u → X12_feed_p28n SH 198 v1 v2 v3 v4 v5 QW n v6 (emb ρ u)
  | 0, _, _,  _, h => h.elim
  | n + 1, v6,  u,  hd, h => t_X12_feed_p28b hR hQ (fun v6 u  hd h => t_X12_feed_p28n hR hQ n v6 u  hd h) hd h
set_option maxHeartbeats 4000000 in
set_option maxRecDepth 100000 in
theorem t_X12_feed_p28 {ρ : Nat → Nat → Option Nat} (hR : RfH ρ) {v1 : Int32} {v2 : Int32} {v3 : Int32} {v4 : Int32} {v5 : Int32} {v6 : Int32} {Q : Int32 → St → Prop} {QW : Int32 → Mem → Prop} (hQ : ∀ (r : Int32) (u : St), DK u → Q r u → QW r (emb ρ u)) {u : St} (hd : DK u) (h : sX12_feed_p28 v1 v2 v3 v4 v5 Q v6 u) : X12_feed_p28 SH 198 v1 v2 v3 v4 v5 QW v6 (emb ρ u) := h.elim (fun n h => ⟨n, t_X12_feed_p28n hR hQ n _ _ hd h⟩)
set_option maxHeartbeats 4000000 in
set_option maxRecDepth 100000 in
theorem t_X12_feed {ρ : Nat → Nat → Option Nat} (hR : RfH ρ) {v1 : Int32} {v2 : Int32} {v3 : Int32} {v4 : Int32} {v5 : Int32} {Q : Int32 → St → Prop} {QW : Int32 → Mem → Prop} (hQ : ∀ (r : Int32) (u : St), DK u → Q r u → QW r (emb ρ u)) {u : St} (hd : DK u) (h : s_X12_feed v1 v2 v3 v4 v5 Q u) : wp_X12_feed SH 198 v1 v2 v3 v4 v5 QW (emb ρ u) := by
  unfold wp_X12_feed
  unfold s_X12_feed at h
  refine ⟨on_198, ?_⟩
  refine ite_mono (fun hc h => ?_) (fun hc h => ?_) h
  · exact t_X12_feed_p28 hR hQ hd h
  · refine ⟨_, rn_198_9 hR _, ?_⟩
    obtain ⟨x2, h⟩ := h
    refine ⟨ix_i (show SH[200]? = some (100, 6) from rfl) x2, ?_⟩
    refine bnd_I ?_
    replace h := bnd_e h
    exact hQ _ _ hd h
/-! CalledRiverModel.pieAll -/
set_option maxHeartbeats 4000000 in
set_option maxRecDepth 100000 in
def sX12_pieAll_p4b (Q : Int32 → St → Prop) (K4 : Int32 → Int32 → St → Prop) (v1 : Int32) (v2 : Int32) (u : St) : Prop :=
  s_X12_farmMany  (fun r1 u2 => if r1 ≤ v2 then (Q v1 u2) else (s_X12_pieOf v2 (fun r3 u4 => K4 (v1 + r3) (v2 + (1 : Int32)) u4) u2)) u
set_option maxHeartbeats 4000000 in
set_option maxRecDepth 100000 in
def sX12_pieAll_p4n (Q : Int32 → St → Prop) : Nat → Int32 → Int32 → St → Prop
  | 0 => fun _ _ _ => False
  | n + 1 => sX12_pieAll_p4b Q (sX12_pieAll_p4n Q n)
set_option maxHeartbeats 4000000 in
set_option maxRecDepth 100000 in
def sX12_pieAll_p4 (Q : Int32 → St → Prop) (v1 : Int32) (v2 : Int32) (u : St) : Prop := ∃ n, sX12_pieAll_p4n Q n v1 v2 u
set_option maxHeartbeats 4000000 in
set_option maxRecDepth 100000 in
def s_X12_pieAll (Q : Int32 → St → Prop) (u : St) : Prop :=
  sX12_pieAll_p4 Q (0 : Int32) (0 : Int32) u
set_option maxHeartbeats 4000000 in
set_option maxRecDepth 100000 in
theorem t_X12_pieAll_p4b {ρ : Nat → Nat → Option Nat} (hR : RfH ρ) {v1 : Int32} {v2 : Int32} {Q : Int32 → St → Prop} {QW : Int32 → Mem → Prop} (hQ : ∀ (r : Int32) (u : St), DK u → Q r u → QW r (emb ρ u)) {K4 : Int32 → Int32 → St → Prop} {KW4 : Int32 → Int32 → Mem → Prop} (hK4 : ∀ (x1 : Int32) (x2 : Int32) (u : St), DK u → K4 x1 x2 u → KW4 x1 x2 (emb ρ u)) {u : St} (hd : DK u) (h : sX12_pieAll_p4b Q K4 v1 v2 u) : X12_pieAll_p4b SH 198 QW KW4 v1 v2 (emb ρ u) := by
  unfold X12_pieAll_p4b
  unfold sX12_pieAll_p4b at h
  refine ⟨on_198, ?_⟩
  refine t_X12_farmMany hR (fun r1 u2 hd h => ?_) hd h
  refine ite_mono (fun hc h => ?_) (fun hc h => ?_) h
  · exact hQ _ _ hd h
  · refine t_X12_pieOf hR (fun r3 u4 hd h => ?_) hd h
    exact hK4 _ _ _ hd h
set_option maxHeartbeats 4000000 in
set_option maxRecDepth 100000 in
theorem t_X12_pieAll_p4n {ρ : Nat → Nat → Option Nat} (hR : RfH ρ) {Q : Int32 → St → Prop} {QW : Int32 → Mem → Prop} (hQ : ∀ (r : Int32) (u : St), DK u → Q r u → QW r (emb ρ u)) : ∀ (n : Nat) (v1 : Int32) (v2 : Int32) (u : St), DK u → sX12_pieAll_p4n Q n v1 v2 u → X12_pieAll_p4n SH 198 QW n v1 v2 (emb ρ u)
  | 0, _,_, _,  _, h => h.elim
  | n + 1, v1, v2,  u,  hd, h => t_X12_pieAll_p4b hR hQ (fun v1 v2 u  hd h => t_X12_pieAll_p4n hR hQ n v1 v2 u  hd h) hd h
set_option maxHeartbeats 4000000 in
set_option maxRecDepth 100000 in
theorem t_X12_pieAll_p4 {ρ : Nat → Nat → Option Nat} (hR : RfH ρ) {v1 : Int32} {v2 : Int32} {Q : Int32 → St → Prop} {QW : Int32 → Mem → Prop} (hQ : ∀ (r : Int32) (u : St), DK u → Q r u → QW r (emb ρ u)) {u : St} (hd : DK u) (h : sX12_pieAll_p4 Q v1 v2 u) : X12_pieAll_p4 SH 198 QW v1 v2 (emb ρ u) := h.elim (fun n h => ⟨n, t_X12_pieAll_p4n hR hQ n _ _ _ hd h⟩)
set_option maxHeartbeats 4000000 in
set_option maxRecDepth 100000 in
theorem t_X12_pieAll {ρ : Nat → Nat → Option Nat} (hR : RfH ρ) {Q : Int32 → St → Prop} {QW : Int32 → Mem → Prop} (hQ : ∀ (r : Int32) (u : St), DK u → Q r u → QW r (emb ρ u)) {u : St} (hd : DK u) (h : s_X12_pieAll Q u) : wp_X12_pieAll SH 198 QW (emb ρ u) := by
  unfold wp_X12_pieAll
  unfold s_X12_pieAll at h
  exact t_X12_pieAll_p4 hR hQ hd h
/-! CalledRiverModel.stoneMany -/
set_option maxHeartbeats 4000000 in
set_option maxRecDepth 100000 in
def sX12_stoneMany_p4b (Q : Int32 → St → Prop) (K4 : Int32 → Int32 → St → Prop) (v1 : Int32) (v2 : Int32) (u : St) : Prop :=
  if (36 : Int32) ≤ v2 then (Q v1 u) else (vp_in ((2 : Int32) + ((3 : Int32) * v2)) 236 ∧ (K4 (v1 + (u.1 241 ((2 : Int32) + ((3 : Int32) * v2)).toNatClampNeg)) (v2 + (1 : Int32)) u))
set_option maxHeartbeats 4000000 in
set_option maxRecDepth 100000 in
def sX12_stoneMany_p4n (Q : Int32 → St → Prop) : Nat → Int32 → Int32 → St → Prop
  | 0 => fun _ _ _ => False
  | n + 1 => sX12_stoneMany_p4b Q (sX12_stoneMany_p4n Q n)
set_option maxHeartbeats 4000000 in
set_option maxRecDepth 100000 in
def sX12_stoneMany_p4 (Q : Int32 → St → Prop) (v1 : Int32) (v2 : Int32) (u : St) : Prop := ∃ n, sX12_stoneMany_p4n Q n v1 v2 u
set_option maxHeartbeats 4000000 in
set_option maxRecDepth 100000 in
def s_X12_stoneMany (Q : Int32 → St → Prop) (u : St) : Prop :=
  sX12_stoneMany_p4 Q (0 : Int32) (0 : Int32) u
set_option maxHeartbeats 4000000 in
set_option maxRecDepth 100000 in
theorem t_X12_stoneMany_p4b {ρ : Nat → Nat → Option Nat} (hR : RfH ρ) {v1 : Int32} {v2 : Int32} {Q : Int32 → St → Prop} {QW : Int32 → Mem → Prop} (hQ : ∀ (r : Int32) (u : St), DK u → Q r u → QW r (emb ρ u)) {K4 : Int32 → Int32 → St → Prop} {KW4 : Int32 → Int32 → Mem → Prop} (hK4 : ∀ (x1 : Int32) (x2 : Int32) (u : St), DK u → K4 x1 x2 u → KW4 x1 x2 (emb ρ u)) {u : St} (hd : DK u) (h : sX12_stoneMany_p4b Q K4 v1 v2 u) : X12_stoneMany_p4b SH 198 QW KW4 v1 v2 (emb ρ u) := by
  unfold X12_stoneMany_p4b
  unfold sX12_stoneMany_p4b at h
  refine ite_mono (fun hc h => ?_) (fun hc h => ?_) h
  · exact hQ _ _ hd h
  · refine ⟨on_198, ?_⟩
    refine ⟨_, rn_198_58 hR _, ?_⟩
    obtain ⟨x2, h⟩ := h
    refine ⟨ix_i (show SH[241]? = some (100, 236) from rfl) x2, ?_⟩
    exact hK4 _ _ _ hd h
set_option maxHeartbeats 4000000 in
set_option maxRecDepth 100000 in
theorem t_X12_stoneMany_p4n {ρ : Nat → Nat → Option Nat} (hR : RfH ρ) {Q : Int32 → St → Prop} {QW : Int32 → Mem → Prop} (hQ : ∀ (r : Int32) (u : St), DK u → Q r u → QW r (emb ρ u)) : ∀ (n : Nat) (v1 : Int32) (v2 : Int32) (u : St), DK u → sX12_stoneMany_p4n Q n v1 v2 u → X12_stoneMany_p4n SH 198 QW n v1 v2 (emb ρ u)
  | 0, _,_, _,  _, h => h.elim
  | n + 1, v1, v2,  u,  hd, h => t_X12_stoneMany_p4b hR hQ (fun v1 v2 u  hd h => t_X12_stoneMany_p4n hR hQ n v1 v2 u  hd h) hd h
set_option maxHeartbeats 4000000 in
set_option maxRecDepth 100000 in
theorem t_X12_stoneMany_p4 {ρ : Nat → Nat → Option Nat} (hR : RfH ρ) {v1 : Int32} {v2 : Int32} {Q : Int32 → St → Prop} {QW : Int32 → Mem → Prop} (hQ : ∀ (r : Int32) (u : St), DK u → Q r u → QW r (emb ρ u)) {u : St} (hd : DK u) (h : sX12_stoneMany_p4 Q v1 v2 u) : X12_stoneMany_p4 SH 198 QW v1 v2 (emb ρ u) := h.elim (fun n h => ⟨n, t_X12_stoneMany_p4n hR hQ n _ _ _ hd h⟩)
set_option maxHeartbeats 4000000 in
set_option maxRecDepth 100000 in
theorem t_X12_stoneMany {ρ : Nat → Nat → Option Nat} (hR : RfH ρ) {Q : Int32 → St → Prop} {QW : Int32 → Mem → Prop} (hQ : ∀ (r : Int32) (u : St), DK u → Q r u → QW r (emb ρ u)) {u : St} (hd : DK u) (h : s_X12_stoneMany Q u) : wp_X12_stoneMany SH 198 QW (emb ρ u) := by
  unfold wp_X12_stoneMany
  unfold s_X12_stoneMany at h
  exact t_X12_stoneMany_p4 hR hQ hd h
/-! CalledRiverModel.has -/
set_option maxHeartbeats 4000000 in
set_option maxRecDepth 100000 in
def s_X12_has (v1 : Int32) (Q : Int32 → St → Prop) (u : St) : Prop :=
  if v1 = (0 : Int32) then (vp_in ((2 : Int32) + v1) 4 ∧ (Q (u.1 231 ((2 : Int32) + v1).toNatClampNeg) u)) else if v1 = (1 : Int32) then (vp_in ((2 : Int32) + v1) 4 ∧ (Q (u.1 231 ((2 : Int32) + v1).toNatClampNeg) u)) else if v1 = (2 : Int32) then (vp_in v1 4 ∧ (Q (u.1 232 v1.toNatClampNeg) u)) else if v1 = (3 : Int32) then (vp_in v1 4 ∧ (Q (u.1 232 v1.toNatClampNeg) u)) else if v1 = (4 : Int32) then (vp_in (0 : Int32) 236 ∧ (Q (u.1 241 (0 : Int32).toNatClampNeg) u)) else if v1 = (5 : Int32) then (s_X12_stoneMany  (fun r11 u12 => Q r11 u12) u) else if v1 = (6 : Int32) then (if (u.1 198 56) = 0 then (Q (-1 : Int32) u) else (Q (u.1 198 44) u)) else if v1 = (7 : Int32) then (s_X12_pieAll  (fun r13 u14 => Q r13 u14) u) else if v1 = (8 : Int32) then (vp_in (115 : Int32) 236 ∧ (Q (u.1 241 (115 : Int32).toNatClampNeg) u)) else if v1 = (9 : Int32) then (Q (u.1 198 74) u) else if v1 = (10 : Int32) then (Q (u.1 198 78) u) else (Q (-1 : Int32) u)
set_option maxHeartbeats 4000000 in
set_option maxRecDepth 100000 in
theorem t_X12_has {ρ : Nat → Nat → Option Nat} (hR : RfH ρ) {v1 : Int32} {Q : Int32 → St → Prop} {QW : Int32 → Mem → Prop} (hQ : ∀ (r : Int32) (u : St), DK u → Q r u → QW r (emb ρ u)) {u : St} (hd : DK u) (h : s_X12_has v1 Q u) : wp_X12_has SH 198 v1 QW (emb ρ u) := by
  unfold wp_X12_has
  unfold s_X12_has at h
  refine ite_mono (fun hc h => ?_) (fun hc h => ?_) h
  · refine ⟨on_198, ?_⟩
    refine ⟨_, rn_198_42 hR _, ?_⟩
    obtain ⟨x2, h⟩ := h
    refine ⟨ix_i (show SH[231]? = some (100, 4) from rfl) x2, ?_⟩
    exact hQ _ _ hd h
  refine ite_mono (fun hc h => ?_) (fun hc h => ?_) h
  · refine ⟨on_198, ?_⟩
    refine ⟨_, rn_198_42 hR _, ?_⟩
    obtain ⟨x4, h⟩ := h
    refine ⟨ix_i (show SH[231]? = some (100, 4) from rfl) x4, ?_⟩
    exact hQ _ _ hd h
  refine ite_mono (fun hc h => ?_) (fun hc h => ?_) h
  · refine ⟨on_198, ?_⟩
    refine ⟨_, rn_198_45 hR _, ?_⟩
    obtain ⟨x6, h⟩ := h
    refine ⟨ix_i (show SH[232]? = some (100, 4) from rfl) x6, ?_⟩
    exact hQ _ _ hd h
  refine ite_mono (fun hc h => ?_) (fun hc h => ?_) h
  · refine ⟨on_198, ?_⟩
    refine ⟨_, rn_198_45 hR _, ?_⟩
    obtain ⟨x8, h⟩ := h
    refine ⟨ix_i (show SH[232]? = some (100, 4) from rfl) x8, ?_⟩
    exact hQ _ _ hd h
  refine ite_mono (fun hc h => ?_) (fun hc h => ?_) h
  · refine ⟨on_198, ?_⟩
    refine ⟨_, rn_198_58 hR _, ?_⟩
    obtain ⟨x10, h⟩ := h
    refine ⟨ix_i (show SH[241]? = some (100, 236) from rfl) x10, ?_⟩
    exact hQ _ _ hd h
  refine ite_mono (fun hc h => ?_) (fun hc h => ?_) h
  · refine ⟨on_198, ?_⟩
    refine t_X12_stoneMany hR (fun r11 u12 hd h => ?_) hd h
    exact hQ _ _ hd h
  refine ite_mono (fun hc h => ?_) (fun hc h => ?_) h
  · refine ⟨on_198, ?_⟩
    refine ite_mono (fun hc h => ?_) (fun hc h => ?_) h
    · exact hQ _ _ hd h
    · exact hQ _ _ hd h
  refine ite_mono (fun hc h => ?_) (fun hc h => ?_) h
  · refine ⟨on_198, ?_⟩
    refine t_X12_pieAll hR (fun r13 u14 hd h => ?_) hd h
    exact hQ _ _ hd h
  refine ite_mono (fun hc h => ?_) (fun hc h => ?_) h
  · refine ⟨on_198, ?_⟩
    refine ⟨_, rn_198_58 hR _, ?_⟩
    obtain ⟨x16, h⟩ := h
    refine ⟨ix_i (show SH[241]? = some (100, 236) from rfl) x16, ?_⟩
    exact hQ _ _ hd h
  refine ite_mono (fun hc h => ?_) (fun hc h => ?_) h
  · refine ⟨on_198, ?_⟩
    exact hQ _ _ hd h
  refine ite_mono (fun hc h => ?_) (fun hc h => ?_) h
  · refine ⟨on_198, ?_⟩
    exact hQ _ _ hd h
  exact hQ _ _ hd h
/-! CalledRiverModel.highTold -/
set_option maxHeartbeats 4000000 in
set_option maxRecDepth 100000 in
def s_X12_highTold (Q : St → Prop) (u : St) : Prop :=
  s_X12_cellTold  (fun r1 u2 => s_X12_number (0 : Int32) (9 : Int32) (fun r3 u4 => if (u4.1 198 5) = 0 then (vp_in r1 36 ∧ bnd (tI u4 236 r1.toNatClampNeg r3) (fun u7 => Q u7)) else (Q u4)) u2) u
set_option maxHeartbeats 4000000 in
set_option maxRecDepth 100000 in
theorem t_X12_highTold {ρ : Nat → Nat → Option Nat} (hR : RfH ρ) {Q : St → Prop} {QW : Mem → Prop} (hQ : ∀ (u : St), DK u → Q u → QW (emb ρ u)) {u : St} (hd : DK u) (h : s_X12_highTold Q u) : wp_X12_highTold SH 198 QW (emb ρ u) := by
  unfold wp_X12_highTold
  unfold s_X12_highTold at h
  refine ⟨on_198, ?_⟩
  refine t_X12_cellTold hR (fun r1 u2 hd h => ?_) hd h
  refine t_X12_number hR (fun r3 u4 hd h => ?_) hd h
  refine ite_mono (fun hc h => ?_) (fun hc h => ?_) h
  · refine ⟨_, rn_198_49 hR _, ?_⟩
    obtain ⟨x6, h⟩ := h
    refine ⟨ix_i (show SH[236]? = some (100, 36) from rfl) x6, ?_⟩
    refine bnd_I ?_
    replace h := bnd_e h
    exact hQ _ hd h
  · exact hQ _ hd h
/-! CalledRiverModel.writes -/
set_option maxHeartbeats 4000000 in
set_option maxRecDepth 100000 in
def s_X12_writes (v1 : Int32) (Q : St → Prop) (u : St) : Prop :=
  vp_in (u.1 198 119) 117 ∧ bnd (tI u 285 (u.1 198 119).toNatClampNeg v1) (fun u3 => bnd (tI u3 198 119 ((u3.1 198 119) + (1 : Int32))) (fun u4 => Q u4))
set_option maxHeartbeats 4000000 in
set_option maxRecDepth 100000 in
theorem t_X12_writes {ρ : Nat → Nat → Option Nat} (hR : RfH ρ) {v1 : Int32} {Q : St → Prop} {QW : Mem → Prop} (hQ : ∀ (u : St), DK u → Q u → QW (emb ρ u)) {u : St} (hd : DK u) (h : s_X12_writes v1 Q u) : wp_X12_writes SH 198 v1 QW (emb ρ u) := by
  unfold wp_X12_writes
  unfold s_X12_writes at h
  refine ⟨on_198, ?_⟩
  refine ⟨_, rn_198_118 hR _, ?_⟩
  obtain ⟨x2, h⟩ := h
  refine ⟨ix_i (show SH[285]? = some (100, 117) from rfl) x2, ?_⟩
  refine bnd_I ?_
  replace h := bnd_e h
  refine bnd_I ?_
  replace h := bnd_e h
  exact hQ _ hd h
/-! CalledRiverModel.image -/
set_option maxHeartbeats 4000000 in
set_option maxRecDepth 100000 in
def sX12_image_p45b (v1 : Int32) (Q : Int32 → St → Prop) (K35 : Int32 → St → Prop) (K45 : Int32 → St → Prop) (v2 : Int32) (u : St) : Prop :=
  if (4 : Int32) ≤ v2 then (K35 (v1 + (1 : Int32)) u) else (s_X12_cellOfNumber v1 (fun r24 u25 => vp_in (((3 : Int32) * r24) + v2) 236 ∧ (s_X12_writes (u25.1 241 (((3 : Int32) * r24) + v2).toNatClampNeg) (fun u28 => K45 (v2 + (1 : Int32)) u28) u25)) u)
set_option maxHeartbeats 4000000 in
set_option maxRecDepth 100000 in
def sX12_image_p45n (v1 : Int32) (Q : Int32 → St → Prop) (K35 : Int32 → St → Prop) : Nat → Int32 → St → Prop
  | 0 => fun _ _ => False
  | n + 1 => sX12_image_p45b v1 Q K35 (sX12_image_p45n v1 Q K35 n)
set_option maxHeartbeats 4000000 in
set_option maxRecDepth 100000 in
def sX12_image_p45 (v1 : Int32) (Q : Int32 → St → Prop) (K35 : Int32 → St → Prop) (v2 : Int32) (u : St) : Prop := ∃ n, sX12_image_p45n v1 Q K35 n v2 u
set_option maxHeartbeats 4000000 in
set_option maxRecDepth 100000 in
def sX12_image_p82b (Q : Int32 → St → Prop) (K82 : Int32 → St → Prop) (v1 : Int32) (u : St) : Prop :=
  s_X12_farmMany  (fun r12 u13 => if r12 ≤ v1 then (s_X12_checked 285 (u13.1 198 119) (fun r15 u16 => s_X12_writes r15 (fun u18 => Q (u18.1 198 119) u18) u16) u13) else (s_X12_pieOf v1 (fun r19 u20 => s_X12_writes r19 (fun u22 => K82 (v1 + (1 : Int32)) u22) u20) u13)) u
set_option maxHeartbeats 4000000 in
set_option maxRecDepth 100000 in
def sX12_image_p82n (Q : Int32 → St → Prop) : Nat → Int32 → St → Prop
  | 0 => fun _ _ => False
  | n + 1 => sX12_image_p82b Q (sX12_image_p82n Q n)
set_option maxHeartbeats 4000000 in
set_option maxRecDepth 100000 in
def sX12_image_p82 (Q : Int32 → St → Prop) (v1 : Int32) (u : St) : Prop := ∃ n, sX12_image_p82n Q n v1 u
set_option maxHeartbeats 4000000 in
set_option maxRecDepth 100000 in
def sX12_image_p35b (Q : Int32 → St → Prop) (K35 : Int32 → St → Prop) (v1 : Int32) (u : St) : Prop :=
  s_X12_cellMany  (fun r10 u11 => if r10 ≤ v1 then (sX12_image_p82 Q (0 : Int32) u11) else (sX12_image_p45 v1 Q K35 (1 : Int32) u11)) u
set_option maxHeartbeats 4000000 in
set_option maxRecDepth 100000 in
def sX12_image_p35n (Q : Int32 → St → Prop) : Nat → Int32 → St → Prop
  | 0 => fun _ _ => False
  | n + 1 => sX12_image_p35b Q (sX12_image_p35n Q n)
set_option maxHeartbeats 4000000 in
set_option maxRecDepth 100000 in
def sX12_image_p35 (Q : Int32 → St → Prop) (v1 : Int32) (u : St) : Prop := ∃ n, sX12_image_p35n Q n v1 u
set_option maxHeartbeats 4000000 in
set_option maxRecDepth 100000 in
def s_X12_image (Q : Int32 → St → Prop) (u : St) : Prop :=
  bnd (tI u 198 119 (0 : Int32)) (fun u1 => vp_in (0 : Int32) 236 ∧ (s_X12_writes ((u1.1 241 (0 : Int32).toNatClampNeg) / (256 : Int32)) (fun u5 => vp_in (0 : Int32) 236 ∧ (s_X12_writes ((u5.1 241 (0 : Int32).toNatClampNeg) - (u5.1 241 (0 : Int32).toNatClampNeg) / (256 : Int32) * (256 : Int32)) (fun u9 => sX12_image_p35 Q (0 : Int32) u9) u5)) u1))
set_option maxHeartbeats 4000000 in
set_option maxRecDepth 100000 in
theorem t_X12_image_p45b {ρ : Nat → Nat → Option Nat} (hR : RfH ρ) {v1 : Int32} {v2 : Int32} {Q : Int32 → St → Prop} {QW : Int32 → Mem → Prop} {K35 : Int32 → St → Prop} {KW35 : Int32 → Mem → Prop} (hQ : ∀ (r : Int32) (u : St), DK u → Q r u → QW r (emb ρ u)) (hK35 : ∀ (x1 : Int32) (u : St), DK u → K35 x1 u → KW35 x1 (emb ρ u)) {K45 : Int32 → St → Prop} {KW45 : Int32 → Mem → Prop} (hK45 : ∀ (x2 : Int32) (u : St), DK u → K45 x2 u → KW45 x2 (emb ρ u)) {u : St} (hd : DK u) (h : sX12_image_p45b v1 Q K35 K45 v2 u) : X12_image_p45b SH 198 v1 QW KW35 KW45 v2 (emb ρ u) := by
  unfold X12_image_p45b
  unfold sX12_image_p45b at h
  refine ite_mono (fun hc h => ?_) (fun hc h => ?_) h
  · exact hK35 _ _ hd h
  · refine ⟨on_198, ?_⟩
    refine ⟨_, rn_198_58 hR _, ?_⟩
    refine t_X12_cellOfNumber hR (fun r24 u25 hd h => ?_) hd h
    obtain ⟨x26, h⟩ := h
    refine ⟨ix_i (show SH[241]? = some (100, 236) from rfl) x26, ?_⟩
    refine t_X12_writes hR (fun u28 hd h => ?_) hd h
    exact hK45 _ _ hd h
set_option maxHeartbeats 4000000 in
set_option maxRecDepth 100000 in
theorem t_X12_image_p45n {ρ : Nat → Nat → Option Nat} (hR : RfH ρ) {v1 : Int32} {Q : Int32 → St → Prop} {QW : Int32 → Mem → Prop} {K35 : Int32 → St → Prop} {KW35 : Int32 → Mem → Prop} (hQ : ∀ (r : Int32) (u : St), DK u → Q r u → QW r (emb ρ u)) (hK35 : ∀ (x1 : Int32) (u : St), DK u → K35 x1 u → KW35 x1 (emb ρ u)) : ∀ (n : Nat) (v2 : Int32) (u : St), DK u → sX12_image_p45n v1 Q K35 n v2 u → X12_image_p45n SH 198 v1 QW KW35 n v2 (emb ρ u)
  | 0, _, _,  _, h => h.elim
  | n + 1, v2,  u,  hd, h => t_X12_image_p45b hR hQ hK35 (fun v2 u  hd h => t_X12_image_p45n hR hQ hK35 n v2 u  hd h) hd h
set_option maxHeartbeats 4000000 in
set_option maxRecDepth 100000 in
theorem t_X12_image_p45 {ρ : Nat → Nat → Option Nat} (hR : RfH ρ) {v1 : Int32} {v2 : Int32} {Q : Int32 → St → Prop} {QW : Int32 → Mem → Prop} {K35 : Int32 → St → Prop} {KW35 : Int32 → Mem → Prop} (hQ : ∀ (r : Int32) (u : St), DK u → Q r u → QW r (emb ρ u)) (hK35 : ∀ (x1 : Int32) (u : St), DK u → K35 x1 u → KW35 x1 (emb ρ u)) {u : St} (hd : DK u) (h : sX12_image_p45 v1 Q K35 v2 u) : X12_image_p45 SH 198 v1 QW KW35 v2 (emb ρ u) := h.elim (fun n h => ⟨n, t_X12_image_p45n hR hQ hK35 n _ _ hd h⟩)
set_option maxHeartbeats 4000000 in
set_option maxRecDepth 100000 in
theorem t_X12_image_p82b {ρ : Nat → Nat → Option Nat} (hR : RfH ρ) {v1 : Int32} {Q : Int32 → St → Prop} {QW : Int32 → Mem → Prop} (hQ : ∀ (r : Int32) (u : St), DK u → Q r u → QW r (emb ρ u)) {K82 : Int32 → St → Prop} {KW82 : Int32 → Mem → Prop} (hK82 : ∀ (x1 : Int32) (u : St), DK u → K82 x1 u → KW82 x1 (emb ρ u)) {u : St} (hd : DK u) (h : sX12_image_p82b Q K82 v1 u) : X12_image_p82b SH 198 QW KW82 v1 (emb ρ u) := by
  unfold X12_image_p82b
  unfold sX12_image_p82b at h
  refine ⟨on_198, ?_⟩
  refine t_X12_farmMany hR (fun r12 u13 hd h => ?_) hd h
  refine ite_mono (fun hc h => ?_) (fun hc h => ?_) h
  · refine ⟨_, rn_198_118 hR _, ?_⟩
    refine t_X12_checked hR (fun r15 u16 hd h => ?_) hd h
    refine t_X12_writes hR (fun u18 hd h => ?_) hd h
    exact hQ _ _ hd h
  · refine t_X12_pieOf hR (fun r19 u20 hd h => ?_) hd h
    refine t_X12_writes hR (fun u22 hd h => ?_) hd h
    exact hK82 _ _ hd h
set_option maxHeartbeats 4000000 in
set_option maxRecDepth 100000 in
theorem t_X12_image_p82n {ρ : Nat → Nat → Option Nat} (hR : RfH ρ) {Q : Int32 → St → Prop} {QW : Int32 → Mem → Prop} (hQ : ∀ (r : Int32) (u : St), DK u → Q r u → QW r (emb ρ u)) : ∀ (n : Nat) (v1 : Int32) (u : St), DK u → sX12_image_p82n Q n v1 u → X12_image_p82n SH 198 QW n v1 (emb ρ u)
  | 0, _, _,  _, h => h.elim
  | n + 1, v1,  u,  hd, h => t_X12_image_p82b hR hQ (fun v1 u  hd h => t_X12_image_p82n hR hQ n v1 u  hd h) hd h
set_option maxHeartbeats 4000000 in
set_option maxRecDepth 100000 in
theorem t_X12_image_p82 {ρ : Nat → Nat → Option Nat} (hR : RfH ρ) {v1 : Int32} {Q : Int32 → St → Prop} {QW : Int32 → Mem → Prop} (hQ : ∀ (r : Int32) (u : St), DK u → Q r u → QW r (emb ρ u)) {u : St} (hd : DK u) (h : sX12_image_p82 Q v1 u) : X12_image_p82 SH 198 QW v1 (emb ρ u) := h.elim (fun n h => ⟨n, t_X12_image_p82n hR hQ n _ _ hd h⟩)
set_option maxHeartbeats 4000000 in
set_option maxRecDepth 100000 in
theorem t_X12_image_p35b {ρ : Nat → Nat → Option Nat} (hR : RfH ρ) {v1 : Int32} {Q : Int32 → St → Prop} {QW : Int32 → Mem → Prop} (hQ : ∀ (r : Int32) (u : St), DK u → Q r u → QW r (emb ρ u)) {K35 : Int32 → St → Prop} {KW35 : Int32 → Mem → Prop} (hK35 : ∀ (x1 : Int32) (u : St), DK u → K35 x1 u → KW35 x1 (emb ρ u)) {u : St} (hd : DK u) (h : sX12_image_p35b Q K35 v1 u) : X12_image_p35b SH 198 QW KW35 v1 (emb ρ u) := by
  unfold X12_image_p35b
  unfold sX12_image_p35b at h
  refine ⟨on_198, ?_⟩
  refine t_X12_cellMany hR (fun r10 u11 hd h => ?_) hd h
  refine ite_mono (fun hc h => ?_) (fun hc h => ?_) h
  · exact t_X12_image_p82 hR hQ hd h
  · exact t_X12_image_p45 hR hQ hK35 hd h
set_option maxHeartbeats 4000000 in
set_option maxRecDepth 100000 in
theorem t_X12_image_p35n {ρ : Nat → Nat → Option Nat} (hR : RfH ρ) {Q : Int32 → St → Prop} {QW : Int32 → Mem → Prop} (hQ : ∀ (r : Int32) (u : St), DK u → Q r u → QW r (emb ρ u)) : ∀ (n : Nat) (v1 : Int32) (u : St), DK u → sX12_image_p35n Q n v1 u → X12_image_p35n SH 198 QW n v1 (emb ρ u)
  | 0, _, _,  _, h => h.elim
  | n + 1, v1,  u,  hd, h => t_X12_image_p35b hR hQ (fun v1 u  hd h => t_X12_image_p35n hR hQ n v1 u  hd h) hd h
set_option maxHeartbeats 4000000 in
set_option maxRecDepth 100000 in
theorem t_X12_image_p35 {ρ : Nat → Nat → Option Nat} (hR : RfH ρ) {v1 : Int32} {Q : Int32 → St → Prop} {QW : Int32 → Mem → Prop} (hQ : ∀ (r : Int32) (u : St), DK u → Q r u → QW r (emb ρ u)) {u : St} (hd : DK u) (h : sX12_image_p35 Q v1 u) : X12_image_p35 SH 198 QW v1 (emb ρ u) := h.elim (fun n h => ⟨n, t_X12_image_p35n hR hQ n _ _ hd h⟩)
set_option maxHeartbeats 4000000 in
set_option maxRecDepth 100000 in
theorem t_X12_image {ρ : Nat → Nat → Option Nat} (hR : RfH ρ) {Q : Int32 → St → Prop} {QW : Int32 → Mem → Prop} (hQ : ∀ (r : Int32) (u : St), DK u → Q r u → QW r (emb ρ u)) {u : St} (hd : DK u) (h : s_X12_image Q u) : wp_X12_image SH 198 QW (emb ρ u) := by
  unfold wp_X12_image
  unfold s_X12_image at h
  refine ⟨on_198, ?_⟩
  refine bnd_I ?_
  replace h := bnd_e h
  refine ⟨_, rn_198_58 hR _, ?_⟩
  obtain ⟨x3, h⟩ := h
  refine ⟨ix_i (show SH[241]? = some (100, 236) from rfl) x3, ?_⟩
  refine t_X12_writes hR (fun u5 hd h => ?_) hd h
  refine ⟨_, rn_198_58 hR _, ?_⟩
  obtain ⟨x7, h⟩ := h
  refine ⟨ix_i (show SH[241]? = some (100, 236) from rfl) x7, ?_⟩
  refine t_X12_writes hR (fun u9 hd h => ?_) hd h
  exact t_X12_image_p35 hR hQ hd h
/-! CalledRiverModel.isAsSeen -/
set_option maxHeartbeats 4000000 in
set_option maxRecDepth 100000 in
def sX12_isAsSeen_p2b (v1 : Int32) (Q : Int32 → St → Prop) (K2 : Int32 → St → Prop) (v2 : Int32) (u : St) : Prop :=
  if (u.1 198 74) ≤ v2 then (Q (1 : Int32) u) else (vp_in ((2 : Int32) * v2) 32 ∧ (vp_in (((41 : Int32) * v1) + (u.1 252 ((2 : Int32) * v2).toNatClampNeg)) 205 ∧ (vp_in (((2 : Int32) * v2) + (1 : Int32)) 32 ∧ (if (u.1 253 (((41 : Int32) * v1) + (u.1 252 ((2 : Int32) * v2).toNatClampNeg)).toNatClampNeg) = (u.1 252 (((2 : Int32) * v2) + (1 : Int32)).toNatClampNeg) then (K2 (v2 + (1 : Int32)) u) else (Q (0 : Int32) u)))))
set_option maxHeartbeats 4000000 in
set_option maxRecDepth 100000 in
def sX12_isAsSeen_p2n (v1 : Int32) (Q : Int32 → St → Prop) : Nat → Int32 → St → Prop
  | 0 => fun _ _ => False
  | n + 1 => sX12_isAsSeen_p2b v1 Q (sX12_isAsSeen_p2n v1 Q n)
set_option maxHeartbeats 4000000 in
set_option maxRecDepth 100000 in
def sX12_isAsSeen_p2 (v1 : Int32) (Q : Int32 → St → Prop) (v2 : Int32) (u : St) : Prop := ∃ n, sX12_isAsSeen_p2n v1 Q n v2 u
set_option maxHeartbeats 4000000 in
set_option maxRecDepth 100000 in
def s_X12_isAsSeen (v1 : Int32) (Q : Int32 → St → Prop) (u : St) : Prop :=
  sX12_isAsSeen_p2 v1 Q (0 : Int32) u
set_option maxHeartbeats 4000000 in
set_option maxRecDepth 100000 in
theorem t_X12_isAsSeen_p2b {ρ : Nat → Nat → Option Nat} (hR : RfH ρ) {v1 : Int32} {v2 : Int32} {Q : Int32 → St → Prop} {QW : Int32 → Mem → Prop} (hQ : ∀ (r : Int32) (u : St), DK u → Q r u → QW r (emb ρ u)) {K2 : Int32 → St → Prop} {KW2 : Int32 → Mem → Prop} (hK2 : ∀ (x2 : Int32) (u : St), DK u → K2 x2 u → KW2 x2 (emb ρ u)) {u : St} (hd : DK u) (h : sX12_isAsSeen_p2b v1 Q K2 v2 u) : X12_isAsSeen_p2b SH 198 v1 QW KW2 v2 (emb ρ u) := by
  unfold X12_isAsSeen_p2b
  unfold sX12_isAsSeen_p2b at h
  refine ⟨on_198, ?_⟩
  refine ite_mono (fun hc h => ?_) (fun hc h => ?_) h
  · exact hQ _ _ hd h
  · refine ⟨_, rn_198_76 hR _, ?_⟩
    refine ⟨_, rn_198_75 hR _, ?_⟩
    obtain ⟨x3, h⟩ := h
    refine ⟨ix_i (show SH[252]? = some (100, 32) from rfl) x3, ?_⟩
    obtain ⟨x4, h⟩ := h
    refine ⟨ix_i (show SH[253]? = some (100, 205) from rfl) x4, ?_⟩
    obtain ⟨x5, h⟩ := h
    refine ⟨ix_i (show SH[252]? = some (100, 32) from rfl) x5, ?_⟩
    refine ite_mono (fun hc h => ?_) (fun hc h => ?_) h
    · exact hK2 _ _ hd h
    · exact hQ _ _ hd h
set_option maxHeartbeats 4000000 in
set_option maxRecDepth 100000 in
theorem t_X12_isAsSeen_p2n {ρ : Nat → Nat → Option Nat} (hR : RfH ρ) {v1 : Int32} {Q : Int32 → St → Prop} {QW : Int32 → Mem → Prop} (hQ : ∀ (r : Int32) (u : St), DK u → Q r u → QW r (emb ρ u)) : ∀ (n : Nat) (v2 : Int32) (u : St), DK u → sX12_isAsSeen_p2n v1 Q n v2 u → X12_isAsSeen_p2n SH 198 v1 QW n v2 (emb ρ u)
  | 0, _, _,  _, h => h.elim
  | n + 1, v2,  u,  hd, h => t_X12_isAsSeen_p2b hR hQ (fun v2 u  hd h => t_X12_isAsSeen_p2n hR hQ n v2 u  hd h) hd h
set_option maxHeartbeats 4000000 in
set_option maxRecDepth 100000 in
theorem t_X12_isAsSeen_p2 {ρ : Nat → Nat → Option Nat} (hR : RfH ρ) {v1 : Int32} {v2 : Int32} {Q : Int32 → St → Prop} {QW : Int32 → Mem → Prop} (hQ : ∀ (r : Int32) (u : St), DK u → Q r u → QW r (emb ρ u)) {u : St} (hd : DK u) (h : sX12_isAsSeen_p2 v1 Q v2 u) : X12_isAsSeen_p2 SH 198 v1 QW v2 (emb ρ u) := h.elim (fun n h => ⟨n, t_X12_isAsSeen_p2n hR hQ n _ _ hd h⟩)
set_option maxHeartbeats 4000000 in
set_option maxRecDepth 100000 in
theorem t_X12_isAsSeen {ρ : Nat → Nat → Option Nat} (hR : RfH ρ) {v1 : Int32} {Q : Int32 → St → Prop} {QW : Int32 → Mem → Prop} (hQ : ∀ (r : Int32) (u : St), DK u → Q r u → QW r (emb ρ u)) {u : St} (hd : DK u) (h : s_X12_isAsSeen v1 Q u) : wp_X12_isAsSeen SH 198 v1 QW (emb ρ u) := by
  unfold wp_X12_isAsSeen
  unfold s_X12_isAsSeen at h
  exact t_X12_isAsSeen_p2 hR hQ hd h
/-! CalledRiverModel.isImage -/
set_option maxHeartbeats 4000000 in
set_option maxRecDepth 100000 in
def sX12_isImage_p127b (v1 : Int32) (Q : Int32 → St → Prop) (K127 : Int32 → St → Prop) (v3 : Int32) (u : St) : Prop :=
  if (v1 - (1 : Int32)) ≤ v3 then (Q (1 : Int32) u) else (vp_in v3 1600 ∧ (if (u.1 199 v3.toNatClampNeg) ≤ (9 : Int32) then (K127 (v3 + (1 : Int32)) u) else (Q (0 : Int32) u)))
set_option maxHeartbeats 4000000 in
set_option maxRecDepth 100000 in
def sX12_isImage_p127n (v1 : Int32) (Q : Int32 → St → Prop) : Nat → Int32 → St → Prop
  | 0 => fun _ _ => False
  | n + 1 => sX12_isImage_p127b v1 Q (sX12_isImage_p127n v1 Q n)
set_option maxHeartbeats 4000000 in
set_option maxRecDepth 100000 in
def sX12_isImage_p127 (v1 : Int32) (Q : Int32 → St → Prop) (v3 : Int32) (u : St) : Prop := ∃ n, sX12_isImage_p127n v1 Q n v3 u
set_option maxHeartbeats 4000000 in
set_option maxRecDepth 100000 in
def sX12_isImage_p76b (v1 : Int32) (v2 : Int32) (Q : Int32 → St → Prop) (K76 : Int32 → St → Prop) (v3 : Int32) (u : St) : Prop :=
  if v2 ≤ v3 then (sX12_isImage_p127 v1 Q v2 u) else (vp_in v3 1600 ∧ (if (9 : Int32) < (u.1 199 v3.toNatClampNeg) then (Q (0 : Int32) u) else (vp_in (v3 + (1 : Int32)) 1600 ∧ (if (1 : Int32) < (u.1 199 (v3 + (1 : Int32)).toNatClampNeg) then (Q (0 : Int32) u) else (vp_in (v3 + (2 : Int32)) 1600 ∧ (if (u.1 199 (v3 + (2 : Int32)).toNatClampNeg) ≤ (99 : Int32) then (K76 (v3 + (3 : Int32)) u) else (Q (0 : Int32) u)))))))
set_option maxHeartbeats 4000000 in
set_option maxRecDepth 100000 in
def sX12_isImage_p76n (v1 : Int32) (v2 : Int32) (Q : Int32 → St → Prop) : Nat → Int32 → St → Prop
  | 0 => fun _ _ => False
  | n + 1 => sX12_isImage_p76b v1 v2 Q (sX12_isImage_p76n v1 v2 Q n)
set_option maxHeartbeats 4000000 in
set_option maxRecDepth 100000 in
def sX12_isImage_p76 (v1 : Int32) (v2 : Int32) (Q : Int32 → St → Prop) (v3 : Int32) (u : St) : Prop := ∃ n, sX12_isImage_p76n v1 v2 Q n v3 u
set_option maxHeartbeats 4000000 in
set_option maxRecDepth 100000 in
def s_X12_isImage (v1 : Int32) (Q : Int32 → St → Prop) (u : St) : Prop :=
  s_X12_cellMany  (fun r1 u2 => if (u2.1 198 56) = 0 then (Q (0 : Int32) u2) else (s_X12_farmMany  (fun r3 u4 => if v1 = ((((2 : Int32) + ((3 : Int32) * r1)) + r3) + (1 : Int32)) then (vp_in (v1 - (1 : Int32)) 1600 ∧ (s_X12_checked 199 (v1 - (1 : Int32)) (fun r7 u8 => if (u4.1 199 (v1 - (1 : Int32)).toNatClampNeg) = r7 then (vp_in (0 : Int32) 1600 ∧ (vp_in (1 : Int32) 1600 ∧ (if (((256 : Int32) * (u8.1 199 (0 : Int32).toNatClampNeg)) + (u8.1 199 (1 : Int32).toNatClampNeg)) ≤ (999 : Int32) then (sX12_isImage_p76 v1 ((2 : Int32) + ((3 : Int32) * r1)) Q (2 : Int32) u8) else (Q (0 : Int32) u8)))) else (Q (0 : Int32) u8)) u4)) else (Q (0 : Int32) u4)) u2)) u
set_option maxHeartbeats 4000000 in
set_option maxRecDepth 100000 in
theorem t_X12_isImage_p127b {ρ : Nat → Nat → Option Nat} (hR : RfH ρ) {v1 : Int32} {v3 : Int32} {Q : Int32 → St → Prop} {QW : Int32 → Mem → Prop} (hQ : ∀ (r : Int32) (u : St), DK u → Q r u → QW r (emb ρ u)) {K127 : Int32 → St → Prop} {KW127 : Int32 → Mem → Prop} (hK127 : ∀ (x3 : Int32) (u : St), DK u → K127 x3 u → KW127 x3 (emb ρ u)) {u : St} (hd : DK u) (h : sX12_isImage_p127b v1 Q K127 v3 u) : X12_isImage_p127b SH 198 v1 QW KW127 v3 (emb ρ u) := by
  unfold X12_isImage_p127b
  unfold sX12_isImage_p127b at h
  refine ite_mono (fun hc h => ?_) (fun hc h => ?_) h
  · exact hQ _ _ hd h
  · refine ⟨on_198, ?_⟩
    refine ⟨_, rn_198_0 hR _, ?_⟩
    obtain ⟨x17, h⟩ := h
    refine ⟨ix_i (show SH[199]? = some (100, 1600) from rfl) x17, ?_⟩
    refine ite_mono (fun hc h => ?_) (fun hc h => ?_) h
    · exact hK127 _ _ hd h
    · exact hQ _ _ hd h
set_option maxHeartbeats 4000000 in
set_option maxRecDepth 100000 in
theorem t_X12_isImage_p127n {ρ : Nat → Nat → Option Nat} (hR : RfH ρ) {v1 : Int32} {Q : Int32 → St → Prop} {QW : Int32 → Mem → Prop} (hQ : ∀ (r : Int32) (u : St), DK u → Q r u → QW r (emb ρ u)) : ∀ (n : Nat) (v3 : Int32) (u : St), DK u → sX12_isImage_p127n v1 Q n v3 u → X12_isImage_p127n SH 198 v1 QW n v3 (emb ρ u)
  | 0, _, _,  _, h => h.elim
  | n + 1, v3,  u,  hd, h => t_X12_isImage_p127b hR hQ (fun v3 u  hd h => t_X12_isImage_p127n hR hQ n v3 u  hd h) hd h
set_option maxHeartbeats 4000000 in
set_option maxRecDepth 100000 in
theorem t_X12_isImage_p127 {ρ : Nat → Nat → Option Nat} (hR : RfH ρ) {v1 : Int32} {v3 : Int32} {Q : Int32 → St → Prop} {QW : Int32 → Mem → Prop} (hQ : ∀ (r : Int32) (u : St), DK u → Q r u → QW r (emb ρ u)) {u : St} (hd : DK u) (h : sX12_isImage_p127 v1 Q v3 u) : X12_isImage_p127 SH 198 v1 QW v3 (emb ρ u) := h.elim (fun n h => ⟨n, t_X12_isImage_p127n hR hQ n _ _ hd h⟩)
set_option maxHeartbeats 4000000 in
set_option maxRecDepth 100000 in
theorem t_X12_isImage_p76b {ρ : Nat → Nat → Option Nat} (hR : RfH ρ) {v1 : Int32} {v2 : Int32} {v3 : Int32} {Q : Int32 → St → Prop} {QW : Int32 → Mem → Prop} (hQ : ∀ (r : Int32) (u : St), DK u → Q r u → QW r (emb ρ u)) {K76 : Int32 → St → Prop} {KW76 : Int32 → Mem → Prop} (hK76 : ∀ (x3 : Int32) (u : St), DK u → K76 x3 u → KW76 x3 (emb ρ u)) {u : St} (hd : DK u) (h : sX12_isImage_p76b v1 v2 Q K76 v3 u) : X12_isImage_p76b SH 198 v1 v2 QW KW76 v3 (emb ρ u) := by
  unfold X12_isImage_p76b
  unfold sX12_isImage_p76b at h
  refine ite_mono (fun hc h => ?_) (fun hc h => ?_) h
  · exact t_X12_isImage_p127 hR hQ hd h
  · refine ⟨on_198, ?_⟩
    refine ⟨_, rn_198_0 hR _, ?_⟩
    obtain ⟨x13, h⟩ := h
    refine ⟨ix_i (show SH[199]? = some (100, 1600) from rfl) x13, ?_⟩
    refine ite_mono (fun hc h => ?_) (fun hc h => ?_) h
    · exact hQ _ _ hd h
    · obtain ⟨x14, h⟩ := h
      refine ⟨ix_i (show SH[199]? = some (100, 1600) from rfl) x14, ?_⟩
      refine ite_mono (fun hc h => ?_) (fun hc h => ?_) h
      · exact hQ _ _ hd h
      · obtain ⟨x15, h⟩ := h
        refine ⟨ix_i (show SH[199]? = some (100, 1600) from rfl) x15, ?_⟩
        refine ite_mono (fun hc h => ?_) (fun hc h => ?_) h
        · exact hK76 _ _ hd h
        · exact hQ _ _ hd h
set_option maxHeartbeats 4000000 in
set_option maxRecDepth 100000 in
theorem t_X12_isImage_p76n {ρ : Nat → Nat → Option Nat} (hR : RfH ρ) {v1 : Int32} {v2 : Int32} {Q : Int32 → St → Prop} {QW : Int32 → Mem → Prop} (hQ : ∀ (r : Int32) (u : St), DK u → Q r u → QW r (emb ρ u)) : ∀ (n : Nat) (v3 : Int32) (u : St), DK u → sX12_isImage_p76n v1 v2 Q n v3 u → X12_isImage_p76n SH 198 v1 v2 QW n v3 (emb ρ u)
  | 0, _, _,  _, h => h.elim
  | n + 1, v3,  u,  hd, h => t_X12_isImage_p76b hR hQ (fun v3 u  hd h => t_X12_isImage_p76n hR hQ n v3 u  hd h) hd h
set_option maxHeartbeats 4000000 in
set_option maxRecDepth 100000 in
theorem t_X12_isImage_p76 {ρ : Nat → Nat → Option Nat} (hR : RfH ρ) {v1 : Int32} {v2 : Int32} {v3 : Int32} {Q : Int32 → St → Prop} {QW : Int32 → Mem → Prop} (hQ : ∀ (r : Int32) (u : St), DK u → Q r u → QW r (emb ρ u)) {u : St} (hd : DK u) (h : sX12_isImage_p76 v1 v2 Q v3 u) : X12_isImage_p76 SH 198 v1 v2 QW v3 (emb ρ u) := h.elim (fun n h => ⟨n, t_X12_isImage_p76n hR hQ n _ _ hd h⟩)
set_option maxHeartbeats 4000000 in
set_option maxRecDepth 100000 in
theorem t_X12_isImage {ρ : Nat → Nat → Option Nat} (hR : RfH ρ) {v1 : Int32} {Q : Int32 → St → Prop} {QW : Int32 → Mem → Prop} (hQ : ∀ (r : Int32) (u : St), DK u → Q r u → QW r (emb ρ u)) {u : St} (hd : DK u) (h : s_X12_isImage v1 Q u) : wp_X12_isImage SH 198 v1 QW (emb ρ u) := by
  unfold wp_X12_isImage
  unfold s_X12_isImage at h
  refine ⟨on_198, ?_⟩
  refine t_X12_cellMany hR (fun r1 u2 hd h => ?_) hd h
  refine ite_mono (fun hc h => ?_) (fun hc h => ?_) h
  · exact hQ _ _ hd h
  · refine t_X12_farmMany hR (fun r3 u4 hd h => ?_) hd h
    refine ite_mono (fun hc h => ?_) (fun hc h => ?_) h
    · refine ⟨_, rn_198_0 hR _, ?_⟩
      obtain ⟨x6, h⟩ := h
      refine ⟨ix_i (show SH[199]? = some (100, 1600) from rfl) x6, ?_⟩
      refine t_X12_checked hR (fun r7 u8 hd h => ?_) hd h
      refine ite_mono (fun hc h => ?_) (fun hc h => ?_) h
      · refine ⟨_, rn_198_0 hR _, ?_⟩
        obtain ⟨x10, h⟩ := h
        refine ⟨ix_i (show SH[199]? = some (100, 1600) from rfl) x10, ?_⟩
        obtain ⟨x11, h⟩ := h
        refine ⟨ix_i (show SH[199]? = some (100, 1600) from rfl) x11, ?_⟩
        refine ite_mono (fun hc h => ?_) (fun hc h => ?_) h
        · exact t_X12_isImage_p76 hR hQ hd h
        · exact hQ _ _ hd h
      · exact hQ _ _ hd h
    · exact hQ _ _ hd h
/-! CalledRiverModel.isRest -/
set_option maxHeartbeats 4000000 in
set_option maxRecDepth 100000 in
def sX12_isRest_p2b (v1 : Int32) (Q : Int32 → St → Prop) (K2 : Int32 → St → Prop) (v2 : Int32) (u : St) : Prop :=
  s_X12_farmMany  (fun r1 u2 => if r1 ≤ v2 then (Q (1 : Int32) u2) else (vp_in (((6 : Int32) * (v1 ^^^ ((1 : Int32) <<< (v2 &&& 31)))) + v2) 384 ∧ (vp_in (((6 : Int32) * v1) + v2) 384 ∧ (if (u2.1 248 (((6 : Int32) * (v1 ^^^ ((1 : Int32) <<< (v2 &&& 31)))) + v2).toNatClampNeg) ≤ (u2.1 248 (((6 : Int32) * v1) + v2).toNatClampNeg) then (K2 (v2 + (1 : Int32)) u2) else (Q (0 : Int32) u2))))) u
set_option maxHeartbeats 4000000 in
set_option maxRecDepth 100000 in
def sX12_isRest_p2n (v1 : Int32) (Q : Int32 → St → Prop) : Nat → Int32 → St → Prop
  | 0 => fun _ _ => False
  | n + 1 => sX12_isRest_p2b v1 Q (sX12_isRest_p2n v1 Q n)
set_option maxHeartbeats 4000000 in
set_option maxRecDepth 100000 in
def sX12_isRest_p2 (v1 : Int32) (Q : Int32 → St → Prop) (v2 : Int32) (u : St) : Prop := ∃ n, sX12_isRest_p2n v1 Q n v2 u
set_option maxHeartbeats 4000000 in
set_option maxRecDepth 100000 in
def s_X12_isRest (v1 : Int32) (Q : Int32 → St → Prop) (u : St) : Prop :=
  sX12_isRest_p2 v1 Q (0 : Int32) u
set_option maxHeartbeats 4000000 in
set_option maxRecDepth 100000 in
theorem t_X12_isRest_p2b {ρ : Nat → Nat → Option Nat} (hR : RfH ρ) {v1 : Int32} {v2 : Int32} {Q : Int32 → St → Prop} {QW : Int32 → Mem → Prop} (hQ : ∀ (r : Int32) (u : St), DK u → Q r u → QW r (emb ρ u)) {K2 : Int32 → St → Prop} {KW2 : Int32 → Mem → Prop} (hK2 : ∀ (x2 : Int32) (u : St), DK u → K2 x2 u → KW2 x2 (emb ρ u)) {u : St} (hd : DK u) (h : sX12_isRest_p2b v1 Q K2 v2 u) : X12_isRest_p2b SH 198 v1 QW KW2 v2 (emb ρ u) := by
  unfold X12_isRest_p2b
  unfold sX12_isRest_p2b at h
  refine ⟨on_198, ?_⟩
  refine t_X12_farmMany hR (fun r1 u2 hd h => ?_) hd h
  refine ite_mono (fun hc h => ?_) (fun hc h => ?_) h
  · exact hQ _ _ hd h
  · refine ⟨_, rn_198_70 hR _, ?_⟩
    obtain ⟨x4, h⟩ := h
    refine ⟨ix_i (show SH[248]? = some (100, 384) from rfl) x4, ?_⟩
    obtain ⟨x5, h⟩ := h
    refine ⟨ix_i (show SH[248]? = some (100, 384) from rfl) x5, ?_⟩
    refine ite_mono (fun hc h => ?_) (fun hc h => ?_) h
    · exact hK2 _ _ hd h
    · exact hQ _ _ hd h
set_option maxHeartbeats 4000000 in
set_option maxRecDepth 100000 in
theorem t_X12_isRest_p2n {ρ : Nat → Nat → Option Nat} (hR : RfH ρ) {v1 : Int32} {Q : Int32 → St → Prop} {QW : Int32 → Mem → Prop} (hQ : ∀ (r : Int32) (u : St), DK u → Q r u → QW r (emb ρ u)) : ∀ (n : Nat) (v2 : Int32) (u : St), DK u → sX12_isRest_p2n v1 Q n v2 u → X12_isRest_p2n SH 198 v1 QW n v2 (emb ρ u)
  | 0, _, _,  _, h => h.elim
  | n + 1, v2,  u,  hd, h => t_X12_isRest_p2b hR hQ (fun v2 u  hd h => t_X12_isRest_p2n hR hQ n v2 u  hd h) hd h
set_option maxHeartbeats 4000000 in
set_option maxRecDepth 100000 in
theorem t_X12_isRest_p2 {ρ : Nat → Nat → Option Nat} (hR : RfH ρ) {v1 : Int32} {v2 : Int32} {Q : Int32 → St → Prop} {QW : Int32 → Mem → Prop} (hQ : ∀ (r : Int32) (u : St), DK u → Q r u → QW r (emb ρ u)) {u : St} (hd : DK u) (h : sX12_isRest_p2 v1 Q v2 u) : X12_isRest_p2 SH 198 v1 QW v2 (emb ρ u) := h.elim (fun n h => ⟨n, t_X12_isRest_p2n hR hQ n _ _ hd h⟩)
set_option maxHeartbeats 4000000 in
set_option maxRecDepth 100000 in
theorem t_X12_isRest {ρ : Nat → Nat → Option Nat} (hR : RfH ρ) {v1 : Int32} {Q : Int32 → St → Prop} {QW : Int32 → Mem → Prop} (hQ : ∀ (r : Int32) (u : St), DK u → Q r u → QW r (emb ρ u)) {u : St} (hd : DK u) (h : s_X12_isRest v1 Q u) : wp_X12_isRest SH 198 v1 QW (emb ρ u) := by
  unfold wp_X12_isRest
  unfold s_X12_isRest at h
  exact t_X12_isRest_p2 hR hQ hd h
/-! CalledRiverModel.kept -/
set_option maxHeartbeats 4000000 in
set_option maxRecDepth 100000 in
def s_X12_kept (v1 : Int32) (v2 : Int32) (Q : Int32 → St → Prop) (u : St) : Prop :=
  vp_in (115 : Int32) 236 ∧ (s_X12_isIn v1.toInt64 (0 : Int64) ((u.1 241 (115 : Int32).toNatClampNeg) - (1 : Int32)).toInt64 (fun r3 u4 => if r3 = 0 then (Q (-1 : Int32) u4) else (s_X12_isIn v2.toInt64 (0 : Int64) (2 : Int64) (fun r5 u6 => if r5 = 0 then (Q (-1 : Int32) u6) else (vp_in (((116 : Int32) + ((3 : Int32) * v1)) + v2) 236 ∧ (Q (u6.1 241 (((116 : Int32) + ((3 : Int32) * v1)) + v2).toNatClampNeg) u6))) u4)) u)
set_option maxHeartbeats 4000000 in
set_option maxRecDepth 100000 in
theorem t_X12_kept {ρ : Nat → Nat → Option Nat} (hR : RfH ρ) {v1 : Int32} {v2 : Int32} {Q : Int32 → St → Prop} {QW : Int32 → Mem → Prop} (hQ : ∀ (r : Int32) (u : St), DK u → Q r u → QW r (emb ρ u)) {u : St} (hd : DK u) (h : s_X12_kept v1 v2 Q u) : wp_X12_kept SH 198 v1 v2 QW (emb ρ u) := by
  unfold wp_X12_kept
  unfold s_X12_kept at h
  refine ⟨on_198, ?_⟩
  refine ⟨_, rn_198_58 hR _, ?_⟩
  obtain ⟨x2, h⟩ := h
  refine ⟨ix_i (show SH[241]? = some (100, 236) from rfl) x2, ?_⟩
  refine t_X12_isIn hR (fun r3 u4 hd h => ?_) hd h
  refine ite_mono (fun hc h => ?_) (fun hc h => ?_) h
  · exact hQ _ _ hd h
  · refine t_X12_isIn hR (fun r5 u6 hd h => ?_) hd h
    refine ite_mono (fun hc h => ?_) (fun hc h => ?_) h
    · exact hQ _ _ hd h
    · refine ⟨_, rn_198_58 hR _, ?_⟩
      obtain ⟨x8, h⟩ := h
      refine ⟨ix_i (show SH[241]? = some (100, 236) from rfl) x8, ?_⟩
      exact hQ _ _ hd h
/-! CalledRiverModel.laysCells -/
set_option maxHeartbeats 4000000 in
set_option maxRecDepth 100000 in
def sX12_laysCells_p51 (v1 : Int32) (v2 : Int32) (s2 : Int32) (s1 : Int32) (Q : St → Prop) (K2 : Int32 → St → Prop) (K17 : Int32 → St → Prop) (u : St) : Prop :=
  vp_in s1 205 ∧ bnd (tI u 253 s1.toNatClampNeg s2) (fun u9 => K17 (v2 + (1 : Int32)) u9)
set_option maxHeartbeats 4000000 in
set_option maxRecDepth 100000 in
def sX12_laysCells_p17b (v1 : Int32) (Q : St → Prop) (K2 : Int32 → St → Prop) (K17 : Int32 → St → Prop) (v2 : Int32) (u : St) : Prop :=
  if (40 : Int32) < v2 then (K2 (v1 + (1 : Int32)) u) else (if (u.1 198 64) ≤ v2 then (sX12_laysCells_p51 v1 v2 (-1 : Int32) (((41 : Int32) * v1) + v2) Q K2 K17 u) else (vp_in v2 36 ∧ (sX12_laysCells_p51 v1 v2 (u.1 242 v2.toNatClampNeg) (((41 : Int32) * v1) + v2) Q K2 K17 u)))
set_option maxHeartbeats 4000000 in
set_option maxRecDepth 100000 in
def sX12_laysCells_p17n (v1 : Int32) (Q : St → Prop) (K2 : Int32 → St → Prop) : Nat → Int32 → St → Prop
  | 0 => fun _ _ => False
  | n + 1 => sX12_laysCells_p17b v1 Q K2 (sX12_laysCells_p17n v1 Q K2 n)
set_option maxHeartbeats 4000000 in
set_option maxRecDepth 100000 in
def sX12_laysCells_p17 (v1 : Int32) (Q : St → Prop) (K2 : Int32 → St → Prop) (v2 : Int32) (u : St) : Prop := ∃ n, sX12_laysCells_p17n v1 Q K2 n v2 u
set_option maxHeartbeats 4000000 in
set_option maxRecDepth 100000 in
def sX12_laysCells_p2b (Q : St → Prop) (K2 : Int32 → St → Prop) (v1 : Int32) (u : St) : Prop :=
  s_X12_callerMany  (fun r1 u2 => if r1 ≤ v1 then (Q u2) else (s_X12_laysWay v1 (fun u4 => sX12_laysCells_p17 v1 Q K2 (0 : Int32) u4) u2)) u
set_option maxHeartbeats 4000000 in
set_option maxRecDepth 100000 in
def sX12_laysCells_p2n (Q : St → Prop) : Nat → Int32 → St → Prop
  | 0 => fun _ _ => False
  | n + 1 => sX12_laysCells_p2b Q (sX12_laysCells_p2n Q n)
set_option maxHeartbeats 4000000 in
set_option maxRecDepth 100000 in
def sX12_laysCells_p2 (Q : St → Prop) (v1 : Int32) (u : St) : Prop := ∃ n, sX12_laysCells_p2n Q n v1 u
set_option maxHeartbeats 4000000 in
set_option maxRecDepth 100000 in
def s_X12_laysCells (Q : St → Prop) (u : St) : Prop :=
  sX12_laysCells_p2 Q (0 : Int32) u
set_option maxHeartbeats 4000000 in
set_option maxRecDepth 100000 in
theorem t_X12_laysCells_p51 {ρ : Nat → Nat → Option Nat} (hR : RfH ρ) {v1 : Int32} {v2 : Int32} {s2 : Int32} {s1 : Int32} {Q : St → Prop} {QW : Mem → Prop} {K2 : Int32 → St → Prop} {KW2 : Int32 → Mem → Prop} {K17 : Int32 → St → Prop} {KW17 : Int32 → Mem → Prop} (hQ : ∀ (u : St), DK u → Q u → QW (emb ρ u)) (hK2 : ∀ (x1 : Int32) (u : St), DK u → K2 x1 u → KW2 x1 (emb ρ u)) (hK17 : ∀ (x2 : Int32) (u : St), DK u → K17 x2 u → KW17 x2 (emb ρ u)) {u : St} (hd : DK u) (h : sX12_laysCells_p51 v1 v2 s2 s1 Q K2 K17 u) : X12_laysCells_p51 SH 198 v1 v2 s2 s1 253 QW KW2 KW17 (emb ρ u) := by
  unfold X12_laysCells_p51
  unfold sX12_laysCells_p51 at h
  obtain ⟨x8, h⟩ := h
  refine ⟨ix_i (show SH[253]? = some (100, 205) from rfl) x8, ?_⟩
  refine bnd_I ?_
  replace h := bnd_e h
  exact hK17 _ _ hd h
set_option maxHeartbeats 4000000 in
set_option maxRecDepth 100000 in
theorem t_X12_laysCells_p17b {ρ : Nat → Nat → Option Nat} (hR : RfH ρ) {v1 : Int32} {v2 : Int32} {Q : St → Prop} {QW : Mem → Prop} {K2 : Int32 → St → Prop} {KW2 : Int32 → Mem → Prop} (hQ : ∀ (u : St), DK u → Q u → QW (emb ρ u)) (hK2 : ∀ (x1 : Int32) (u : St), DK u → K2 x1 u → KW2 x1 (emb ρ u)) {K17 : Int32 → St → Prop} {KW17 : Int32 → Mem → Prop} (hK17 : ∀ (x2 : Int32) (u : St), DK u → K17 x2 u → KW17 x2 (emb ρ u)) {u : St} (hd : DK u) (h : sX12_laysCells_p17b v1 Q K2 K17 v2 u) : X12_laysCells_p17b SH 198 v1 QW KW2 KW17 v2 (emb ρ u) := by
  unfold X12_laysCells_p17b
  unfold sX12_laysCells_p17b at h
  refine ite_mono (fun hc h => ?_) (fun hc h => ?_) h
  · exact hK2 _ _ hd h
  · refine ⟨on_198, ?_⟩
    refine ⟨_, rn_198_76 hR _, ?_⟩
    refine ite_mono (fun hc h => ?_) (fun hc h => ?_) h
    · exact t_X12_laysCells_p51 hR hQ hK2 hK17 hd h
    · refine ⟨_, rn_198_63 hR _, ?_⟩
      obtain ⟨x7, h⟩ := h
      refine ⟨ix_i (show SH[242]? = some (100, 36) from rfl) x7, ?_⟩
      exact t_X12_laysCells_p51 hR hQ hK2 hK17 hd h
set_option maxHeartbeats 4000000 in
set_option maxRecDepth 100000 in
theorem t_X12_laysCells_p17n {ρ : Nat → Nat → Option Nat} (hR : RfH ρ) {v1 : Int32} {Q : St → Prop} {QW : Mem → Prop} {K2 : Int32 → St → Prop} {KW2 : Int32 → Mem → Prop} (hQ : ∀ (u : St), DK u → Q u → QW (emb ρ u)) (hK2 : ∀ (x1 : Int32) (u : St), DK u → K2 x1 u → KW2 x1 (emb ρ u)) : ∀ (n : Nat) (v2 : Int32) (u : St), DK u → sX12_laysCells_p17n v1 Q K2 n v2 u → X12_laysCells_p17n SH 198 v1 QW KW2 n v2 (emb ρ u)
  | 0, _, _,  _, h => h.elim
  | n + 1, v2,  u,  hd, h => t_X12_laysCells_p17b hR hQ hK2 (fun v2 u  hd h => t_X12_laysCells_p17n hR hQ hK2 n v2 u  hd h) hd h
set_option maxHeartbeats 4000000 in
set_option maxRecDepth 100000 in
theorem t_X12_laysCells_p17 {ρ : Nat → Nat → Option Nat} (hR : RfH ρ) {v1 : Int32} {v2 : Int32} {Q : St → Prop} {QW : Mem → Prop} {K2 : Int32 → St → Prop} {KW2 : Int32 → Mem → Prop} (hQ : ∀ (u : St), DK u → Q u → QW (emb ρ u)) (hK2 : ∀ (x1 : Int32) (u : St), DK u → K2 x1 u → KW2 x1 (emb ρ u)) {u : St} (hd : DK u) (h : sX12_laysCells_p17 v1 Q K2 v2 u) : X12_laysCells_p17 SH 198 v1 QW KW2 v2 (emb ρ u) := h.elim (fun n h => ⟨n, t_X12_laysCells_p17n hR hQ hK2 n _ _ hd h⟩)
set_option maxHeartbeats 4000000 in
set_option maxRecDepth 100000 in
theorem t_X12_laysCells_p2b {ρ : Nat → Nat → Option Nat} (hR : RfH ρ) {v1 : Int32} {Q : St → Prop} {QW : Mem → Prop} (hQ : ∀ (u : St), DK u → Q u → QW (emb ρ u)) {K2 : Int32 → St → Prop} {KW2 : Int32 → Mem → Prop} (hK2 : ∀ (x1 : Int32) (u : St), DK u → K2 x1 u → KW2 x1 (emb ρ u)) {u : St} (hd : DK u) (h : sX12_laysCells_p2b Q K2 v1 u) : X12_laysCells_p2b SH 198 QW KW2 v1 (emb ρ u) := by
  unfold X12_laysCells_p2b
  unfold sX12_laysCells_p2b at h
  refine ⟨on_198, ?_⟩
  refine t_X12_callerMany hR (fun r1 u2 hd h => ?_) hd h
  refine ite_mono (fun hc h => ?_) (fun hc h => ?_) h
  · exact hQ _ hd h
  · refine t_X12_laysWay hR (fun u4 hd h => ?_) hd h
    exact t_X12_laysCells_p17 hR hQ hK2 hd h
set_option maxHeartbeats 4000000 in
set_option maxRecDepth 100000 in
theorem t_X12_laysCells_p2n {ρ : Nat → Nat → Option Nat} (hR : RfH ρ) {Q : St → Prop} {QW : Mem → Prop} (hQ : ∀ (u : St), DK u → Q u → QW (emb ρ u)) : ∀ (n : Nat) (v1 : Int32) (u : St), DK u → sX12_laysCells_p2n Q n v1 u → X12_laysCells_p2n SH 198 QW n v1 (emb ρ u)
  | 0, _, _,  _, h => h.elim
  | n + 1, v1,  u,  hd, h => t_X12_laysCells_p2b hR hQ (fun v1 u  hd h => t_X12_laysCells_p2n hR hQ n v1 u  hd h) hd h
set_option maxHeartbeats 4000000 in
set_option maxRecDepth 100000 in
theorem t_X12_laysCells_p2 {ρ : Nat → Nat → Option Nat} (hR : RfH ρ) {v1 : Int32} {Q : St → Prop} {QW : Mem → Prop} (hQ : ∀ (u : St), DK u → Q u → QW (emb ρ u)) {u : St} (hd : DK u) (h : sX12_laysCells_p2 Q v1 u) : X12_laysCells_p2 SH 198 QW v1 (emb ρ u) := h.elim (fun n h => ⟨n, t_X12_laysCells_p2n hR hQ n _ _ hd h⟩)
set_option maxHeartbeats 4000000 in
set_option maxRecDepth 100000 in
theorem t_X12_laysCells {ρ : Nat → Nat → Option Nat} (hR : RfH ρ) {Q : St → Prop} {QW : Mem → Prop} (hQ : ∀ (u : St), DK u → Q u → QW (emb ρ u)) {u : St} (hd : DK u) (h : s_X12_laysCells Q u) : wp_X12_laysCells SH 198 QW (emb ρ u) := by
  unfold wp_X12_laysCells
  unfold s_X12_laysCells at h
  exact t_X12_laysCells_p2 hR hQ hd h
/-! CalledRiverModel.laysWells -/
set_option maxHeartbeats 4000000 in
set_option maxRecDepth 100000 in
def sX12_laysWells_p76 (v1 : Int32) (v2 : Int32) (v3 : Int32) (s2 : Int32) (s1 : Int32) (Q : St → Prop) (K29 : Int32 → St → Prop) (K41 : Int32 → St → Prop) (u : St) : Prop :=
  vp_in s1 236 ∧ bnd (tI u 241 s1.toNatClampNeg s2) (fun u30 => K41 (v3 + (1 : Int32)) u30)
set_option maxHeartbeats 4000000 in
set_option maxRecDepth 100000 in
def sX12_laysWells_p122 (v1 : Int32) (v2 : Int32) (v3 : Int32) (s2 : Int32) (s1 : Int32) (Q : St → Prop) (K29 : Int32 → St → Prop) (K90 : Int32 → St → Prop) (u : St) : Prop :=
  s_X12_pieOf v3 (fun r31 u32 => vp_in s1 384 ∧ bnd (tI u32 248 s1.toNatClampNeg (s2 - r31)) (fun u34 => K90 (v3 + (1 : Int32)) u34)) u
set_option maxHeartbeats 4000000 in
set_option maxRecDepth 100000 in
def sX12_laysWells_p90b (v1 : Int32) (v2 : Int32) (Q : St → Prop) (K29 : Int32 → St → Prop) (K90 : Int32 → St → Prop) (v3 : Int32) (u : St) : Prop :=
  s_X12_farmMany  (fun r24 u25 => if r24 ≤ v3 then (K29 (v2 + (1 : Int32)) u25) else (s_X12_isWatered v3 (fun r27 u28 => if r27 = 0 then (sX12_laysWells_p122 v1 v2 v3 (0 : Int32) (((6 : Int32) * v2) + v3) Q K29 K90 u28) else (sX12_laysWells_p122 v1 v2 v3 (10 : Int32) (((6 : Int32) * v2) + v3) Q K29 K90 u28)) u25)) u
set_option maxHeartbeats 4000000 in
set_option maxRecDepth 100000 in
def sX12_laysWells_p90n (v1 : Int32) (v2 : Int32) (Q : St → Prop) (K29 : Int32 → St → Prop) : Nat → Int32 → St → Prop
  | 0 => fun _ _ => False
  | n + 1 => sX12_laysWells_p90b v1 v2 Q K29 (sX12_laysWells_p90n v1 v2 Q K29 n)
set_option maxHeartbeats 4000000 in
set_option maxRecDepth 100000 in
def sX12_laysWells_p90 (v1 : Int32) (v2 : Int32) (Q : St → Prop) (K29 : Int32 → St → Prop) (v3 : Int32) (u : St) : Prop := ∃ n, sX12_laysWells_p90n v1 v2 Q K29 n v3 u
set_option maxHeartbeats 4000000 in
set_option maxRecDepth 100000 in
def sX12_laysWells_p41b (v1 : Int32) (v2 : Int32) (Q : St → Prop) (K29 : Int32 → St → Prop) (K41 : Int32 → St → Prop) (v3 : Int32) (u : St) : Prop :=
  s_X12_farmMany  (fun r17 u18 => if r17 ≤ v3 then (s_X12_laysWay v1 (fun u20 => sX12_laysWells_p90 v1 v2 Q K29 (0 : Int32) u20) u18) else (if ((v2 >>> (v3 &&& 31)) &&& (1 : Int32)) = (1 : Int32) then (vp_in v3 6 ∧ (sX12_laysWells_p76 v1 v2 v3 (u18.1 249 v3.toNatClampNeg) ((109 : Int32) + v3) Q K29 K41 u18)) else (sX12_laysWells_p76 v1 v2 v3 (0 : Int32) ((109 : Int32) + v3) Q K29 K41 u18))) u
set_option maxHeartbeats 4000000 in
set_option maxRecDepth 100000 in
def sX12_laysWells_p41n (v1 : Int32) (v2 : Int32) (Q : St → Prop) (K29 : Int32 → St → Prop) : Nat → Int32 → St → Prop
  | 0 => fun _ _ => False
  | n + 1 => sX12_laysWells_p41b v1 v2 Q K29 (sX12_laysWells_p41n v1 v2 Q K29 n)
set_option maxHeartbeats 4000000 in
set_option maxRecDepth 100000 in
def sX12_laysWells_p41 (v1 : Int32) (v2 : Int32) (Q : St → Prop) (K29 : Int32 → St → Prop) (v3 : Int32) (u : St) : Prop := ∃ n, sX12_laysWells_p41n v1 v2 Q K29 n v3 u
set_option maxHeartbeats 4000000 in
set_option maxRecDepth 100000 in
def sX12_laysWells_p143b (Q : St → Prop) (K143 : Int32 → St → Prop) (v2 : Int32) (u : St) : Prop :=
  s_X12_farmMany  (fun r10 u11 => if r10 ≤ v2 then (Q u11) else (vp_in v2 6 ∧ (vp_in ((109 : Int32) + v2) 236 ∧ bnd (tI u11 241 ((109 : Int32) + v2).toNatClampNeg (u11.1 249 v2.toNatClampNeg)) (fun u16 => K143 (v2 + (1 : Int32)) u16)))) u
set_option maxHeartbeats 4000000 in
set_option maxRecDepth 100000 in
def sX12_laysWells_p143n (Q : St → Prop) : Nat → Int32 → St → Prop
  | 0 => fun _ _ => False
  | n + 1 => sX12_laysWells_p143b Q (sX12_laysWells_p143n Q n)
set_option maxHeartbeats 4000000 in
set_option maxRecDepth 100000 in
def sX12_laysWells_p143 (Q : St → Prop) (v2 : Int32) (u : St) : Prop := ∃ n, sX12_laysWells_p143n Q n v2 u
set_option maxHeartbeats 4000000 in
set_option maxRecDepth 100000 in
def sX12_laysWells_p29b (v1 : Int32) (Q : St → Prop) (K29 : Int32 → St → Prop) (v2 : Int32) (u : St) : Prop :=
  s_X12_farmMany  (fun r8 u9 => if ((1 : Int32) <<< (r8 &&& 31)) ≤ v2 then (sX12_laysWells_p143 Q (0 : Int32) u9) else (sX12_laysWells_p41 v1 v2 Q K29 (0 : Int32) u9)) u
set_option maxHeartbeats 4000000 in
set_option maxRecDepth 100000 in
def sX12_laysWells_p29n (v1 : Int32) (Q : St → Prop) : Nat → Int32 → St → Prop
  | 0 => fun _ _ => False
  | n + 1 => sX12_laysWells_p29b v1 Q (sX12_laysWells_p29n v1 Q n)
set_option maxHeartbeats 4000000 in
set_option maxRecDepth 100000 in
def sX12_laysWells_p29 (v1 : Int32) (Q : St → Prop) (v2 : Int32) (u : St) : Prop := ∃ n, sX12_laysWells_p29n v1 Q n v2 u
set_option maxHeartbeats 4000000 in
set_option maxRecDepth 100000 in
def sX12_laysWells_p2b (v1 : Int32) (Q : St → Prop) (K2 : Int32 → St → Prop) (v2 : Int32) (u : St) : Prop :=
  s_X12_farmMany  (fun r1 u2 => if r1 ≤ v2 then (sX12_laysWells_p29 v1 Q (0 : Int32) u2) else (s_X12_pieOf v2 (fun r4 u5 => vp_in v2 6 ∧ bnd (tI u5 249 v2.toNatClampNeg r4) (fun u7 => K2 (v2 + (1 : Int32)) u7)) u2)) u
set_option maxHeartbeats 4000000 in
set_option maxRecDepth 100000 in
def sX12_laysWells_p2n (v1 : Int32) (Q : St → Prop) : Nat → Int32 → St → Prop
  | 0 => fun _ _ => False
  | n + 1 => sX12_laysWells_p2b v1 Q (sX12_laysWells_p2n v1 Q n)
set_option maxHeartbeats 4000000 in
set_option maxRecDepth 100000 in
def sX12_laysWells_p2 (v1 : Int32) (Q : St → Prop) (v2 : Int32) (u : St) : Prop := ∃ n, sX12_laysWells_p2n v1 Q n v2 u
set_option maxHeartbeats 4000000 in
set_option maxRecDepth 100000 in
def s_X12_laysWells (v1 : Int32) (Q : St → Prop) (u : St) : Prop :=
  sX12_laysWells_p2 v1 Q (0 : Int32) u
set_option maxHeartbeats 4000000 in
set_option maxRecDepth 100000 in
theorem t_X12_laysWells_p76 {ρ : Nat → Nat → Option Nat} (hR : RfH ρ) {v1 : Int32} {v2 : Int32} {v3 : Int32} {s2 : Int32} {s1 : Int32} {Q : St → Prop} {QW : Mem → Prop} {K29 : Int32 → St → Prop} {KW29 : Int32 → Mem → Prop} {K41 : Int32 → St → Prop} {KW41 : Int32 → Mem → Prop} (hQ : ∀ (u : St), DK u → Q u → QW (emb ρ u)) (hK29 : ∀ (x2 : Int32) (u : St), DK u → K29 x2 u → KW29 x2 (emb ρ u)) (hK41 : ∀ (x3 : Int32) (u : St), DK u → K41 x3 u → KW41 x3 (emb ρ u)) {u : St} (hd : DK u) (h : sX12_laysWells_p76 v1 v2 v3 s2 s1 Q K29 K41 u) : X12_laysWells_p76 SH 198 v1 v2 v3 s2 s1 241 QW KW29 KW41 (emb ρ u) := by
  unfold X12_laysWells_p76
  unfold sX12_laysWells_p76 at h
  obtain ⟨x29, h⟩ := h
  refine ⟨ix_i (show SH[241]? = some (100, 236) from rfl) x29, ?_⟩
  refine bnd_I ?_
  replace h := bnd_e h
  exact hK41 _ _ hd h
set_option maxHeartbeats 4000000 in
set_option maxRecDepth 100000 in
theorem t_X12_laysWells_p122 {ρ : Nat → Nat → Option Nat} (hR : RfH ρ) {v1 : Int32} {v2 : Int32} {v3 : Int32} {s2 : Int32} {s1 : Int32} {Q : St → Prop} {QW : Mem → Prop} {K29 : Int32 → St → Prop} {KW29 : Int32 → Mem → Prop} {K90 : Int32 → St → Prop} {KW90 : Int32 → Mem → Prop} (hQ : ∀ (u : St), DK u → Q u → QW (emb ρ u)) (hK29 : ∀ (x2 : Int32) (u : St), DK u → K29 x2 u → KW29 x2 (emb ρ u)) (hK90 : ∀ (x3 : Int32) (u : St), DK u → K90 x3 u → KW90 x3 (emb ρ u)) {u : St} (hd : DK u) (h : sX12_laysWells_p122 v1 v2 v3 s2 s1 Q K29 K90 u) : X12_laysWells_p122 SH 198 v1 v2 v3 s2 s1 248 QW KW29 KW90 (emb ρ u) := by
  unfold X12_laysWells_p122
  unfold sX12_laysWells_p122 at h
  refine ⟨on_198, ?_⟩
  refine t_X12_pieOf hR (fun r31 u32 hd h => ?_) hd h
  obtain ⟨x33, h⟩ := h
  refine ⟨ix_i (show SH[248]? = some (100, 384) from rfl) x33, ?_⟩
  refine bnd_I ?_
  replace h := bnd_e h
  exact hK90 _ _ hd h
set_option maxHeartbeats 4000000 in
set_option maxRecDepth 100000 in
theorem t_X12_laysWells_p90b {ρ : Nat → Nat → Option Nat} (hR : RfH ρ) {v1 : Int32} {v2 : Int32} {v3 : Int32} {Q : St → Prop} {QW : Mem → Prop} {K29 : Int32 → St → Prop} {KW29 : Int32 → Mem → Prop} (hQ : ∀ (u : St), DK u → Q u → QW (emb ρ u)) (hK29 : ∀ (x2 : Int32) (u : St), DK u → K29 x2 u → KW29 x2 (emb ρ u)) {K90 : Int32 → St → Prop} {KW90 : Int32 → Mem → Prop} (hK90 : ∀ (x3 : Int32) (u : St), DK u → K90 x3 u → KW90 x3 (emb ρ u)) {u : St} (hd : DK u) (h : sX12_laysWells_p90b v1 v2 Q K29 K90 v3 u) : X12_laysWells_p90b SH 198 v1 v2 QW KW29 KW90 v3 (emb ρ u) := by
  unfold X12_laysWells_p90b
  unfold sX12_laysWells_p90b at h
  refine ⟨on_198, ?_⟩
  refine t_X12_farmMany hR (fun r24 u25 hd h => ?_) hd h
  refine ite_mono (fun hc h => ?_) (fun hc h => ?_) h
  · exact hK29 _ _ hd h
  · refine ⟨_, rn_198_70 hR _, ?_⟩
    refine t_X12_isWatered hR (fun r27 u28 hd h => ?_) hd h
    refine ite_mono (fun hc h => ?_) (fun hc h => ?_) h
    · exact t_X12_laysWells_p122 hR hQ hK29 hK90 hd h
    · exact t_X12_laysWells_p122 hR hQ hK29 hK90 hd h
set_option maxHeartbeats 4000000 in
set_option maxRecDepth 100000 in
theorem t_X12_laysWells_p90n {ρ : Nat → Nat → Option Nat} (hR : RfH ρ) {v1 : Int32} {v2 : Int32} {Q : St → Prop} {QW : Mem → Prop} {K29 : Int32 → St → Prop} {KW29 : Int32 → Mem → Prop} (hQ : ∀ (u : St), DK u → Q u → QW (emb ρ u)) (hK29 : ∀ (x2 : Int32) (u : St), DK u → K29 x2 u → KW29 x2 (emb ρ u)) : ∀ (n : Nat) (v3 : Int32) (u : St), DK u → sX12_laysWells_p90n v1 v2 Q K29 n v3 u → X12_laysWells_p90n SH 198 v1 v2 QW KW29 n v3 (emb ρ u)
  | 0, _, _,  _, h => h.elim
  | n + 1, v3,  u,  hd, h => t_X12_laysWells_p90b hR hQ hK29 (fun v3 u  hd h => t_X12_laysWells_p90n hR hQ hK29 n v3 u  hd h) hd h
set_option maxHeartbeats 4000000 in
set_option maxRecDepth 100000 in
theorem t_X12_laysWells_p90 {ρ : Nat → Nat → Option Nat} (hR : RfH ρ) {v1 : Int32} {v2 : Int32} {v3 : Int32} {Q : St → Prop} {QW : Mem → Prop} {K29 : Int32 → St → Prop} {KW29 : Int32 → Mem → Prop} (hQ : ∀ (u : St), DK u → Q u → QW (emb ρ u)) (hK29 : ∀ (x2 : Int32) (u : St), DK u → K29 x2 u → KW29 x2 (emb ρ u)) {u : St} (hd : DK u) (h : sX12_laysWells_p90 v1 v2 Q K29 v3 u) : X12_laysWells_p90 SH 198 v1 v2 QW KW29 v3 (emb ρ u) := h.elim (fun n h => ⟨n, t_X12_laysWells_p90n hR hQ hK29 n _ _ hd h⟩)
set_option maxHeartbeats 4000000 in
set_option maxRecDepth 100000 in
theorem t_X12_laysWells_p41b {ρ : Nat → Nat → Option Nat} (hR : RfH ρ) {v1 : Int32} {v2 : Int32} {v3 : Int32} {Q : St → Prop} {QW : Mem → Prop} {K29 : Int32 → St → Prop} {KW29 : Int32 → Mem → Prop} (hQ : ∀ (u : St), DK u → Q u → QW (emb ρ u)) (hK29 : ∀ (x2 : Int32) (u : St), DK u → K29 x2 u → KW29 x2 (emb ρ u)) {K41 : Int32 → St → Prop} {KW41 : Int32 → Mem → Prop} (hK41 : ∀ (x3 : Int32) (u : St), DK u → K41 x3 u → KW41 x3 (emb ρ u)) {u : St} (hd : DK u) (h : sX12_laysWells_p41b v1 v2 Q K29 K41 v3 u) : X12_laysWells_p41b SH 198 v1 v2 QW KW29 KW41 v3 (emb ρ u) := by
  unfold X12_laysWells_p41b
  unfold sX12_laysWells_p41b at h
  refine ⟨on_198, ?_⟩
  refine t_X12_farmMany hR (fun r17 u18 hd h => ?_) hd h
  refine ite_mono (fun hc h => ?_) (fun hc h => ?_) h
  · refine t_X12_laysWay hR (fun u20 hd h => ?_) hd h
    exact t_X12_laysWells_p90 hR hQ hK29 hd h
  · refine ⟨_, rn_198_58 hR _, ?_⟩
    refine ite_mono (fun hc h => ?_) (fun hc h => ?_) h
    · refine ⟨_, rn_198_71 hR _, ?_⟩
      obtain ⟨x23, h⟩ := h
      refine ⟨ix_i (show SH[249]? = some (100, 6) from rfl) x23, ?_⟩
      exact t_X12_laysWells_p76 hR hQ hK29 hK41 hd h
    · exact t_X12_laysWells_p76 hR hQ hK29 hK41 hd h
set_option maxHeartbeats 4000000 in
set_option maxRecDepth 100000 in
theorem t_X12_laysWells_p41n {ρ : Nat → Nat → Option Nat} (hR : RfH ρ) {v1 : Int32} {v2 : Int32} {Q : St → Prop} {QW : Mem → Prop} {K29 : Int32 → St → Prop} {KW29 : Int32 → Mem → Prop} (hQ : ∀ (u : St), DK u → Q u → QW (emb ρ u)) (hK29 : ∀ (x2 : Int32) (u : St), DK u → K29 x2 u → KW29 x2 (emb ρ u)) : ∀ (n : Nat) (v3 : Int32) (u : St), DK u → sX12_laysWells_p41n v1 v2 Q K29 n v3 u → X12_laysWells_p41n SH 198 v1 v2 QW KW29 n v3 (emb ρ u)
  | 0, _, _,  _, h => h.elim
  | n + 1, v3,  u,  hd, h => t_X12_laysWells_p41b hR hQ hK29 (fun v3 u  hd h => t_X12_laysWells_p41n hR hQ hK29 n v3 u  hd h) hd h
set_option maxHeartbeats 4000000 in
set_option maxRecDepth 100000 in
theorem t_X12_laysWells_p41 {ρ : Nat → Nat → Option Nat} (hR : RfH ρ) {v1 : Int32} {v2 : Int32} {v3 : Int32} {Q : St → Prop} {QW : Mem → Prop} {K29 : Int32 → St → Prop} {KW29 : Int32 → Mem → Prop} (hQ : ∀ (u : St), DK u → Q u → QW (emb ρ u)) (hK29 : ∀ (x2 : Int32) (u : St), DK u → K29 x2 u → KW29 x2 (emb ρ u)) {u : St} (hd : DK u) (h : sX12_laysWells_p41 v1 v2 Q K29 v3 u) : X12_laysWells_p41 SH 198 v1 v2 QW KW29 v3 (emb ρ u) := h.elim (fun n h => ⟨n, t_X12_laysWells_p41n hR hQ hK29 n _ _ hd h⟩)
set_option maxHeartbeats 4000000 in
set_option maxRecDepth 100000 in
theorem t_X12_laysWells_p143b {ρ : Nat → Nat → Option Nat} (hR : RfH ρ) {v2 : Int32} {Q : St → Prop} {QW : Mem → Prop} (hQ : ∀ (u : St), DK u → Q u → QW (emb ρ u)) {K143 : Int32 → St → Prop} {KW143 : Int32 → Mem → Prop} (hK143 : ∀ (x2 : Int32) (u : St), DK u → K143 x2 u → KW143 x2 (emb ρ u)) {u : St} (hd : DK u) (h : sX12_laysWells_p143b Q K143 v2 u) : X12_laysWells_p143b SH 198 QW KW143 v2 (emb ρ u) := by
  unfold X12_laysWells_p143b
  unfold sX12_laysWells_p143b at h
  refine ⟨on_198, ?_⟩
  refine t_X12_farmMany hR (fun r10 u11 hd h => ?_) hd h
  refine ite_mono (fun hc h => ?_) (fun hc h => ?_) h
  · exact hQ _ hd h
  · refine ⟨_, rn_198_58 hR _, ?_⟩
    refine ⟨_, rn_198_71 hR _, ?_⟩
    obtain ⟨x14, h⟩ := h
    refine ⟨ix_i (show SH[249]? = some (100, 6) from rfl) x14, ?_⟩
    obtain ⟨x15, h⟩ := h
    refine ⟨ix_i (show SH[241]? = some (100, 236) from rfl) x15, ?_⟩
    refine bnd_I ?_
    replace h := bnd_e h
    exact hK143 _ _ hd h
set_option maxHeartbeats 4000000 in
set_option maxRecDepth 100000 in
theorem t_X12_laysWells_p143n {ρ : Nat → Nat → Option Nat} (hR : RfH ρ) {Q : St → Prop} {QW : Mem → Prop} (hQ : ∀ (u : St), DK u → Q u → QW (emb ρ u)) : ∀ (n : Nat) (v2 : Int32) (u : St), DK u → sX12_laysWells_p143n Q n v2 u → X12_laysWells_p143n SH 198 QW n v2 (emb ρ u)
  | 0, _, _,  _, h => h.elim
  | n + 1, v2,  u,  hd, h => t_X12_laysWells_p143b hR hQ (fun v2 u  hd h => t_X12_laysWells_p143n hR hQ n v2 u  hd h) hd h
set_option maxHeartbeats 4000000 in
set_option maxRecDepth 100000 in
theorem t_X12_laysWells_p143 {ρ : Nat → Nat → Option Nat} (hR : RfH ρ) {v2 : Int32} {Q : St → Prop} {QW : Mem → Prop} (hQ : ∀ (u : St), DK u → Q u → QW (emb ρ u)) {u : St} (hd : DK u) (h : sX12_laysWells_p143 Q v2 u) : X12_laysWells_p143 SH 198 QW v2 (emb ρ u) := h.elim (fun n h => ⟨n, t_X12_laysWells_p143n hR hQ n _ _ hd h⟩)
set_option maxHeartbeats 4000000 in
set_option maxRecDepth 100000 in
theorem t_X12_laysWells_p29b {ρ : Nat → Nat → Option Nat} (hR : RfH ρ) {v1 : Int32} {v2 : Int32} {Q : St → Prop} {QW : Mem → Prop} (hQ : ∀ (u : St), DK u → Q u → QW (emb ρ u)) {K29 : Int32 → St → Prop} {KW29 : Int32 → Mem → Prop} (hK29 : ∀ (x2 : Int32) (u : St), DK u → K29 x2 u → KW29 x2 (emb ρ u)) {u : St} (hd : DK u) (h : sX12_laysWells_p29b v1 Q K29 v2 u) : X12_laysWells_p29b SH 198 v1 QW KW29 v2 (emb ρ u) := by
  unfold X12_laysWells_p29b
  unfold sX12_laysWells_p29b at h
  refine ⟨on_198, ?_⟩
  refine t_X12_farmMany hR (fun r8 u9 hd h => ?_) hd h
  refine ite_mono (fun hc h => ?_) (fun hc h => ?_) h
  · exact t_X12_laysWells_p143 hR hQ hd h
  · exact t_X12_laysWells_p41 hR hQ hK29 hd h
set_option maxHeartbeats 4000000 in
set_option maxRecDepth 100000 in
theorem t_X12_laysWells_p29n {ρ : Nat → Nat → Option Nat} (hR : RfH ρ) {v1 : Int32} {Q : St → Prop} {QW : Mem → Prop} (hQ : ∀ (u : St), DK u → Q u → QW (emb ρ u)) : ∀ (n : Nat) (v2 : Int32) (u : St), DK u → sX12_laysWells_p29n v1 Q n v2 u → X12_laysWells_p29n SH 198 v1 QW n v2 (emb ρ u)
  | 0, _, _,  _, h => h.elim
  | n + 1, v2,  u,  hd, h => t_X12_laysWells_p29b hR hQ (fun v2 u  hd h => t_X12_laysWells_p29n hR hQ n v2 u  hd h) hd h
set_option maxHeartbeats 4000000 in
set_option maxRecDepth 100000 in
theorem t_X12_laysWells_p29 {ρ : Nat → Nat → Option Nat} (hR : RfH ρ) {v1 : Int32} {v2 : Int32} {Q : St → Prop} {QW : Mem → Prop} (hQ : ∀ (u : St), DK u → Q u → QW (emb ρ u)) {u : St} (hd : DK u) (h : sX12_laysWells_p29 v1 Q v2 u) : X12_laysWells_p29 SH 198 v1 QW v2 (emb ρ u) := h.elim (fun n h => ⟨n, t_X12_laysWells_p29n hR hQ n _ _ hd h⟩)
set_option maxHeartbeats 4000000 in
set_option maxRecDepth 100000 in
theorem t_X12_laysWells_p2b {ρ : Nat → Nat → Option Nat} (hR : RfH ρ) {v1 : Int32} {v2 : Int32} {Q : St → Prop} {QW : Mem → Prop} (hQ : ∀ (u : St), DK u → Q u → QW (emb ρ u)) {K2 : Int32 → St → Prop} {KW2 : Int32 → Mem → Prop} (hK2 : ∀ (x2 : Int32) (u : St), DK u → K2 x2 u → KW2 x2 (emb ρ u)) {u : St} (hd : DK u) (h : sX12_laysWells_p2b v1 Q K2 v2 u) : X12_laysWells_p2b SH 198 v1 QW KW2 v2 (emb ρ u) := by
  unfold X12_laysWells_p2b
  unfold sX12_laysWells_p2b at h
  refine ⟨on_198, ?_⟩
  refine t_X12_farmMany hR (fun r1 u2 hd h => ?_) hd h
  refine ite_mono (fun hc h => ?_) (fun hc h => ?_) h
  · exact t_X12_laysWells_p29 hR hQ hd h
  · refine ⟨_, rn_198_71 hR _, ?_⟩
    refine t_X12_pieOf hR (fun r4 u5 hd h => ?_) hd h
    obtain ⟨x6, h⟩ := h
    refine ⟨ix_i (show SH[249]? = some (100, 6) from rfl) x6, ?_⟩
    refine bnd_I ?_
    replace h := bnd_e h
    exact hK2 _ _ hd h
set_option maxHeartbeats 4000000 in
set_option maxRecDepth 100000 in
theorem t_X12_laysWells_p2n {ρ : Nat → Nat → Option Nat} (hR : RfH ρ) {v1 : Int32} {Q : St → Prop} {QW : Mem → Prop} (hQ : ∀ (u : St), DK u → Q u → QW (emb ρ u)) : ∀ (n : Nat) (v2 : Int32) (u : St), DK u → sX12_laysWells_p2n v1 Q n v2 u → X12_laysWells_p2n SH 198 v1 QW n v2 (emb ρ u)
  | 0, _, _,  _, h => h.elim
  | n + 1, v2,  u,  hd, h => t_X12_laysWells_p2b hR hQ (fun v2 u  hd h => t_X12_laysWells_p2n hR hQ n v2 u  hd h) hd h
set_option maxHeartbeats 4000000 in
set_option maxRecDepth 100000 in
theorem t_X12_laysWells_p2 {ρ : Nat → Nat → Option Nat} (hR : RfH ρ) {v1 : Int32} {v2 : Int32} {Q : St → Prop} {QW : Mem → Prop} (hQ : ∀ (u : St), DK u → Q u → QW (emb ρ u)) {u : St} (hd : DK u) (h : sX12_laysWells_p2 v1 Q v2 u) : X12_laysWells_p2 SH 198 v1 QW v2 (emb ρ u) := h.elim (fun n h => ⟨n, t_X12_laysWells_p2n hR hQ n _ _ hd h⟩)
set_option maxHeartbeats 4000000 in
set_option maxRecDepth 100000 in
theorem t_X12_laysWells {ρ : Nat → Nat → Option Nat} (hR : RfH ρ) {v1 : Int32} {Q : St → Prop} {QW : Mem → Prop} (hQ : ∀ (u : St), DK u → Q u → QW (emb ρ u)) {u : St} (hd : DK u) (h : s_X12_laysWells v1 Q u) : wp_X12_laysWells SH 198 v1 QW (emb ρ u) := by
  unfold wp_X12_laysWells
  unfold s_X12_laysWells at h
  exact t_X12_laysWells_p2 hR hQ hd h
/-! CalledRiverModel.leads -/
set_option maxHeartbeats 4000000 in
set_option maxRecDepth 100000 in
def s_X12_leads (v1 : Int32) (v2 : Int32) (Q : Int32 → St → Prop) (u : St) : Prop :=
  s_X12_isCaller v1.toInt64 (fun r1 u2 => if r1 = 0 then (Q (-1 : Int32) u2) else (s_X12_hasWay  (fun r3 u4 => if r3 = 0 then (Q (-1 : Int32) u4) else (s_X12_laysWay v1 (fun u6 => if v2 = (0 : Int32) then (Q ((u6.1 198 64) - (1 : Int32)) u6) else if v2 = (1 : Int32) then (vp_in ((u6.1 198 64) - (1 : Int32)) 36 ∧ (vp_in (3 : Int32) 4 ∧ (if ((u6.1 242 ((u6.1 198 64) - (1 : Int32)).toNatClampNeg) / (6 : Int32)) = ((u6.1 231 (3 : Int32).toNatClampNeg) - (1 : Int32)) then (Q (1 : Int32) u6) else (Q (0 : Int32) u6)))) else if v2 = (2 : Int32) then (s_X12_wateredSet  (fun r11 u12 => Q r11 u12) u6) else (Q (-1 : Int32) u6)) u4)) u2)) u
set_option maxHeartbeats 4000000 in
set_option maxRecDepth 100000 in
theorem t_X12_leads {ρ : Nat → Nat → Option Nat} (hR : RfH ρ) {v1 : Int32} {v2 : Int32} {Q : Int32 → St → Prop} {QW : Int32 → Mem → Prop} (hQ : ∀ (r : Int32) (u : St), DK u → Q r u → QW r (emb ρ u)) {u : St} (hd : DK u) (h : s_X12_leads v1 v2 Q u) : wp_X12_leads SH 198 v1 v2 QW (emb ρ u) := by
  unfold wp_X12_leads
  unfold s_X12_leads at h
  refine ⟨on_198, ?_⟩
  refine t_X12_isCaller hR (fun r1 u2 hd h => ?_) hd h
  refine ite_mono (fun hc h => ?_) (fun hc h => ?_) h
  · exact hQ _ _ hd h
  · refine t_X12_hasWay hR (fun r3 u4 hd h => ?_) hd h
    refine ite_mono (fun hc h => ?_) (fun hc h => ?_) h
    · exact hQ _ _ hd h
    · refine t_X12_laysWay hR (fun u6 hd h => ?_) hd h
      refine ite_mono (fun hc h => ?_) (fun hc h => ?_) h
      · exact hQ _ _ hd h
      refine ite_mono (fun hc h => ?_) (fun hc h => ?_) h
      · refine ⟨_, rn_198_63 hR _, ?_⟩
        obtain ⟨x8, h⟩ := h
        refine ⟨ix_i (show SH[242]? = some (100, 36) from rfl) x8, ?_⟩
        refine ⟨_, rn_198_42 hR _, ?_⟩
        obtain ⟨x10, h⟩ := h
        refine ⟨ix_i (show SH[231]? = some (100, 4) from rfl) x10, ?_⟩
        refine ite_mono (fun hc h => ?_) (fun hc h => ?_) h
        · exact hQ _ _ hd h
        · exact hQ _ _ hd h
      refine ite_mono (fun hc h => ?_) (fun hc h => ?_) h
      · refine t_X12_wateredSet hR (fun r11 u12 hd h => ?_) hd h
        exact hQ _ _ hd h
      exact hQ _ _ hd h
/-! CalledRiverModel.least -/
set_option maxHeartbeats 4000000 in
set_option maxRecDepth 100000 in
def sX12_least_p54 (v1 : Int32) (v2 : Int32) (Q : Int32 → St → Prop) (u : St) : Prop :=
  s_X12_isThere v1 (fun r11 u12 => if r11 = 0 then (Q (-1 : Int32) u12) else (Q v2 u12)) u
set_option maxHeartbeats 4000000 in
set_option maxRecDepth 100000 in
def sX12_least_p29b (v1 : Int32) (Q : Int32 → St → Prop) (K29 : Int32 → St → Prop) (v2 : Int32) (u : St) : Prop :=
  s_X12_isThere v1 (fun r7 u8 => if r7 = 0 then (if (40 : Int32) ≤ v2 then (sX12_least_p54 v1 v2 Q u8) else (s_X12_stepGoes (v2 + (1 : Int32)) (fun u10 => K29 (v2 + (1 : Int32)) u10) u8)) else (sX12_least_p54 v1 v2 Q u8)) u
set_option maxHeartbeats 4000000 in
set_option maxRecDepth 100000 in
def sX12_least_p29n (v1 : Int32) (Q : Int32 → St → Prop) : Nat → Int32 → St → Prop
  | 0 => fun _ _ => False
  | n + 1 => sX12_least_p29b v1 Q (sX12_least_p29n v1 Q n)
set_option maxHeartbeats 4000000 in
set_option maxRecDepth 100000 in
def sX12_least_p29 (v1 : Int32) (Q : Int32 → St → Prop) (v2 : Int32) (u : St) : Prop := ∃ n, sX12_least_p29n v1 Q n v2 u
set_option maxHeartbeats 4000000 in
set_option maxRecDepth 100000 in
def s_X12_least (v1 : Int32) (Q : Int32 → St → Prop) (u : St) : Prop :=
  s_X12_farmMany  (fun r1 u2 => s_X12_isIn v1.toInt64 (0 : Int64) (((1 : Int32) <<< (r1 &&& 31)) - (1 : Int32)).toInt64 (fun r3 u4 => if r3 = 0 then (Q (-1 : Int32) u4) else (s_X12_isBegun  (fun r5 u6 => if r5 = 0 then (Q (-1 : Int32) u6) else (sX12_least_p29 v1 Q (0 : Int32) u6)) u4)) u2) u
set_option maxHeartbeats 4000000 in
set_option maxRecDepth 100000 in
theorem t_X12_least_p54 {ρ : Nat → Nat → Option Nat} (hR : RfH ρ) {v1 : Int32} {v2 : Int32} {Q : Int32 → St → Prop} {QW : Int32 → Mem → Prop} (hQ : ∀ (r : Int32) (u : St), DK u → Q r u → QW r (emb ρ u)) {u : St} (hd : DK u) (h : sX12_least_p54 v1 v2 Q u) : X12_least_p54 SH 198 v1 v2 QW (emb ρ u) := by
  unfold X12_least_p54
  unfold sX12_least_p54 at h
  refine ⟨on_198, ?_⟩
  refine t_X12_isThere hR (fun r11 u12 hd h => ?_) hd h
  refine ite_mono (fun hc h => ?_) (fun hc h => ?_) h
  · exact hQ _ _ hd h
  · exact hQ _ _ hd h
set_option maxHeartbeats 4000000 in
set_option maxRecDepth 100000 in
theorem t_X12_least_p29b {ρ : Nat → Nat → Option Nat} (hR : RfH ρ) {v1 : Int32} {v2 : Int32} {Q : Int32 → St → Prop} {QW : Int32 → Mem → Prop} (hQ : ∀ (r : Int32) (u : St), DK u → Q r u → QW r (emb ρ u)) {K29 : Int32 → St → Prop} {KW29 : Int32 → Mem → Prop} (hK29 : ∀ (x2 : Int32) (u : St), DK u → K29 x2 u → KW29 x2 (emb ρ u)) {u : St} (hd : DK u) (h : sX12_least_p29b v1 Q K29 v2 u) : X12_least_p29b SH 198 v1 QW KW29 v2 (emb ρ u) := by
  unfold X12_least_p29b
  unfold sX12_least_p29b at h
  refine ⟨on_198, ?_⟩
  refine t_X12_isThere hR (fun r7 u8 hd h => ?_) hd h
  refine ite_mono (fun hc h => ?_) (fun hc h => ?_) h
  · refine ite_mono (fun hc h => ?_) (fun hc h => ?_) h
    · exact t_X12_least_p54 hR hQ hd h
    · refine t_X12_stepGoes hR (fun u10 hd h => ?_) hd h
      exact hK29 _ _ hd h
  · exact t_X12_least_p54 hR hQ hd h
set_option maxHeartbeats 4000000 in
set_option maxRecDepth 100000 in
theorem t_X12_least_p29n {ρ : Nat → Nat → Option Nat} (hR : RfH ρ) {v1 : Int32} {Q : Int32 → St → Prop} {QW : Int32 → Mem → Prop} (hQ : ∀ (r : Int32) (u : St), DK u → Q r u → QW r (emb ρ u)) : ∀ (n : Nat) (v2 : Int32) (u : St), DK u → sX12_least_p29n v1 Q n v2 u → X12_least_p29n SH 198 v1 QW n v2 (emb ρ u)
  | 0, _, _,  _, h => h.elim
  | n + 1, v2,  u,  hd, h => t_X12_least_p29b hR hQ (fun v2 u  hd h => t_X12_least_p29n hR hQ n v2 u  hd h) hd h
set_option maxHeartbeats 4000000 in
set_option maxRecDepth 100000 in
theorem t_X12_least_p29 {ρ : Nat → Nat → Option Nat} (hR : RfH ρ) {v1 : Int32} {v2 : Int32} {Q : Int32 → St → Prop} {QW : Int32 → Mem → Prop} (hQ : ∀ (r : Int32) (u : St), DK u → Q r u → QW r (emb ρ u)) {u : St} (hd : DK u) (h : sX12_least_p29 v1 Q v2 u) : X12_least_p29 SH 198 v1 QW v2 (emb ρ u) := h.elim (fun n h => ⟨n, t_X12_least_p29n hR hQ n _ _ hd h⟩)
set_option maxHeartbeats 4000000 in
set_option maxRecDepth 100000 in
theorem t_X12_least {ρ : Nat → Nat → Option Nat} (hR : RfH ρ) {v1 : Int32} {Q : Int32 → St → Prop} {QW : Int32 → Mem → Prop} (hQ : ∀ (r : Int32) (u : St), DK u → Q r u → QW r (emb ρ u)) {u : St} (hd : DK u) (h : s_X12_least v1 Q u) : wp_X12_least SH 198 v1 QW (emb ρ u) := by
  unfold wp_X12_least
  unfold s_X12_least at h
  refine ⟨on_198, ?_⟩
  refine t_X12_farmMany hR (fun r1 u2 hd h => ?_) hd h
  refine t_X12_isIn hR (fun r3 u4 hd h => ?_) hd h
  refine ite_mono (fun hc h => ?_) (fun hc h => ?_) h
  · exact hQ _ _ hd h
  · refine t_X12_isBegun hR (fun r5 u6 hd h => ?_) hd h
    refine ite_mono (fun hc h => ?_) (fun hc h => ?_) h
    · exact hQ _ _ hd h
    · exact t_X12_least_p29 hR hQ hd h
/-! CalledRiverModel.letter -/
set_option maxHeartbeats 4000000 in
set_option maxRecDepth 100000 in
def sX12_letter_p102b (v3 : Int32) (Q : Int32 → St → Prop) (K102 : Int64 → Int32 → St → Prop) (v4 : Int64) (v7 : Int32) (u : St) : Prop :=
  if v7 ≤ v3 then (Q (v4 - v4 / (27 : Int64) * (27 : Int64)).toInt32 u) else (K102 (v4 / (27 : Int64)) (v7 + (-1 : Int32)) u)
set_option maxHeartbeats 4000000 in
set_option maxRecDepth 100000 in
def sX12_letter_p102n (v3 : Int32) (Q : Int32 → St → Prop) : Nat → Int64 → Int32 → St → Prop
  | 0 => fun _ _ _ => False
  | n + 1 => sX12_letter_p102b v3 Q (sX12_letter_p102n v3 Q n)
set_option maxHeartbeats 4000000 in
set_option maxRecDepth 100000 in
def sX12_letter_p102 (v3 : Int32) (Q : Int32 → St → Prop) (v4 : Int64) (v7 : Int32) (u : St) : Prop := ∃ n, sX12_letter_p102n v3 Q n v4 v7 u
set_option maxHeartbeats 4000000 in
set_option maxRecDepth 100000 in
def sX12_letter_p67b (v3 : Int32) (v4 : Int64) (Q : Int32 → St → Prop) (K67 : Int32 → Int64 → St → Prop) (v6 : Int32) (v7 : Int64) (u : St) : Prop :=
  if (lg_cmp v7 (0 : Int64)) ≤ 0 then (if v3 < v6 then (sX12_letter_p102 v3 Q v4 (v6 - (1 : Int32)) u) else (Q (0 : Int32) u)) else (K67 (v6 + (1 : Int32)) (v7 / (27 : Int64)) u)
set_option maxHeartbeats 4000000 in
set_option maxRecDepth 100000 in
def sX12_letter_p67n (v3 : Int32) (v4 : Int64) (Q : Int32 → St → Prop) : Nat → Int32 → Int64 → St → Prop
  | 0 => fun _ _ _ => False
  | n + 1 => sX12_letter_p67b v3 v4 Q (sX12_letter_p67n v3 v4 Q n)
set_option maxHeartbeats 4000000 in
set_option maxRecDepth 100000 in
def sX12_letter_p67 (v3 : Int32) (v4 : Int64) (Q : Int32 → St → Prop) (v6 : Int32) (v7 : Int64) (u : St) : Prop := ∃ n, sX12_letter_p67n v3 v4 Q n v6 v7 u
set_option maxHeartbeats 4000000 in
set_option maxRecDepth 100000 in
def s_X12_letter (v1 : Int32) (v2 : Int32) (v3 : Int32) (Q : Int32 → St → Prop) (u : St) : Prop :=
  s_X12_isIn v1.toInt64 (0 : Int64) (1 : Int64) (fun r1 u2 => if r1 = 0 then (Q (-1 : Int32) u2) else (vp_in ((2 : Int32) + v1) 4 ∧ (s_X12_isIn v2.toInt64 (0 : Int64) ((u2.1 232 ((2 : Int32) + v1).toNatClampNeg) - (1 : Int32)).toInt64 (fun r5 u6 => if r5 = 0 then (Q (-1 : Int32) u6) else (s_X12_isIn v3.toInt64 (0 : Int64) (5 : Int64) (fun r7 u8 => if r7 = 0 then (Q (-1 : Int32) u8) else (vp_in (((16 : Int32) + ((8 : Int32) * v1)) + v2) 32 ∧ (sX12_letter_p67 v3 (u8.2.1 233 (((16 : Int32) + ((8 : Int32) * v1)) + v2).toNatClampNeg) Q (0 : Int32) (u8.2.1 233 (((16 : Int32) + ((8 : Int32) * v1)) + v2).toNatClampNeg) u8))) u6)) u2))) u
set_option maxHeartbeats 4000000 in
set_option maxRecDepth 100000 in
theorem t_X12_letter_p102b {ρ : Nat → Nat → Option Nat} (hR : RfH ρ) {v3 : Int32} {v4 : Int64} {v7 : Int32} {Q : Int32 → St → Prop} {QW : Int32 → Mem → Prop} (hQ : ∀ (r : Int32) (u : St), DK u → Q r u → QW r (emb ρ u)) {K102 : Int64 → Int32 → St → Prop} {KW102 : Int64 → Int32 → Mem → Prop} (hK102 : ∀ (x4 : Int64) (x7 : Int32) (u : St), DK u → K102 x4 x7 u → KW102 x4 x7 (emb ρ u)) {u : St} (hd : DK u) (h : sX12_letter_p102b v3 Q K102 v4 v7 u) : X12_letter_p102b SH v3 QW KW102 v4 v7 (emb ρ u) := by
  unfold X12_letter_p102b
  unfold sX12_letter_p102b at h
  refine ite_mono (fun hc h => ?_) (fun hc h => ?_) h
  · exact hQ _ _ hd h
  · exact hK102 _ _ _ hd h
set_option maxHeartbeats 4000000 in
set_option maxRecDepth 100000 in
theorem t_X12_letter_p102n {ρ : Nat → Nat → Option Nat} (hR : RfH ρ) {v3 : Int32} {Q : Int32 → St → Prop} {QW : Int32 → Mem → Prop} (hQ : ∀ (r : Int32) (u : St), DK u → Q r u → QW r (emb ρ u)) : ∀ (n : Nat) (v4 : Int64) (v7 : Int32) (u : St), DK u → sX12_letter_p102n v3 Q n v4 v7 u → X12_letter_p102n SH v3 QW n v4 v7 (emb ρ u)
  | 0, _,_, _,  _, h => h.elim
  | n + 1, v4, v7,  u,  hd, h => t_X12_letter_p102b hR hQ (fun v4 v7 u  hd h => t_X12_letter_p102n hR hQ n v4 v7 u  hd h) hd h
set_option maxHeartbeats 4000000 in
set_option maxRecDepth 100000 in
theorem t_X12_letter_p102 {ρ : Nat → Nat → Option Nat} (hR : RfH ρ) {v3 : Int32} {v4 : Int64} {v7 : Int32} {Q : Int32 → St → Prop} {QW : Int32 → Mem → Prop} (hQ : ∀ (r : Int32) (u : St), DK u → Q r u → QW r (emb ρ u)) {u : St} (hd : DK u) (h : sX12_letter_p102 v3 Q v4 v7 u) : X12_letter_p102 SH v3 QW v4 v7 (emb ρ u) := h.elim (fun n h => ⟨n, t_X12_letter_p102n hR hQ n _ _ _ hd h⟩)
set_option maxHeartbeats 4000000 in
set_option maxRecDepth 100000 in
theorem t_X12_letter_p67b {ρ : Nat → Nat → Option Nat} (hR : RfH ρ) {v3 : Int32} {v4 : Int64} {v6 : Int32} {v7 : Int64} {Q : Int32 → St → Prop} {QW : Int32 → Mem → Prop} (hQ : ∀ (r : Int32) (u : St), DK u → Q r u → QW r (emb ρ u)) {K67 : Int32 → Int64 → St → Prop} {KW67 : Int32 → Int64 → Mem → Prop} (hK67 : ∀ (x6 : Int32) (x7 : Int64) (u : St), DK u → K67 x6 x7 u → KW67 x6 x7 (emb ρ u)) {u : St} (hd : DK u) (h : sX12_letter_p67b v3 v4 Q K67 v6 v7 u) : X12_letter_p67b SH v3 v4 QW KW67 v6 v7 (emb ρ u) := by
  unfold X12_letter_p67b
  unfold sX12_letter_p67b at h
  refine ite_mono (fun hc h => ?_) (fun hc h => ?_) h
  · refine ite_mono (fun hc h => ?_) (fun hc h => ?_) h
    · exact t_X12_letter_p102 hR hQ hd h
    · exact hQ _ _ hd h
  · exact hK67 _ _ _ hd h
set_option maxHeartbeats 4000000 in
set_option maxRecDepth 100000 in
theorem t_X12_letter_p67n {ρ : Nat → Nat → Option Nat} (hR : RfH ρ) {v3 : Int32} {v4 : Int64} {Q : Int32 → St → Prop} {QW : Int32 → Mem → Prop} (hQ : ∀ (r : Int32) (u : St), DK u → Q r u → QW r (emb ρ u)) : ∀ (n : Nat) (v6 : Int32) (v7 : Int64) (u : St), DK u → sX12_letter_p67n v3 v4 Q n v6 v7 u → X12_letter_p67n SH v3 v4 QW n v6 v7 (emb ρ u)
  | 0, _,_, _,  _, h => h.elim
  | n + 1, v6, v7,  u,  hd, h => t_X12_letter_p67b hR hQ (fun v6 v7 u  hd h => t_X12_letter_p67n hR hQ n v6 v7 u  hd h) hd h
set_option maxHeartbeats 4000000 in
set_option maxRecDepth 100000 in
theorem t_X12_letter_p67 {ρ : Nat → Nat → Option Nat} (hR : RfH ρ) {v3 : Int32} {v4 : Int64} {v6 : Int32} {v7 : Int64} {Q : Int32 → St → Prop} {QW : Int32 → Mem → Prop} (hQ : ∀ (r : Int32) (u : St), DK u → Q r u → QW r (emb ρ u)) {u : St} (hd : DK u) (h : sX12_letter_p67 v3 v4 Q v6 v7 u) : X12_letter_p67 SH v3 v4 QW v6 v7 (emb ρ u) := h.elim (fun n h => ⟨n, t_X12_letter_p67n hR hQ n _ _ _ hd h⟩)
set_option maxHeartbeats 4000000 in
set_option maxRecDepth 100000 in
theorem t_X12_letter {ρ : Nat → Nat → Option Nat} (hR : RfH ρ) {v1 : Int32} {v2 : Int32} {v3 : Int32} {Q : Int32 → St → Prop} {QW : Int32 → Mem → Prop} (hQ : ∀ (r : Int32) (u : St), DK u → Q r u → QW r (emb ρ u)) {u : St} (hd : DK u) (h : s_X12_letter v1 v2 v3 Q u) : wp_X12_letter SH 198 v1 v2 v3 QW (emb ρ u) := by
  unfold wp_X12_letter
  unfold s_X12_letter at h
  refine t_X12_isIn hR (fun r1 u2 hd h => ?_) hd h
  refine ite_mono (fun hc h => ?_) (fun hc h => ?_) h
  · exact hQ _ _ hd h
  · refine ⟨on_198, ?_⟩
    refine ⟨_, rn_198_45 hR _, ?_⟩
    obtain ⟨x4, h⟩ := h
    refine ⟨ix_i (show SH[232]? = some (100, 4) from rfl) x4, ?_⟩
    refine t_X12_isIn hR (fun r5 u6 hd h => ?_) hd h
    refine ite_mono (fun hc h => ?_) (fun hc h => ?_) h
    · exact hQ _ _ hd h
    · refine t_X12_isIn hR (fun r7 u8 hd h => ?_) hd h
      refine ite_mono (fun hc h => ?_) (fun hc h => ?_) h
      · exact hQ _ _ hd h
      · refine ⟨_, rn_198_46 hR _, ?_⟩
        obtain ⟨x10, h⟩ := h
        refine ⟨ix_i (show SH[233]? = some (103, 32) from rfl) x10, ?_⟩
        exact t_X12_letter_p67 hR hQ hd h
/-! CalledRiverModel.mill -/
set_option maxHeartbeats 4000000 in
set_option maxRecDepth 100000 in
def sX12_mill_p59b (v1 : Int32) (v2 : Int32) (Q : Int32 → St → Prop) (K44 : Int32 → St → Prop) (K59 : Int32 → St → Prop) (v3 : Int32) (u : St) : Prop :=
  if (u.1 198 64) ≤ v3 then (K44 (v2 + (1 : Int32)) u) else (vp_in v3 36 ∧ (vp_in (u.1 242 v3.toNatClampNeg) 36 ∧ (bnd (tI u 251 (u.1 242 v3.toNatClampNeg).toNatClampNeg ((u.1 251 (u.1 242 v3.toNatClampNeg).toNatClampNeg) + (1 : Int32))) (fun u21 => K59 (v3 + (1 : Int32)) u21))))
set_option maxHeartbeats 4000000 in
set_option maxRecDepth 100000 in
def sX12_mill_p59n (v1 : Int32) (v2 : Int32) (Q : Int32 → St → Prop) (K44 : Int32 → St → Prop) : Nat → Int32 → St → Prop
  | 0 => fun _ _ => False
  | n + 1 => sX12_mill_p59b v1 v2 Q K44 (sX12_mill_p59n v1 v2 Q K44 n)
set_option maxHeartbeats 4000000 in
set_option maxRecDepth 100000 in
def sX12_mill_p59 (v1 : Int32) (v2 : Int32) (Q : Int32 → St → Prop) (K44 : Int32 → St → Prop) (v3 : Int32) (u : St) : Prop := ∃ n, sX12_mill_p59n v1 v2 Q K44 n v3 u
set_option maxHeartbeats 4000000 in
set_option maxRecDepth 100000 in
def sX12_mill_p135 (v1 : Int32) (v2 : Int32) (v3 : Int32) (Q : Int32 → St → Prop) (K98 : Int32 → Int32 → St → Prop) (u : St) : Prop :=
  K98 v2 (v3 + (1 : Int32)) u
set_option maxHeartbeats 4000000 in
set_option maxRecDepth 100000 in
def sX12_mill_p133 (v1 : Int32) (v3 : Int32) (Q : Int32 → St → Prop) (K98 : Int32 → Int32 → St → Prop) (u : St) : Prop :=
  sX12_mill_p135 v1 v3 v3 Q K98 u
set_option maxHeartbeats 4000000 in
set_option maxRecDepth 100000 in
def sX12_mill_p98b (v1 : Int32) (Q : Int32 → St → Prop) (K98 : Int32 → Int32 → St → Prop) (v2 : Int32) (v3 : Int32) (u : St) : Prop :=
  if (36 : Int32) ≤ v3 then (if v2 = (-1 : Int32) then (Q (-1 : Int32) u) else (if v1 = 0 then (Q (v2 - v2 / (6 : Int32) * (6 : Int32)) u) else (if v1 = (1 : Int32) then (Q (v2 / (6 : Int32)) u) else (vp_in v2 36 ∧ (Q (u.1 251 v2.toNatClampNeg) u))))) else (vp_in v3 36 ∧ (if (u.1 251 v3.toNatClampNeg) ≤ 0 then (sX12_mill_p135 v1 v2 v3 Q K98 u) else (if v2 = (-1 : Int32) then (sX12_mill_p133 v1 v3 Q K98 u) else (vp_in v2 36 ∧ (if (u.1 251 v3.toNatClampNeg) ≤ (u.1 251 v2.toNatClampNeg) then (sX12_mill_p135 v1 v2 v3 Q K98 u) else (sX12_mill_p133 v1 v3 Q K98 u))))))
set_option maxHeartbeats 4000000 in
set_option maxRecDepth 100000 in
def sX12_mill_p98n (v1 : Int32) (Q : Int32 → St → Prop) : Nat → Int32 → Int32 → St → Prop
  | 0 => fun _ _ _ => False
  | n + 1 => sX12_mill_p98b v1 Q (sX12_mill_p98n v1 Q n)
set_option maxHeartbeats 4000000 in
set_option maxRecDepth 100000 in
def sX12_mill_p98 (v1 : Int32) (Q : Int32 → St → Prop) (v2 : Int32) (v3 : Int32) (u : St) : Prop := ∃ n, sX12_mill_p98n v1 Q n v2 v3 u
set_option maxHeartbeats 4000000 in
set_option maxRecDepth 100000 in
def sX12_mill_p44b (v1 : Int32) (Q : Int32 → St → Prop) (K44 : Int32 → St → Prop) (v2 : Int32) (u : St) : Prop :=
  s_X12_callerMany  (fun r8 u9 => if r8 ≤ v2 then (sX12_mill_p98 v1 Q (-1 : Int32) (0 : Int32) u9) else (s_X12_laysWay v2 (fun u11 => sX12_mill_p59 v1 v2 Q K44 (1 : Int32) u11) u9)) u
set_option maxHeartbeats 4000000 in
set_option maxRecDepth 100000 in
def sX12_mill_p44n (v1 : Int32) (Q : Int32 → St → Prop) : Nat → Int32 → St → Prop
  | 0 => fun _ _ => False
  | n + 1 => sX12_mill_p44b v1 Q (sX12_mill_p44n v1 Q n)
set_option maxHeartbeats 4000000 in
set_option maxRecDepth 100000 in
def sX12_mill_p44 (v1 : Int32) (Q : Int32 → St → Prop) (v2 : Int32) (u : St) : Prop := ∃ n, sX12_mill_p44n v1 Q n v2 u
set_option maxHeartbeats 4000000 in
set_option maxRecDepth 100000 in
def sX12_mill_p23b (v1 : Int32) (Q : Int32 → St → Prop) (K23 : Int32 → St → Prop) (v2 : Int32) (u : St) : Prop :=
  if (36 : Int32) ≤ v2 then (sX12_mill_p44 v1 Q (0 : Int32) u) else (vp_in v2 36 ∧ bnd (tI u 251 v2.toNatClampNeg (0 : Int32)) (fun u7 => K23 (v2 + (1 : Int32)) u7))
set_option maxHeartbeats 4000000 in
set_option maxRecDepth 100000 in
def sX12_mill_p23n (v1 : Int32) (Q : Int32 → St → Prop) : Nat → Int32 → St → Prop
  | 0 => fun _ _ => False
  | n + 1 => sX12_mill_p23b v1 Q (sX12_mill_p23n v1 Q n)
set_option maxHeartbeats 4000000 in
set_option maxRecDepth 100000 in
def sX12_mill_p23 (v1 : Int32) (Q : Int32 → St → Prop) (v2 : Int32) (u : St) : Prop := ∃ n, sX12_mill_p23n v1 Q n v2 u
set_option maxHeartbeats 4000000 in
set_option maxRecDepth 100000 in
def s_X12_mill (v1 : Int32) (Q : Int32 → St → Prop) (u : St) : Prop :=
  s_X12_hasWay  (fun r1 u2 => if r1 = 0 then (Q (-1 : Int32) u2) else (s_X12_isIn v1.toInt64 (0 : Int64) (2 : Int64) (fun r3 u4 => if r3 = 0 then (Q (-1 : Int32) u4) else (sX12_mill_p23 v1 Q (0 : Int32) u4)) u2)) u
set_option maxHeartbeats 4000000 in
set_option maxRecDepth 100000 in
theorem t_X12_mill_p59b {ρ : Nat → Nat → Option Nat} (hR : RfH ρ) {v1 : Int32} {v2 : Int32} {v3 : Int32} {Q : Int32 → St → Prop} {QW : Int32 → Mem → Prop} {K44 : Int32 → St → Prop} {KW44 : Int32 → Mem → Prop} (hQ : ∀ (r : Int32) (u : St), DK u → Q r u → QW r (emb ρ u)) (hK44 : ∀ (x2 : Int32) (u : St), DK u → K44 x2 u → KW44 x2 (emb ρ u)) {K59 : Int32 → St → Prop} {KW59 : Int32 → Mem → Prop} (hK59 : ∀ (x3 : Int32) (u : St), DK u → K59 x3 u → KW59 x3 (emb ρ u)) {u : St} (hd : DK u) (h : sX12_mill_p59b v1 v2 Q K44 K59 v3 u) : X12_mill_p59b SH 198 v1 v2 QW KW44 KW59 v3 (emb ρ u) := by
  unfold X12_mill_p59b
  unfold sX12_mill_p59b at h
  refine ⟨on_198, ?_⟩
  refine ite_mono (fun hc h => ?_) (fun hc h => ?_) h
  · exact hK44 _ _ hd h
  · refine ⟨_, rn_198_73 hR _, ?_⟩
    refine ⟨_, rn_198_63 hR _, ?_⟩
    obtain ⟨x19, h⟩ := h
    refine ⟨ix_i (show SH[242]? = some (100, 36) from rfl) x19, ?_⟩
    obtain ⟨x20, h⟩ := h
    refine ⟨ix_i (show SH[251]? = some (100, 36) from rfl) x20, ?_⟩
    refine bnd_I ?_
    replace h := bnd_e h
    exact hK59 _ _ hd h
set_option maxHeartbeats 4000000 in
set_option maxRecDepth 100000 in
theorem t_X12_mill_p59n {ρ : Nat → Nat → Option Nat} (hR : RfH ρ) {v1 : Int32} {v2 : Int32} {Q : Int32 → St → Prop} {QW : Int32 → Mem → Prop} {K44 : Int32 → St → Prop} {KW44 : Int32 → Mem → Prop} (hQ : ∀ (r : Int32) (u : St), DK u → Q r u → QW r (emb ρ u)) (hK44 : ∀ (x2 : Int32) (u : St), DK u → K44 x2 u → KW44 x2 (emb ρ u)) : ∀ (n : Nat) (v3 : Int32) (u : St), DK u → sX12_mill_p59n v1 v2 Q K44 n v3 u → X12_mill_p59n SH 198 v1 v2 QW KW44 n v3 (emb ρ u)
  | 0, _, _,  _, h => h.elim
  | n + 1, v3,  u,  hd, h => t_X12_mill_p59b hR hQ hK44 (fun v3 u  hd h => t_X12_mill_p59n hR hQ hK44 n v3 u  hd h) hd h
set_option maxHeartbeats 4000000 in
set_option maxRecDepth 100000 in
theorem t_X12_mill_p59 {ρ : Nat → Nat → Option Nat} (hR : RfH ρ) {v1 : Int32} {v2 : Int32} {v3 : Int32} {Q : Int32 → St → Prop} {QW : Int32 → Mem → Prop} {K44 : Int32 → St → Prop} {KW44 : Int32 → Mem → Prop} (hQ : ∀ (r : Int32) (u : St), DK u → Q r u → QW r (emb ρ u)) (hK44 : ∀ (x2 : Int32) (u : St), DK u → K44 x2 u → KW44 x2 (emb ρ u)) {u : St} (hd : DK u) (h : sX12_mill_p59 v1 v2 Q K44 v3 u) : X12_mill_p59 SH 198 v1 v2 QW KW44 v3 (emb ρ u) := h.elim (fun n h => ⟨n, t_X12_mill_p59n hR hQ hK44 n _ _ hd h⟩)
set_option maxHeartbeats 4000000 in
set_option maxRecDepth 100000 in
theorem t_X12_mill_p135 {ρ : Nat → Nat → Option Nat} (hR : RfH ρ) {v1 : Int32} {v2 : Int32} {v3 : Int32} {Q : Int32 → St → Prop} {QW : Int32 → Mem → Prop} {K98 : Int32 → Int32 → St → Prop} {KW98 : Int32 → Int32 → Mem → Prop} (hQ : ∀ (r : Int32) (u : St), DK u → Q r u → QW r (emb ρ u)) (hK98 : ∀ (x2 : Int32) (x3 : Int32) (u : St), DK u → K98 x2 x3 u → KW98 x2 x3 (emb ρ u)) {u : St} (hd : DK u) (h : sX12_mill_p135 v1 v2 v3 Q K98 u) : X12_mill_p135 SH 198 v1 v2 v3 QW KW98 (emb ρ u) := by
  unfold X12_mill_p135
  unfold sX12_mill_p135 at h
  exact hK98 _ _ _ hd h
set_option maxHeartbeats 4000000 in
set_option maxRecDepth 100000 in
theorem t_X12_mill_p133 {ρ : Nat → Nat → Option Nat} (hR : RfH ρ) {v1 : Int32} {v3 : Int32} {Q : Int32 → St → Prop} {QW : Int32 → Mem → Prop} {K98 : Int32 → Int32 → St → Prop} {KW98 : Int32 → Int32 → Mem → Prop} (hQ : ∀ (r : Int32) (u : St), DK u → Q r u → QW r (emb ρ u)) (hK98 : ∀ (x2 : Int32) (x3 : Int32) (u : St), DK u → K98 x2 x3 u → KW98 x2 x3 (emb ρ u)) {u : St} (hd : DK u) (h : sX12_mill_p133 v1 v3 Q K98 u) : X12_mill_p133 SH 198 v1 v3 QW KW98 (emb ρ u) := by
  unfold X12_mill_p133
  unfold sX12_mill_p133 at h
  exact t_X12_mill_p135 hR hQ hK98 hd h
set_option maxHeartbeats 4000000 in
set_option maxRecDepth 100000 in
theorem t_X12_mill_p98b {ρ : Nat → Nat → Option Nat} (hR : RfH ρ) {v1 : Int32} {v2 : Int32} {v3 : Int32} {Q : Int32 → St → Prop} {QW : Int32 → Mem → Prop} (hQ : ∀ (r : Int32) (u : St), DK u → Q r u → QW r (emb ρ u)) {K98 : Int32 → Int32 → St → Prop} {KW98 : Int32 → Int32 → Mem → Prop} (hK98 : ∀ (x2 : Int32) (x3 : Int32) (u : St), DK u → K98 x2 x3 u → KW98 x2 x3 (emb ρ u)) {u : St} (hd : DK u) (h : sX12_mill_p98b v1 Q K98 v2 v3 u) : X12_mill_p98b SH 198 v1 QW KW98 v2 v3 (emb ρ u) := by
  unfold X12_mill_p98b
  unfold sX12_mill_p98b at h
  refine ite_mono (fun hc h => ?_) (fun hc h => ?_) h
  · refine ite_mono (fun hc h => ?_) (fun hc h => ?_) h
    · exact hQ _ _ hd h
    · refine ite_mono (fun hc h => ?_) (fun hc h => ?_) h
      · exact hQ _ _ hd h
      · refine ite_mono (fun hc h => ?_) (fun hc h => ?_) h
        · exact hQ _ _ hd h
        · refine ⟨on_198, ?_⟩
          refine ⟨_, rn_198_73 hR _, ?_⟩
          obtain ⟨x13, h⟩ := h
          refine ⟨ix_i (show SH[251]? = some (100, 36) from rfl) x13, ?_⟩
          exact hQ _ _ hd h
  · refine ⟨on_198, ?_⟩
    refine ⟨_, rn_198_73 hR _, ?_⟩
    obtain ⟨x15, h⟩ := h
    refine ⟨ix_i (show SH[251]? = some (100, 36) from rfl) x15, ?_⟩
    refine ite_mono (fun hc h => ?_) (fun hc h => ?_) h
    · exact t_X12_mill_p135 hR hQ hK98 hd h
    · refine ite_mono (fun hc h => ?_) (fun hc h => ?_) h
      · exact t_X12_mill_p133 hR hQ hK98 hd h
      · obtain ⟨x16, h⟩ := h
        refine ⟨ix_i (show SH[251]? = some (100, 36) from rfl) x16, ?_⟩
        refine ite_mono (fun hc h => ?_) (fun hc h => ?_) h
        · exact t_X12_mill_p135 hR hQ hK98 hd h
        · exact t_X12_mill_p133 hR hQ hK98 hd h
set_option maxHeartbeats 4000000 in
set_option maxRecDepth 100000 in
theorem t_X12_mill_p98n {ρ : Nat → Nat → Option Nat} (hR : RfH ρ) {v1 : Int32} {Q : Int32 → St → Prop} {QW : Int32 → Mem → Prop} (hQ : ∀ (r : Int32) (u : St), DK u → Q r u → QW r (emb ρ u)) : ∀ (n : Nat) (v2 : Int32) (v3 : Int32) (u : St), DK u → sX12_mill_p98n v1 Q n v2 v3 u → X12_mill_p98n SH 198 v1 QW n v2 v3 (emb ρ u)
  | 0, _,_, _,  _, h => h.elim
  | n + 1, v2, v3,  u,  hd, h => t_X12_mill_p98b hR hQ (fun v2 v3 u  hd h => t_X12_mill_p98n hR hQ n v2 v3 u  hd h) hd h
set_option maxHeartbeats 4000000 in
set_option maxRecDepth 100000 in
theorem t_X12_mill_p98 {ρ : Nat → Nat → Option Nat} (hR : RfH ρ) {v1 : Int32} {v2 : Int32} {v3 : Int32} {Q : Int32 → St → Prop} {QW : Int32 → Mem → Prop} (hQ : ∀ (r : Int32) (u : St), DK u → Q r u → QW r (emb ρ u)) {u : St} (hd : DK u) (h : sX12_mill_p98 v1 Q v2 v3 u) : X12_mill_p98 SH 198 v1 QW v2 v3 (emb ρ u) := h.elim (fun n h => ⟨n, t_X12_mill_p98n hR hQ n _ _ _ hd h⟩)
set_option maxHeartbeats 4000000 in
set_option maxRecDepth 100000 in
theorem t_X12_mill_p44b {ρ : Nat → Nat → Option Nat} (hR : RfH ρ) {v1 : Int32} {v2 : Int32} {Q : Int32 → St → Prop} {QW : Int32 → Mem → Prop} (hQ : ∀ (r : Int32) (u : St), DK u → Q r u → QW r (emb ρ u)) {K44 : Int32 → St → Prop} {KW44 : Int32 → Mem → Prop} (hK44 : ∀ (x2 : Int32) (u : St), DK u → K44 x2 u → KW44 x2 (emb ρ u)) {u : St} (hd : DK u) (h : sX12_mill_p44b v1 Q K44 v2 u) : X12_mill_p44b SH 198 v1 QW KW44 v2 (emb ρ u) := by
  unfold X12_mill_p44b
  unfold sX12_mill_p44b at h
  refine ⟨on_198, ?_⟩
  refine t_X12_callerMany hR (fun r8 u9 hd h => ?_) hd h
  refine ite_mono (fun hc h => ?_) (fun hc h => ?_) h
  · exact t_X12_mill_p98 hR hQ hd h
  · refine t_X12_laysWay hR (fun u11 hd h => ?_) hd h
    exact t_X12_mill_p59 hR hQ hK44 hd h
set_option maxHeartbeats 4000000 in
set_option maxRecDepth 100000 in
theorem t_X12_mill_p44n {ρ : Nat → Nat → Option Nat} (hR : RfH ρ) {v1 : Int32} {Q : Int32 → St → Prop} {QW : Int32 → Mem → Prop} (hQ : ∀ (r : Int32) (u : St), DK u → Q r u → QW r (emb ρ u)) : ∀ (n : Nat) (v2 : Int32) (u : St), DK u → sX12_mill_p44n v1 Q n v2 u → X12_mill_p44n SH 198 v1 QW n v2 (emb ρ u)
  | 0, _, _,  _, h => h.elim
  | n + 1, v2,  u,  hd, h => t_X12_mill_p44b hR hQ (fun v2 u  hd h => t_X12_mill_p44n hR hQ n v2 u  hd h) hd h
set_option maxHeartbeats 4000000 in
set_option maxRecDepth 100000 in
theorem t_X12_mill_p44 {ρ : Nat → Nat → Option Nat} (hR : RfH ρ) {v1 : Int32} {v2 : Int32} {Q : Int32 → St → Prop} {QW : Int32 → Mem → Prop} (hQ : ∀ (r : Int32) (u : St), DK u → Q r u → QW r (emb ρ u)) {u : St} (hd : DK u) (h : sX12_mill_p44 v1 Q v2 u) : X12_mill_p44 SH 198 v1 QW v2 (emb ρ u) := h.elim (fun n h => ⟨n, t_X12_mill_p44n hR hQ n _ _ hd h⟩)
set_option maxHeartbeats 4000000 in
set_option maxRecDepth 100000 in
theorem t_X12_mill_p23b {ρ : Nat → Nat → Option Nat} (hR : RfH ρ) {v1 : Int32} {v2 : Int32} {Q : Int32 → St → Prop} {QW : Int32 → Mem → Prop} (hQ : ∀ (r : Int32) (u : St), DK u → Q r u → QW r (emb ρ u)) {K23 : Int32 → St → Prop} {KW23 : Int32 → Mem → Prop} (hK23 : ∀ (x2 : Int32) (u : St), DK u → K23 x2 u → KW23 x2 (emb ρ u)) {u : St} (hd : DK u) (h : sX12_mill_p23b v1 Q K23 v2 u) : X12_mill_p23b SH 198 v1 QW KW23 v2 (emb ρ u) := by
  unfold X12_mill_p23b
  unfold sX12_mill_p23b at h
  refine ite_mono (fun hc h => ?_) (fun hc h => ?_) h
  · exact t_X12_mill_p44 hR hQ hd h
  · refine ⟨on_198, ?_⟩
    refine ⟨_, rn_198_73 hR _, ?_⟩
    obtain ⟨x6, h⟩ := h
    refine ⟨ix_i (show SH[251]? = some (100, 36) from rfl) x6, ?_⟩
    refine bnd_I ?_
    replace h := bnd_e h
    exact hK23 _ _ hd h
set_option maxHeartbeats 4000000 in
set_option maxRecDepth 100000 in
theorem t_X12_mill_p23n {ρ : Nat → Nat → Option Nat} (hR : RfH ρ) {v1 : Int32} {Q : Int32 → St → Prop} {QW : Int32 → Mem → Prop} (hQ : ∀ (r : Int32) (u : St), DK u → Q r u → QW r (emb ρ u)) : ∀ (n : Nat) (v2 : Int32) (u : St), DK u → sX12_mill_p23n v1 Q n v2 u → X12_mill_p23n SH 198 v1 QW n v2 (emb ρ u)
  | 0, _, _,  _, h => h.elim
  | n + 1, v2,  u,  hd, h => t_X12_mill_p23b hR hQ (fun v2 u  hd h => t_X12_mill_p23n hR hQ n v2 u  hd h) hd h
set_option maxHeartbeats 4000000 in
set_option maxRecDepth 100000 in
theorem t_X12_mill_p23 {ρ : Nat → Nat → Option Nat} (hR : RfH ρ) {v1 : Int32} {v2 : Int32} {Q : Int32 → St → Prop} {QW : Int32 → Mem → Prop} (hQ : ∀ (r : Int32) (u : St), DK u → Q r u → QW r (emb ρ u)) {u : St} (hd : DK u) (h : sX12_mill_p23 v1 Q v2 u) : X12_mill_p23 SH 198 v1 QW v2 (emb ρ u) := h.elim (fun n h => ⟨n, t_X12_mill_p23n hR hQ n _ _ hd h⟩)
set_option maxHeartbeats 4000000 in
set_option maxRecDepth 100000 in
theorem t_X12_mill {ρ : Nat → Nat → Option Nat} (hR : RfH ρ) {v1 : Int32} {Q : Int32 → St → Prop} {QW : Int32 → Mem → Prop} (hQ : ∀ (r : Int32) (u : St), DK u → Q r u → QW r (emb ρ u)) {u : St} (hd : DK u) (h : s_X12_mill v1 Q u) : wp_X12_mill SH 198 v1 QW (emb ρ u) := by
  unfold wp_X12_mill
  unfold s_X12_mill at h
  refine ⟨on_198, ?_⟩
  refine t_X12_hasWay hR (fun r1 u2 hd h => ?_) hd h
  refine ite_mono (fun hc h => ?_) (fun hc h => ?_) h
  · exact hQ _ _ hd h
  · refine t_X12_isIn hR (fun r3 u4 hd h => ?_) hd h
    refine ite_mono (fun hc h => ?_) (fun hc h => ?_) h
    · exact hQ _ _ hd h
    · exact t_X12_mill_p23 hR hQ hd h
/-! CalledRiverModel.mostAlike -/
set_option maxHeartbeats 4000000 in
set_option maxRecDepth 100000 in
def sX12_mostAlike_p79 (v1 : Int32) (v2 : Int32) (v3 : Int32) (v4 : Int32) (v5 : Int32) (v6 : Int32) (Q : Int32 → St → Prop) (K5 : Int32 → Int32 → St → Prop) (K20 : Int32 → Int32 → St → Prop) (u : St) : Prop :=
  K20 v5 (v6 + (1 : Int32)) u
set_option maxHeartbeats 4000000 in
set_option maxRecDepth 100000 in
def sX12_mostAlike_p94 (v1 : Int32) (v2 : Int32) (v3 : Int32) (v4 : Int32) (Q : Int32 → St → Prop) (K5 : Int32 → Int32 → St → Prop) (u : St) : Prop :=
  K5 v3 (v4 + (1 : Int32)) u
set_option maxHeartbeats 4000000 in
set_option maxRecDepth 100000 in
def sX12_mostAlike_p20b (v1 : Int32) (v2 : Int32) (v3 : Int32) (v4 : Int32) (Q : Int32 → St → Prop) (K5 : Int32 → Int32 → St → Prop) (K20 : Int32 → Int32 → St → Prop) (v5 : Int32) (v6 : Int32) (u : St) : Prop :=
  s_X12_callerMany  (fun r3 u4 => if r3 ≤ v6 then (if v5 ≤ v3 then (sX12_mostAlike_p94 v1 v2 v3 v4 Q K5 u4) else (sX12_mostAlike_p94 v1 v2 v5 v4 Q K5 u4)) else (if ((v1 >>> (v4 &&& 31)) &&& (1 : Int32)) = (1 : Int32) then (if ((v1 >>> (v6 &&& 31)) &&& (1 : Int32)) = (1 : Int32) then (vp_in (((41 : Int32) * v4) + v2) 205 ∧ (vp_in (((41 : Int32) * v6) + v2) 205 ∧ (if (u4.1 253 (((41 : Int32) * v4) + v2).toNatClampNeg) = (u4.1 253 (((41 : Int32) * v6) + v2).toNatClampNeg) then (sX12_mostAlike_p79 v1 v2 v3 v4 (v5 + (1 : Int32)) v6 Q K5 K20 u4) else (sX12_mostAlike_p79 v1 v2 v3 v4 v5 v6 Q K5 K20 u4)))) else (sX12_mostAlike_p79 v1 v2 v3 v4 v5 v6 Q K5 K20 u4)) else (sX12_mostAlike_p79 v1 v2 v3 v4 v5 v6 Q K5 K20 u4))) u
set_option maxHeartbeats 4000000 in
set_option maxRecDepth 100000 in
def sX12_mostAlike_p20n (v1 : Int32) (v2 : Int32) (v3 : Int32) (v4 : Int32) (Q : Int32 → St → Prop) (K5 : Int32 → Int32 → St → Prop) : Nat → Int32 → Int32 → St → Prop
  | 0 => fun _ _ _ => False
  | n + 1 => sX12_mostAlike_p20b v1 v2 v3 v4 Q K5 (sX12_mostAlike_p20n v1 v2 v3 v4 Q K5 n)
set_option maxHeartbeats 4000000 in
set_option maxRecDepth 100000 in
def sX12_mostAlike_p20 (v1 : Int32) (v2 : Int32) (v3 : Int32) (v4 : Int32) (Q : Int32 → St → Prop) (K5 : Int32 → Int32 → St → Prop) (v5 : Int32) (v6 : Int32) (u : St) : Prop := ∃ n, sX12_mostAlike_p20n v1 v2 v3 v4 Q K5 n v5 v6 u
set_option maxHeartbeats 4000000 in
set_option maxRecDepth 100000 in
def sX12_mostAlike_p5b (v1 : Int32) (v2 : Int32) (Q : Int32 → St → Prop) (K5 : Int32 → Int32 → St → Prop) (v3 : Int32) (v4 : Int32) (u : St) : Prop :=
  s_X12_callerMany  (fun r1 u2 => if r1 ≤ v4 then (Q v3 u2) else (sX12_mostAlike_p20 v1 v2 v3 v4 Q K5 (0 : Int32) (0 : Int32) u2)) u
set_option maxHeartbeats 4000000 in
set_option maxRecDepth 100000 in
def sX12_mostAlike_p5n (v1 : Int32) (v2 : Int32) (Q : Int32 → St → Prop) : Nat → Int32 → Int32 → St → Prop
  | 0 => fun _ _ _ => False
  | n + 1 => sX12_mostAlike_p5b v1 v2 Q (sX12_mostAlike_p5n v1 v2 Q n)
set_option maxHeartbeats 4000000 in
set_option maxRecDepth 100000 in
def sX12_mostAlike_p5 (v1 : Int32) (v2 : Int32) (Q : Int32 → St → Prop) (v3 : Int32) (v4 : Int32) (u : St) : Prop := ∃ n, sX12_mostAlike_p5n v1 v2 Q n v3 v4 u
set_option maxHeartbeats 4000000 in
set_option maxRecDepth 100000 in
def s_X12_mostAlike (v1 : Int32) (v2 : Int32) (Q : Int32 → St → Prop) (u : St) : Prop :=
  sX12_mostAlike_p5 v1 v2 Q (0 : Int32) (0 : Int32) u
set_option maxHeartbeats 4000000 in
set_option maxRecDepth 100000 in
theorem t_X12_mostAlike_p79 {ρ : Nat → Nat → Option Nat} (hR : RfH ρ) {v1 : Int32} {v2 : Int32} {v3 : Int32} {v4 : Int32} {v5 : Int32} {v6 : Int32} {Q : Int32 → St → Prop} {QW : Int32 → Mem → Prop} {K5 : Int32 → Int32 → St → Prop} {KW5 : Int32 → Int32 → Mem → Prop} {K20 : Int32 → Int32 → St → Prop} {KW20 : Int32 → Int32 → Mem → Prop} (hQ : ∀ (r : Int32) (u : St), DK u → Q r u → QW r (emb ρ u)) (hK5 : ∀ (x3 : Int32) (x4 : Int32) (u : St), DK u → K5 x3 x4 u → KW5 x3 x4 (emb ρ u)) (hK20 : ∀ (x5 : Int32) (x6 : Int32) (u : St), DK u → K20 x5 x6 u → KW20 x5 x6 (emb ρ u)) {u : St} (hd : DK u) (h : sX12_mostAlike_p79 v1 v2 v3 v4 v5 v6 Q K5 K20 u) : X12_mostAlike_p79 SH 198 v1 v2 v3 v4 v5 v6 QW KW5 KW20 (emb ρ u) := by
  unfold X12_mostAlike_p79
  unfold sX12_mostAlike_p79 at h
  exact hK20 _ _ _ hd h
set_option maxHeartbeats 4000000 in
set_option maxRecDepth 100000 in
theorem t_X12_mostAlike_p94 {ρ : Nat → Nat → Option Nat} (hR : RfH ρ) {v1 : Int32} {v2 : Int32} {v3 : Int32} {v4 : Int32} {Q : Int32 → St → Prop} {QW : Int32 → Mem → Prop} {K5 : Int32 → Int32 → St → Prop} {KW5 : Int32 → Int32 → Mem → Prop} (hQ : ∀ (r : Int32) (u : St), DK u → Q r u → QW r (emb ρ u)) (hK5 : ∀ (x3 : Int32) (x4 : Int32) (u : St), DK u → K5 x3 x4 u → KW5 x3 x4 (emb ρ u)) {u : St} (hd : DK u) (h : sX12_mostAlike_p94 v1 v2 v3 v4 Q K5 u) : X12_mostAlike_p94 SH 198 v1 v2 v3 v4 QW KW5 (emb ρ u) := by
  unfold X12_mostAlike_p94
  unfold sX12_mostAlike_p94 at h
  exact hK5 _ _ _ hd h
set_option maxHeartbeats 4000000 in
set_option maxRecDepth 100000 in
theorem t_X12_mostAlike_p20b {ρ : Nat → Nat → Option Nat} (hR : RfH ρ) {v1 : Int32} {v2 : Int32} {v3 : Int32} {v4 : Int32} {v5 : Int32} {v6 : Int32} {Q : Int32 → St → Prop} {QW : Int32 → Mem → Prop} {K5 : Int32 → Int32 → St → Prop} {KW5 : Int32 → Int32 → Mem → Prop} (hQ : ∀ (r : Int32) (u : St), DK u → Q r u → QW r (emb ρ u)) (hK5 : ∀ (x3 : Int32) (x4 : Int32) (u : St), DK u → K5 x3 x4 u → KW5 x3 x4 (emb ρ u)) {K20 : Int32 → Int32 → St → Prop} {KW20 : Int32 → Int32 → Mem → Prop} (hK20 : ∀ (x5 : Int32) (x6 : Int32) (u : St), DK u → K20 x5 x6 u → KW20 x5 x6 (emb ρ u)) {u : St} (hd : DK u) (h : sX12_mostAlike_p20b v1 v2 v3 v4 Q K5 K20 v5 v6 u) : X12_mostAlike_p20b SH 198 v1 v2 v3 v4 QW KW5 KW20 v5 v6 (emb ρ u) := by
  unfold X12_mostAlike_p20b
  unfold sX12_mostAlike_p20b at h
  refine ⟨on_198, ?_⟩
  refine t_X12_callerMany hR (fun r3 u4 hd h => ?_) hd h
  refine ite_mono (fun hc h => ?_) (fun hc h => ?_) h
  · refine ite_mono (fun hc h => ?_) (fun hc h => ?_) h
    · exact t_X12_mostAlike_p94 hR hQ hK5 hd h
    · exact t_X12_mostAlike_p94 hR hQ hK5 hd h
  · refine ite_mono (fun hc h => ?_) (fun hc h => ?_) h
    · refine ite_mono (fun hc h => ?_) (fun hc h => ?_) h
      · refine ⟨_, rn_198_76 hR _, ?_⟩
        obtain ⟨x6, h⟩ := h
        refine ⟨ix_i (show SH[253]? = some (100, 205) from rfl) x6, ?_⟩
        obtain ⟨x7, h⟩ := h
        refine ⟨ix_i (show SH[253]? = some (100, 205) from rfl) x7, ?_⟩
        refine ite_mono (fun hc h => ?_) (fun hc h => ?_) h
        · exact t_X12_mostAlike_p79 hR hQ hK5 hK20 hd h
        · exact t_X12_mostAlike_p79 hR hQ hK5 hK20 hd h
      · exact t_X12_mostAlike_p79 hR hQ hK5 hK20 hd h
    · exact t_X12_mostAlike_p79 hR hQ hK5 hK20 hd h
set_option maxHeartbeats 4000000 in
set_option maxRecDepth 100000 in
theorem t_X12_mostAlike_p20n {ρ : Nat → Nat → Option Nat} (hR : RfH ρ) {v1 : Int32} {v2 : Int32} {v3 : Int32} {v4 : Int32} {Q : Int32 → St → Prop} {QW : Int32 → Mem → Prop} {K5 : Int32 → Int32 → St → Prop} {KW5 : Int32 → Int32 → Mem → Prop} (hQ : ∀ (r : Int32) (u : St), DK u → Q r u → QW r (emb ρ u)) (hK5 : ∀ (x3 : Int32) (x4 : Int32) (u : St), DK u → K5 x3 x4 u → KW5 x3 x4 (emb ρ u)) : ∀ (n : Nat) (v5 : Int32) (v6 : Int32) (u : St), DK u → sX12_mostAlike_p20n v1 v2 v3 v4 Q K5 n v5 v6 u → X12_mostAlike_p20n SH 198 v1 v2 v3 v4 QW KW5 n v5 v6 (emb ρ u)
  | 0, _,_, _,  _, h => h.elim
  | n + 1, v5, v6,  u,  hd, h => t_X12_mostAlike_p20b hR hQ hK5 (fun v5 v6 u  hd h => t_X12_mostAlike_p20n hR hQ hK5 n v5 v6 u  hd h) hd h
set_option maxHeartbeats 4000000 in
set_option maxRecDepth 100000 in
theorem t_X12_mostAlike_p20 {ρ : Nat → Nat → Option Nat} (hR : RfH ρ) {v1 : Int32} {v2 : Int32} {v3 : Int32} {v4 : Int32} {v5 : Int32} {v6 : Int32} {Q : Int32 → St → Prop} {QW : Int32 → Mem → Prop} {K5 : Int32 → Int32 → St → Prop} {KW5 : Int32 → Int32 → Mem → Prop} (hQ : ∀ (r : Int32) (u : St), DK u → Q r u → QW r (emb ρ u)) (hK5 : ∀ (x3 : Int32) (x4 : Int32) (u : St), DK u → K5 x3 x4 u → KW5 x3 x4 (emb ρ u)) {u : St} (hd : DK u) (h : sX12_mostAlike_p20 v1 v2 v3 v4 Q K5 v5 v6 u) : X12_mostAlike_p20 SH 198 v1 v2 v3 v4 QW KW5 v5 v6 (emb ρ u) := h.elim (fun n h => ⟨n, t_X12_mostAlike_p20n hR hQ hK5 n _ _ _ hd h⟩)
set_option maxHeartbeats 4000000 in
set_option maxRecDepth 100000 in
theorem t_X12_mostAlike_p5b {ρ : Nat → Nat → Option Nat} (hR : RfH ρ) {v1 : Int32} {v2 : Int32} {v3 : Int32} {v4 : Int32} {Q : Int32 → St → Prop} {QW : Int32 → Mem → Prop} (hQ : ∀ (r : Int32) (u : St), DK u → Q r u → QW r (emb ρ u)) {K5 : Int32 → Int32 → St → Prop} {KW5 : Int32 → Int32 → Mem → Prop} (hK5 : ∀ (x3 : Int32) (x4 : Int32) (u : St), DK u → K5 x3 x4 u → KW5 x3 x4 (emb ρ u)) {u : St} (hd : DK u) (h : sX12_mostAlike_p5b v1 v2 Q K5 v3 v4 u) : X12_mostAlike_p5b SH 198 v1 v2 QW KW5 v3 v4 (emb ρ u) := by
  unfold X12_mostAlike_p5b
  unfold sX12_mostAlike_p5b at h
  refine ⟨on_198, ?_⟩
  refine t_X12_callerMany hR (fun r1 u2 hd h => ?_) hd h
  refine ite_mono (fun hc h => ?_) (fun hc h => ?_) h
  · exact hQ _ _ hd h
  · exact t_X12_mostAlike_p20 hR hQ hK5 hd h
set_option maxHeartbeats 4000000 in
set_option maxRecDepth 100000 in
theorem t_X12_mostAlike_p5n {ρ : Nat → Nat → Option Nat} (hR : RfH ρ) {v1 : Int32} {v2 : Int32} {Q : Int32 → St → Prop} {QW : Int32 → Mem → Prop} (hQ : ∀ (r : Int32) (u : St), DK u → Q r u → QW r (emb ρ u)) : ∀ (n : Nat) (v3 : Int32) (v4 : Int32) (u : St), DK u → sX12_mostAlike_p5n v1 v2 Q n v3 v4 u → X12_mostAlike_p5n SH 198 v1 v2 QW n v3 v4 (emb ρ u)
  | 0, _,_, _,  _, h => h.elim
  | n + 1, v3, v4,  u,  hd, h => t_X12_mostAlike_p5b hR hQ (fun v3 v4 u  hd h => t_X12_mostAlike_p5n hR hQ n v3 v4 u  hd h) hd h
set_option maxHeartbeats 4000000 in
set_option maxRecDepth 100000 in
theorem t_X12_mostAlike_p5 {ρ : Nat → Nat → Option Nat} (hR : RfH ρ) {v1 : Int32} {v2 : Int32} {v3 : Int32} {v4 : Int32} {Q : Int32 → St → Prop} {QW : Int32 → Mem → Prop} (hQ : ∀ (r : Int32) (u : St), DK u → Q r u → QW r (emb ρ u)) {u : St} (hd : DK u) (h : sX12_mostAlike_p5 v1 v2 Q v3 v4 u) : X12_mostAlike_p5 SH 198 v1 v2 QW v3 v4 (emb ρ u) := h.elim (fun n h => ⟨n, t_X12_mostAlike_p5n hR hQ n _ _ _ hd h⟩)
set_option maxHeartbeats 4000000 in
set_option maxRecDepth 100000 in
theorem t_X12_mostAlike {ρ : Nat → Nat → Option Nat} (hR : RfH ρ) {v1 : Int32} {v2 : Int32} {Q : Int32 → St → Prop} {QW : Int32 → Mem → Prop} (hQ : ∀ (r : Int32) (u : St), DK u → Q r u → QW r (emb ρ u)) {u : St} (hd : DK u) (h : s_X12_mostAlike v1 v2 Q u) : wp_X12_mostAlike SH 198 v1 v2 QW (emb ρ u) := by
  unfold wp_X12_mostAlike
  unfold s_X12_mostAlike at h
  exact t_X12_mostAlike_p5 hR hQ hd h
/-! CalledRiverModel.octet -/
set_option maxHeartbeats 4000000 in
set_option maxRecDepth 100000 in
def s_X12_octet (v1 : Int32) (Q : Int32 → St → Prop) (u : St) : Prop :=
  if v1 < 0 then (Q (-1 : Int32) u) else (if (u.1 198 119) ≤ v1 then (Q (-1 : Int32) u) else (vp_in v1 117 ∧ (Q (u.1 285 v1.toNatClampNeg) u)))
set_option maxHeartbeats 4000000 in
set_option maxRecDepth 100000 in
theorem t_X12_octet {ρ : Nat → Nat → Option Nat} (hR : RfH ρ) {v1 : Int32} {Q : Int32 → St → Prop} {QW : Int32 → Mem → Prop} (hQ : ∀ (r : Int32) (u : St), DK u → Q r u → QW r (emb ρ u)) {u : St} (hd : DK u) (h : s_X12_octet v1 Q u) : wp_X12_octet SH 198 v1 QW (emb ρ u) := by
  unfold wp_X12_octet
  unfold s_X12_octet at h
  refine ite_mono (fun hc h => ?_) (fun hc h => ?_) h
  · exact hQ _ _ hd h
  · refine ⟨on_198, ?_⟩
    refine ite_mono (fun hc h => ?_) (fun hc h => ?_) h
    · exact hQ _ _ hd h
    · refine ⟨_, rn_198_118 hR _, ?_⟩
      obtain ⟨x2, h⟩ := h
      refine ⟨ix_i (show SH[285]? = some (100, 117) from rfl) x2, ?_⟩
      exact hQ _ _ hd h
/-! CalledRiverModel.on -/
set_option maxHeartbeats 4000000 in
set_option maxRecDepth 100000 in
def sX12_on_p65b (v2 : Int32) (Q : Int32 → St → Prop) (K55 : Int32 → St → Prop) (K65 : Int32 → St → Prop) (v3 : Int32) (u : St) : Prop :=
  if (3 : Int32) ≤ v3 then (K55 (v2 + (1 : Int32)) u) else (s_X12_cellOfNumber v2 (fun r29 u30 => vp_in (((2 : Int32) + ((3 : Int32) * v2)) + v3) 1600 ∧ (vp_in (((1 : Int32) + ((3 : Int32) * r29)) + v3) 236 ∧ bnd (tI u30 241 (((1 : Int32) + ((3 : Int32) * r29)) + v3).toNatClampNeg (u30.1 199 (((2 : Int32) + ((3 : Int32) * v2)) + v3).toNatClampNeg)) (fun u34 => K65 (v3 + (1 : Int32)) u34))) u)
set_option maxHeartbeats 4000000 in
set_option maxRecDepth 100000 in
def sX12_on_p65n (v2 : Int32) (Q : Int32 → St → Prop) (K55 : Int32 → St → Prop) : Nat → Int32 → St → Prop
  | 0 => fun _ _ => False
  | n + 1 => sX12_on_p65b v2 Q K55 (sX12_on_p65n v2 Q K55 n)
set_option maxHeartbeats 4000000 in
set_option maxRecDepth 100000 in
def sX12_on_p65 (v2 : Int32) (Q : Int32 → St → Prop) (K55 : Int32 → St → Prop) (v3 : Int32) (u : St) : Prop := ∃ n, sX12_on_p65n v2 Q K55 n v3 u
set_option maxHeartbeats 4000000 in
set_option maxRecDepth 100000 in
def sX12_on_p112b (Q : Int32 → St → Prop) (K112 : Int32 → St → Prop) (v2 : Int32) (u : St) : Prop :=
  s_X12_farmMany  (fun r15 u16 => if r15 ≤ v2 then (vp_in (115 : Int32) 236 ∧ bnd (tI u16 241 (115 : Int32).toNatClampNeg (0 : Int32)) (fun u19 => bnd (tI u19 198 78 (0 : Int32)) (fun u20 => Q (1 : Int32) u20))) else (s_X12_cellMany  (fun r23 u24 => vp_in (((2 : Int32) + ((3 : Int32) * r23)) + v2) 1600 ∧ (vp_in ((109 : Int32) + v2) 236 ∧ bnd (tI u24 241 ((109 : Int32) + v2).toNatClampNeg (u24.1 199 (((2 : Int32) + ((3 : Int32) * r23)) + v2).toNatClampNeg)) (fun u27 => K112 (v2 + (1 : Int32)) u27))) u16)) u
set_option maxHeartbeats 4000000 in
set_option maxRecDepth 100000 in
def sX12_on_p112n (Q : Int32 → St → Prop) : Nat → Int32 → St → Prop
  | 0 => fun _ _ => False
  | n + 1 => sX12_on_p112b Q (sX12_on_p112n Q n)
set_option maxHeartbeats 4000000 in
set_option maxRecDepth 100000 in
def sX12_on_p112 (Q : Int32 → St → Prop) (v2 : Int32) (u : St) : Prop := ∃ n, sX12_on_p112n Q n v2 u
set_option maxHeartbeats 4000000 in
set_option maxRecDepth 100000 in
def sX12_on_p55b (Q : Int32 → St → Prop) (K55 : Int32 → St → Prop) (v2 : Int32) (u : St) : Prop :=
  s_X12_cellMany  (fun r13 u14 => if r13 ≤ v2 then (sX12_on_p112 Q (0 : Int32) u14) else (sX12_on_p65 v2 Q K55 (0 : Int32) u14)) u
set_option maxHeartbeats 4000000 in
set_option maxRecDepth 100000 in
def sX12_on_p55n (Q : Int32 → St → Prop) : Nat → Int32 → St → Prop
  | 0 => fun _ _ => False
  | n + 1 => sX12_on_p55b Q (sX12_on_p55n Q n)
set_option maxHeartbeats 4000000 in
set_option maxRecDepth 100000 in
def sX12_on_p55 (Q : Int32 → St → Prop) (v2 : Int32) (u : St) : Prop := ∃ n, sX12_on_p55n Q n v2 u
set_option maxHeartbeats 4000000 in
set_option maxRecDepth 100000 in
def s_X12_on (Q : Int32 → St → Prop) (u : St) : Prop :=
  bnd (tI u 198 1 (0 : Int32)) (fun u1 => s_X12_isImage (u.1 198 1) (fun r2 u3 => if r2 = 0 then (vp_in (5 : Int32) 6 ∧ (bnd (tI u3 200 (5 : Int32).toNatClampNeg ((u3.1 200 (5 : Int32).toNatClampNeg) + (1 : Int32))) (fun u12 => Q (0 : Int32) u12))) else (vp_in (0 : Int32) 1600 ∧ (vp_in (1 : Int32) 1600 ∧ (vp_in (0 : Int32) 236 ∧ bnd (tI u3 241 (0 : Int32).toNatClampNeg (((256 : Int32) * (u3.1 199 (0 : Int32).toNatClampNeg)) + (u3.1 199 (1 : Int32).toNatClampNeg))) (fun u9 => sX12_on_p55 Q (0 : Int32) u9))))) u1)
set_option maxHeartbeats 4000000 in
set_option maxRecDepth 100000 in
theorem t_X12_on_p65b {ρ : Nat → Nat → Option Nat} (hR : RfH ρ) {v2 : Int32} {v3 : Int32} {Q : Int32 → St → Prop} {QW : Int32 → Mem → Prop} {K55 : Int32 → St → Prop} {KW55 : Int32 → Mem → Prop} (hQ : ∀ (r : Int32) (u : St), DK u → Q r u → QW r (emb ρ u)) (hK55 : ∀ (x2 : Int32) (u : St), DK u → K55 x2 u → KW55 x2 (emb ρ u)) {K65 : Int32 → St → Prop} {KW65 : Int32 → Mem → Prop} (hK65 : ∀ (x3 : Int32) (u : St), DK u → K65 x3 u → KW65 x3 (emb ρ u)) {u : St} (hd : DK u) (h : sX12_on_p65b v2 Q K55 K65 v3 u) : X12_on_p65b SH 198 v2 QW KW55 KW65 v3 (emb ρ u) := by
  unfold X12_on_p65b
  unfold sX12_on_p65b at h
  refine ite_mono (fun hc h => ?_) (fun hc h => ?_) h
  · exact hK55 _ _ hd h
  · refine ⟨on_198, ?_⟩
    refine ⟨_, rn_198_58 hR _, ?_⟩
    refine t_X12_cellOfNumber hR (fun r29 u30 hd h => ?_) hd h
    refine ⟨_, rn_198_0 hR _, ?_⟩
    obtain ⟨x32, h⟩ := h
    refine ⟨ix_i (show SH[199]? = some (100, 1600) from rfl) x32, ?_⟩
    obtain ⟨x33, h⟩ := h
    refine ⟨ix_i (show SH[241]? = some (100, 236) from rfl) x33, ?_⟩
    refine bnd_I ?_
    replace h := bnd_e h
    exact hK65 _ _ hd h
set_option maxHeartbeats 4000000 in
set_option maxRecDepth 100000 in
theorem t_X12_on_p65n {ρ : Nat → Nat → Option Nat} (hR : RfH ρ) {v2 : Int32} {Q : Int32 → St → Prop} {QW : Int32 → Mem → Prop} {K55 : Int32 → St → Prop} {KW55 : Int32 → Mem → Prop} (hQ : ∀ (r : Int32) (u : St), DK u → Q r u → QW r (emb ρ u)) (hK55 : ∀ (x2 : Int32) (u : St), DK u → K55 x2 u → KW55 x2 (emb ρ u)) : ∀ (n : Nat) (v3 : Int32) (u : St), DK u → sX12_on_p65n v2 Q K55 n v3 u → X12_on_p65n SH 198 v2 QW KW55 n v3 (emb ρ u)
  | 0, _, _,  _, h => h.elim
  | n + 1, v3,  u,  hd, h => t_X12_on_p65b hR hQ hK55 (fun v3 u  hd h => t_X12_on_p65n hR hQ hK55 n v3 u  hd h) hd h
set_option maxHeartbeats 4000000 in
set_option maxRecDepth 100000 in
theorem t_X12_on_p65 {ρ : Nat → Nat → Option Nat} (hR : RfH ρ) {v2 : Int32} {v3 : Int32} {Q : Int32 → St → Prop} {QW : Int32 → Mem → Prop} {K55 : Int32 → St → Prop} {KW55 : Int32 → Mem → Prop} (hQ : ∀ (r : Int32) (u : St), DK u → Q r u → QW r (emb ρ u)) (hK55 : ∀ (x2 : Int32) (u : St), DK u → K55 x2 u → KW55 x2 (emb ρ u)) {u : St} (hd : DK u) (h : sX12_on_p65 v2 Q K55 v3 u) : X12_on_p65 SH 198 v2 QW KW55 v3 (emb ρ u) := h.elim (fun n h => ⟨n, t_X12_on_p65n hR hQ hK55 n _ _ hd h⟩)
set_option maxHeartbeats 4000000 in
set_option maxRecDepth 100000 in
theorem t_X12_on_p112b {ρ : Nat → Nat → Option Nat} (hR : RfH ρ) {v2 : Int32} {Q : Int32 → St → Prop} {QW : Int32 → Mem → Prop} (hQ : ∀ (r : Int32) (u : St), DK u → Q r u → QW r (emb ρ u)) {K112 : Int32 → St → Prop} {KW112 : Int32 → Mem → Prop} (hK112 : ∀ (x2 : Int32) (u : St), DK u → K112 x2 u → KW112 x2 (emb ρ u)) {u : St} (hd : DK u) (h : sX12_on_p112b Q K112 v2 u) : X12_on_p112b SH 198 QW KW112 v2 (emb ρ u) := by
  unfold X12_on_p112b
  unfold sX12_on_p112b at h
  refine ⟨on_198, ?_⟩
  refine t_X12_farmMany hR (fun r15 u16 hd h => ?_) hd h
  refine ite_mono (fun hc h => ?_) (fun hc h => ?_) h
  · refine ⟨_, rn_198_58 hR _, ?_⟩
    obtain ⟨x18, h⟩ := h
    refine ⟨ix_i (show SH[241]? = some (100, 236) from rfl) x18, ?_⟩
    refine bnd_I ?_
    replace h := bnd_e h
    refine bnd_I ?_
    replace h := bnd_e h
    exact hQ _ _ hd h
  · refine ⟨_, rn_198_58 hR _, ?_⟩
    refine ⟨_, rn_198_0 hR _, ?_⟩
    refine t_X12_cellMany hR (fun r23 u24 hd h => ?_) hd h
    obtain ⟨x25, h⟩ := h
    refine ⟨ix_i (show SH[199]? = some (100, 1600) from rfl) x25, ?_⟩
    obtain ⟨x26, h⟩ := h
    refine ⟨ix_i (show SH[241]? = some (100, 236) from rfl) x26, ?_⟩
    refine bnd_I ?_
    replace h := bnd_e h
    exact hK112 _ _ hd h
set_option maxHeartbeats 4000000 in
set_option maxRecDepth 100000 in
theorem t_X12_on_p112n {ρ : Nat → Nat → Option Nat} (hR : RfH ρ) {Q : Int32 → St → Prop} {QW : Int32 → Mem → Prop} (hQ : ∀ (r : Int32) (u : St), DK u → Q r u → QW r (emb ρ u)) : ∀ (n : Nat) (v2 : Int32) (u : St), DK u → sX12_on_p112n Q n v2 u → X12_on_p112n SH 198 QW n v2 (emb ρ u)
  | 0, _, _,  _, h => h.elim
  | n + 1, v2,  u,  hd, h => t_X12_on_p112b hR hQ (fun v2 u  hd h => t_X12_on_p112n hR hQ n v2 u  hd h) hd h
set_option maxHeartbeats 4000000 in
set_option maxRecDepth 100000 in
theorem t_X12_on_p112 {ρ : Nat → Nat → Option Nat} (hR : RfH ρ) {v2 : Int32} {Q : Int32 → St → Prop} {QW : Int32 → Mem → Prop} (hQ : ∀ (r : Int32) (u : St), DK u → Q r u → QW r (emb ρ u)) {u : St} (hd : DK u) (h : sX12_on_p112 Q v2 u) : X12_on_p112 SH 198 QW v2 (emb ρ u) := h.elim (fun n h => ⟨n, t_X12_on_p112n hR hQ n _ _ hd h⟩)
set_option maxHeartbeats 4000000 in
set_option maxRecDepth 100000 in
theorem t_X12_on_p55b {ρ : Nat → Nat → Option Nat} (hR : RfH ρ) {v2 : Int32} {Q : Int32 → St → Prop} {QW : Int32 → Mem → Prop} (hQ : ∀ (r : Int32) (u : St), DK u → Q r u → QW r (emb ρ u)) {K55 : Int32 → St → Prop} {KW55 : Int32 → Mem → Prop} (hK55 : ∀ (x2 : Int32) (u : St), DK u → K55 x2 u → KW55 x2 (emb ρ u)) {u : St} (hd : DK u) (h : sX12_on_p55b Q K55 v2 u) : X12_on_p55b SH 198 QW KW55 v2 (emb ρ u) := by
  unfold X12_on_p55b
  unfold sX12_on_p55b at h
  refine ⟨on_198, ?_⟩
  refine t_X12_cellMany hR (fun r13 u14 hd h => ?_) hd h
  refine ite_mono (fun hc h => ?_) (fun hc h => ?_) h
  · exact t_X12_on_p112 hR hQ hd h
  · exact t_X12_on_p65 hR hQ hK55 hd h
set_option maxHeartbeats 4000000 in
set_option maxRecDepth 100000 in
theorem t_X12_on_p55n {ρ : Nat → Nat → Option Nat} (hR : RfH ρ) {Q : Int32 → St → Prop} {QW : Int32 → Mem → Prop} (hQ : ∀ (r : Int32) (u : St), DK u → Q r u → QW r (emb ρ u)) : ∀ (n : Nat) (v2 : Int32) (u : St), DK u → sX12_on_p55n Q n v2 u → X12_on_p55n SH 198 QW n v2 (emb ρ u)
  | 0, _, _,  _, h => h.elim
  | n + 1, v2,  u,  hd, h => t_X12_on_p55b hR hQ (fun v2 u  hd h => t_X12_on_p55n hR hQ n v2 u  hd h) hd h
set_option maxHeartbeats 4000000 in
set_option maxRecDepth 100000 in
theorem t_X12_on_p55 {ρ : Nat → Nat → Option Nat} (hR : RfH ρ) {v2 : Int32} {Q : Int32 → St → Prop} {QW : Int32 → Mem → Prop} (hQ : ∀ (r : Int32) (u : St), DK u → Q r u → QW r (emb ρ u)) {u : St} (hd : DK u) (h : sX12_on_p55 Q v2 u) : X12_on_p55 SH 198 QW v2 (emb ρ u) := h.elim (fun n h => ⟨n, t_X12_on_p55n hR hQ n _ _ hd h⟩)
set_option maxHeartbeats 4000000 in
set_option maxRecDepth 100000 in
theorem t_X12_on {ρ : Nat → Nat → Option Nat} (hR : RfH ρ) {Q : Int32 → St → Prop} {QW : Int32 → Mem → Prop} (hQ : ∀ (r : Int32) (u : St), DK u → Q r u → QW r (emb ρ u)) {u : St} (hd : DK u) (h : s_X12_on Q u) : wp_X12_on SH 198 QW (emb ρ u) := by
  unfold wp_X12_on
  unfold s_X12_on at h
  refine ⟨on_198, ?_⟩
  refine bnd_I ?_
  replace h := bnd_e h
  refine t_X12_isImage hR (fun r2 u3 hd h => ?_) hd h
  refine ite_mono (fun hc h => ?_) (fun hc h => ?_) h
  · refine ⟨_, rn_198_9 hR _, ?_⟩
    obtain ⟨x11, h⟩ := h
    refine ⟨ix_i (show SH[200]? = some (100, 6) from rfl) x11, ?_⟩
    refine bnd_I ?_
    replace h := bnd_e h
    exact hQ _ _ hd h
  · refine ⟨_, rn_198_58 hR _, ?_⟩
    refine ⟨_, rn_198_0 hR _, ?_⟩
    obtain ⟨x6, h⟩ := h
    refine ⟨ix_i (show SH[199]? = some (100, 1600) from rfl) x6, ?_⟩
    obtain ⟨x7, h⟩ := h
    refine ⟨ix_i (show SH[199]? = some (100, 1600) from rfl) x7, ?_⟩
    obtain ⟨x8, h⟩ := h
    refine ⟨ix_i (show SH[241]? = some (100, 236) from rfl) x8, ?_⟩
    refine bnd_I ?_
    replace h := bnd_e h
    exact t_X12_on_p55 hR hQ hd h
/-! CalledRiverModel.parts -/
set_option maxHeartbeats 4000000 in
set_option maxRecDepth 100000 in
def sX12_parts_p163b (v3 : Int32) (v4 : Int32) (v5 : Int32) (Q : Int32 → St → Prop) (K163 : Int32 → St → Prop) (v6 : Int32) (u : St) : Prop :=
  if v4 ≤ v6 then (Q (-1 : Int32) u) else (vp_in v6 36 ∧ (vp_in (u.1 250 v6.toNatClampNeg) 36 ∧ (if (u.1 243 (u.1 250 v6.toNatClampNeg).toNatClampNeg) < v5 then (K163 (v6 + (1 : Int32)) u) else (if v3 = (1 : Int32) then (Q ((u.1 250 v6.toNatClampNeg) - (u.1 250 v6.toNatClampNeg) / (6 : Int32) * (6 : Int32)) u) else (Q ((u.1 250 v6.toNatClampNeg) / (6 : Int32)) u)))))
set_option maxHeartbeats 4000000 in
set_option maxRecDepth 100000 in
def sX12_parts_p163n (v3 : Int32) (v4 : Int32) (v5 : Int32) (Q : Int32 → St → Prop) : Nat → Int32 → St → Prop
  | 0 => fun _ _ => False
  | n + 1 => sX12_parts_p163b v3 v4 v5 Q (sX12_parts_p163n v3 v4 v5 Q n)
set_option maxHeartbeats 4000000 in
set_option maxRecDepth 100000 in
def sX12_parts_p163 (v3 : Int32) (v4 : Int32) (v5 : Int32) (Q : Int32 → St → Prop) (v6 : Int32) (u : St) : Prop := ∃ n, sX12_parts_p163n v3 v4 v5 Q n v6 u
set_option maxHeartbeats 4000000 in
set_option maxRecDepth 100000 in
def sX12_parts_p150 (v3 : Int32) (v4 : Int32) (v5 : Int32) (Q : Int32 → St → Prop) (u : St) : Prop :=
  if v3 = 0 then (Q (v5 - (1 : Int32)) u) else (sX12_parts_p163 v3 v4 v5 Q v5 u)
set_option maxHeartbeats 4000000 in
set_option maxRecDepth 100000 in
def sX12_parts_p132 (v3 : Int32) (v4 : Int32) (v5 : Int32) (Q : Int32 → St → Prop) (u : St) : Prop :=
  if v5 = v4 then (if v5 = (u.1 198 64) then (Q (-1 : Int32) u) else (sX12_parts_p150 v3 v4 v5 Q u)) else (sX12_parts_p150 v3 v4 v5 Q u)
set_option maxHeartbeats 4000000 in
set_option maxRecDepth 100000 in
def sX12_parts_p93b (v3 : Int32) (v4 : Int32) (Q : Int32 → St → Prop) (K93 : Int32 → St → Prop) (v5 : Int32) (u : St) : Prop :=
  if v4 ≤ v5 then (sX12_parts_p132 v3 v4 v5 Q u) else (if (u.1 198 64) ≤ v5 then (sX12_parts_p132 v3 v4 v5 Q u) else (vp_in v5 36 ∧ (vp_in v5 36 ∧ (if (u.1 250 v5.toNatClampNeg) = (u.1 242 v5.toNatClampNeg) then (K93 (v5 + (1 : Int32)) u) else (sX12_parts_p132 v3 v4 v5 Q u)))))
set_option maxHeartbeats 4000000 in
set_option maxRecDepth 100000 in
def sX12_parts_p93n (v3 : Int32) (v4 : Int32) (Q : Int32 → St → Prop) : Nat → Int32 → St → Prop
  | 0 => fun _ _ => False
  | n + 1 => sX12_parts_p93b v3 v4 Q (sX12_parts_p93n v3 v4 Q n)
set_option maxHeartbeats 4000000 in
set_option maxRecDepth 100000 in
def sX12_parts_p93 (v3 : Int32) (v4 : Int32) (Q : Int32 → St → Prop) (v5 : Int32) (u : St) : Prop := ∃ n, sX12_parts_p93n v3 v4 Q n v5 u
set_option maxHeartbeats 4000000 in
set_option maxRecDepth 100000 in
def sX12_parts_p58b (v2 : Int32) (v3 : Int32) (v4 : Int32) (Q : Int32 → St → Prop) (K58 : Int32 → St → Prop) (v5 : Int32) (u : St) : Prop :=
  if v4 ≤ v5 then (s_X12_laysWay v2 (fun u12 => sX12_parts_p93 v3 v4 Q (0 : Int32) u12) u) else (vp_in v5 36 ∧ (vp_in v5 36 ∧ bnd (tI u 250 v5.toNatClampNeg (u.1 242 v5.toNatClampNeg)) (fun u17 => K58 (v5 + (1 : Int32)) u17)))
set_option maxHeartbeats 4000000 in
set_option maxRecDepth 100000 in
def sX12_parts_p58n (v2 : Int32) (v3 : Int32) (v4 : Int32) (Q : Int32 → St → Prop) : Nat → Int32 → St → Prop
  | 0 => fun _ _ => False
  | n + 1 => sX12_parts_p58b v2 v3 v4 Q (sX12_parts_p58n v2 v3 v4 Q n)
set_option maxHeartbeats 4000000 in
set_option maxRecDepth 100000 in
def sX12_parts_p58 (v2 : Int32) (v3 : Int32) (v4 : Int32) (Q : Int32 → St → Prop) (v5 : Int32) (u : St) : Prop := ∃ n, sX12_parts_p58n v2 v3 v4 Q n v5 u
set_option maxHeartbeats 4000000 in
set_option maxRecDepth 100000 in
def s_X12_parts (v1 : Int32) (v2 : Int32) (v3 : Int32) (Q : Int32 → St → Prop) (u : St) : Prop :=
  s_X12_isCaller v1.toInt64 (fun r1 u2 => if r1 = 0 then (Q (-1 : Int32) u2) else (s_X12_isCaller v2.toInt64 (fun r3 u4 => if r3 = 0 then (Q (-1 : Int32) u4) else (if v1 = v2 then (Q (-1 : Int32) u4) else (s_X12_isIn v3.toInt64 (0 : Int64) (2 : Int64) (fun r5 u6 => if r5 = 0 then (Q (-1 : Int32) u6) else (s_X12_hasWay  (fun r7 u8 => if r7 = 0 then (Q (-1 : Int32) u8) else (s_X12_laysWay v1 (fun u10 => sX12_parts_p58 v2 v3 (u10.1 198 64) Q (0 : Int32) u10) u8)) u6)) u4))) u2)) u
set_option maxHeartbeats 4000000 in
set_option maxRecDepth 100000 in
theorem t_X12_parts_p163b {ρ : Nat → Nat → Option Nat} (hR : RfH ρ) {v3 : Int32} {v4 : Int32} {v5 : Int32} {v6 : Int32} {Q : Int32 → St → Prop} {QW : Int32 → Mem → Prop} (hQ : ∀ (r : Int32) (u : St), DK u → Q r u → QW r (emb ρ u)) {K163 : Int32 → St → Prop} {KW163 : Int32 → Mem → Prop} (hK163 : ∀ (x6 : Int32) (u : St), DK u → K163 x6 u → KW163 x6 (emb ρ u)) {u : St} (hd : DK u) (h : sX12_parts_p163b v3 v4 v5 Q K163 v6 u) : X12_parts_p163b SH 198 v3 v4 v5 QW KW163 v6 (emb ρ u) := by
  unfold X12_parts_p163b
  unfold sX12_parts_p163b at h
  refine ite_mono (fun hc h => ?_) (fun hc h => ?_) h
  · exact hQ _ _ hd h
  · refine ⟨on_198, ?_⟩
    refine ⟨_, rn_198_65 hR _, ?_⟩
    refine ⟨_, rn_198_72 hR _, ?_⟩
    obtain ⟨x24, h⟩ := h
    refine ⟨ix_i (show SH[250]? = some (100, 36) from rfl) x24, ?_⟩
    obtain ⟨x25, h⟩ := h
    refine ⟨ix_i (show SH[243]? = some (100, 36) from rfl) x25, ?_⟩
    refine ite_mono (fun hc h => ?_) (fun hc h => ?_) h
    · exact hK163 _ _ hd h
    · refine ite_mono (fun hc h => ?_) (fun hc h => ?_) h
      · exact hQ _ _ hd h
      · exact hQ _ _ hd h
set_option maxHeartbeats 4000000 in
set_option maxRecDepth 100000 in
theorem t_X12_parts_p163n {ρ : Nat → Nat → Option Nat} (hR : RfH ρ) {v3 : Int32} {v4 : Int32} {v5 : Int32} {Q : Int32 → St → Prop} {QW : Int32 → Mem → Prop} (hQ : ∀ (r : Int32) (u : St), DK u → Q r u → QW r (emb ρ u)) : ∀ (n : Nat) (v6 : Int32) (u : St), DK u → sX12_parts_p163n v3 v4 v5 Q n v6 u → X12_parts_p163n SH 198 v3 v4 v5 QW n v6 (emb ρ u)
  | 0, _, _,  _, h => h.elim
  | n + 1, v6,  u,  hd, h => t_X12_parts_p163b hR hQ (fun v6 u  hd h => t_X12_parts_p163n hR hQ n v6 u  hd h) hd h
set_option maxHeartbeats 4000000 in
set_option maxRecDepth 100000 in
theorem t_X12_parts_p163 {ρ : Nat → Nat → Option Nat} (hR : RfH ρ) {v3 : Int32} {v4 : Int32} {v5 : Int32} {v6 : Int32} {Q : Int32 → St → Prop} {QW : Int32 → Mem → Prop} (hQ : ∀ (r : Int32) (u : St), DK u → Q r u → QW r (emb ρ u)) {u : St} (hd : DK u) (h : sX12_parts_p163 v3 v4 v5 Q v6 u) : X12_parts_p163 SH 198 v3 v4 v5 QW v6 (emb ρ u) := h.elim (fun n h => ⟨n, t_X12_parts_p163n hR hQ n _ _ hd h⟩)
set_option maxHeartbeats 4000000 in
set_option maxRecDepth 100000 in
theorem t_X12_parts_p150 {ρ : Nat → Nat → Option Nat} (hR : RfH ρ) {v3 : Int32} {v4 : Int32} {v5 : Int32} {Q : Int32 → St → Prop} {QW : Int32 → Mem → Prop} (hQ : ∀ (r : Int32) (u : St), DK u → Q r u → QW r (emb ρ u)) {u : St} (hd : DK u) (h : sX12_parts_p150 v3 v4 v5 Q u) : X12_parts_p150 SH 198 v3 v4 v5 QW (emb ρ u) := by
  unfold X12_parts_p150
  unfold sX12_parts_p150 at h
  refine ite_mono (fun hc h => ?_) (fun hc h => ?_) h
  · exact hQ _ _ hd h
  · exact t_X12_parts_p163 hR hQ hd h
set_option maxHeartbeats 4000000 in
set_option maxRecDepth 100000 in
theorem t_X12_parts_p132 {ρ : Nat → Nat → Option Nat} (hR : RfH ρ) {v3 : Int32} {v4 : Int32} {v5 : Int32} {Q : Int32 → St → Prop} {QW : Int32 → Mem → Prop} (hQ : ∀ (r : Int32) (u : St), DK u → Q r u → QW r (emb ρ u)) {u : St} (hd : DK u) (h : sX12_parts_p132 v3 v4 v5 Q u) : X12_parts_p132 SH 198 v3 v4 v5 QW (emb ρ u) := by
  unfold X12_parts_p132
  unfold sX12_parts_p132 at h
  refine ite_mono (fun hc h => ?_) (fun hc h => ?_) h
  · refine ⟨on_198, ?_⟩
    refine ite_mono (fun hc h => ?_) (fun hc h => ?_) h
    · exact hQ _ _ hd h
    · exact t_X12_parts_p150 hR hQ hd h
  · exact t_X12_parts_p150 hR hQ hd h
set_option maxHeartbeats 4000000 in
set_option maxRecDepth 100000 in
theorem t_X12_parts_p93b {ρ : Nat → Nat → Option Nat} (hR : RfH ρ) {v3 : Int32} {v4 : Int32} {v5 : Int32} {Q : Int32 → St → Prop} {QW : Int32 → Mem → Prop} (hQ : ∀ (r : Int32) (u : St), DK u → Q r u → QW r (emb ρ u)) {K93 : Int32 → St → Prop} {KW93 : Int32 → Mem → Prop} (hK93 : ∀ (x5 : Int32) (u : St), DK u → K93 x5 u → KW93 x5 (emb ρ u)) {u : St} (hd : DK u) (h : sX12_parts_p93b v3 v4 Q K93 v5 u) : X12_parts_p93b SH 198 v3 v4 QW KW93 v5 (emb ρ u) := by
  unfold X12_parts_p93b
  unfold sX12_parts_p93b at h
  refine ite_mono (fun hc h => ?_) (fun hc h => ?_) h
  · exact t_X12_parts_p132 hR hQ hd h
  · refine ⟨on_198, ?_⟩
    refine ite_mono (fun hc h => ?_) (fun hc h => ?_) h
    · exact t_X12_parts_p132 hR hQ hd h
    · refine ⟨_, rn_198_72 hR _, ?_⟩
      obtain ⟨x19, h⟩ := h
      refine ⟨ix_i (show SH[250]? = some (100, 36) from rfl) x19, ?_⟩
      refine ⟨_, rn_198_63 hR _, ?_⟩
      obtain ⟨x21, h⟩ := h
      refine ⟨ix_i (show SH[242]? = some (100, 36) from rfl) x21, ?_⟩
      refine ite_mono (fun hc h => ?_) (fun hc h => ?_) h
      · exact hK93 _ _ hd h
      · exact t_X12_parts_p132 hR hQ hd h
set_option maxHeartbeats 4000000 in
set_option maxRecDepth 100000 in
theorem t_X12_parts_p93n {ρ : Nat → Nat → Option Nat} (hR : RfH ρ) {v3 : Int32} {v4 : Int32} {Q : Int32 → St → Prop} {QW : Int32 → Mem → Prop} (hQ : ∀ (r : Int32) (u : St), DK u → Q r u → QW r (emb ρ u)) : ∀ (n : Nat) (v5 : Int32) (u : St), DK u → sX12_parts_p93n v3 v4 Q n v5 u → X12_parts_p93n SH 198 v3 v4 QW n v5 (emb ρ u)
  | 0, _, _,  _, h => h.elim
  | n + 1, v5,  u,  hd, h => t_X12_parts_p93b hR hQ (fun v5 u  hd h => t_X12_parts_p93n hR hQ n v5 u  hd h) hd h
set_option maxHeartbeats 4000000 in
set_option maxRecDepth 100000 in
theorem t_X12_parts_p93 {ρ : Nat → Nat → Option Nat} (hR : RfH ρ) {v3 : Int32} {v4 : Int32} {v5 : Int32} {Q : Int32 → St → Prop} {QW : Int32 → Mem → Prop} (hQ : ∀ (r : Int32) (u : St), DK u → Q r u → QW r (emb ρ u)) {u : St} (hd : DK u) (h : sX12_parts_p93 v3 v4 Q v5 u) : X12_parts_p93 SH 198 v3 v4 QW v5 (emb ρ u) := h.elim (fun n h => ⟨n, t_X12_parts_p93n hR hQ n _ _ hd h⟩)
set_option maxHeartbeats 4000000 in
set_option maxRecDepth 100000 in
theorem t_X12_parts_p58b {ρ : Nat → Nat → Option Nat} (hR : RfH ρ) {v2 : Int32} {v3 : Int32} {v4 : Int32} {v5 : Int32} {Q : Int32 → St → Prop} {QW : Int32 → Mem → Prop} (hQ : ∀ (r : Int32) (u : St), DK u → Q r u → QW r (emb ρ u)) {K58 : Int32 → St → Prop} {KW58 : Int32 → Mem → Prop} (hK58 : ∀ (x5 : Int32) (u : St), DK u → K58 x5 u → KW58 x5 (emb ρ u)) {u : St} (hd : DK u) (h : sX12_parts_p58b v2 v3 v4 Q K58 v5 u) : X12_parts_p58b SH 198 v2 v3 v4 QW KW58 v5 (emb ρ u) := by
  unfold X12_parts_p58b
  unfold sX12_parts_p58b at h
  refine ite_mono (fun hc h => ?_) (fun hc h => ?_) h
  · refine ⟨on_198, ?_⟩
    refine t_X12_laysWay hR (fun u12 hd h => ?_) hd h
    exact t_X12_parts_p93 hR hQ hd h
  · refine ⟨on_198, ?_⟩
    refine ⟨_, rn_198_72 hR _, ?_⟩
    refine ⟨_, rn_198_63 hR _, ?_⟩
    obtain ⟨x15, h⟩ := h
    refine ⟨ix_i (show SH[242]? = some (100, 36) from rfl) x15, ?_⟩
    obtain ⟨x16, h⟩ := h
    refine ⟨ix_i (show SH[250]? = some (100, 36) from rfl) x16, ?_⟩
    refine bnd_I ?_
    replace h := bnd_e h
    exact hK58 _ _ hd h
set_option maxHeartbeats 4000000 in
set_option maxRecDepth 100000 in
theorem t_X12_parts_p58n {ρ : Nat → Nat → Option Nat} (hR : RfH ρ) {v2 : Int32} {v3 : Int32} {v4 : Int32} {Q : Int32 → St → Prop} {QW : Int32 → Mem → Prop} (hQ : ∀ (r : Int32) (u : St), DK u → Q r u → QW r (emb ρ u)) : ∀ (n : Nat) (v5 : Int32) (u : St), DK u → sX12_parts_p58n v2 v3 v4 Q n v5 u → X12_parts_p58n SH 198 v2 v3 v4 QW n v5 (emb ρ u)
  | 0, _, _,  _, h => h.elim
  | n + 1, v5,  u,  hd, h => t_X12_parts_p58b hR hQ (fun v5 u  hd h => t_X12_parts_p58n hR hQ n v5 u  hd h) hd h
set_option maxHeartbeats 4000000 in
set_option maxRecDepth 100000 in
theorem t_X12_parts_p58 {ρ : Nat → Nat → Option Nat} (hR : RfH ρ) {v2 : Int32} {v3 : Int32} {v4 : Int32} {v5 : Int32} {Q : Int32 → St → Prop} {QW : Int32 → Mem → Prop} (hQ : ∀ (r : Int32) (u : St), DK u → Q r u → QW r (emb ρ u)) {u : St} (hd : DK u) (h : sX12_parts_p58 v2 v3 v4 Q v5 u) : X12_parts_p58 SH 198 v2 v3 v4 QW v5 (emb ρ u) := h.elim (fun n h => ⟨n, t_X12_parts_p58n hR hQ n _ _ hd h⟩)
set_option maxHeartbeats 4000000 in
set_option maxRecDepth 100000 in
theorem t_X12_parts {ρ : Nat → Nat → Option Nat} (hR : RfH ρ) {v1 : Int32} {v2 : Int32} {v3 : Int32} {Q : Int32 → St → Prop} {QW : Int32 → Mem → Prop} (hQ : ∀ (r : Int32) (u : St), DK u → Q r u → QW r (emb ρ u)) {u : St} (hd : DK u) (h : s_X12_parts v1 v2 v3 Q u) : wp_X12_parts SH 198 v1 v2 v3 QW (emb ρ u) := by
  unfold wp_X12_parts
  unfold s_X12_parts at h
  refine ⟨on_198, ?_⟩
  refine t_X12_isCaller hR (fun r1 u2 hd h => ?_) hd h
  refine ite_mono (fun hc h => ?_) (fun hc h => ?_) h
  · exact hQ _ _ hd h
  · refine t_X12_isCaller hR (fun r3 u4 hd h => ?_) hd h
    refine ite_mono (fun hc h => ?_) (fun hc h => ?_) h
    · exact hQ _ _ hd h
    · refine ite_mono (fun hc h => ?_) (fun hc h => ?_) h
      · exact hQ _ _ hd h
      · refine t_X12_isIn hR (fun r5 u6 hd h => ?_) hd h
        refine ite_mono (fun hc h => ?_) (fun hc h => ?_) h
        · exact hQ _ _ hd h
        · refine t_X12_hasWay hR (fun r7 u8 hd h => ?_) hd h
          refine ite_mono (fun hc h => ?_) (fun hc h => ?_) h
          · exact hQ _ _ hd h
          · refine t_X12_laysWay hR (fun u10 hd h => ?_) hd h
            exact t_X12_parts_p58 hR hQ hd h
/-! CalledRiverModel.plainTold -/
set_option maxHeartbeats 4000000 in
set_option maxRecDepth 100000 in
def s_X12_plainTold (Q : St → Prop) (u : St) : Prop :=
  s_X12_asks 201 (fun u3 => s_X12_number (2 : Int32) (6 : Int32) (fun r5 u6 => vp_in (0 : Int32) 4 ∧ bnd (tI u6 231 (0 : Int32).toNatClampNeg r5) (fun u8 => s_X12_asks 202 (fun u11 => s_X12_number (2 : Int32) (6 : Int32) (fun r13 u14 => vp_in (1 : Int32) 4 ∧ bnd (tI u14 231 (1 : Int32).toNatClampNeg r13) (fun u16 => s_X12_asksSign (59 : Int32) (fun u18 => Q u18) u16)) u11) u8)) u3) u
set_option maxHeartbeats 4000000 in
set_option maxRecDepth 100000 in
theorem t_X12_plainTold {ρ : Nat → Nat → Option Nat} (hR : RfH ρ) {Q : St → Prop} {QW : Mem → Prop} (hQ : ∀ (u : St), DK u → Q u → QW (emb ρ u)) {u : St} (hd : DK u) (h : s_X12_plainTold Q u) : wp_X12_plainTold SH 198 QW (emb ρ u) := by
  unfold wp_X12_plainTold
  unfold s_X12_plainTold at h
  refine ⟨on_198, ?_⟩
  refine ⟨_, rn_198_11 hR _, ?_⟩
  refine t_X12_asks hR (fun u3 hd h => ?_) hd h
  refine ⟨_, rn_198_42 hR _, ?_⟩
  refine t_X12_number hR (fun r5 u6 hd h => ?_) hd h
  obtain ⟨x7, h⟩ := h
  refine ⟨ix_i (show SH[231]? = some (100, 4) from rfl) x7, ?_⟩
  refine bnd_I ?_
  replace h := bnd_e h
  refine ⟨_, rn_198_12 hR _, ?_⟩
  refine t_X12_asks hR (fun u11 hd h => ?_) hd h
  refine ⟨_, rn_198_42 hR _, ?_⟩
  refine t_X12_number hR (fun r13 u14 hd h => ?_) hd h
  obtain ⟨x15, h⟩ := h
  refine ⟨ix_i (show SH[231]? = some (100, 4) from rfl) x15, ?_⟩
  refine bnd_I ?_
  replace h := bnd_e h
  refine t_X12_asksSign hR (fun u18 hd h => ?_) hd h
  exact hQ _ hd h
/-! CalledRiverModel.stands -/
set_option maxHeartbeats 4000000 in
set_option maxRecDepth 100000 in
def sX12_stands_p270 (v1 : Int32) (s2 : Int32) (s1 : Int32) (Q : St → Prop) (K225 : Int32 → St → Prop) (u : St) : Prop :=
  vp_in s1 236 ∧ bnd (tI u 241 s1.toNatClampNeg s2) (fun u55 => K225 (v1 + (1 : Int32)) u55)
set_option maxHeartbeats 4000000 in
set_option maxRecDepth 100000 in
def sX12_stands_p279b (Q : St → Prop) (K279 : Int32 → St → Prop) (v1 : Int32) (u : St) : Prop :=
  vp_in (0 : Int32) 4 ∧ (if (u.1 232 (0 : Int32).toNatClampNeg) ≤ v1 then (bnd (tI u 198 78 (0 : Int32)) (fun u47 => bnd (tI u47 198 74 (0 : Int32)) (fun u48 => Q u48))) else (vp_in (((3 : Int32) * v1) + (2 : Int32)) 36 ∧ (vp_in ((109 : Int32) + v1) 236 ∧ bnd (tI u 241 ((109 : Int32) + v1).toNatClampNeg (u.1 234 (((3 : Int32) * v1) + (2 : Int32)).toNatClampNeg)) (fun u53 => K279 (v1 + (1 : Int32)) u53))))
set_option maxHeartbeats 4000000 in
set_option maxRecDepth 100000 in
def sX12_stands_p279n (Q : St → Prop) : Nat → Int32 → St → Prop
  | 0 => fun _ _ => False
  | n + 1 => sX12_stands_p279b Q (sX12_stands_p279n Q n)
set_option maxHeartbeats 4000000 in
set_option maxRecDepth 100000 in
def sX12_stands_p279 (Q : St → Prop) (v1 : Int32) (u : St) : Prop := ∃ n, sX12_stands_p279n Q n v1 u
set_option maxHeartbeats 4000000 in
set_option maxRecDepth 100000 in
def sX12_stands_p225b (Q : St → Prop) (K225 : Int32 → St → Prop) (v1 : Int32) (u : St) : Prop :=
  if (36 : Int32) ≤ v1 then (sX12_stands_p279 Q (0 : Int32) u) else (vp_in v1 36 ∧ (vp_in ((1 : Int32) + ((3 : Int32) * v1)) 236 ∧ bnd (tI u 241 ((1 : Int32) + ((3 : Int32) * v1)).toNatClampNeg (u.1 236 v1.toNatClampNeg)) (fun u42 => vp_in v1 36 ∧ (if (u42.1 237 v1.toNatClampNeg) = 0 then (sX12_stands_p270 v1 (0 : Int32) ((2 : Int32) + ((3 : Int32) * v1)) Q K225 u42) else (sX12_stands_p270 v1 (1 : Int32) ((2 : Int32) + ((3 : Int32) * v1)) Q K225 u42)))))
set_option maxHeartbeats 4000000 in
set_option maxRecDepth 100000 in
def sX12_stands_p225n (Q : St → Prop) : Nat → Int32 → St → Prop
  | 0 => fun _ _ => False
  | n + 1 => sX12_stands_p225b Q (sX12_stands_p225n Q n)
set_option maxHeartbeats 4000000 in
set_option maxRecDepth 100000 in
def sX12_stands_p225 (Q : St → Prop) (v1 : Int32) (u : St) : Prop := ∃ n, sX12_stands_p225n Q n v1 u
set_option maxHeartbeats 4000000 in
set_option maxRecDepth 100000 in
def sX12_stands_p203b (Q : St → Prop) (K203 : Int32 → St → Prop) (v1 : Int32) (u : St) : Prop :=
  if (236 : Int32) ≤ v1 then (sX12_stands_p225 Q (0 : Int32) u) else (vp_in v1 236 ∧ bnd (tI u 241 v1.toNatClampNeg (0 : Int32)) (fun u37 => K203 (v1 + (1 : Int32)) u37))
set_option maxHeartbeats 4000000 in
set_option maxRecDepth 100000 in
def sX12_stands_p203n (Q : St → Prop) : Nat → Int32 → St → Prop
  | 0 => fun _ _ => False
  | n + 1 => sX12_stands_p203b Q (sX12_stands_p203n Q n)
set_option maxHeartbeats 4000000 in
set_option maxRecDepth 100000 in
def sX12_stands_p203 (Q : St → Prop) (v1 : Int32) (u : St) : Prop := ∃ n, sX12_stands_p203n Q n v1 u
set_option maxHeartbeats 4000000 in
set_option maxRecDepth 100000 in
def sX12_stands_p171b (Q : St → Prop) (K171 : Int32 → St → Prop) (v1 : Int32) (u : St) : Prop :=
  if (u.1 198 54) ≤ v1 then (sX12_stands_p203 Q (0 : Int32) u) else (vp_in v1 3200 ∧ (vp_in ((1600 : Int32) + v1) 3200 ∧ bnd (tI u 240 ((1600 : Int32) + v1).toNatClampNeg (u.1 240 v1.toNatClampNeg)) (fun u34 => K171 (v1 + (1 : Int32)) u34)))
set_option maxHeartbeats 4000000 in
set_option maxRecDepth 100000 in
def sX12_stands_p171n (Q : St → Prop) : Nat → Int32 → St → Prop
  | 0 => fun _ _ => False
  | n + 1 => sX12_stands_p171b Q (sX12_stands_p171n Q n)
set_option maxHeartbeats 4000000 in
set_option maxRecDepth 100000 in
def sX12_stands_p171 (Q : St → Prop) (v1 : Int32) (u : St) : Prop := ∃ n, sX12_stands_p171n Q n v1 u
set_option maxHeartbeats 4000000 in
set_option maxRecDepth 100000 in
def sX12_stands_p142b (Q : St → Prop) (K142 : Int32 → St → Prop) (v1 : Int32) (u : St) : Prop :=
  if (10 : Int32) ≤ v1 then (sX12_stands_p171 Q (0 : Int32) u) else (vp_in v1 20 ∧ (vp_in ((10 : Int32) + v1) 20 ∧ bnd (tI u 235 ((10 : Int32) + v1).toNatClampNeg (u.1 235 v1.toNatClampNeg)) (fun u30 => K142 (v1 + (1 : Int32)) u30)))
set_option maxHeartbeats 4000000 in
set_option maxRecDepth 100000 in
def sX12_stands_p142n (Q : St → Prop) : Nat → Int32 → St → Prop
  | 0 => fun _ _ => False
  | n + 1 => sX12_stands_p142b Q (sX12_stands_p142n Q n)
set_option maxHeartbeats 4000000 in
set_option maxRecDepth 100000 in
def sX12_stands_p142 (Q : St → Prop) (v1 : Int32) (u : St) : Prop := ∃ n, sX12_stands_p142n Q n v1 u
set_option maxHeartbeats 4000000 in
set_option maxRecDepth 100000 in
def sX12_stands_p113b (Q : St → Prop) (K113 : Int32 → St → Prop) (v1 : Int32) (u : St) : Prop :=
  if (18 : Int32) ≤ v1 then (sX12_stands_p142 Q (0 : Int32) u) else (vp_in v1 36 ∧ (vp_in ((18 : Int32) + v1) 36 ∧ bnd (tI u 234 ((18 : Int32) + v1).toNatClampNeg (u.1 234 v1.toNatClampNeg)) (fun u26 => K113 (v1 + (1 : Int32)) u26)))
set_option maxHeartbeats 4000000 in
set_option maxRecDepth 100000 in
def sX12_stands_p113n (Q : St → Prop) : Nat → Int32 → St → Prop
  | 0 => fun _ _ => False
  | n + 1 => sX12_stands_p113b Q (sX12_stands_p113n Q n)
set_option maxHeartbeats 4000000 in
set_option maxRecDepth 100000 in
def sX12_stands_p113 (Q : St → Prop) (v1 : Int32) (u : St) : Prop := ∃ n, sX12_stands_p113n Q n v1 u
set_option maxHeartbeats 4000000 in
set_option maxRecDepth 100000 in
def sX12_stands_p84b (Q : St → Prop) (K84 : Int32 → St → Prop) (v1 : Int32) (u : St) : Prop :=
  if (16 : Int32) ≤ v1 then (sX12_stands_p113 Q (0 : Int32) u) else (vp_in v1 32 ∧ (vp_in ((16 : Int32) + v1) 32 ∧ bnd (tL u 233 ((16 : Int32) + v1).toNatClampNeg (u.2.1 233 v1.toNatClampNeg)) (fun u22 => K84 (v1 + (1 : Int32)) u22)))
set_option maxHeartbeats 4000000 in
set_option maxRecDepth 100000 in
def sX12_stands_p84n (Q : St → Prop) : Nat → Int32 → St → Prop
  | 0 => fun _ _ => False
  | n + 1 => sX12_stands_p84b Q (sX12_stands_p84n Q n)
set_option maxHeartbeats 4000000 in
set_option maxRecDepth 100000 in
def sX12_stands_p84 (Q : St → Prop) (v1 : Int32) (u : St) : Prop := ∃ n, sX12_stands_p84n Q n v1 u
set_option maxHeartbeats 4000000 in
set_option maxRecDepth 100000 in
def sX12_stands_p15b (Q : St → Prop) (K15 : Int32 → St → Prop) (v1 : Int32) (u : St) : Prop :=
  if (2 : Int32) ≤ v1 then (sX12_stands_p84 Q (0 : Int32) u) else (vp_in v1 4 ∧ (vp_in ((2 : Int32) + v1) 4 ∧ bnd (tI u 231 ((2 : Int32) + v1).toNatClampNeg (u.1 231 v1.toNatClampNeg)) (fun u6 => vp_in v1 4 ∧ (vp_in ((2 : Int32) + v1) 4 ∧ bnd (tI u6 232 ((2 : Int32) + v1).toNatClampNeg (u6.1 232 v1.toNatClampNeg)) (fun u10 => vp_in v1 4 ∧ (vp_in ((2 : Int32) + v1) 4 ∧ bnd (tI u10 238 ((2 : Int32) + v1).toNatClampNeg (u10.1 238 v1.toNatClampNeg)) (fun u14 => vp_in v1 4 ∧ (vp_in ((2 : Int32) + v1) 4 ∧ bnd (tI u14 239 ((2 : Int32) + v1).toNatClampNeg (u14.1 239 v1.toNatClampNeg)) (fun u18 => K15 (v1 + (1 : Int32)) u18)))))))))
set_option maxHeartbeats 4000000 in
set_option maxRecDepth 100000 in
def sX12_stands_p15n (Q : St → Prop) : Nat → Int32 → St → Prop
  | 0 => fun _ _ => False
  | n + 1 => sX12_stands_p15b Q (sX12_stands_p15n Q n)
set_option maxHeartbeats 4000000 in
set_option maxRecDepth 100000 in
def sX12_stands_p15 (Q : St → Prop) (v1 : Int32) (u : St) : Prop := ∃ n, sX12_stands_p15n Q n v1 u
set_option maxHeartbeats 4000000 in
set_option maxRecDepth 100000 in
def s_X12_stands (Q : St → Prop) (u : St) : Prop :=
  bnd (tI u 198 56 (1 : Int32)) (fun u1 => bnd (tI u1 198 44 (u1.1 198 43)) (fun u2 => sX12_stands_p15 Q (0 : Int32) u2))
set_option maxHeartbeats 4000000 in
set_option maxRecDepth 100000 in
theorem t_X12_stands_p270 {ρ : Nat → Nat → Option Nat} (hR : RfH ρ) {v1 : Int32} {s2 : Int32} {s1 : Int32} {Q : St → Prop} {QW : Mem → Prop} {K225 : Int32 → St → Prop} {KW225 : Int32 → Mem → Prop} (hQ : ∀ (u : St), DK u → Q u → QW (emb ρ u)) (hK225 : ∀ (x1 : Int32) (u : St), DK u → K225 x1 u → KW225 x1 (emb ρ u)) {u : St} (hd : DK u) (h : sX12_stands_p270 v1 s2 s1 Q K225 u) : X12_stands_p270 SH 198 v1 s2 s1 241 QW KW225 (emb ρ u) := by
  unfold X12_stands_p270
  unfold sX12_stands_p270 at h
  obtain ⟨x54, h⟩ := h
  refine ⟨ix_i (show SH[241]? = some (100, 236) from rfl) x54, ?_⟩
  refine bnd_I ?_
  replace h := bnd_e h
  exact hK225 _ _ hd h
set_option maxHeartbeats 4000000 in
set_option maxRecDepth 100000 in
theorem t_X12_stands_p279b {ρ : Nat → Nat → Option Nat} (hR : RfH ρ) {v1 : Int32} {Q : St → Prop} {QW : Mem → Prop} (hQ : ∀ (u : St), DK u → Q u → QW (emb ρ u)) {K279 : Int32 → St → Prop} {KW279 : Int32 → Mem → Prop} (hK279 : ∀ (x1 : Int32) (u : St), DK u → K279 x1 u → KW279 x1 (emb ρ u)) {u : St} (hd : DK u) (h : sX12_stands_p279b Q K279 v1 u) : X12_stands_p279b SH 198 QW KW279 v1 (emb ρ u) := by
  unfold X12_stands_p279b
  unfold sX12_stands_p279b at h
  refine ⟨on_198, ?_⟩
  refine ⟨_, rn_198_45 hR _, ?_⟩
  obtain ⟨x46, h⟩ := h
  refine ⟨ix_i (show SH[232]? = some (100, 4) from rfl) x46, ?_⟩
  refine ite_mono (fun hc h => ?_) (fun hc h => ?_) h
  · refine bnd_I ?_
    replace h := bnd_e h
    refine bnd_I ?_
    replace h := bnd_e h
    exact hQ _ hd h
  · refine ⟨_, rn_198_58 hR _, ?_⟩
    refine ⟨_, rn_198_47 hR _, ?_⟩
    obtain ⟨x51, h⟩ := h
    refine ⟨ix_i (show SH[234]? = some (100, 36) from rfl) x51, ?_⟩
    obtain ⟨x52, h⟩ := h
    refine ⟨ix_i (show SH[241]? = some (100, 236) from rfl) x52, ?_⟩
    refine bnd_I ?_
    replace h := bnd_e h
    exact hK279 _ _ hd h
set_option maxHeartbeats 4000000 in
set_option maxRecDepth 100000 in
theorem t_X12_stands_p279n {ρ : Nat → Nat → Option Nat} (hR : RfH ρ) {Q : St → Prop} {QW : Mem → Prop} (hQ : ∀ (u : St), DK u → Q u → QW (emb ρ u)) : ∀ (n : Nat) (v1 : Int32) (u : St), DK u → sX12_stands_p279n Q n v1 u → X12_stands_p279n SH 198 QW n v1 (emb ρ u)
  | 0, _, _,  _, h => h.elim
  | n + 1, v1,  u,  hd, h => t_X12_stands_p279b hR hQ (fun v1 u  hd h => t_X12_stands_p279n hR hQ n v1 u  hd h) hd h
set_option maxHeartbeats 4000000 in
set_option maxRecDepth 100000 in
theorem t_X12_stands_p279 {ρ : Nat → Nat → Option Nat} (hR : RfH ρ) {v1 : Int32} {Q : St → Prop} {QW : Mem → Prop} (hQ : ∀ (u : St), DK u → Q u → QW (emb ρ u)) {u : St} (hd : DK u) (h : sX12_stands_p279 Q v1 u) : X12_stands_p279 SH 198 QW v1 (emb ρ u) := h.elim (fun n h => ⟨n, t_X12_stands_p279n hR hQ n _ _ hd h⟩)
set_option maxHeartbeats 4000000 in
set_option maxRecDepth 100000 in
theorem t_X12_stands_p225b {ρ : Nat → Nat → Option Nat} (hR : RfH ρ) {v1 : Int32} {Q : St → Prop} {QW : Mem → Prop} (hQ : ∀ (u : St), DK u → Q u → QW (emb ρ u)) {K225 : Int32 → St → Prop} {KW225 : Int32 → Mem → Prop} (hK225 : ∀ (x1 : Int32) (u : St), DK u → K225 x1 u → KW225 x1 (emb ρ u)) {u : St} (hd : DK u) (h : sX12_stands_p225b Q K225 v1 u) : X12_stands_p225b SH 198 QW KW225 v1 (emb ρ u) := by
  unfold X12_stands_p225b
  unfold sX12_stands_p225b at h
  refine ite_mono (fun hc h => ?_) (fun hc h => ?_) h
  · exact t_X12_stands_p279 hR hQ hd h
  · refine ⟨on_198, ?_⟩
    refine ⟨_, rn_198_58 hR _, ?_⟩
    refine ⟨_, rn_198_49 hR _, ?_⟩
    obtain ⟨x40, h⟩ := h
    refine ⟨ix_i (show SH[236]? = some (100, 36) from rfl) x40, ?_⟩
    obtain ⟨x41, h⟩ := h
    refine ⟨ix_i (show SH[241]? = some (100, 236) from rfl) x41, ?_⟩
    refine bnd_I ?_
    replace h := bnd_e h
    refine ⟨_, rn_198_50 hR _, ?_⟩
    obtain ⟨x44, h⟩ := h
    refine ⟨ix_i (show SH[237]? = some (102, 36) from rfl) x44, ?_⟩
    refine ite_mono (fun hc h => ?_) (fun hc h => ?_) h
    · exact t_X12_stands_p270 hR hQ hK225 hd h
    · exact t_X12_stands_p270 hR hQ hK225 hd h
set_option maxHeartbeats 4000000 in
set_option maxRecDepth 100000 in
theorem t_X12_stands_p225n {ρ : Nat → Nat → Option Nat} (hR : RfH ρ) {Q : St → Prop} {QW : Mem → Prop} (hQ : ∀ (u : St), DK u → Q u → QW (emb ρ u)) : ∀ (n : Nat) (v1 : Int32) (u : St), DK u → sX12_stands_p225n Q n v1 u → X12_stands_p225n SH 198 QW n v1 (emb ρ u)
  | 0, _, _,  _, h => h.elim
  | n + 1, v1,  u,  hd, h => t_X12_stands_p225b hR hQ (fun v1 u  hd h => t_X12_stands_p225n hR hQ n v1 u  hd h) hd h
set_option maxHeartbeats 4000000 in
set_option maxRecDepth 100000 in
theorem t_X12_stands_p225 {ρ : Nat → Nat → Option Nat} (hR : RfH ρ) {v1 : Int32} {Q : St → Prop} {QW : Mem → Prop} (hQ : ∀ (u : St), DK u → Q u → QW (emb ρ u)) {u : St} (hd : DK u) (h : sX12_stands_p225 Q v1 u) : X12_stands_p225 SH 198 QW v1 (emb ρ u) := h.elim (fun n h => ⟨n, t_X12_stands_p225n hR hQ n _ _ hd h⟩)
set_option maxHeartbeats 4000000 in
set_option maxRecDepth 100000 in
theorem t_X12_stands_p203b {ρ : Nat → Nat → Option Nat} (hR : RfH ρ) {v1 : Int32} {Q : St → Prop} {QW : Mem → Prop} (hQ : ∀ (u : St), DK u → Q u → QW (emb ρ u)) {K203 : Int32 → St → Prop} {KW203 : Int32 → Mem → Prop} (hK203 : ∀ (x1 : Int32) (u : St), DK u → K203 x1 u → KW203 x1 (emb ρ u)) {u : St} (hd : DK u) (h : sX12_stands_p203b Q K203 v1 u) : X12_stands_p203b SH 198 QW KW203 v1 (emb ρ u) := by
  unfold X12_stands_p203b
  unfold sX12_stands_p203b at h
  refine ite_mono (fun hc h => ?_) (fun hc h => ?_) h
  · exact t_X12_stands_p225 hR hQ hd h
  · refine ⟨on_198, ?_⟩
    refine ⟨_, rn_198_58 hR _, ?_⟩
    obtain ⟨x36, h⟩ := h
    refine ⟨ix_i (show SH[241]? = some (100, 236) from rfl) x36, ?_⟩
    refine bnd_I ?_
    replace h := bnd_e h
    exact hK203 _ _ hd h
set_option maxHeartbeats 4000000 in
set_option maxRecDepth 100000 in
theorem t_X12_stands_p203n {ρ : Nat → Nat → Option Nat} (hR : RfH ρ) {Q : St → Prop} {QW : Mem → Prop} (hQ : ∀ (u : St), DK u → Q u → QW (emb ρ u)) : ∀ (n : Nat) (v1 : Int32) (u : St), DK u → sX12_stands_p203n Q n v1 u → X12_stands_p203n SH 198 QW n v1 (emb ρ u)
  | 0, _, _,  _, h => h.elim
  | n + 1, v1,  u,  hd, h => t_X12_stands_p203b hR hQ (fun v1 u  hd h => t_X12_stands_p203n hR hQ n v1 u  hd h) hd h
set_option maxHeartbeats 4000000 in
set_option maxRecDepth 100000 in
theorem t_X12_stands_p203 {ρ : Nat → Nat → Option Nat} (hR : RfH ρ) {v1 : Int32} {Q : St → Prop} {QW : Mem → Prop} (hQ : ∀ (u : St), DK u → Q u → QW (emb ρ u)) {u : St} (hd : DK u) (h : sX12_stands_p203 Q v1 u) : X12_stands_p203 SH 198 QW v1 (emb ρ u) := h.elim (fun n h => ⟨n, t_X12_stands_p203n hR hQ n _ _ hd h⟩)
set_option maxHeartbeats 4000000 in
set_option maxRecDepth 100000 in
theorem t_X12_stands_p171b {ρ : Nat → Nat → Option Nat} (hR : RfH ρ) {v1 : Int32} {Q : St → Prop} {QW : Mem → Prop} (hQ : ∀ (u : St), DK u → Q u → QW (emb ρ u)) {K171 : Int32 → St → Prop} {KW171 : Int32 → Mem → Prop} (hK171 : ∀ (x1 : Int32) (u : St), DK u → K171 x1 u → KW171 x1 (emb ρ u)) {u : St} (hd : DK u) (h : sX12_stands_p171b Q K171 v1 u) : X12_stands_p171b SH 198 QW KW171 v1 (emb ρ u) := by
  unfold X12_stands_p171b
  unfold sX12_stands_p171b at h
  refine ⟨on_198, ?_⟩
  refine ite_mono (fun hc h => ?_) (fun hc h => ?_) h
  · exact t_X12_stands_p203 hR hQ hd h
  · refine ⟨_, rn_198_53 hR _, ?_⟩
    obtain ⟨x32, h⟩ := h
    refine ⟨ix_i (show SH[240]? = some (100, 3200) from rfl) x32, ?_⟩
    obtain ⟨x33, h⟩ := h
    refine ⟨ix_i (show SH[240]? = some (100, 3200) from rfl) x33, ?_⟩
    refine bnd_I ?_
    replace h := bnd_e h
    exact hK171 _ _ hd h
set_option maxHeartbeats 4000000 in
set_option maxRecDepth 100000 in
theorem t_X12_stands_p171n {ρ : Nat → Nat → Option Nat} (hR : RfH ρ) {Q : St → Prop} {QW : Mem → Prop} (hQ : ∀ (u : St), DK u → Q u → QW (emb ρ u)) : ∀ (n : Nat) (v1 : Int32) (u : St), DK u → sX12_stands_p171n Q n v1 u → X12_stands_p171n SH 198 QW n v1 (emb ρ u)
  | 0, _, _,  _, h => h.elim
  | n + 1, v1,  u,  hd, h => t_X12_stands_p171b hR hQ (fun v1 u  hd h => t_X12_stands_p171n hR hQ n v1 u  hd h) hd h
set_option maxHeartbeats 4000000 in
set_option maxRecDepth 100000 in
theorem t_X12_stands_p171 {ρ : Nat → Nat → Option Nat} (hR : RfH ρ) {v1 : Int32} {Q : St → Prop} {QW : Mem → Prop} (hQ : ∀ (u : St), DK u → Q u → QW (emb ρ u)) {u : St} (hd : DK u) (h : sX12_stands_p171 Q v1 u) : X12_stands_p171 SH 198 QW v1 (emb ρ u) := h.elim (fun n h => ⟨n, t_X12_stands_p171n hR hQ n _ _ hd h⟩)
set_option maxHeartbeats 4000000 in
set_option maxRecDepth 100000 in
theorem t_X12_stands_p142b {ρ : Nat → Nat → Option Nat} (hR : RfH ρ) {v1 : Int32} {Q : St → Prop} {QW : Mem → Prop} (hQ : ∀ (u : St), DK u → Q u → QW (emb ρ u)) {K142 : Int32 → St → Prop} {KW142 : Int32 → Mem → Prop} (hK142 : ∀ (x1 : Int32) (u : St), DK u → K142 x1 u → KW142 x1 (emb ρ u)) {u : St} (hd : DK u) (h : sX12_stands_p142b Q K142 v1 u) : X12_stands_p142b SH 198 QW KW142 v1 (emb ρ u) := by
  unfold X12_stands_p142b
  unfold sX12_stands_p142b at h
  refine ite_mono (fun hc h => ?_) (fun hc h => ?_) h
  · exact t_X12_stands_p171 hR hQ hd h
  · refine ⟨on_198, ?_⟩
    refine ⟨_, rn_198_48 hR _, ?_⟩
    obtain ⟨x28, h⟩ := h
    refine ⟨ix_i (show SH[235]? = some (100, 20) from rfl) x28, ?_⟩
    obtain ⟨x29, h⟩ := h
    refine ⟨ix_i (show SH[235]? = some (100, 20) from rfl) x29, ?_⟩
    refine bnd_I ?_
    replace h := bnd_e h
    exact hK142 _ _ hd h
set_option maxHeartbeats 4000000 in
set_option maxRecDepth 100000 in
theorem t_X12_stands_p142n {ρ : Nat → Nat → Option Nat} (hR : RfH ρ) {Q : St → Prop} {QW : Mem → Prop} (hQ : ∀ (u : St), DK u → Q u → QW (emb ρ u)) : ∀ (n : Nat) (v1 : Int32) (u : St), DK u → sX12_stands_p142n Q n v1 u → X12_stands_p142n SH 198 QW n v1 (emb ρ u)
  | 0, _, _,  _, h => h.elim
  | n + 1, v1,  u,  hd, h => t_X12_stands_p142b hR hQ (fun v1 u  hd h => t_X12_stands_p142n hR hQ n v1 u  hd h) hd h
set_option maxHeartbeats 4000000 in
set_option maxRecDepth 100000 in
theorem t_X12_stands_p142 {ρ : Nat → Nat → Option Nat} (hR : RfH ρ) {v1 : Int32} {Q : St → Prop} {QW : Mem → Prop} (hQ : ∀ (u : St), DK u → Q u → QW (emb ρ u)) {u : St} (hd : DK u) (h : sX12_stands_p142 Q v1 u) : X12_stands_p142 SH 198 QW v1 (emb ρ u) := h.elim (fun n h => ⟨n, t_X12_stands_p142n hR hQ n _ _ hd h⟩)
set_option maxHeartbeats 4000000 in
set_option maxRecDepth 100000 in
theorem t_X12_stands_p113b {ρ : Nat → Nat → Option Nat} (hR : RfH ρ) {v1 : Int32} {Q : St → Prop} {QW : Mem → Prop} (hQ : ∀ (u : St), DK u → Q u → QW (emb ρ u)) {K113 : Int32 → St → Prop} {KW113 : Int32 → Mem → Prop} (hK113 : ∀ (x1 : Int32) (u : St), DK u → K113 x1 u → KW113 x1 (emb ρ u)) {u : St} (hd : DK u) (h : sX12_stands_p113b Q K113 v1 u) : X12_stands_p113b SH 198 QW KW113 v1 (emb ρ u) := by
  unfold X12_stands_p113b
  unfold sX12_stands_p113b at h
  refine ite_mono (fun hc h => ?_) (fun hc h => ?_) h
  · exact t_X12_stands_p142 hR hQ hd h
  · refine ⟨on_198, ?_⟩
    refine ⟨_, rn_198_47 hR _, ?_⟩
    obtain ⟨x24, h⟩ := h
    refine ⟨ix_i (show SH[234]? = some (100, 36) from rfl) x24, ?_⟩
    obtain ⟨x25, h⟩ := h
    refine ⟨ix_i (show SH[234]? = some (100, 36) from rfl) x25, ?_⟩
    refine bnd_I ?_
    replace h := bnd_e h
    exact hK113 _ _ hd h
set_option maxHeartbeats 4000000 in
set_option maxRecDepth 100000 in
theorem t_X12_stands_p113n {ρ : Nat → Nat → Option Nat} (hR : RfH ρ) {Q : St → Prop} {QW : Mem → Prop} (hQ : ∀ (u : St), DK u → Q u → QW (emb ρ u)) : ∀ (n : Nat) (v1 : Int32) (u : St), DK u → sX12_stands_p113n Q n v1 u → X12_stands_p113n SH 198 QW n v1 (emb ρ u)
  | 0, _, _,  _, h => h.elim
  | n + 1, v1,  u,  hd, h => t_X12_stands_p113b hR hQ (fun v1 u  hd h => t_X12_stands_p113n hR hQ n v1 u  hd h) hd h
set_option maxHeartbeats 4000000 in
set_option maxRecDepth 100000 in
theorem t_X12_stands_p113 {ρ : Nat → Nat → Option Nat} (hR : RfH ρ) {v1 : Int32} {Q : St → Prop} {QW : Mem → Prop} (hQ : ∀ (u : St), DK u → Q u → QW (emb ρ u)) {u : St} (hd : DK u) (h : sX12_stands_p113 Q v1 u) : X12_stands_p113 SH 198 QW v1 (emb ρ u) := h.elim (fun n h => ⟨n, t_X12_stands_p113n hR hQ n _ _ hd h⟩)
set_option maxHeartbeats 4000000 in
set_option maxRecDepth 100000 in
theorem t_X12_stands_p84b {ρ : Nat → Nat → Option Nat} (hR : RfH ρ) {v1 : Int32} {Q : St → Prop} {QW : Mem → Prop} (hQ : ∀ (u : St), DK u → Q u → QW (emb ρ u)) {K84 : Int32 → St → Prop} {KW84 : Int32 → Mem → Prop} (hK84 : ∀ (x1 : Int32) (u : St), DK u → K84 x1 u → KW84 x1 (emb ρ u)) {u : St} (hd : DK u) (h : sX12_stands_p84b Q K84 v1 u) : X12_stands_p84b SH 198 QW KW84 v1 (emb ρ u) := by
  unfold X12_stands_p84b
  unfold sX12_stands_p84b at h
  refine ite_mono (fun hc h => ?_) (fun hc h => ?_) h
  · exact t_X12_stands_p113 hR hQ hd h
  · refine ⟨on_198, ?_⟩
    refine ⟨_, rn_198_46 hR _, ?_⟩
    obtain ⟨x20, h⟩ := h
    refine ⟨ix_i (show SH[233]? = some (103, 32) from rfl) x20, ?_⟩
    obtain ⟨x21, h⟩ := h
    refine ⟨ix_i (show SH[233]? = some (103, 32) from rfl) x21, ?_⟩
    refine bnd_L ?_
    replace h := bnd_e h
    exact hK84 _ _ hd h
set_option maxHeartbeats 4000000 in
set_option maxRecDepth 100000 in
theorem t_X12_stands_p84n {ρ : Nat → Nat → Option Nat} (hR : RfH ρ) {Q : St → Prop} {QW : Mem → Prop} (hQ : ∀ (u : St), DK u → Q u → QW (emb ρ u)) : ∀ (n : Nat) (v1 : Int32) (u : St), DK u → sX12_stands_p84n Q n v1 u → X12_stands_p84n SH 198 QW n v1 (emb ρ u)
  | 0, _, _,  _, h => h.elim
  | n + 1, v1,  u,  hd, h => t_X12_stands_p84b hR hQ (fun v1 u  hd h => t_X12_stands_p84n hR hQ n v1 u  hd h) hd h
set_option maxHeartbeats 4000000 in
set_option maxRecDepth 100000 in
theorem t_X12_stands_p84 {ρ : Nat → Nat → Option Nat} (hR : RfH ρ) {v1 : Int32} {Q : St → Prop} {QW : Mem → Prop} (hQ : ∀ (u : St), DK u → Q u → QW (emb ρ u)) {u : St} (hd : DK u) (h : sX12_stands_p84 Q v1 u) : X12_stands_p84 SH 198 QW v1 (emb ρ u) := h.elim (fun n h => ⟨n, t_X12_stands_p84n hR hQ n _ _ hd h⟩)
set_option maxHeartbeats 4000000 in
set_option maxRecDepth 100000 in
theorem t_X12_stands_p15b {ρ : Nat → Nat → Option Nat} (hR : RfH ρ) {v1 : Int32} {Q : St → Prop} {QW : Mem → Prop} (hQ : ∀ (u : St), DK u → Q u → QW (emb ρ u)) {K15 : Int32 → St → Prop} {KW15 : Int32 → Mem → Prop} (hK15 : ∀ (x1 : Int32) (u : St), DK u → K15 x1 u → KW15 x1 (emb ρ u)) {u : St} (hd : DK u) (h : sX12_stands_p15b Q K15 v1 u) : X12_stands_p15b SH 198 QW KW15 v1 (emb ρ u) := by
  unfold X12_stands_p15b
  unfold sX12_stands_p15b at h
  refine ite_mono (fun hc h => ?_) (fun hc h => ?_) h
  · exact t_X12_stands_p84 hR hQ hd h
  · refine ⟨on_198, ?_⟩
    refine ⟨_, rn_198_42 hR _, ?_⟩
    obtain ⟨x4, h⟩ := h
    refine ⟨ix_i (show SH[231]? = some (100, 4) from rfl) x4, ?_⟩
    obtain ⟨x5, h⟩ := h
    refine ⟨ix_i (show SH[231]? = some (100, 4) from rfl) x5, ?_⟩
    refine bnd_I ?_
    replace h := bnd_e h
    refine ⟨_, rn_198_45 hR _, ?_⟩
    obtain ⟨x8, h⟩ := h
    refine ⟨ix_i (show SH[232]? = some (100, 4) from rfl) x8, ?_⟩
    obtain ⟨x9, h⟩ := h
    refine ⟨ix_i (show SH[232]? = some (100, 4) from rfl) x9, ?_⟩
    refine bnd_I ?_
    replace h := bnd_e h
    refine ⟨_, rn_198_51 hR _, ?_⟩
    obtain ⟨x12, h⟩ := h
    refine ⟨ix_i (show SH[238]? = some (100, 4) from rfl) x12, ?_⟩
    obtain ⟨x13, h⟩ := h
    refine ⟨ix_i (show SH[238]? = some (100, 4) from rfl) x13, ?_⟩
    refine bnd_I ?_
    replace h := bnd_e h
    refine ⟨_, rn_198_52 hR _, ?_⟩
    obtain ⟨x16, h⟩ := h
    refine ⟨ix_i (show SH[239]? = some (100, 4) from rfl) x16, ?_⟩
    obtain ⟨x17, h⟩ := h
    refine ⟨ix_i (show SH[239]? = some (100, 4) from rfl) x17, ?_⟩
    refine bnd_I ?_
    replace h := bnd_e h
    exact hK15 _ _ hd h
set_option maxHeartbeats 4000000 in
set_option maxRecDepth 100000 in
theorem t_X12_stands_p15n {ρ : Nat → Nat → Option Nat} (hR : RfH ρ) {Q : St → Prop} {QW : Mem → Prop} (hQ : ∀ (u : St), DK u → Q u → QW (emb ρ u)) : ∀ (n : Nat) (v1 : Int32) (u : St), DK u → sX12_stands_p15n Q n v1 u → X12_stands_p15n SH 198 QW n v1 (emb ρ u)
  | 0, _, _,  _, h => h.elim
  | n + 1, v1,  u,  hd, h => t_X12_stands_p15b hR hQ (fun v1 u  hd h => t_X12_stands_p15n hR hQ n v1 u  hd h) hd h
set_option maxHeartbeats 4000000 in
set_option maxRecDepth 100000 in
theorem t_X12_stands_p15 {ρ : Nat → Nat → Option Nat} (hR : RfH ρ) {v1 : Int32} {Q : St → Prop} {QW : Mem → Prop} (hQ : ∀ (u : St), DK u → Q u → QW (emb ρ u)) {u : St} (hd : DK u) (h : sX12_stands_p15 Q v1 u) : X12_stands_p15 SH 198 QW v1 (emb ρ u) := h.elim (fun n h => ⟨n, t_X12_stands_p15n hR hQ n _ _ hd h⟩)
set_option maxHeartbeats 4000000 in
set_option maxRecDepth 100000 in
theorem t_X12_stands {ρ : Nat → Nat → Option Nat} (hR : RfH ρ) {Q : St → Prop} {QW : Mem → Prop} (hQ : ∀ (u : St), DK u → Q u → QW (emb ρ u)) {u : St} (hd : DK u) (h : s_X12_stands Q u) : wp_X12_stands SH 198 QW (emb ρ u) := by
  unfold wp_X12_stands
  unfold s_X12_stands at h
  refine ⟨on_198, ?_⟩
  refine bnd_I ?_
  replace h := bnd_e h
  refine bnd_I ?_
  replace h := bnd_e h
  exact t_X12_stands_p15 hR hQ hd h
/-! CalledRiverModel.stoneTold -/
set_option maxHeartbeats 4000000 in
set_option maxRecDepth 100000 in
def sX12_stoneTold_p30 (v1 : Int32) (Q : St → Prop) (u : St) : Prop :=
  if (u.1 198 5) = 0 then (vp_in v1 36 ∧ bnd (tI u 237 v1.toNatClampNeg (vp_nar .boolean (1 : Int32))) (fun u9 => Q u9)) else (Q u)
set_option maxHeartbeats 4000000 in
set_option maxRecDepth 100000 in
def s_X12_stoneTold (Q : St → Prop) (u : St) : Prop :=
  s_X12_cellTold  (fun r1 u2 => if (u2.1 198 5) = 0 then (vp_in r1 36 ∧ (if (u2.1 237 r1.toNatClampNeg) = 0 then (sX12_stoneTold_p30 r1 Q u2) else (s_X12_fail (2 : Int32) (u2.1 198 10) (fun u6 => sX12_stoneTold_p30 r1 Q u6) u2))) else (sX12_stoneTold_p30 r1 Q u2)) u
set_option maxHeartbeats 4000000 in
set_option maxRecDepth 100000 in
theorem t_X12_stoneTold_p30 {ρ : Nat → Nat → Option Nat} (hR : RfH ρ) {v1 : Int32} {Q : St → Prop} {QW : Mem → Prop} (hQ : ∀ (u : St), DK u → Q u → QW (emb ρ u)) {u : St} (hd : DK u) (h : sX12_stoneTold_p30 v1 Q u) : X12_stoneTold_p30 SH 198 v1 QW (emb ρ u) := by
  unfold X12_stoneTold_p30
  unfold sX12_stoneTold_p30 at h
  refine ⟨on_198, ?_⟩
  refine ite_mono (fun hc h => ?_) (fun hc h => ?_) h
  · refine ⟨_, rn_198_50 hR _, ?_⟩
    obtain ⟨x8, h⟩ := h
    refine ⟨ix_i (show SH[237]? = some (102, 36) from rfl) x8, ?_⟩
    refine bnd_I ?_
    replace h := bnd_e h
    exact hQ _ hd h
  · exact hQ _ hd h
set_option maxHeartbeats 4000000 in
set_option maxRecDepth 100000 in
theorem t_X12_stoneTold {ρ : Nat → Nat → Option Nat} (hR : RfH ρ) {Q : St → Prop} {QW : Mem → Prop} (hQ : ∀ (u : St), DK u → Q u → QW (emb ρ u)) {u : St} (hd : DK u) (h : s_X12_stoneTold Q u) : wp_X12_stoneTold SH 198 QW (emb ρ u) := by
  unfold wp_X12_stoneTold
  unfold s_X12_stoneTold at h
  refine ⟨on_198, ?_⟩
  refine t_X12_cellTold hR (fun r1 u2 hd h => ?_) hd h
  refine ite_mono (fun hc h => ?_) (fun hc h => ?_) h
  · refine ⟨_, rn_198_50 hR _, ?_⟩
    obtain ⟨x4, h⟩ := h
    refine ⟨ix_i (show SH[237]? = some (102, 36) from rfl) x4, ?_⟩
    refine ite_mono (fun hc h => ?_) (fun hc h => ?_) h
    · exact t_X12_stoneTold_p30 hR hQ hd h
    · refine t_X12_fail hR (fun u6 hd h => ?_) hd h
      exact t_X12_stoneTold_p30 hR hQ hd h
  · exact t_X12_stoneTold_p30 hR hQ hd h
/-! CalledRiverModel.statementTold -/
set_option maxHeartbeats 4000000 in
set_option maxRecDepth 100000 in
def sX12_statementTold_p160 (Q : St → Prop) (u : St) : Prop :=
  s_X12_asksSign (59 : Int32) (fun u42 => bnd (tI u42 198 55 ((u42.1 198 55) + (1 : Int32))) (fun u43 => Q u43)) u
set_option maxHeartbeats 4000000 in
set_option maxRecDepth 100000 in
def s_X12_statementTold (Q : St → Prop) (u : St) : Prop :=
  if (u.1 198 55) = (80 : Int32) then (s_X12_fail (5 : Int32) (u.1 198 2) (fun u40 => Q u40) u) else (s_X12_takes 203 (fun r2 u3 => if r2 = 0 then (s_X12_takes 204 (fun r5 u6 => if r5 = 0 then (s_X12_takes 205 (fun r8 u9 => if r8 = 0 then (s_X12_takes 206 (fun r11 u12 => if r11 = 0 then (s_X12_takes 210 (fun r14 u15 => if r14 = 0 then (s_X12_takes 213 (fun r17 u18 => if r17 = 0 then (s_X12_asks 214 (fun u21 => s_X12_codesTold (1 : Int32) (u.1 198 2) (fun u23 => sX12_statementTold_p160 Q u23) u21) u18) else (s_X12_codesTold (0 : Int32) (u.1 198 2) (fun u25 => sX12_statementTold_p160 Q u25) u18)) u15) else (s_X12_callerTold (u.1 198 2) (fun u27 => sX12_statementTold_p160 Q u27) u15)) u12) else (s_X12_farmTold (u.1 198 2) (fun u29 => sX12_statementTold_p160 Q u29) u12)) u9) else (vp_in (0 : Int32) 4 ∧ (s_X12_number (0 : Int32) ((u9.1 231 (0 : Int32).toNatClampNeg) - (1 : Int32)) (fun r32 u33 => bnd (tI u33 198 43 r32) (fun u34 => sX12_statementTold_p160 Q u34)) u9))) u6) else (s_X12_stoneTold  (fun u36 => sX12_statementTold_p160 Q u36) u6)) u3) else (s_X12_highTold  (fun u38 => sX12_statementTold_p160 Q u38) u3)) u)
set_option maxHeartbeats 4000000 in
set_option maxRecDepth 100000 in
theorem t_X12_statementTold_p160 {ρ : Nat → Nat → Option Nat} (hR : RfH ρ) {Q : St → Prop} {QW : Mem → Prop} (hQ : ∀ (u : St), DK u → Q u → QW (emb ρ u)) {u : St} (hd : DK u) (h : sX12_statementTold_p160 Q u) : X12_statementTold_p160 SH 198 QW (emb ρ u) := by
  unfold X12_statementTold_p160
  unfold sX12_statementTold_p160 at h
  refine ⟨on_198, ?_⟩
  refine t_X12_asksSign hR (fun u42 hd h => ?_) hd h
  refine bnd_I ?_
  replace h := bnd_e h
  exact hQ _ hd h
set_option maxHeartbeats 4000000 in
set_option maxRecDepth 100000 in
theorem t_X12_statementTold {ρ : Nat → Nat → Option Nat} (hR : RfH ρ) {Q : St → Prop} {QW : Mem → Prop} (hQ : ∀ (u : St), DK u → Q u → QW (emb ρ u)) {u : St} (hd : DK u) (h : s_X12_statementTold Q u) : wp_X12_statementTold SH 198 QW (emb ρ u) := by
  unfold wp_X12_statementTold
  unfold s_X12_statementTold at h
  refine ⟨on_198, ?_⟩
  refine ite_mono (fun hc h => ?_) (fun hc h => ?_) h
  · refine t_X12_fail hR (fun u40 hd h => ?_) hd h
    exact hQ _ hd h
  · refine ⟨_, rn_198_13 hR _, ?_⟩
    refine t_X12_takes hR (fun r2 u3 hd h => ?_) hd h
    refine ite_mono (fun hc h => ?_) (fun hc h => ?_) h
    · refine ⟨_, rn_198_14 hR _, ?_⟩
      refine t_X12_takes hR (fun r5 u6 hd h => ?_) hd h
      refine ite_mono (fun hc h => ?_) (fun hc h => ?_) h
      · refine ⟨_, rn_198_15 hR _, ?_⟩
        refine t_X12_takes hR (fun r8 u9 hd h => ?_) hd h
        refine ite_mono (fun hc h => ?_) (fun hc h => ?_) h
        · refine ⟨_, rn_198_16 hR _, ?_⟩
          refine t_X12_takes hR (fun r11 u12 hd h => ?_) hd h
          refine ite_mono (fun hc h => ?_) (fun hc h => ?_) h
          · refine ⟨_, rn_198_20 hR _, ?_⟩
            refine t_X12_takes hR (fun r14 u15 hd h => ?_) hd h
            refine ite_mono (fun hc h => ?_) (fun hc h => ?_) h
            · refine ⟨_, rn_198_23 hR _, ?_⟩
              refine t_X12_takes hR (fun r17 u18 hd h => ?_) hd h
              refine ite_mono (fun hc h => ?_) (fun hc h => ?_) h
              · refine ⟨_, rn_198_24 hR _, ?_⟩
                refine t_X12_asks hR (fun u21 hd h => ?_) hd h
                refine t_X12_codesTold hR (fun u23 hd h => ?_) hd h
                exact t_X12_statementTold_p160 hR hQ hd h
              · refine t_X12_codesTold hR (fun u25 hd h => ?_) hd h
                exact t_X12_statementTold_p160 hR hQ hd h
            · refine t_X12_callerTold hR (fun u27 hd h => ?_) hd h
              exact t_X12_statementTold_p160 hR hQ hd h
          · refine t_X12_farmTold hR (fun u29 hd h => ?_) hd h
            exact t_X12_statementTold_p160 hR hQ hd h
        · refine ⟨_, rn_198_42 hR _, ?_⟩
          obtain ⟨x31, h⟩ := h
          refine ⟨ix_i (show SH[231]? = some (100, 4) from rfl) x31, ?_⟩
          refine t_X12_number hR (fun r32 u33 hd h => ?_) hd h
          refine bnd_I ?_
          replace h := bnd_e h
          exact t_X12_statementTold_p160 hR hQ hd h
      · refine t_X12_stoneTold hR (fun u36 hd h => ?_) hd h
        exact t_X12_statementTold_p160 hR hQ hd h
    · refine t_X12_highTold hR (fun u38 hd h => ?_) hd h
      exact t_X12_statementTold_p160 hR hQ hd h
/-! CalledRiverModel.plain -/
set_option maxHeartbeats 4000000 in
set_option maxRecDepth 100000 in
def sX12_plain_p129 (Q : Int32 → St → Prop) (u : St) : Prop :=
  bnd (tI u 198 7 (u.1 198 5)) (fun u28 => bnd (tI u28 198 8 (u28.1 198 6)) (fun u29 => if (u29.1 198 5) = 0 then (s_X12_stands  (fun u31 => Q (u31.1 198 55) u31) u29) else (vp_in (1 : Int32) 6 ∧ (bnd (tI u29 200 (1 : Int32).toNatClampNeg ((u29.1 200 (1 : Int32).toNatClampNeg) + (1 : Int32))) (fun u34 => Q (-1 : Int32) u34)))))
set_option maxHeartbeats 4000000 in
set_option maxRecDepth 100000 in
def sX12_plain_p107b (Q : Int32 → St → Prop) (K107 : St → Prop) (u : St) : Prop :=
  if (u.1 198 5) = 0 then (s_X12_look  (fun r24 u25 => if r24 = (-1 : Int32) then (sX12_plain_p129 Q u25) else (s_X12_statementTold  (fun u27 => K107 u27) u25)) u) else (sX12_plain_p129 Q u)
set_option maxHeartbeats 4000000 in
set_option maxRecDepth 100000 in
def sX12_plain_p107n (Q : Int32 → St → Prop) : Nat → St → Prop
  | 0 => fun _ => False
  | n + 1 => sX12_plain_p107b Q (sX12_plain_p107n Q n)
set_option maxHeartbeats 4000000 in
set_option maxRecDepth 100000 in
def sX12_plain_p107 (Q : Int32 → St → Prop) (u : St) : Prop := ∃ n, sX12_plain_p107n Q n u
set_option maxHeartbeats 4000000 in
set_option maxRecDepth 100000 in
def sX12_plain_p72b (Q : Int32 → St → Prop) (K72 : Int32 → St → Prop) (v1 : Int32) (u : St) : Prop :=
  if (36 : Int32) ≤ v1 then (s_X12_plainTold  (fun u16 => bnd (tI u16 198 55 (1 : Int32)) (fun u17 => sX12_plain_p107 Q u17)) u) else (vp_in v1 36 ∧ bnd (tI u 236 v1.toNatClampNeg (0 : Int32)) (fun u20 => vp_in v1 36 ∧ bnd (tI u20 237 v1.toNatClampNeg (vp_nar .boolean (0 : Int32))) (fun u23 => K72 (v1 + (1 : Int32)) u23)))
set_option maxHeartbeats 4000000 in
set_option maxRecDepth 100000 in
def sX12_plain_p72n (Q : Int32 → St → Prop) : Nat → Int32 → St → Prop
  | 0 => fun _ _ => False
  | n + 1 => sX12_plain_p72b Q (sX12_plain_p72n Q n)
set_option maxHeartbeats 4000000 in
set_option maxRecDepth 100000 in
def sX12_plain_p72 (Q : Int32 → St → Prop) (v1 : Int32) (u : St) : Prop := ∃ n, sX12_plain_p72n Q n v1 u
set_option maxHeartbeats 4000000 in
set_option maxRecDepth 100000 in
def sX12_plain_p45b (Q : Int32 → St → Prop) (K45 : Int32 → St → Prop) (v1 : Int32) (u : St) : Prop :=
  if (2 : Int32) ≤ v1 then (sX12_plain_p72 Q (0 : Int32) u) else (vp_in v1 4 ∧ bnd (tI u 232 v1.toNatClampNeg (0 : Int32)) (fun u11 => vp_in v1 4 ∧ bnd (tI u11 238 v1.toNatClampNeg (-1 : Int32)) (fun u14 => K45 (v1 + (1 : Int32)) u14)))
set_option maxHeartbeats 4000000 in
set_option maxRecDepth 100000 in
def sX12_plain_p45n (Q : Int32 → St → Prop) : Nat → Int32 → St → Prop
  | 0 => fun _ _ => False
  | n + 1 => sX12_plain_p45b Q (sX12_plain_p45n Q n)
set_option maxHeartbeats 4000000 in
set_option maxRecDepth 100000 in
def sX12_plain_p45 (Q : Int32 → St → Prop) (v1 : Int32) (u : St) : Prop := ∃ n, sX12_plain_p45n Q n v1 u
set_option maxHeartbeats 4000000 in
set_option maxRecDepth 100000 in
def s_X12_plain (Q : Int32 → St → Prop) (u : St) : Prop :=
  bnd (tI u 198 3 (u.1 198 1)) (fun u1 => bnd (tI u1 198 1 (0 : Int32)) (fun u2 => bnd (tI u2 198 2 (0 : Int32)) (fun u3 => bnd (tI u3 198 4 (-1 : Int32)) (fun u4 => bnd (tI u4 198 5 (0 : Int32)) (fun u5 => bnd (tI u5 198 6 (-1 : Int32)) (fun u6 => bnd (tI u6 198 54 (0 : Int32)) (fun u7 => bnd (tI u7 198 43 (0 : Int32)) (fun u8 => sX12_plain_p45 Q (0 : Int32) u8))))))))
set_option maxHeartbeats 4000000 in
set_option maxRecDepth 100000 in
theorem t_X12_plain_p129 {ρ : Nat → Nat → Option Nat} (hR : RfH ρ) {Q : Int32 → St → Prop} {QW : Int32 → Mem → Prop} (hQ : ∀ (r : Int32) (u : St), DK u → Q r u → QW r (emb ρ u)) {u : St} (hd : DK u) (h : sX12_plain_p129 Q u) : X12_plain_p129 SH 198 QW (emb ρ u) := by
  unfold X12_plain_p129
  unfold sX12_plain_p129 at h
  refine ⟨on_198, ?_⟩
  refine bnd_I ?_
  replace h := bnd_e h
  refine bnd_I ?_
  replace h := bnd_e h
  refine ite_mono (fun hc h => ?_) (fun hc h => ?_) h
  · refine t_X12_stands hR (fun u31 hd h => ?_) hd h
    exact hQ _ _ hd h
  · refine ⟨_, rn_198_9 hR _, ?_⟩
    obtain ⟨x33, h⟩ := h
    refine ⟨ix_i (show SH[200]? = some (100, 6) from rfl) x33, ?_⟩
    refine bnd_I ?_
    replace h := bnd_e h
    exact hQ _ _ hd h
set_option maxHeartbeats 4000000 in
set_option maxRecDepth 100000 in
theorem t_X12_plain_p107b {ρ : Nat → Nat → Option Nat} (hR : RfH ρ) {Q : Int32 → St → Prop} {QW : Int32 → Mem → Prop} (hQ : ∀ (r : Int32) (u : St), DK u → Q r u → QW r (emb ρ u)) {K107 : St → Prop} {KW107 : Mem → Prop} (hK107 : ∀ (u : St), DK u → K107 u → KW107 (emb ρ u)) {u : St} (hd : DK u) (h : sX12_plain_p107b Q K107 u) : X12_plain_p107b SH 198 QW KW107 (emb ρ u) := by
  unfold X12_plain_p107b
  unfold sX12_plain_p107b at h
  refine ⟨on_198, ?_⟩
  refine ite_mono (fun hc h => ?_) (fun hc h => ?_) h
  · refine t_X12_look hR (fun r24 u25 hd h => ?_) hd h
    refine ite_mono (fun hc h => ?_) (fun hc h => ?_) h
    · exact t_X12_plain_p129 hR hQ hd h
    · refine t_X12_statementTold hR (fun u27 hd h => ?_) hd h
      exact hK107  _ hd h
  · exact t_X12_plain_p129 hR hQ hd h
set_option maxHeartbeats 4000000 in
set_option maxRecDepth 100000 in
theorem t_X12_plain_p107n {ρ : Nat → Nat → Option Nat} (hR : RfH ρ) {Q : Int32 → St → Prop} {QW : Int32 → Mem → Prop} (hQ : ∀ (r : Int32) (u : St), DK u → Q r u → QW r (emb ρ u)) : ∀ (n : Nat) (u : St), DK u → sX12_plain_p107n Q n u → X12_plain_p107n SH 198 QW n (emb ρ u)
  | 0,  _,  _, h => h.elim
  | n + 1,  u,  hd, h => t_X12_plain_p107b hR hQ (fun  u  hd h => t_X12_plain_p107n hR hQ n  u  hd h) hd h
set_option maxHeartbeats 4000000 in
set_option maxRecDepth 100000 in
theorem t_X12_plain_p107 {ρ : Nat → Nat → Option Nat} (hR : RfH ρ) {Q : Int32 → St → Prop} {QW : Int32 → Mem → Prop} (hQ : ∀ (r : Int32) (u : St), DK u → Q r u → QW r (emb ρ u)) {u : St} (hd : DK u) (h : sX12_plain_p107 Q u) : X12_plain_p107 SH 198 QW (emb ρ u) := h.elim (fun n h => ⟨n, t_X12_plain_p107n hR hQ n _ hd h⟩)
set_option maxHeartbeats 4000000 in
set_option maxRecDepth 100000 in
theorem t_X12_plain_p72b {ρ : Nat → Nat → Option Nat} (hR : RfH ρ) {v1 : Int32} {Q : Int32 → St → Prop} {QW : Int32 → Mem → Prop} (hQ : ∀ (r : Int32) (u : St), DK u → Q r u → QW r (emb ρ u)) {K72 : Int32 → St → Prop} {KW72 : Int32 → Mem → Prop} (hK72 : ∀ (x1 : Int32) (u : St), DK u → K72 x1 u → KW72 x1 (emb ρ u)) {u : St} (hd : DK u) (h : sX12_plain_p72b Q K72 v1 u) : X12_plain_p72b SH 198 QW KW72 v1 (emb ρ u) := by
  unfold X12_plain_p72b
  unfold sX12_plain_p72b at h
  refine ite_mono (fun hc h => ?_) (fun hc h => ?_) h
  · refine ⟨on_198, ?_⟩
    refine t_X12_plainTold hR (fun u16 hd h => ?_) hd h
    refine bnd_I ?_
    replace h := bnd_e h
    exact t_X12_plain_p107 hR hQ hd h
  · refine ⟨on_198, ?_⟩
    refine ⟨_, rn_198_49 hR _, ?_⟩
    obtain ⟨x19, h⟩ := h
    refine ⟨ix_i (show SH[236]? = some (100, 36) from rfl) x19, ?_⟩
    refine bnd_I ?_
    replace h := bnd_e h
    refine ⟨_, rn_198_50 hR _, ?_⟩
    obtain ⟨x22, h⟩ := h
    refine ⟨ix_i (show SH[237]? = some (102, 36) from rfl) x22, ?_⟩
    refine bnd_I ?_
    replace h := bnd_e h
    exact hK72 _ _ hd h
set_option maxHeartbeats 4000000 in
set_option maxRecDepth 100000 in
theorem t_X12_plain_p72n {ρ : Nat → Nat → Option Nat} (hR : RfH ρ) {Q : Int32 → St → Prop} {QW : Int32 → Mem → Prop} (hQ : ∀ (r : Int32) (u : St), DK u → Q r u → QW r (emb ρ u)) : ∀ (n : Nat) (v1 : Int32) (u : St), DK u → sX12_plain_p72n Q n v1 u → X12_plain_p72n SH 198 QW n v1 (emb ρ u)
  | 0, _, _,  _, h => h.elim
  | n + 1, v1,  u,  hd, h => t_X12_plain_p72b hR hQ (fun v1 u  hd h => t_X12_plain_p72n hR hQ n v1 u  hd h) hd h
set_option maxHeartbeats 4000000 in
set_option maxRecDepth 100000 in
theorem t_X12_plain_p72 {ρ : Nat → Nat → Option Nat} (hR : RfH ρ) {v1 : Int32} {Q : Int32 → St → Prop} {QW : Int32 → Mem → Prop} (hQ : ∀ (r : Int32) (u : St), DK u → Q r u → QW r (emb ρ u)) {u : St} (hd : DK u) (h : sX12_plain_p72 Q v1 u) : X12_plain_p72 SH 198 QW v1 (emb ρ u) := h.elim (fun n h => ⟨n, t_X12_plain_p72n hR hQ n _ _ hd h⟩)
set_option maxHeartbeats 4000000 in
set_option maxRecDepth 100000 in
theorem t_X12_plain_p45b {ρ : Nat → Nat → Option Nat} (hR : RfH ρ) {v1 : Int32} {Q : Int32 → St → Prop} {QW : Int32 → Mem → Prop} (hQ : ∀ (r : Int32) (u : St), DK u → Q r u → QW r (emb ρ u)) {K45 : Int32 → St → Prop} {KW45 : Int32 → Mem → Prop} (hK45 : ∀ (x1 : Int32) (u : St), DK u → K45 x1 u → KW45 x1 (emb ρ u)) {u : St} (hd : DK u) (h : sX12_plain_p45b Q K45 v1 u) : X12_plain_p45b SH 198 QW KW45 v1 (emb ρ u) := by
  unfold X12_plain_p45b
  unfold sX12_plain_p45b at h
  refine ite_mono (fun hc h => ?_) (fun hc h => ?_) h
  · exact t_X12_plain_p72 hR hQ hd h
  · refine ⟨on_198, ?_⟩
    refine ⟨_, rn_198_45 hR _, ?_⟩
    obtain ⟨x10, h⟩ := h
    refine ⟨ix_i (show SH[232]? = some (100, 4) from rfl) x10, ?_⟩
    refine bnd_I ?_
    replace h := bnd_e h
    refine ⟨_, rn_198_51 hR _, ?_⟩
    obtain ⟨x13, h⟩ := h
    refine ⟨ix_i (show SH[238]? = some (100, 4) from rfl) x13, ?_⟩
    refine bnd_I ?_
    replace h := bnd_e h
    exact hK45 _ _ hd h
set_option maxHeartbeats 4000000 in
set_option maxRecDepth 100000 in
theorem t_X12_plain_p45n {ρ : Nat → Nat → Option Nat} (hR : RfH ρ) {Q : Int32 → St → Prop} {QW : Int32 → Mem → Prop} (hQ : ∀ (r : Int32) (u : St), DK u → Q r u → QW r (emb ρ u)) : ∀ (n : Nat) (v1 : Int32) (u : St), DK u → sX12_plain_p45n Q n v1 u → X12_plain_p45n SH 198 QW n v1 (emb ρ u)
  | 0, _, _,  _, h => h.elim
  | n + 1, v1,  u,  hd, h => t_X12_plain_p45b hR hQ (fun v1 u  hd h => t_X12_plain_p45n hR hQ n v1 u  hd h) hd h
set_option maxHeartbeats 4000000 in
set_option maxRecDepth 100000 in
theorem t_X12_plain_p45 {ρ : Nat → Nat → Option Nat} (hR : RfH ρ) {v1 : Int32} {Q : Int32 → St → Prop} {QW : Int32 → Mem → Prop} (hQ : ∀ (r : Int32) (u : St), DK u → Q r u → QW r (emb ρ u)) {u : St} (hd : DK u) (h : sX12_plain_p45 Q v1 u) : X12_plain_p45 SH 198 QW v1 (emb ρ u) := h.elim (fun n h => ⟨n, t_X12_plain_p45n hR hQ n _ _ hd h⟩)
set_option maxHeartbeats 4000000 in
set_option maxRecDepth 100000 in
theorem t_X12_plain {ρ : Nat → Nat → Option Nat} (hR : RfH ρ) {Q : Int32 → St → Prop} {QW : Int32 → Mem → Prop} (hQ : ∀ (r : Int32) (u : St), DK u → Q r u → QW r (emb ρ u)) {u : St} (hd : DK u) (h : s_X12_plain Q u) : wp_X12_plain SH 198 QW (emb ρ u) := by
  unfold wp_X12_plain
  unfold s_X12_plain at h
  refine ⟨on_198, ?_⟩
  refine bnd_I ?_
  replace h := bnd_e h
  refine bnd_I ?_
  replace h := bnd_e h
  refine bnd_I ?_
  replace h := bnd_e h
  refine bnd_I ?_
  replace h := bnd_e h
  refine bnd_I ?_
  replace h := bnd_e h
  refine bnd_I ?_
  replace h := bnd_e h
  refine bnd_I ?_
  replace h := bnd_e h
  refine bnd_I ?_
  replace h := bnd_e h
  exact t_X12_plain_p45 hR hQ hd h
/-! CalledRiverModel.rest -/
set_option maxHeartbeats 4000000 in
set_option maxRecDepth 100000 in
def sX12_rest_p63 (v2 : Int32) (v3 : Int32) (Q : Int32 → St → Prop) (K27 : Int32 → Int32 → St → Prop) (u : St) : Prop :=
  K27 v2 (v3 + (1 : Int32)) u
set_option maxHeartbeats 4000000 in
set_option maxRecDepth 100000 in
def sX12_rest_p53 (v2 : Int32) (v3 : Int32) (Q : Int32 → St → Prop) (K27 : Int32 → Int32 → St → Prop) (u : St) : Prop :=
  s_X12_isRest v3 (fun r13 u14 => if r13 = 0 then (sX12_rest_p63 v2 v3 Q K27 u14) else (sX12_rest_p63 v3 v3 Q K27 u14)) u
set_option maxHeartbeats 4000000 in
set_option maxRecDepth 100000 in
def sX12_rest_p27b (Q : Int32 → St → Prop) (K27 : Int32 → Int32 → St → Prop) (v2 : Int32) (v3 : Int32) (u : St) : Prop :=
  s_X12_farmMany  (fun r7 u8 => if ((1 : Int32) <<< (r7 &&& 31)) ≤ v3 then (Q v2 u8) else (if v2 = (-1 : Int32) then (sX12_rest_p53 v2 v3 Q K27 u8) else (s_X12_bits v3 (fun r9 u10 => s_X12_bits v2 (fun r11 u12 => if r9 ≤ r11 then (sX12_rest_p63 v2 v3 Q K27 u12) else (sX12_rest_p53 v2 v3 Q K27 u12)) u10) u8))) u
set_option maxHeartbeats 4000000 in
set_option maxRecDepth 100000 in
def sX12_rest_p27n (Q : Int32 → St → Prop) : Nat → Int32 → Int32 → St → Prop
  | 0 => fun _ _ _ => False
  | n + 1 => sX12_rest_p27b Q (sX12_rest_p27n Q n)
set_option maxHeartbeats 4000000 in
set_option maxRecDepth 100000 in
def sX12_rest_p27 (Q : Int32 → St → Prop) (v2 : Int32) (v3 : Int32) (u : St) : Prop := ∃ n, sX12_rest_p27n Q n v2 v3 u
set_option maxHeartbeats 4000000 in
set_option maxRecDepth 100000 in
def s_X12_rest (v1 : Int32) (Q : Int32 → St → Prop) (u : St) : Prop :=
  s_X12_isCaller v1.toInt64 (fun r1 u2 => if r1 = 0 then (Q (-1 : Int32) u2) else (s_X12_hasWay  (fun r3 u4 => if r3 = 0 then (Q (-1 : Int32) u4) else (s_X12_laysWells v1 (fun u6 => sX12_rest_p27 Q (-1 : Int32) (0 : Int32) u6) u4)) u2)) u
set_option maxHeartbeats 4000000 in
set_option maxRecDepth 100000 in
theorem t_X12_rest_p63 {ρ : Nat → Nat → Option Nat} (hR : RfH ρ) {v2 : Int32} {v3 : Int32} {Q : Int32 → St → Prop} {QW : Int32 → Mem → Prop} {K27 : Int32 → Int32 → St → Prop} {KW27 : Int32 → Int32 → Mem → Prop} (hQ : ∀ (r : Int32) (u : St), DK u → Q r u → QW r (emb ρ u)) (hK27 : ∀ (x2 : Int32) (x3 : Int32) (u : St), DK u → K27 x2 x3 u → KW27 x2 x3 (emb ρ u)) {u : St} (hd : DK u) (h : sX12_rest_p63 v2 v3 Q K27 u) : X12_rest_p63 SH 198 v2 v3 QW KW27 (emb ρ u) := by
  unfold X12_rest_p63
  unfold sX12_rest_p63 at h
  exact hK27 _ _ _ hd h
set_option maxHeartbeats 4000000 in
set_option maxRecDepth 100000 in
theorem t_X12_rest_p53 {ρ : Nat → Nat → Option Nat} (hR : RfH ρ) {v2 : Int32} {v3 : Int32} {Q : Int32 → St → Prop} {QW : Int32 → Mem → Prop} {K27 : Int32 → Int32 → St → Prop} {KW27 : Int32 → Int32 → Mem → Prop} (hQ : ∀ (r : Int32) (u : St), DK u → Q r u → QW r (emb ρ u)) (hK27 : ∀ (x2 : Int32) (x3 : Int32) (u : St), DK u → K27 x2 x3 u → KW27 x2 x3 (emb ρ u)) {u : St} (hd : DK u) (h : sX12_rest_p53 v2 v3 Q K27 u) : X12_rest_p53 SH 198 v2 v3 QW KW27 (emb ρ u) := by
  unfold X12_rest_p53
  unfold sX12_rest_p53 at h
  refine ⟨on_198, ?_⟩
  refine t_X12_isRest hR (fun r13 u14 hd h => ?_) hd h
  refine ite_mono (fun hc h => ?_) (fun hc h => ?_) h
  · exact t_X12_rest_p63 hR hQ hK27 hd h
  · exact t_X12_rest_p63 hR hQ hK27 hd h
set_option maxHeartbeats 4000000 in
set_option maxRecDepth 100000 in
theorem t_X12_rest_p27b {ρ : Nat → Nat → Option Nat} (hR : RfH ρ) {v2 : Int32} {v3 : Int32} {Q : Int32 → St → Prop} {QW : Int32 → Mem → Prop} (hQ : ∀ (r : Int32) (u : St), DK u → Q r u → QW r (emb ρ u)) {K27 : Int32 → Int32 → St → Prop} {KW27 : Int32 → Int32 → Mem → Prop} (hK27 : ∀ (x2 : Int32) (x3 : Int32) (u : St), DK u → K27 x2 x3 u → KW27 x2 x3 (emb ρ u)) {u : St} (hd : DK u) (h : sX12_rest_p27b Q K27 v2 v3 u) : X12_rest_p27b SH 198 QW KW27 v2 v3 (emb ρ u) := by
  unfold X12_rest_p27b
  unfold sX12_rest_p27b at h
  refine ⟨on_198, ?_⟩
  refine t_X12_farmMany hR (fun r7 u8 hd h => ?_) hd h
  refine ite_mono (fun hc h => ?_) (fun hc h => ?_) h
  · exact hQ _ _ hd h
  · refine ite_mono (fun hc h => ?_) (fun hc h => ?_) h
    · exact t_X12_rest_p53 hR hQ hK27 hd h
    · refine t_X12_bits hR (fun r9 u10 hd h => ?_) hd h
      refine t_X12_bits hR (fun r11 u12 hd h => ?_) hd h
      refine ite_mono (fun hc h => ?_) (fun hc h => ?_) h
      · exact t_X12_rest_p63 hR hQ hK27 hd h
      · exact t_X12_rest_p53 hR hQ hK27 hd h
set_option maxHeartbeats 4000000 in
set_option maxRecDepth 100000 in
theorem t_X12_rest_p27n {ρ : Nat → Nat → Option Nat} (hR : RfH ρ) {Q : Int32 → St → Prop} {QW : Int32 → Mem → Prop} (hQ : ∀ (r : Int32) (u : St), DK u → Q r u → QW r (emb ρ u)) : ∀ (n : Nat) (v2 : Int32) (v3 : Int32) (u : St), DK u → sX12_rest_p27n Q n v2 v3 u → X12_rest_p27n SH 198 QW n v2 v3 (emb ρ u)
  | 0, _,_, _,  _, h => h.elim
  | n + 1, v2, v3,  u,  hd, h => t_X12_rest_p27b hR hQ (fun v2 v3 u  hd h => t_X12_rest_p27n hR hQ n v2 v3 u  hd h) hd h
set_option maxHeartbeats 4000000 in
set_option maxRecDepth 100000 in
theorem t_X12_rest_p27 {ρ : Nat → Nat → Option Nat} (hR : RfH ρ) {v2 : Int32} {v3 : Int32} {Q : Int32 → St → Prop} {QW : Int32 → Mem → Prop} (hQ : ∀ (r : Int32) (u : St), DK u → Q r u → QW r (emb ρ u)) {u : St} (hd : DK u) (h : sX12_rest_p27 Q v2 v3 u) : X12_rest_p27 SH 198 QW v2 v3 (emb ρ u) := h.elim (fun n h => ⟨n, t_X12_rest_p27n hR hQ n _ _ _ hd h⟩)
set_option maxHeartbeats 4000000 in
set_option maxRecDepth 100000 in
theorem t_X12_rest {ρ : Nat → Nat → Option Nat} (hR : RfH ρ) {v1 : Int32} {Q : Int32 → St → Prop} {QW : Int32 → Mem → Prop} (hQ : ∀ (r : Int32) (u : St), DK u → Q r u → QW r (emb ρ u)) {u : St} (hd : DK u) (h : s_X12_rest v1 Q u) : wp_X12_rest SH 198 v1 QW (emb ρ u) := by
  unfold wp_X12_rest
  unfold s_X12_rest at h
  refine ⟨on_198, ?_⟩
  refine t_X12_isCaller hR (fun r1 u2 hd h => ?_) hd h
  refine ite_mono (fun hc h => ?_) (fun hc h => ?_) h
  · exact hQ _ _ hd h
  · refine t_X12_hasWay hR (fun r3 u4 hd h => ?_) hd h
    refine ite_mono (fun hc h => ?_) (fun hc h => ?_) h
    · exact hQ _ _ hd h
    · refine t_X12_laysWells hR (fun u6 hd h => ?_) hd h
      exact t_X12_rest_p27 hR hQ hd h
/-! CalledRiverModel.see -/
set_option maxHeartbeats 4000000 in
set_option maxRecDepth 100000 in
def sX12_see_p92 (v1 : Int32) (v3 : Int32) (s0 : Int32) (Q : Int32 → St → Prop) (K43 : Int32 → Int32 → St → Prop) (u : St) : Prop :=
  K43 s0 (v3 + (3 : Int32)) u
set_option maxHeartbeats 4000000 in
set_option maxRecDepth 100000 in
def sX12_see_p91 (v1 : Int32) (v3 : Int32) (Q : Int32 → St → Prop) (K43 : Int32 → Int32 → St → Prop) (u : St) : Prop :=
  sX12_see_p92 v1 v3 (0 : Int32) Q K43 u
set_option maxHeartbeats 4000000 in
set_option maxRecDepth 100000 in
def sX12_see_p118b (Q : Int32 → St → Prop) (K118 : Int32 → St → Prop) (v3 : Int32) (u : St) : Prop :=
  if (u.1 198 74) ≤ v3 then (Q (u.1 198 74) u) else (vp_in ((3 : Int32) * v3) 1600 ∧ (vp_in ((2 : Int32) * v3) 32 ∧ bnd (tI u 252 ((2 : Int32) * v3).toNatClampNeg (u.1 199 ((3 : Int32) * v3).toNatClampNeg)) (fun u15 => vp_in (((3 : Int32) * v3) + (1 : Int32)) 1600 ∧ (vp_in (((3 : Int32) * v3) + (2 : Int32)) 1600 ∧ (s_X12_cellAt (u15.1 199 (((3 : Int32) * v3) + (1 : Int32)).toNatClampNeg) (u15.1 199 (((3 : Int32) * v3) + (2 : Int32)).toNatClampNeg) (fun r18 u19 => vp_in (((2 : Int32) * v3) + (1 : Int32)) 32 ∧ bnd (tI u19 252 (((2 : Int32) * v3) + (1 : Int32)).toNatClampNeg r18) (fun u21 => K118 (v3 + (1 : Int32)) u21)) u15)))))
set_option maxHeartbeats 4000000 in
set_option maxRecDepth 100000 in
def sX12_see_p118n (Q : Int32 → St → Prop) : Nat → Int32 → St → Prop
  | 0 => fun _ _ => False
  | n + 1 => sX12_see_p118b Q (sX12_see_p118n Q n)
set_option maxHeartbeats 4000000 in
set_option maxRecDepth 100000 in
def sX12_see_p118 (Q : Int32 → St → Prop) (v3 : Int32) (u : St) : Prop := ∃ n, sX12_see_p118n Q n v3 u
set_option maxHeartbeats 4000000 in
set_option maxRecDepth 100000 in
def sX12_see_p99 (v1 : Int32) (v2 : Int32) (Q : Int32 → St → Prop) (u : St) : Prop :=
  if v2 = 0 then (s_X12_refuses (1 : Int32) (fun r9 u10 => Q r9 u10) u) else (bnd (tI u 198 74 (v1 / (3 : Int32))) (fun u8 => sX12_see_p118 Q (0 : Int32) u8))
set_option maxHeartbeats 4000000 in
set_option maxRecDepth 100000 in
def sX12_see_p43b (v1 : Int32) (Q : Int32 → St → Prop) (K43 : Int32 → Int32 → St → Prop) (v2 : Int32) (v3 : Int32) (u : St) : Prop :=
  if v1 ≤ v3 then (sX12_see_p99 v1 v2 Q u) else (if v2 = 0 then (sX12_see_p99 v1 v2 Q u) else (vp_in v3 1600 ∧ (if (40 : Int32) < (u.1 199 v3.toNatClampNeg) then (sX12_see_p91 v1 v3 Q K43 u) else (vp_in (v3 + (1 : Int32)) 1600 ∧ (vp_in (v3 + (2 : Int32)) 1600 ∧ (s_X12_cellAt (u.1 199 (v3 + (1 : Int32)).toNatClampNeg) (u.1 199 (v3 + (2 : Int32)).toNatClampNeg) (fun r6 u7 => if r6 = (-1 : Int32) then (sX12_see_p91 v1 v3 Q K43 u7) else (sX12_see_p92 v1 v3 (1 : Int32) Q K43 u7)) u))))))
set_option maxHeartbeats 4000000 in
set_option maxRecDepth 100000 in
def sX12_see_p43n (v1 : Int32) (Q : Int32 → St → Prop) : Nat → Int32 → Int32 → St → Prop
  | 0 => fun _ _ _ => False
  | n + 1 => sX12_see_p43b v1 Q (sX12_see_p43n v1 Q n)
set_option maxHeartbeats 4000000 in
set_option maxRecDepth 100000 in
def sX12_see_p43 (v1 : Int32) (Q : Int32 → St → Prop) (v2 : Int32) (v3 : Int32) (u : St) : Prop := ∃ n, sX12_see_p43n v1 Q n v2 v3 u
set_option maxHeartbeats 4000000 in
set_option maxRecDepth 100000 in
def sX12_see_p40 (v1 : Int32) (s0 : Int32) (Q : Int32 → St → Prop) (u : St) : Prop :=
  sX12_see_p43 v1 Q s0 (0 : Int32) u
set_option maxHeartbeats 4000000 in
set_option maxRecDepth 100000 in
def sX12_see_p39 (v1 : Int32) (Q : Int32 → St → Prop) (u : St) : Prop :=
  sX12_see_p40 v1 (0 : Int32) Q u
set_option maxHeartbeats 4000000 in
set_option maxRecDepth 100000 in
def s_X12_see (Q : Int32 → St → Prop) (u : St) : Prop :=
  bnd (tI u 198 1 (0 : Int32)) (fun u1 => if (u1.1 198 56) = 0 then (sX12_see_p39 (u.1 198 1) Q u1) else (if (u.1 198 1) ≤ 0 then (sX12_see_p39 (u.1 198 1) Q u1) else (if ((u.1 198 1) - (u.1 198 1) / (3 : Int32) * (3 : Int32)) = 0 then (if (16 : Int32) < ((u.1 198 1) / (3 : Int32)) then (sX12_see_p39 (u.1 198 1) Q u1) else (sX12_see_p40 (u.1 198 1) (1 : Int32) Q u1)) else (sX12_see_p39 (u.1 198 1) Q u1))))
set_option maxHeartbeats 4000000 in
set_option maxRecDepth 100000 in
theorem t_X12_see_p92 {ρ : Nat → Nat → Option Nat} (hR : RfH ρ) {v1 : Int32} {v3 : Int32} {s0 : Int32} {Q : Int32 → St → Prop} {QW : Int32 → Mem → Prop} {K43 : Int32 → Int32 → St → Prop} {KW43 : Int32 → Int32 → Mem → Prop} (hQ : ∀ (r : Int32) (u : St), DK u → Q r u → QW r (emb ρ u)) (hK43 : ∀ (x2 : Int32) (x3 : Int32) (u : St), DK u → K43 x2 x3 u → KW43 x2 x3 (emb ρ u)) {u : St} (hd : DK u) (h : sX12_see_p92 v1 v3 s0 Q K43 u) : X12_see_p92 SH 198 v1 v3 s0 QW KW43 (emb ρ u) := by
  unfold X12_see_p92
  unfold sX12_see_p92 at h
  exact hK43 _ _ _ hd h
set_option maxHeartbeats 4000000 in
set_option maxRecDepth 100000 in
theorem t_X12_see_p91 {ρ : Nat → Nat → Option Nat} (hR : RfH ρ) {v1 : Int32} {v3 : Int32} {Q : Int32 → St → Prop} {QW : Int32 → Mem → Prop} {K43 : Int32 → Int32 → St → Prop} {KW43 : Int32 → Int32 → Mem → Prop} (hQ : ∀ (r : Int32) (u : St), DK u → Q r u → QW r (emb ρ u)) (hK43 : ∀ (x2 : Int32) (x3 : Int32) (u : St), DK u → K43 x2 x3 u → KW43 x2 x3 (emb ρ u)) {u : St} (hd : DK u) (h : sX12_see_p91 v1 v3 Q K43 u) : X12_see_p91 SH 198 v1 v3 QW KW43 (emb ρ u) := by
  unfold X12_see_p91
  unfold sX12_see_p91 at h
  exact t_X12_see_p92 hR hQ hK43 hd h
set_option maxHeartbeats 4000000 in
set_option maxRecDepth 100000 in
theorem t_X12_see_p118b {ρ : Nat → Nat → Option Nat} (hR : RfH ρ) {v3 : Int32} {Q : Int32 → St → Prop} {QW : Int32 → Mem → Prop} (hQ : ∀ (r : Int32) (u : St), DK u → Q r u → QW r (emb ρ u)) {K118 : Int32 → St → Prop} {KW118 : Int32 → Mem → Prop} (hK118 : ∀ (x3 : Int32) (u : St), DK u → K118 x3 u → KW118 x3 (emb ρ u)) {u : St} (hd : DK u) (h : sX12_see_p118b Q K118 v3 u) : X12_see_p118b SH 198 QW KW118 v3 (emb ρ u) := by
  unfold X12_see_p118b
  unfold sX12_see_p118b at h
  refine ⟨on_198, ?_⟩
  refine ite_mono (fun hc h => ?_) (fun hc h => ?_) h
  · exact hQ _ _ hd h
  · refine ⟨_, rn_198_75 hR _, ?_⟩
    refine ⟨_, rn_198_0 hR _, ?_⟩
    obtain ⟨x13, h⟩ := h
    refine ⟨ix_i (show SH[199]? = some (100, 1600) from rfl) x13, ?_⟩
    obtain ⟨x14, h⟩ := h
    refine ⟨ix_i (show SH[252]? = some (100, 32) from rfl) x14, ?_⟩
    refine bnd_I ?_
    replace h := bnd_e h
    obtain ⟨x16, h⟩ := h
    refine ⟨ix_i (show SH[199]? = some (100, 1600) from rfl) x16, ?_⟩
    obtain ⟨x17, h⟩ := h
    refine ⟨ix_i (show SH[199]? = some (100, 1600) from rfl) x17, ?_⟩
    refine t_X12_cellAt hR (fun r18 u19 hd h => ?_) hd h
    obtain ⟨x20, h⟩ := h
    refine ⟨ix_i (show SH[252]? = some (100, 32) from rfl) x20, ?_⟩
    refine bnd_I ?_
    replace h := bnd_e h
    exact hK118 _ _ hd h
set_option maxHeartbeats 4000000 in
set_option maxRecDepth 100000 in
theorem t_X12_see_p118n {ρ : Nat → Nat → Option Nat} (hR : RfH ρ) {Q : Int32 → St → Prop} {QW : Int32 → Mem → Prop} (hQ : ∀ (r : Int32) (u : St), DK u → Q r u → QW r (emb ρ u)) : ∀ (n : Nat) (v3 : Int32) (u : St), DK u → sX12_see_p118n Q n v3 u → X12_see_p118n SH 198 QW n v3 (emb ρ u)
  | 0, _, _,  _, h => h.elim
  | n + 1, v3,  u,  hd, h => t_X12_see_p118b hR hQ (fun v3 u  hd h => t_X12_see_p118n hR hQ n v3 u  hd h) hd h
set_option maxHeartbeats 4000000 in
set_option maxRecDepth 100000 in
theorem t_X12_see_p118 {ρ : Nat → Nat → Option Nat} (hR : RfH ρ) {v3 : Int32} {Q : Int32 → St → Prop} {QW : Int32 → Mem → Prop} (hQ : ∀ (r : Int32) (u : St), DK u → Q r u → QW r (emb ρ u)) {u : St} (hd : DK u) (h : sX12_see_p118 Q v3 u) : X12_see_p118 SH 198 QW v3 (emb ρ u) := h.elim (fun n h => ⟨n, t_X12_see_p118n hR hQ n _ _ hd h⟩)
set_option maxHeartbeats 4000000 in
set_option maxRecDepth 100000 in
theorem t_X12_see_p99 {ρ : Nat → Nat → Option Nat} (hR : RfH ρ) {v1 : Int32} {v2 : Int32} {Q : Int32 → St → Prop} {QW : Int32 → Mem → Prop} (hQ : ∀ (r : Int32) (u : St), DK u → Q r u → QW r (emb ρ u)) {u : St} (hd : DK u) (h : sX12_see_p99 v1 v2 Q u) : X12_see_p99 SH 198 v1 v2 QW (emb ρ u) := by
  unfold X12_see_p99
  unfold sX12_see_p99 at h
  refine ite_mono (fun hc h => ?_) (fun hc h => ?_) h
  · refine ⟨on_198, ?_⟩
    refine t_X12_refuses hR (fun r9 u10 hd h => ?_) hd h
    exact hQ _ _ hd h
  · refine ⟨on_198, ?_⟩
    refine bnd_I ?_
    replace h := bnd_e h
    exact t_X12_see_p118 hR hQ hd h
set_option maxHeartbeats 4000000 in
set_option maxRecDepth 100000 in
theorem t_X12_see_p43b {ρ : Nat → Nat → Option Nat} (hR : RfH ρ) {v1 : Int32} {v2 : Int32} {v3 : Int32} {Q : Int32 → St → Prop} {QW : Int32 → Mem → Prop} (hQ : ∀ (r : Int32) (u : St), DK u → Q r u → QW r (emb ρ u)) {K43 : Int32 → Int32 → St → Prop} {KW43 : Int32 → Int32 → Mem → Prop} (hK43 : ∀ (x2 : Int32) (x3 : Int32) (u : St), DK u → K43 x2 x3 u → KW43 x2 x3 (emb ρ u)) {u : St} (hd : DK u) (h : sX12_see_p43b v1 Q K43 v2 v3 u) : X12_see_p43b SH 198 v1 QW KW43 v2 v3 (emb ρ u) := by
  unfold X12_see_p43b
  unfold sX12_see_p43b at h
  refine ite_mono (fun hc h => ?_) (fun hc h => ?_) h
  · exact t_X12_see_p99 hR hQ hd h
  · refine ite_mono (fun hc h => ?_) (fun hc h => ?_) h
    · exact t_X12_see_p99 hR hQ hd h
    · refine ⟨on_198, ?_⟩
      refine ⟨_, rn_198_0 hR _, ?_⟩
      obtain ⟨x3, h⟩ := h
      refine ⟨ix_i (show SH[199]? = some (100, 1600) from rfl) x3, ?_⟩
      refine ite_mono (fun hc h => ?_) (fun hc h => ?_) h
      · exact t_X12_see_p91 hR hQ hK43 hd h
      · obtain ⟨x4, h⟩ := h
        refine ⟨ix_i (show SH[199]? = some (100, 1600) from rfl) x4, ?_⟩
        obtain ⟨x5, h⟩ := h
        refine ⟨ix_i (show SH[199]? = some (100, 1600) from rfl) x5, ?_⟩
        refine t_X12_cellAt hR (fun r6 u7 hd h => ?_) hd h
        refine ite_mono (fun hc h => ?_) (fun hc h => ?_) h
        · exact t_X12_see_p91 hR hQ hK43 hd h
        · exact t_X12_see_p92 hR hQ hK43 hd h
set_option maxHeartbeats 4000000 in
set_option maxRecDepth 100000 in
theorem t_X12_see_p43n {ρ : Nat → Nat → Option Nat} (hR : RfH ρ) {v1 : Int32} {Q : Int32 → St → Prop} {QW : Int32 → Mem → Prop} (hQ : ∀ (r : Int32) (u : St), DK u → Q r u → QW r (emb ρ u)) : ∀ (n : Nat) (v2 : Int32) (v3 : Int32) (u : St), DK u → sX12_see_p43n v1 Q n v2 v3 u → X12_see_p43n SH 198 v1 QW n v2 v3 (emb ρ u)
  | 0, _,_, _,  _, h => h.elim
  | n + 1, v2, v3,  u,  hd, h => t_X12_see_p43b hR hQ (fun v2 v3 u  hd h => t_X12_see_p43n hR hQ n v2 v3 u  hd h) hd h
set_option maxHeartbeats 4000000 in
set_option maxRecDepth 100000 in
theorem t_X12_see_p43 {ρ : Nat → Nat → Option Nat} (hR : RfH ρ) {v1 : Int32} {v2 : Int32} {v3 : Int32} {Q : Int32 → St → Prop} {QW : Int32 → Mem → Prop} (hQ : ∀ (r : Int32) (u : St), DK u → Q r u → QW r (emb ρ u)) {u : St} (hd : DK u) (h : sX12_see_p43 v1 Q v2 v3 u) : X12_see_p43 SH 198 v1 QW v2 v3 (emb ρ u) := h.elim (fun n h => ⟨n, t_X12_see_p43n hR hQ n _ _ _ hd h⟩)
set_option maxHeartbeats 4000000 in
set_option maxRecDepth 100000 in
theorem t_X12_see_p40 {ρ : Nat → Nat → Option Nat} (hR : RfH ρ) {v1 : Int32} {s0 : Int32} {Q : Int32 → St → Prop} {QW : Int32 → Mem → Prop} (hQ : ∀ (r : Int32) (u : St), DK u → Q r u → QW r (emb ρ u)) {u : St} (hd : DK u) (h : sX12_see_p40 v1 s0 Q u) : X12_see_p40 SH 198 v1 s0 QW (emb ρ u) := by
  unfold X12_see_p40
  unfold sX12_see_p40 at h
  exact t_X12_see_p43 hR hQ hd h
set_option maxHeartbeats 4000000 in
set_option maxRecDepth 100000 in
theorem t_X12_see_p39 {ρ : Nat → Nat → Option Nat} (hR : RfH ρ) {v1 : Int32} {Q : Int32 → St → Prop} {QW : Int32 → Mem → Prop} (hQ : ∀ (r : Int32) (u : St), DK u → Q r u → QW r (emb ρ u)) {u : St} (hd : DK u) (h : sX12_see_p39 v1 Q u) : X12_see_p39 SH 198 v1 QW (emb ρ u) := by
  unfold X12_see_p39
  unfold sX12_see_p39 at h
  exact t_X12_see_p40 hR hQ hd h
set_option maxHeartbeats 4000000 in
set_option maxRecDepth 100000 in
theorem t_X12_see {ρ : Nat → Nat → Option Nat} (hR : RfH ρ) {Q : Int32 → St → Prop} {QW : Int32 → Mem → Prop} (hQ : ∀ (r : Int32) (u : St), DK u → Q r u → QW r (emb ρ u)) {u : St} (hd : DK u) (h : s_X12_see Q u) : wp_X12_see SH 198 QW (emb ρ u) := by
  unfold wp_X12_see
  unfold s_X12_see at h
  refine ⟨on_198, ?_⟩
  refine bnd_I ?_
  replace h := bnd_e h
  refine ite_mono (fun hc h => ?_) (fun hc h => ?_) h
  · exact t_X12_see_p39 hR hQ hd h
  · refine ite_mono (fun hc h => ?_) (fun hc h => ?_) h
    · exact t_X12_see_p39 hR hQ hd h
    · refine ite_mono (fun hc h => ?_) (fun hc h => ?_) h
      · refine ite_mono (fun hc h => ?_) (fun hc h => ?_) h
        · exact t_X12_see_p39 hR hQ hd h
        · exact t_X12_see_p40 hR hQ hd h
      · exact t_X12_see_p39 hR hQ hd h
/-! CalledRiverModel.seed -/
set_option maxHeartbeats 4000000 in
set_option maxRecDepth 100000 in
def s_X12_seed (v1 : Int32) (Q : Int32 → St → Prop) (u : St) : Prop :=
  if 0 ≤ v1 then (bnd (tL u 198 80 v1.toInt64) (fun u1 => Q (1 : Int32) u1)) else (vp_in (5 : Int32) 6 ∧ (bnd (tI u 200 (5 : Int32).toNatClampNeg ((u.1 200 (5 : Int32).toNatClampNeg) + (1 : Int32))) (fun u4 => Q (0 : Int32) u4)))
set_option maxHeartbeats 4000000 in
set_option maxRecDepth 100000 in
theorem t_X12_seed {ρ : Nat → Nat → Option Nat} (hR : RfH ρ) {v1 : Int32} {Q : Int32 → St → Prop} {QW : Int32 → Mem → Prop} (hQ : ∀ (r : Int32) (u : St), DK u → Q r u → QW r (emb ρ u)) {u : St} (hd : DK u) (h : s_X12_seed v1 Q u) : wp_X12_seed SH 198 v1 QW (emb ρ u) := by
  unfold wp_X12_seed
  unfold s_X12_seed at h
  refine ite_mono (fun hc h => ?_) (fun hc h => ?_) h
  · refine ⟨on_198, ?_⟩
    refine bnd_L ?_
    replace h := bnd_e h
    exact hQ _ _ hd h
  · refine ⟨on_198, ?_⟩
    refine ⟨_, rn_198_9 hR _, ?_⟩
    obtain ⟨x3, h⟩ := h
    refine ⟨ix_i (show SH[200]? = some (100, 6) from rfl) x3, ?_⟩
    refine bnd_I ?_
    replace h := bnd_e h
    exact hQ _ _ hd h
/-! CalledRiverModel.spring -/
set_option maxHeartbeats 4000000 in
set_option maxRecDepth 100000 in
def sX12_spring_p26 (Q : Int32 → St → Prop) (u : St) : Prop :=
  s_X12_refuses (2 : Int32) (fun r11 u12 => Q r11 u12) u
set_option maxHeartbeats 4000000 in
set_option maxRecDepth 100000 in
def s_X12_spring (v1 : Int32) (Q : Int32 → St → Prop) (u : St) : Prop :=
  s_X12_isCaller v1.toInt64 (fun r1 u2 => if r1 = 0 then (sX12_spring_p26 Q u2) else (s_X12_hasWay  (fun r3 u4 => if r3 = 0 then (sX12_spring_p26 Q u4) else (s_X12_isAhead (1 : Int32) (1 : Int32) (1 : Int32) (fun r5 u6 => if r5 = 0 then (sX12_spring_p26 Q u6) else (s_X12_keeps  (fun u8 => s_X12_yearGoes v1 (fun r9 u10 => Q r9 u10) u8) u6)) u4)) u2)) u
set_option maxHeartbeats 4000000 in
set_option maxRecDepth 100000 in
theorem t_X12_spring_p26 {ρ : Nat → Nat → Option Nat} (hR : RfH ρ) {Q : Int32 → St → Prop} {QW : Int32 → Mem → Prop} (hQ : ∀ (r : Int32) (u : St), DK u → Q r u → QW r (emb ρ u)) {u : St} (hd : DK u) (h : sX12_spring_p26 Q u) : X12_spring_p26 SH 198 QW (emb ρ u) := by
  unfold X12_spring_p26
  unfold sX12_spring_p26 at h
  refine ⟨on_198, ?_⟩
  refine t_X12_refuses hR (fun r11 u12 hd h => ?_) hd h
  exact hQ _ _ hd h
set_option maxHeartbeats 4000000 in
set_option maxRecDepth 100000 in
theorem t_X12_spring {ρ : Nat → Nat → Option Nat} (hR : RfH ρ) {v1 : Int32} {Q : Int32 → St → Prop} {QW : Int32 → Mem → Prop} (hQ : ∀ (r : Int32) (u : St), DK u → Q r u → QW r (emb ρ u)) {u : St} (hd : DK u) (h : s_X12_spring v1 Q u) : wp_X12_spring SH 198 v1 QW (emb ρ u) := by
  unfold wp_X12_spring
  unfold s_X12_spring at h
  refine ⟨on_198, ?_⟩
  refine t_X12_isCaller hR (fun r1 u2 hd h => ?_) hd h
  refine ite_mono (fun hc h => ?_) (fun hc h => ?_) h
  · exact t_X12_spring_p26 hR hQ hd h
  · refine t_X12_hasWay hR (fun r3 u4 hd h => ?_) hd h
    refine ite_mono (fun hc h => ?_) (fun hc h => ?_) h
    · exact t_X12_spring_p26 hR hQ hd h
    · refine t_X12_isAhead hR (fun r5 u6 hd h => ?_) hd h
      refine ite_mono (fun hc h => ?_) (fun hc h => ?_) h
      · exact t_X12_spring_p26 hR hQ hd h
      · refine t_X12_keeps hR (fun u8 hd h => ?_) hd h
        refine t_X12_yearGoes hR (fun r9 u10 hd h => ?_) hd h
        exact hQ _ _ hd h
/-! CalledRiverModel.status -/
set_option maxHeartbeats 4000000 in
set_option maxRecDepth 100000 in
def s_X12_status (v1 : Int32) (Q : Int32 → St → Prop) (u : St) : Prop :=
  s_X12_isIn v1.toInt64 (0 : Int64) (5 : Int64) (fun r1 u2 => if r1 = 0 then (Q (-1 : Int32) u2) else (vp_in v1 6 ∧ (Q (u2.1 200 v1.toNatClampNeg) u2))) u
set_option maxHeartbeats 4000000 in
set_option maxRecDepth 100000 in
theorem t_X12_status {ρ : Nat → Nat → Option Nat} (hR : RfH ρ) {v1 : Int32} {Q : Int32 → St → Prop} {QW : Int32 → Mem → Prop} (hQ : ∀ (r : Int32) (u : St), DK u → Q r u → QW r (emb ρ u)) {u : St} (hd : DK u) (h : s_X12_status v1 Q u) : wp_X12_status SH 198 v1 QW (emb ρ u) := by
  unfold wp_X12_status
  unfold s_X12_status at h
  refine t_X12_isIn hR (fun r1 u2 hd h => ?_) hd h
  refine ite_mono (fun hc h => ?_) (fun hc h => ?_) h
  · exact hQ _ _ hd h
  · refine ⟨on_198, ?_⟩
    refine ⟨_, rn_198_9 hR _, ?_⟩
    obtain ⟨x4, h⟩ := h
    refine ⟨ix_i (show SH[200]? = some (100, 6) from rfl) x4, ?_⟩
    exact hQ _ _ hd h
/-! CalledRiverModel.stone -/
set_option maxHeartbeats 4000000 in
set_option maxRecDepth 100000 in
def sX12_stone_p39 (Q : Int32 → St → Prop) (u : St) : Prop :=
  s_X12_isRefused  (fun r12 u13 => (r12 = 0 ∨ r12 = 1) ∧ Q r12 u13) u
set_option maxHeartbeats 4000000 in
set_option maxRecDepth 100000 in
def s_X12_stone (v1 : Int32) (v2 : Int32) (v3 : Int32) (Q : Int32 → St → Prop) (u : St) : Prop :=
  s_X12_cellAt v1 v2 (fun r1 u2 => if r1 = (-1 : Int32) then (sX12_stone_p39 Q u2) else (s_X12_isIn v3.toInt64 (0 : Int64) (1 : Int64) (fun r3 u4 => if r3 = 0 then (sX12_stone_p39 Q u4) else (vp_in ((2 : Int32) + ((3 : Int32) * r1)) 236 ∧ (if (u4.1 241 ((2 : Int32) + ((3 : Int32) * r1)).toNatClampNeg) = v3 then (sX12_stone_p39 Q u4) else (s_X12_keeps  (fun u8 => vp_in ((2 : Int32) + ((3 : Int32) * r1)) 236 ∧ bnd (tI u8 241 ((2 : Int32) + ((3 : Int32) * r1)).toNatClampNeg v3) (fun u11 => Q (1 : Int32) u11)) u4)))) u2)) u
set_option maxHeartbeats 4000000 in
set_option maxRecDepth 100000 in
theorem t_X12_stone_p39 {ρ : Nat → Nat → Option Nat} (hR : RfH ρ) {Q : Int32 → St → Prop} {QW : Int32 → Mem → Prop} (hQ : ∀ (r : Int32) (u : St), DK u → Q r u → QW r (emb ρ u)) {u : St} (hd : DK u) (h : sX12_stone_p39 Q u) : X12_stone_p39 SH 198 QW (emb ρ u) := by
  unfold X12_stone_p39
  unfold sX12_stone_p39 at h
  refine ⟨on_198, ?_⟩
  refine t_X12_isRefused hR (fun r12 u13 hd h => ?_) hd h
  exact ⟨h.1, hQ _ _ hd h.2⟩
set_option maxHeartbeats 4000000 in
set_option maxRecDepth 100000 in
theorem t_X12_stone {ρ : Nat → Nat → Option Nat} (hR : RfH ρ) {v1 : Int32} {v2 : Int32} {v3 : Int32} {Q : Int32 → St → Prop} {QW : Int32 → Mem → Prop} (hQ : ∀ (r : Int32) (u : St), DK u → Q r u → QW r (emb ρ u)) {u : St} (hd : DK u) (h : s_X12_stone v1 v2 v3 Q u) : wp_X12_stone SH 198 v1 v2 v3 QW (emb ρ u) := by
  unfold wp_X12_stone
  unfold s_X12_stone at h
  refine ⟨on_198, ?_⟩
  refine t_X12_cellAt hR (fun r1 u2 hd h => ?_) hd h
  refine ite_mono (fun hc h => ?_) (fun hc h => ?_) h
  · exact t_X12_stone_p39 hR hQ hd h
  · refine t_X12_isIn hR (fun r3 u4 hd h => ?_) hd h
    refine ite_mono (fun hc h => ?_) (fun hc h => ?_) h
    · exact t_X12_stone_p39 hR hQ hd h
    · refine ⟨_, rn_198_58 hR _, ?_⟩
      obtain ⟨x6, h⟩ := h
      refine ⟨ix_i (show SH[241]? = some (100, 236) from rfl) x6, ?_⟩
      refine ite_mono (fun hc h => ?_) (fun hc h => ?_) h
      · exact t_X12_stone_p39 hR hQ hd h
      · refine t_X12_keeps hR (fun u8 hd h => ?_) hd h
        refine ⟨_, rn_198_58 hR _, ?_⟩
        obtain ⟨x10, h⟩ := h
        refine ⟨ix_i (show SH[241]? = some (100, 236) from rfl) x10, ?_⟩
        refine bnd_I ?_
        replace h := bnd_e h
        exact hQ _ _ hd h
/-! CalledRiverModel.whoCan -/
set_option maxHeartbeats 4000000 in
set_option maxRecDepth 100000 in
def sX12_whoCan_p30 (v1 : Int32) (v2 : Int32) (Q : Int32 → St → Prop) (K8 : Int32 → Int32 → St → Prop) (u : St) : Prop :=
  K8 v1 (v2 + (1 : Int32)) u
set_option maxHeartbeats 4000000 in
set_option maxRecDepth 100000 in
def sX12_whoCan_p8b (Q : Int32 → St → Prop) (K8 : Int32 → Int32 → St → Prop) (v1 : Int32) (v2 : Int32) (u : St) : Prop :=
  s_X12_callerMany  (fun r3 u4 => if r3 ≤ v2 then (Q v1 u4) else (s_X12_isAsSeen v2 (fun r5 u6 => if r5 = 0 then (sX12_whoCan_p30 v1 v2 Q K8 u6) else (sX12_whoCan_p30 (v1 ||| ((1 : Int32) <<< (v2 &&& 31))) v2 Q K8 u6)) u4)) u
set_option maxHeartbeats 4000000 in
set_option maxRecDepth 100000 in
def sX12_whoCan_p8n (Q : Int32 → St → Prop) : Nat → Int32 → Int32 → St → Prop
  | 0 => fun _ _ _ => False
  | n + 1 => sX12_whoCan_p8b Q (sX12_whoCan_p8n Q n)
set_option maxHeartbeats 4000000 in
set_option maxRecDepth 100000 in
def sX12_whoCan_p8 (Q : Int32 → St → Prop) (v1 : Int32) (v2 : Int32) (u : St) : Prop := ∃ n, sX12_whoCan_p8n Q n v1 v2 u
set_option maxHeartbeats 4000000 in
set_option maxRecDepth 100000 in
def s_X12_whoCan (Q : Int32 → St → Prop) (u : St) : Prop :=
  s_X12_laysCells  (fun u2 => sX12_whoCan_p8 Q (0 : Int32) (0 : Int32) u2) u
set_option maxHeartbeats 4000000 in
set_option maxRecDepth 100000 in
theorem t_X12_whoCan_p30 {ρ : Nat → Nat → Option Nat} (hR : RfH ρ) {v1 : Int32} {v2 : Int32} {Q : Int32 → St → Prop} {QW : Int32 → Mem → Prop} {K8 : Int32 → Int32 → St → Prop} {KW8 : Int32 → Int32 → Mem → Prop} (hQ : ∀ (r : Int32) (u : St), DK u → Q r u → QW r (emb ρ u)) (hK8 : ∀ (x1 : Int32) (x2 : Int32) (u : St), DK u → K8 x1 x2 u → KW8 x1 x2 (emb ρ u)) {u : St} (hd : DK u) (h : sX12_whoCan_p30 v1 v2 Q K8 u) : X12_whoCan_p30 SH 198 v1 v2 QW KW8 (emb ρ u) := by
  unfold X12_whoCan_p30
  unfold sX12_whoCan_p30 at h
  exact hK8 _ _ _ hd h
set_option maxHeartbeats 4000000 in
set_option maxRecDepth 100000 in
theorem t_X12_whoCan_p8b {ρ : Nat → Nat → Option Nat} (hR : RfH ρ) {v1 : Int32} {v2 : Int32} {Q : Int32 → St → Prop} {QW : Int32 → Mem → Prop} (hQ : ∀ (r : Int32) (u : St), DK u → Q r u → QW r (emb ρ u)) {K8 : Int32 → Int32 → St → Prop} {KW8 : Int32 → Int32 → Mem → Prop} (hK8 : ∀ (x1 : Int32) (x2 : Int32) (u : St), DK u → K8 x1 x2 u → KW8 x1 x2 (emb ρ u)) {u : St} (hd : DK u) (h : sX12_whoCan_p8b Q K8 v1 v2 u) : X12_whoCan_p8b SH 198 QW KW8 v1 v2 (emb ρ u) := by
  unfold X12_whoCan_p8b
  unfold sX12_whoCan_p8b at h
  refine ⟨on_198, ?_⟩
  refine t_X12_callerMany hR (fun r3 u4 hd h => ?_) hd h
  refine ite_mono (fun hc h => ?_) (fun hc h => ?_) h
  · exact hQ _ _ hd h
  · refine t_X12_isAsSeen hR (fun r5 u6 hd h => ?_) hd h
    refine ite_mono (fun hc h => ?_) (fun hc h => ?_) h
    · exact t_X12_whoCan_p30 hR hQ hK8 hd h
    · exact t_X12_whoCan_p30 hR hQ hK8 hd h
set_option maxHeartbeats 4000000 in
set_option maxRecDepth 100000 in
theorem t_X12_whoCan_p8n {ρ : Nat → Nat → Option Nat} (hR : RfH ρ) {Q : Int32 → St → Prop} {QW : Int32 → Mem → Prop} (hQ : ∀ (r : Int32) (u : St), DK u → Q r u → QW r (emb ρ u)) : ∀ (n : Nat) (v1 : Int32) (v2 : Int32) (u : St), DK u → sX12_whoCan_p8n Q n v1 v2 u → X12_whoCan_p8n SH 198 QW n v1 v2 (emb ρ u)
  | 0, _,_, _,  _, h => h.elim
  | n + 1, v1, v2,  u,  hd, h => t_X12_whoCan_p8b hR hQ (fun v1 v2 u  hd h => t_X12_whoCan_p8n hR hQ n v1 v2 u  hd h) hd h
set_option maxHeartbeats 4000000 in
set_option maxRecDepth 100000 in
theorem t_X12_whoCan_p8 {ρ : Nat → Nat → Option Nat} (hR : RfH ρ) {v1 : Int32} {v2 : Int32} {Q : Int32 → St → Prop} {QW : Int32 → Mem → Prop} (hQ : ∀ (r : Int32) (u : St), DK u → Q r u → QW r (emb ρ u)) {u : St} (hd : DK u) (h : sX12_whoCan_p8 Q v1 v2 u) : X12_whoCan_p8 SH 198 QW v1 v2 (emb ρ u) := h.elim (fun n h => ⟨n, t_X12_whoCan_p8n hR hQ n _ _ _ hd h⟩)
set_option maxHeartbeats 4000000 in
set_option maxRecDepth 100000 in
theorem t_X12_whoCan {ρ : Nat → Nat → Option Nat} (hR : RfH ρ) {Q : Int32 → St → Prop} {QW : Int32 → Mem → Prop} (hQ : ∀ (r : Int32) (u : St), DK u → Q r u → QW r (emb ρ u)) {u : St} (hd : DK u) (h : s_X12_whoCan Q u) : wp_X12_whoCan SH 198 QW (emb ρ u) := by
  unfold wp_X12_whoCan
  unfold s_X12_whoCan at h
  refine ⟨on_198, ?_⟩
  refine t_X12_laysCells hR (fun u2 hd h => ?_) hd h
  exact t_X12_whoCan_p8 hR hQ hd h
/-! CalledRiverModel.tells -/
set_option maxHeartbeats 4000000 in
set_option maxRecDepth 100000 in
def sX12_tells_p74 (v1 : Int32) (v2 : Int32) (v3 : Int32) (v4 : Int32) (v5 : Int32) (Q : Int32 → St → Prop) (K32 : Int32 → Int32 → Int32 → St → Prop) (u : St) : Prop :=
  K32 v3 v4 (v5 + (1 : Int32)) u
set_option maxHeartbeats 4000000 in
set_option maxRecDepth 100000 in
def sX12_tells_p67 (v1 : Int32) (v2 : Int32) (v5 : Int32) (v6 : Int32) (Q : Int32 → St → Prop) (K32 : Int32 → Int32 → Int32 → St → Prop) (u : St) : Prop :=
  sX12_tells_p74 v1 v2 v5 v6 v5 Q K32 u
set_option maxHeartbeats 4000000 in
set_option maxRecDepth 100000 in
def sX12_tells_p80 (v1 : Int32) (v3 : Int32) (v4 : Int32) (Q : Int32 → St → Prop) (u : St) : Prop :=
  if v3 = (-1 : Int32) then (Q (-1 : Int32) u) else (if v1 = 0 then (Q v3 u) else (Q v4 u))
set_option maxHeartbeats 4000000 in
set_option maxRecDepth 100000 in
def sX12_tells_p32b (v1 : Int32) (v2 : Int32) (Q : Int32 → St → Prop) (K32 : Int32 → Int32 → Int32 → St → Prop) (v3 : Int32) (v4 : Int32) (v5 : Int32) (u : St) : Prop :=
  if (40 : Int32) < v5 then (sX12_tells_p80 v1 v3 v4 Q u) else (if v2 = 0 then (sX12_tells_p80 v1 v3 v4 Q u) else (s_X12_mostAlike v2 v5 (fun r5 u6 => if v3 = (-1 : Int32) then (sX12_tells_p67 v1 v2 v5 r5 Q K32 u6) else (if r5 < v4 then (sX12_tells_p67 v1 v2 v5 r5 Q K32 u6) else (sX12_tells_p74 v1 v2 v3 v4 v5 Q K32 u6))) u))
set_option maxHeartbeats 4000000 in
set_option maxRecDepth 100000 in
def sX12_tells_p32n (v1 : Int32) (v2 : Int32) (Q : Int32 → St → Prop) : Nat → Int32 → Int32 → Int32 → St → Prop
  | 0 => fun _ _ _ _ => False
  | n + 1 => sX12_tells_p32b v1 v2 Q (sX12_tells_p32n v1 v2 Q n)
set_option maxHeartbeats 4000000 in
set_option maxRecDepth 100000 in
def sX12_tells_p32 (v1 : Int32) (v2 : Int32) (Q : Int32 → St → Prop) (v3 : Int32) (v4 : Int32) (v5 : Int32) (u : St) : Prop := ∃ n, sX12_tells_p32n v1 v2 Q n v3 v4 v5 u
set_option maxHeartbeats 4000000 in
set_option maxRecDepth 100000 in
def s_X12_tells (v1 : Int32) (Q : Int32 → St → Prop) (u : St) : Prop :=
  if (u.1 198 56) = 0 then (Q (-1 : Int32) u) else (s_X12_isIn v1.toInt64 (0 : Int64) (1 : Int64) (fun r1 u2 => if r1 = 0 then (Q (-1 : Int32) u2) else (s_X12_whoCan  (fun r3 u4 => sX12_tells_p32 v1 r3 Q (-1 : Int32) (0 : Int32) (0 : Int32) u4) u2)) u)
set_option maxHeartbeats 4000000 in
set_option maxRecDepth 100000 in
theorem t_X12_tells_p74 {ρ : Nat → Nat → Option Nat} (hR : RfH ρ) {v1 : Int32} {v2 : Int32} {v3 : Int32} {v4 : Int32} {v5 : Int32} {Q : Int32 → St → Prop} {QW : Int32 → Mem → Prop} {K32 : Int32 → Int32 → Int32 → St → Prop} {KW32 : Int32 → Int32 → Int32 → Mem → Prop} (hQ : ∀ (r : Int32) (u : St), DK u → Q r u → QW r (emb ρ u)) (hK32 : ∀ (x3 : Int32) (x4 : Int32) (x5 : Int32) (u : St), DK u → K32 x3 x4 x5 u → KW32 x3 x4 x5 (emb ρ u)) {u : St} (hd : DK u) (h : sX12_tells_p74 v1 v2 v3 v4 v5 Q K32 u) : X12_tells_p74 SH 198 v1 v2 v3 v4 v5 QW KW32 (emb ρ u) := by
  unfold X12_tells_p74
  unfold sX12_tells_p74 at h
  exact hK32 _ _ _ _ hd h
set_option maxHeartbeats 4000000 in
set_option maxRecDepth 100000 in
theorem t_X12_tells_p67 {ρ : Nat → Nat → Option Nat} (hR : RfH ρ) {v1 : Int32} {v2 : Int32} {v5 : Int32} {v6 : Int32} {Q : Int32 → St → Prop} {QW : Int32 → Mem → Prop} {K32 : Int32 → Int32 → Int32 → St → Prop} {KW32 : Int32 → Int32 → Int32 → Mem → Prop} (hQ : ∀ (r : Int32) (u : St), DK u → Q r u → QW r (emb ρ u)) (hK32 : ∀ (x3 : Int32) (x4 : Int32) (x5 : Int32) (u : St), DK u → K32 x3 x4 x5 u → KW32 x3 x4 x5 (emb ρ u)) {u : St} (hd : DK u) (h : sX12_tells_p67 v1 v2 v5 v6 Q K32 u) : X12_tells_p67 SH 198 v1 v2 v5 v6 QW KW32 (emb ρ u) := by
  unfold X12_tells_p67
  unfold sX12_tells_p67 at h
  exact t_X12_tells_p74 hR hQ hK32 hd h
set_option maxHeartbeats 4000000 in
set_option maxRecDepth 100000 in
theorem t_X12_tells_p80 {ρ : Nat → Nat → Option Nat} (hR : RfH ρ) {v1 : Int32} {v3 : Int32} {v4 : Int32} {Q : Int32 → St → Prop} {QW : Int32 → Mem → Prop} (hQ : ∀ (r : Int32) (u : St), DK u → Q r u → QW r (emb ρ u)) {u : St} (hd : DK u) (h : sX12_tells_p80 v1 v3 v4 Q u) : X12_tells_p80 SH v1 v3 v4 QW (emb ρ u) := by
  unfold X12_tells_p80
  unfold sX12_tells_p80 at h
  refine ite_mono (fun hc h => ?_) (fun hc h => ?_) h
  · exact hQ _ _ hd h
  · refine ite_mono (fun hc h => ?_) (fun hc h => ?_) h
    · exact hQ _ _ hd h
    · exact hQ _ _ hd h
set_option maxHeartbeats 4000000 in
set_option maxRecDepth 100000 in
theorem t_X12_tells_p32b {ρ : Nat → Nat → Option Nat} (hR : RfH ρ) {v1 : Int32} {v2 : Int32} {v3 : Int32} {v4 : Int32} {v5 : Int32} {Q : Int32 → St → Prop} {QW : Int32 → Mem → Prop} (hQ : ∀ (r : Int32) (u : St), DK u → Q r u → QW r (emb ρ u)) {K32 : Int32 → Int32 → Int32 → St → Prop} {KW32 : Int32 → Int32 → Int32 → Mem → Prop} (hK32 : ∀ (x3 : Int32) (x4 : Int32) (x5 : Int32) (u : St), DK u → K32 x3 x4 x5 u → KW32 x3 x4 x5 (emb ρ u)) {u : St} (hd : DK u) (h : sX12_tells_p32b v1 v2 Q K32 v3 v4 v5 u) : X12_tells_p32b SH 198 v1 v2 QW KW32 v3 v4 v5 (emb ρ u) := by
  unfold X12_tells_p32b
  unfold sX12_tells_p32b at h
  refine ite_mono (fun hc h => ?_) (fun hc h => ?_) h
  · exact t_X12_tells_p80 hR hQ hd h
  · refine ite_mono (fun hc h => ?_) (fun hc h => ?_) h
    · exact t_X12_tells_p80 hR hQ hd h
    · refine ⟨on_198, ?_⟩
      refine t_X12_mostAlike hR (fun r5 u6 hd h => ?_) hd h
      refine ite_mono (fun hc h => ?_) (fun hc h => ?_) h
      · exact t_X12_tells_p67 hR hQ hK32 hd h
      · refine ite_mono (fun hc h => ?_) (fun hc h => ?_) h
        · exact t_X12_tells_p67 hR hQ hK32 hd h
        · exact t_X12_tells_p74 hR hQ hK32 hd h
set_option maxHeartbeats 4000000 in
set_option maxRecDepth 100000 in
theorem t_X12_tells_p32n {ρ : Nat → Nat → Option Nat} (hR : RfH ρ) {v1 : Int32} {v2 : Int32} {Q : Int32 → St → Prop} {QW : Int32 → Mem → Prop} (hQ : ∀ (r : Int32) (u : St), DK u → Q r u → QW r (emb ρ u)) : ∀ (n : Nat) (v3 : Int32) (v4 : Int32) (v5 : Int32) (u : St), DK u → sX12_tells_p32n v1 v2 Q n v3 v4 v5 u → X12_tells_p32n SH 198 v1 v2 QW n v3 v4 v5 (emb ρ u)
  | 0, _,_,_, _,  _, h => h.elim
  | n + 1, v3, v4, v5,  u,  hd, h => t_X12_tells_p32b hR hQ (fun v3 v4 v5 u  hd h => t_X12_tells_p32n hR hQ n v3 v4 v5 u  hd h) hd h
set_option maxHeartbeats 4000000 in
set_option maxRecDepth 100000 in
theorem t_X12_tells_p32 {ρ : Nat → Nat → Option Nat} (hR : RfH ρ) {v1 : Int32} {v2 : Int32} {v3 : Int32} {v4 : Int32} {v5 : Int32} {Q : Int32 → St → Prop} {QW : Int32 → Mem → Prop} (hQ : ∀ (r : Int32) (u : St), DK u → Q r u → QW r (emb ρ u)) {u : St} (hd : DK u) (h : sX12_tells_p32 v1 v2 Q v3 v4 v5 u) : X12_tells_p32 SH 198 v1 v2 QW v3 v4 v5 (emb ρ u) := h.elim (fun n h => ⟨n, t_X12_tells_p32n hR hQ n _ _ _ _ hd h⟩)
set_option maxHeartbeats 4000000 in
set_option maxRecDepth 100000 in
theorem t_X12_tells {ρ : Nat → Nat → Option Nat} (hR : RfH ρ) {v1 : Int32} {Q : Int32 → St → Prop} {QW : Int32 → Mem → Prop} (hQ : ∀ (r : Int32) (u : St), DK u → Q r u → QW r (emb ρ u)) {u : St} (hd : DK u) (h : s_X12_tells v1 Q u) : wp_X12_tells SH 198 v1 QW (emb ρ u) := by
  unfold wp_X12_tells
  unfold s_X12_tells at h
  refine ⟨on_198, ?_⟩
  refine ite_mono (fun hc h => ?_) (fun hc h => ?_) h
  · exact hQ _ _ hd h
  · refine t_X12_isIn hR (fun r1 u2 hd h => ?_) hd h
    refine ite_mono (fun hc h => ?_) (fun hc h => ?_) h
    · exact hQ _ _ hd h
    · refine t_X12_whoCan hR (fun r3 u4 hd h => ?_) hd h
      exact t_X12_tells_p32 hR hQ hd h
/-! CalledRiverModel.undo -/
set_option maxHeartbeats 4000000 in
set_option maxRecDepth 100000 in
def sX12_undo_p21b (Q : Int32 → St → Prop) (K21 : Int32 → St → Prop) (v1 : Int32) (u : St) : Prop :=
  if (236 : Int32) ≤ v1 then (bnd (tI u 198 79 ((((u.1 198 79) + (20 : Int32)) - (1 : Int32)) - (((u.1 198 79) + (20 : Int32)) - (1 : Int32)) / (20 : Int32) * (20 : Int32))) (fun u4 => bnd (tI u4 198 78 ((u4.1 198 78) - (1 : Int32))) (fun u5 => Q (1 : Int32) u5))) else (vp_in (((236 : Int32) * (u.1 198 79)) + v1) 4720 ∧ (vp_in v1 236 ∧ bnd (tI u 241 v1.toNatClampNeg (u.1 254 (((236 : Int32) * (u.1 198 79)) + v1).toNatClampNeg)) (fun u10 => K21 (v1 + (1 : Int32)) u10)))
set_option maxHeartbeats 4000000 in
set_option maxRecDepth 100000 in
def sX12_undo_p21n (Q : Int32 → St → Prop) : Nat → Int32 → St → Prop
  | 0 => fun _ _ => False
  | n + 1 => sX12_undo_p21b Q (sX12_undo_p21n Q n)
set_option maxHeartbeats 4000000 in
set_option maxRecDepth 100000 in
def sX12_undo_p21 (Q : Int32 → St → Prop) (v1 : Int32) (u : St) : Prop := ∃ n, sX12_undo_p21n Q n v1 u
set_option maxHeartbeats 4000000 in
set_option maxRecDepth 100000 in
def s_X12_undo (Q : Int32 → St → Prop) (u : St) : Prop :=
  if (u.1 198 78) = 0 then (vp_in (4 : Int32) 6 ∧ (bnd (tI u 200 (4 : Int32).toNatClampNeg ((u.1 200 (4 : Int32).toNatClampNeg) + (1 : Int32))) (fun u3 => Q (0 : Int32) u3))) else (sX12_undo_p21 Q (0 : Int32) u)
set_option maxHeartbeats 4000000 in
set_option maxRecDepth 100000 in
theorem t_X12_undo_p21b {ρ : Nat → Nat → Option Nat} (hR : RfH ρ) {v1 : Int32} {Q : Int32 → St → Prop} {QW : Int32 → Mem → Prop} (hQ : ∀ (r : Int32) (u : St), DK u → Q r u → QW r (emb ρ u)) {K21 : Int32 → St → Prop} {KW21 : Int32 → Mem → Prop} (hK21 : ∀ (x1 : Int32) (u : St), DK u → K21 x1 u → KW21 x1 (emb ρ u)) {u : St} (hd : DK u) (h : sX12_undo_p21b Q K21 v1 u) : X12_undo_p21b SH 198 QW KW21 v1 (emb ρ u) := by
  unfold X12_undo_p21b
  unfold sX12_undo_p21b at h
  refine ite_mono (fun hc h => ?_) (fun hc h => ?_) h
  · refine ⟨on_198, ?_⟩
    refine bnd_I ?_
    replace h := bnd_e h
    refine bnd_I ?_
    replace h := bnd_e h
    exact hQ _ _ hd h
  · refine ⟨on_198, ?_⟩
    refine ⟨_, rn_198_58 hR _, ?_⟩
    refine ⟨_, rn_198_77 hR _, ?_⟩
    obtain ⟨x8, h⟩ := h
    refine ⟨ix_i (show SH[254]? = some (100, 4720) from rfl) x8, ?_⟩
    obtain ⟨x9, h⟩ := h
    refine ⟨ix_i (show SH[241]? = some (100, 236) from rfl) x9, ?_⟩
    refine bnd_I ?_
    replace h := bnd_e h
    exact hK21 _ _ hd h
set_option maxHeartbeats 4000000 in
set_option maxRecDepth 100000 in
theorem t_X12_undo_p21n {ρ : Nat → Nat → Option Nat} (hR : RfH ρ) {Q : Int32 → St → Prop} {QW : Int32 → Mem → Prop} (hQ : ∀ (r : Int32) (u : St), DK u → Q r u → QW r (emb ρ u)) : ∀ (n : Nat) (v1 : Int32) (u : St), DK u → sX12_undo_p21n Q n v1 u → X12_undo_p21n SH 198 QW n v1 (emb ρ u)
  | 0, _, _,  _, h => h.elim
  | n + 1, v1,  u,  hd, h => t_X12_undo_p21b hR hQ (fun v1 u  hd h => t_X12_undo_p21n hR hQ n v1 u  hd h) hd h
set_option maxHeartbeats 4000000 in
set_option maxRecDepth 100000 in
theorem t_X12_undo_p21 {ρ : Nat → Nat → Option Nat} (hR : RfH ρ) {v1 : Int32} {Q : Int32 → St → Prop} {QW : Int32 → Mem → Prop} (hQ : ∀ (r : Int32) (u : St), DK u → Q r u → QW r (emb ρ u)) {u : St} (hd : DK u) (h : sX12_undo_p21 Q v1 u) : X12_undo_p21 SH 198 QW v1 (emb ρ u) := h.elim (fun n h => ⟨n, t_X12_undo_p21n hR hQ n _ _ hd h⟩)
set_option maxHeartbeats 4000000 in
set_option maxRecDepth 100000 in
theorem t_X12_undo {ρ : Nat → Nat → Option Nat} (hR : RfH ρ) {Q : Int32 → St → Prop} {QW : Int32 → Mem → Prop} (hQ : ∀ (r : Int32) (u : St), DK u → Q r u → QW r (emb ρ u)) {u : St} (hd : DK u) (h : s_X12_undo Q u) : wp_X12_undo SH 198 QW (emb ρ u) := by
  unfold wp_X12_undo
  unfold s_X12_undo at h
  refine ⟨on_198, ?_⟩
  refine ite_mono (fun hc h => ?_) (fun hc h => ?_) h
  · refine ⟨_, rn_198_9 hR _, ?_⟩
    obtain ⟨x2, h⟩ := h
    refine ⟨ix_i (show SH[200]? = some (100, 6) from rfl) x2, ?_⟩
    refine bnd_I ?_
    replace h := bnd_e h
    exact hQ _ _ hd h
  · exact t_X12_undo_p21 hR hQ hd h
/-! CalledRiverModel.way -/
set_option maxHeartbeats 4000000 in
set_option maxRecDepth 100000 in
def s_X12_way (v1 : Int32) (v2 : Int32) (v3 : Int32) (Q : Int32 → St → Prop) (u : St) : Prop :=
  s_X12_isCaller v1.toInt64 (fun r1 u2 => if r1 = 0 then (Q (-1 : Int32) u2) else (s_X12_isIn v3.toInt64 (0 : Int64) (1 : Int64) (fun r3 u4 => if r3 = 0 then (Q (-1 : Int32) u4) else (s_X12_laysWay v1 (fun u6 => s_X12_isIn v2.toInt64 (0 : Int64) ((u6.1 198 64) - (1 : Int32)).toInt64 (fun r7 u8 => if r7 = 0 then (Q (-1 : Int32) u8) else (if v3 = 0 then (vp_in v2 36 ∧ (Q ((u8.1 242 v2.toNatClampNeg) - (u8.1 242 v2.toNatClampNeg) / (6 : Int32) * (6 : Int32)) u8)) else (vp_in v2 36 ∧ (Q ((u8.1 242 v2.toNatClampNeg) / (6 : Int32)) u8)))) u6) u4)) u2)) u
set_option maxHeartbeats 4000000 in
set_option maxRecDepth 100000 in
theorem t_X12_way {ρ : Nat → Nat → Option Nat} (hR : RfH ρ) {v1 : Int32} {v2 : Int32} {v3 : Int32} {Q : Int32 → St → Prop} {QW : Int32 → Mem → Prop} (hQ : ∀ (r : Int32) (u : St), DK u → Q r u → QW r (emb ρ u)) {u : St} (hd : DK u) (h : s_X12_way v1 v2 v3 Q u) : wp_X12_way SH 198 v1 v2 v3 QW (emb ρ u) := by
  unfold wp_X12_way
  unfold s_X12_way at h
  refine ⟨on_198, ?_⟩
  refine t_X12_isCaller hR (fun r1 u2 hd h => ?_) hd h
  refine ite_mono (fun hc h => ?_) (fun hc h => ?_) h
  · exact hQ _ _ hd h
  · refine t_X12_isIn hR (fun r3 u4 hd h => ?_) hd h
    refine ite_mono (fun hc h => ?_) (fun hc h => ?_) h
    · exact hQ _ _ hd h
    · refine t_X12_laysWay hR (fun u6 hd h => ?_) hd h
      refine t_X12_isIn hR (fun r7 u8 hd h => ?_) hd h
      refine ite_mono (fun hc h => ?_) (fun hc h => ?_) h
      · exact hQ _ _ hd h
      · refine ite_mono (fun hc h => ?_) (fun hc h => ?_) h
        · refine ⟨_, rn_198_63 hR _, ?_⟩
          obtain ⟨x12, h⟩ := h
          refine ⟨ix_i (show SH[242]? = some (100, 36) from rfl) x12, ?_⟩
          exact hQ _ _ hd h
        · refine ⟨_, rn_198_63 hR _, ?_⟩
          obtain ⟨x10, h⟩ := h
          refine ⟨ix_i (show SH[242]? = some (100, 36) from rfl) x10, ?_⟩
          exact hQ _ _ hd h
/-! CalledRiverModel.who -/
set_option maxHeartbeats 4000000 in
set_option maxRecDepth 100000 in
def s_X12_who (Q : Int32 → St → Prop) (u : St) : Prop :=
  if (u.1 198 56) = 0 then (Q (0 : Int32) u) else (s_X12_whoCan  (fun r1 u2 => Q r1 u2) u)
set_option maxHeartbeats 4000000 in
set_option maxRecDepth 100000 in
theorem t_X12_who {ρ : Nat → Nat → Option Nat} (hR : RfH ρ) {Q : Int32 → St → Prop} {QW : Int32 → Mem → Prop} (hQ : ∀ (r : Int32) (u : St), DK u → Q r u → QW r (emb ρ u)) {u : St} (hd : DK u) (h : s_X12_who Q u) : wp_X12_who SH 198 QW (emb ρ u) := by
  unfold wp_X12_who
  unfold s_X12_who at h
  refine ⟨on_198, ?_⟩
  refine ite_mono (fun hc h => ?_) (fun hc h => ?_) h
  · exact hQ _ _ hd h
  · refine t_X12_whoCan hR (fun r1 u2 hd h => ?_) hd h
    exact hQ _ _ hd h
