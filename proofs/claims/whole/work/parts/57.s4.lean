/-! CalledRiver.wayOf -/
set_option maxHeartbeats 4000000 in
set_option maxRecDepth 100000 in
def s_X11_wayOf (v1 : Int32) (Q : Nat → St → Prop) (u : St) : Prop :=
  s_X5_isCaller u.2.2.1 v1 (fun r2 u3 => if r2 = 0 then (Q 169 u3) else (vp_in v1 5 ∧ (if (u3.1 (178 + 4 * v1.toNatClampNeg) 5) = 0 then (s_X10_lead (178 + 4 * v1.toNatClampNeg) u3.2.2.1 42 v1 (fun u10 => Q (178 + 4 * v1.toNatClampNeg) u10) u3) else (Q (178 + 4 * v1.toNatClampNeg) u3)))) u
set_option maxHeartbeats 4000000 in
set_option maxRecDepth 100000 in
theorem t_X11_wayOf {ρ : Nat → Nat → Option Nat} (hR : RfH ρ) {v1 : Int32} {Q : Nat → St → Prop} {QW : Nat → Mem → Prop} (hQ : ∀ (r : Nat) (u : St), DK u → Ob SH r 10 → Q r u → QW r (emb ρ u)) {u : St} (hd : DK u) (h : s_X11_wayOf v1 Q u) : wp_X11_wayOf SH 0 v1 QW (emb ρ u) := by
  unfold wp_X11_wayOf
  unfold s_X11_wayOf at h
  refine ⟨on_0, ?_⟩
  refine ⟨_, rfl, ?_⟩
  have db1 := hd.1
  refine ⟨db1, ?_⟩
  refine t_X5_isCaller hR db1 (fun r2 u3 hd h => ?_) hd h
  refine ite_mono (fun hc h => ?_) (fun hc h => ?_) h
  · refine ⟨_, rn_0_13 hR _, ?_⟩
    exact hQ _ _ hd on_169 h
  · refine ⟨_, rn_0_11 hR _, ?_⟩
    obtain ⟨x5, h⟩ := h
    refine ⟨ix_i (show SH[164]? = some (104, 5) from rfl) x5, ?_⟩
    refine ⟨_, rw_104 hR _ x5, ?_⟩
    refine ⟨(ow_104 x5), ?_⟩
    refine ite_mono (fun hc h => ?_) (fun hc h => ?_) h
    · refine ⟨_, rfl, ?_⟩
      have db7 := hd.1
      refine ⟨_, rn_0_6 hR _, ?_⟩
      refine t_X10_lead hR (ow_104 x5) db7 on_42 (fun u10 hd h => ?_) hd h
      exact hQ _ _ hd (ow_104 x5) h
    · exact hQ _ _ hd (ow_104 x5) h
/-! CalledRiver.gatherFacts -/
set_option maxHeartbeats 4000000 in
set_option maxRecDepth 100000 in
def sX11_gatherFacts_p130 (v1 : Int32) (v2 : Int32) (v3 : Int32) (v4 : Nat) (s2 : Int32) (s1 : Int32) (Q : St → Prop) (K96 : Int32 → St → Prop) (u : St) : Prop :=
  vp_in s1 23 ∧ bnd (tI u 173 s1.toNatClampNeg s2) (fun u46 => vp_in v2 36 ∧ (vp_in ((18 : Int32) + v3) 23 ∧ bnd (tI u46 173 ((18 : Int32) + v3).toNatClampNeg (u46.1 (v4 + 2) v2.toNatClampNeg)) (fun u51 => K96 (v3 + (1 : Int32)) u51)))
set_option maxHeartbeats 4000000 in
set_option maxRecDepth 100000 in
def sX11_gatherFacts_p96b (v1 : Int32) (v2 : Int32) (Q : St → Prop) (K96 : Int32 → St → Prop) (v3 : Int32) (u : St) : Prop :=
  if (5 : Int32) ≤ v3 then (vp_in (0 : Int32) 23 ∧ bnd (tI u 173 (0 : Int32).toNatClampNeg (u.1 42 0)) (fun u35 => vp_in v2 36 ∧ (vp_in (5 : Int32) 23 ∧ bnd (tI u35 173 (5 : Int32).toNatClampNeg (u35.1 43 v2.toNatClampNeg)) (fun u39 => Q u39)))) else (s_X11_wayOf v3 (fun r40 u41 => s_X10_waters r40 v1 (fun r43 u44 => if r43 = 0 then (sX11_gatherFacts_p130 v1 v2 v3 r40 (0 : Int32) ((13 : Int32) + v3) Q K96 u44) else (sX11_gatherFacts_p130 v1 v2 v3 r40 (1 : Int32) ((13 : Int32) + v3) Q K96 u44)) u41) u)
set_option maxHeartbeats 4000000 in
set_option maxRecDepth 100000 in
def sX11_gatherFacts_p96n (v1 : Int32) (v2 : Int32) (Q : St → Prop) : Nat → Int32 → St → Prop
  | 0 => fun _ _ => False
  | n + 1 => sX11_gatherFacts_p96b v1 v2 Q (sX11_gatherFacts_p96n v1 v2 Q n)
set_option maxHeartbeats 4000000 in
set_option maxRecDepth 100000 in
def sX11_gatherFacts_p96 (v1 : Int32) (v2 : Int32) (Q : St → Prop) (v3 : Int32) (u : St) : Prop := ∃ n, sX11_gatherFacts_p96n v1 v2 Q n v3 u
set_option maxHeartbeats 4000000 in
set_option maxRecDepth 100000 in
def s_X11_gatherFacts (v1 : Int32) (Q : St → Prop) (u : St) : Prop :=
  vp_in v1 6 ∧ (vp_in (9 : Int32) 23 ∧ bnd (tI u 173 (9 : Int32).toNatClampNeg v1) (fun u6 => s_X5_columnOf u.2.2.1 (u.1 (u.2.2.1 + 5) v1.toNatClampNeg) (fun r7 u8 => vp_in (10 : Int32) 23 ∧ bnd (tI u8 173 (10 : Int32).toNatClampNeg r7) (fun u10 => s_X5_rowOf u10.2.2.1 (u.1 (u.2.2.1 + 5) v1.toNatClampNeg) (fun r13 u14 => vp_in (11 : Int32) 23 ∧ bnd (tI u14 173 (11 : Int32).toNatClampNeg r13) (fun u16 => vp_in v1 6 ∧ (vp_in (12 : Int32) 23 ∧ bnd (tI u16 173 (12 : Int32).toNatClampNeg (u16.1 (u16.2.2.1 + 6) v1.toNatClampNeg)) (fun u22 => vp_in v1 6 ∧ (vp_in (1 : Int32) 23 ∧ bnd (tI u22 173 (1 : Int32).toNatClampNeg (u22.1 46 v1.toNatClampNeg)) (fun u27 => vp_in (u.1 (u.2.2.1 + 5) v1.toNatClampNeg) 36 ∧ (vp_in (2 : Int32) 23 ∧ bnd (tI u27 173 (2 : Int32).toNatClampNeg (u27.1 45 (u.1 (u.2.2.1 + 5) v1.toNatClampNeg).toNatClampNeg)) (fun u31 => sX11_gatherFacts_p96 v1 (u.1 (u.2.2.1 + 5) v1.toNatClampNeg) Q (0 : Int32) u31)))))))) u10)) u6))
set_option maxHeartbeats 4000000 in
set_option maxRecDepth 100000 in
theorem t_X11_gatherFacts_p130 {ρ : Nat → Nat → Option Nat} (hR : RfH ρ) {v1 : Int32} {v2 : Int32} {v3 : Int32} {v4 : Nat} (o4 : Ob SH v4 10) {s2 : Int32} {s1 : Int32} {Q : St → Prop} {QW : Mem → Prop} {K96 : Int32 → St → Prop} {KW96 : Int32 → Mem → Prop} (hQ : ∀ (u : St), DK u → Q u → QW (emb ρ u)) (hK96 : ∀ (x3 : Int32) (u : St), DK u → K96 x3 u → KW96 x3 (emb ρ u)) {u : St} (hd : DK u) (h : sX11_gatherFacts_p130 v1 v2 v3 v4 s2 s1 Q K96 u) : X11_gatherFacts_p130 SH 0 v1 v2 v3 v4 s2 s1 173 QW KW96 (emb ρ u) := by
  unfold X11_gatherFacts_p130
  unfold sX11_gatherFacts_p130 at h
  obtain ⟨x45, h⟩ := h
  refine ⟨ix_i (show SH[173]? = some (100, 23) from rfl) x45, ?_⟩
  refine bnd_I ?_
  replace h := bnd_e h
  refine ⟨on_0, ?_⟩
  refine ⟨_, rn_0_14 hR _, ?_⟩
  refine ⟨o4, ?_⟩
  refine ⟨_, rr_10_1 hR _ o4, ?_⟩
  obtain ⟨x49, h⟩ := h
  refine ⟨ix_i (ce_10_1 o4) x49, ?_⟩
  obtain ⟨x50, h⟩ := h
  refine ⟨ix_i (show SH[173]? = some (100, 23) from rfl) x50, ?_⟩
  refine bnd_I ?_
  replace h := bnd_e h
  exact hK96 _ _ hd h
set_option maxHeartbeats 4000000 in
set_option maxRecDepth 100000 in
theorem t_X11_gatherFacts_p96b {ρ : Nat → Nat → Option Nat} (hR : RfH ρ) {v1 : Int32} {v2 : Int32} {v3 : Int32} {Q : St → Prop} {QW : Mem → Prop} (hQ : ∀ (u : St), DK u → Q u → QW (emb ρ u)) {K96 : Int32 → St → Prop} {KW96 : Int32 → Mem → Prop} (hK96 : ∀ (x3 : Int32) (u : St), DK u → K96 x3 u → KW96 x3 (emb ρ u)) {u : St} (hd : DK u) (h : sX11_gatherFacts_p96b v1 v2 Q K96 v3 u) : X11_gatherFacts_p96b SH 0 v1 v2 QW KW96 v3 (emb ρ u) := by
  unfold X11_gatherFacts_p96b
  unfold sX11_gatherFacts_p96b at h
  refine ite_mono (fun hc h => ?_) (fun hc h => ?_) h
  · refine ⟨on_0, ?_⟩
    refine ⟨_, rn_0_14 hR _, ?_⟩
    refine ⟨_, rn_0_6 hR _, ?_⟩
    refine ⟨on_42, ?_⟩
    obtain ⟨x34, h⟩ := h
    refine ⟨ix_i (show SH[173]? = some (100, 23) from rfl) x34, ?_⟩
    refine bnd_I ?_
    replace h := bnd_e h
    refine ⟨_, rr_1_2 hR _ on_42, ?_⟩
    obtain ⟨x37, h⟩ := h
    refine ⟨ix_i (show SH[43]? = some (100, 36) from rfl) x37, ?_⟩
    obtain ⟨x38, h⟩ := h
    refine ⟨ix_i (show SH[173]? = some (100, 23) from rfl) x38, ?_⟩
    refine bnd_I ?_
    replace h := bnd_e h
    exact hQ _ hd h
  · refine ⟨on_0, ?_⟩
    refine t_X11_wayOf hR (fun r40 u41 hd or40 h => ?_) hd h
    refine ⟨_, rn_0_14 hR _, ?_⟩
    refine ⟨or40, ?_⟩
    refine t_X10_waters hR or40 (fun r43 u44 hd h => ?_) hd h
    refine ite_mono (fun hc h => ?_) (fun hc h => ?_) h
    · exact t_X11_gatherFacts_p130 hR or40 hQ hK96 hd h
    · exact t_X11_gatherFacts_p130 hR or40 hQ hK96 hd h
set_option maxHeartbeats 4000000 in
set_option maxRecDepth 100000 in
theorem t_X11_gatherFacts_p96n {ρ : Nat → Nat → Option Nat} (hR : RfH ρ) {v1 : Int32} {v2 : Int32} {Q : St → Prop} {QW : Mem → Prop} (hQ : ∀ (u : St), DK u → Q u → QW (emb ρ u)) : ∀ (n : Nat) (v3 : Int32) (u : St), DK u → sX11_gatherFacts_p96n v1 v2 Q n v3 u → X11_gatherFacts_p96n SH 0 v1 v2 QW n v3 (emb ρ u)
  | 0, _, _,  _, h => h.elim
  | n + 1, v3,  u,  hd, h => t_X11_gatherFacts_p96b hR hQ (fun v3 u  hd h => t_X11_gatherFacts_p96n hR hQ n v3 u  hd h) hd h
set_option maxHeartbeats 4000000 in
set_option maxRecDepth 100000 in
theorem t_X11_gatherFacts_p96 {ρ : Nat → Nat → Option Nat} (hR : RfH ρ) {v1 : Int32} {v2 : Int32} {v3 : Int32} {Q : St → Prop} {QW : Mem → Prop} (hQ : ∀ (u : St), DK u → Q u → QW (emb ρ u)) {u : St} (hd : DK u) (h : sX11_gatherFacts_p96 v1 v2 Q v3 u) : X11_gatherFacts_p96 SH 0 v1 v2 QW v3 (emb ρ u) := h.elim (fun n h => ⟨n, t_X11_gatherFacts_p96n hR hQ n _ _ hd h⟩)
set_option maxHeartbeats 4000000 in
set_option maxRecDepth 100000 in
theorem t_X11_gatherFacts {ρ : Nat → Nat → Option Nat} (hR : RfH ρ) {v1 : Int32} {Q : St → Prop} {QW : Mem → Prop} (hQ : ∀ (u : St), DK u → Q u → QW (emb ρ u)) {u : St} (hd : DK u) (h : s_X11_gatherFacts v1 Q u) : wp_X11_gatherFacts SH 0 v1 QW (emb ρ u) := by
  unfold wp_X11_gatherFacts
  unfold s_X11_gatherFacts at h
  refine ⟨on_0, ?_⟩
  refine ⟨_, rfl, ?_⟩
  have db1 := hd.1
  refine ⟨db1, ?_⟩
  refine ⟨_, rr_5_9 hR _ db1, ?_⟩
  obtain ⟨x3, h⟩ := h
  refine ⟨ix_i (ce_5_9 db1) x3, ?_⟩
  refine ⟨_, rn_0_14 hR _, ?_⟩
  obtain ⟨x5, h⟩ := h
  refine ⟨ix_i (show SH[173]? = some (100, 23) from rfl) x5, ?_⟩
  refine bnd_I ?_
  replace h := bnd_e h
  refine t_X5_columnOf hR db1 (fun r7 u8 hd h => ?_) hd h
  obtain ⟨x9, h⟩ := h
  refine ⟨ix_i (show SH[173]? = some (100, 23) from rfl) x9, ?_⟩
  refine bnd_I ?_
  replace h := bnd_e h
  refine ⟨_, rn_0_14 hR _, ?_⟩
  refine ⟨_, rfl, ?_⟩
  have db12 := hd.1
  refine ⟨db12, ?_⟩
  refine t_X5_rowOf hR db12 (fun r13 u14 hd h => ?_) hd h
  obtain ⟨x15, h⟩ := h
  refine ⟨ix_i (show SH[173]? = some (100, 23) from rfl) x15, ?_⟩
  refine bnd_I ?_
  replace h := bnd_e h
  refine ⟨_, rn_0_14 hR _, ?_⟩
  refine ⟨_, rfl, ?_⟩
  have db18 := hd.1
  refine ⟨db18, ?_⟩
  refine ⟨_, rr_5_10 hR _ db18, ?_⟩
  obtain ⟨x20, h⟩ := h
  refine ⟨ix_i (ce_5_10 db18) x20, ?_⟩
  obtain ⟨x21, h⟩ := h
  refine ⟨ix_i (show SH[173]? = some (100, 23) from rfl) x21, ?_⟩
  refine bnd_I ?_
  replace h := bnd_e h
  refine ⟨_, rn_0_6 hR _, ?_⟩
  refine ⟨on_42, ?_⟩
  refine ⟨_, rr_1_5 hR _ on_42, ?_⟩
  obtain ⟨x25, h⟩ := h
  refine ⟨ix_i (show SH[46]? = some (100, 6) from rfl) x25, ?_⟩
  obtain ⟨x26, h⟩ := h
  refine ⟨ix_i (show SH[173]? = some (100, 23) from rfl) x26, ?_⟩
  refine bnd_I ?_
  replace h := bnd_e h
  refine ⟨_, rr_1_4 hR _ on_42, ?_⟩
  obtain ⟨x29, h⟩ := h
  refine ⟨ix_i (show SH[45]? = some (100, 36) from rfl) x29, ?_⟩
  obtain ⟨x30, h⟩ := h
  refine ⟨ix_i (show SH[173]? = some (100, 23) from rfl) x30, ?_⟩
  refine bnd_I ?_
  replace h := bnd_e h
  exact t_X11_gatherFacts_p96 hR hQ hd h
/-! CalledRiver.answerTo -/
set_option maxHeartbeats 4000000 in
set_option maxRecDepth 100000 in
def sX11_answerTo_p187 (v1 : Int32) (v2 : Int64) (v4 : Int32) (Q : Int64 → St → Prop) (K20 : Int64 → Int32 → St → Prop) (u : St) : Prop :=
  K20 v2 (v4 + (1 : Int32)) u
set_option maxHeartbeats 4000000 in
set_option maxRecDepth 100000 in
def sX11_answerTo_p113 (v1 : Int32) (v4 : Int32) (s0 : Int64) (Q : Int64 → St → Prop) (K20 : Int64 → Int32 → St → Prop) (u : St) : Prop :=
  sX11_answerTo_p187 v1 s0 v4 Q K20 u
set_option maxHeartbeats 4000000 in
set_option maxRecDepth 100000 in
def sX11_answerTo_p112 (v1 : Int32) (v2 : Int64) (v4 : Int32) (Q : Int64 → St → Prop) (K20 : Int64 → Int32 → St → Prop) (u : St) : Prop :=
  sX11_answerTo_p113 v1 v4 v2 Q K20 u
set_option maxHeartbeats 4000000 in
set_option maxRecDepth 100000 in
def sX11_answerTo_p130 (v1 : Int32) (v4 : Int32) (s0 : Int64) (Q : Int64 → St → Prop) (K20 : Int64 → Int32 → St → Prop) (u : St) : Prop :=
  sX11_answerTo_p187 v1 s0 v4 Q K20 u
set_option maxHeartbeats 4000000 in
set_option maxRecDepth 100000 in
def sX11_answerTo_p161 (v1 : Int32) (v4 : Int32) (s0 : Int64) (Q : Int64 → St → Prop) (K20 : Int64 → Int32 → St → Prop) (u : St) : Prop :=
  sX11_answerTo_p187 v1 s0 v4 Q K20 u
set_option maxHeartbeats 4000000 in
set_option maxRecDepth 100000 in
def sX11_answerTo_p183 (v1 : Int32) (v4 : Int32) (s0 : Int64) (Q : Int64 → St → Prop) (K20 : Int64 → Int32 → St → Prop) (u : St) : Prop :=
  sX11_answerTo_p187 v1 s0 v4 Q K20 u
set_option maxHeartbeats 4000000 in
set_option maxRecDepth 100000 in
def sX11_answerTo_p20b (v1 : Int32) (Q : Int64 → St → Prop) (K20 : Int64 → Int32 → St → Prop) (v2 : Int64) (v4 : Int32) (u : St) : Prop :=
  if (u.1 u.2.2.1 3) ≤ v4 then (Q v2 u) else (s_X11_gatherFacts v4 (fun u3 => s_X0_worth 3 173 (fun r6 u7 => if v1 = (0 : Int32) then (if r6 = (1 : Int32) then (if (lg_cmp v2 (-1 : Int64)) = 0 then (sX11_answerTo_p113 v1 v4 v4.toInt64 Q K20 u7) else (sX11_answerTo_p112 v1 v2 v4 Q K20 u7)) else (sX11_answerTo_p112 v1 v2 v4 Q K20 u7)) else if v1 = (1 : Int32) then (if r6 = (1 : Int32) then (sX11_answerTo_p130 v1 v4 v4.toInt64 Q K20 u7) else (sX11_answerTo_p130 v1 v4 v2 Q K20 u7)) else if v1 = (2 : Int32) then (sX11_answerTo_p187 v1 (v2 + r6.toInt64) v4 Q K20 u7) else if v1 = (3 : Int32) then (sX11_answerTo_p187 v1 (v2 + r6.toInt64) v4 Q K20 u7) else if v1 = (4 : Int32) then (if v4 = 0 then (sX11_answerTo_p161 v1 v4 r6.toInt64 Q K20 u7) else (s_J9_max_f86c9 v2 r6.toInt64 (fun r8 u9 => sX11_answerTo_p161 v1 v4 r8 Q K20 u9) u7)) else if v1 = (5 : Int32) then (if v4 = 0 then (sX11_answerTo_p183 v1 v4 r6.toInt64 Q K20 u7) else (s_J9_min_f86c9 v2 r6.toInt64 (fun r10 u11 => sX11_answerTo_p183 v1 v4 r10 Q K20 u11) u7)) else (sX11_answerTo_p187 v1 v2 v4 Q K20 u7)) u3) u)
set_option maxHeartbeats 4000000 in
set_option maxRecDepth 100000 in
def sX11_answerTo_p20n (v1 : Int32) (Q : Int64 → St → Prop) : Nat → Int64 → Int32 → St → Prop
  | 0 => fun _ _ _ => False
  | n + 1 => sX11_answerTo_p20b v1 Q (sX11_answerTo_p20n v1 Q n)
set_option maxHeartbeats 4000000 in
set_option maxRecDepth 100000 in
def sX11_answerTo_p20 (v1 : Int32) (Q : Int64 → St → Prop) (v2 : Int64) (v4 : Int32) (u : St) : Prop := ∃ n, sX11_answerTo_p20n v1 Q n v2 v4 u
set_option maxHeartbeats 4000000 in
set_option maxRecDepth 100000 in
def sX11_answerTo_p16 (v1 : Int32) (s0 : Int64) (Q : Int64 → St → Prop) (u : St) : Prop :=
  sX11_answerTo_p20 v1 Q s0 (0 : Int32) u
set_option maxHeartbeats 4000000 in
set_option maxRecDepth 100000 in
def sX11_answerTo_p9 (v1 : Int32) (Q : Int64 → St → Prop) (u : St) : Prop :=
  sX11_answerTo_p16 v1 (-1 : Int64) Q u
set_option maxHeartbeats 4000000 in
set_option maxRecDepth 100000 in
def s_X11_answerTo (v1 : Int32) (Q : Int64 → St → Prop) (u : St) : Prop :=
  if v1 = 0 then (sX11_answerTo_p9 v1 Q u) else (if v1 = (1 : Int32) then (sX11_answerTo_p9 v1 Q u) else (sX11_answerTo_p16 v1 (0 : Int64) Q u))
set_option maxHeartbeats 4000000 in
set_option maxRecDepth 100000 in
theorem t_X11_answerTo_p187 {ρ : Nat → Nat → Option Nat} (hR : RfH ρ) {v1 : Int32} {v2 : Int64} {v4 : Int32} {Q : Int64 → St → Prop} {QW : Int64 → Mem → Prop} {K20 : Int64 → Int32 → St → Prop} {KW20 : Int64 → Int32 → Mem → Prop} (hQ : ∀ (r : Int64) (u : St), DK u → Q r u → QW r (emb ρ u)) (hK20 : ∀ (x2 : Int64) (x4 : Int32) (u : St), DK u → K20 x2 x4 u → KW20 x2 x4 (emb ρ u)) {u : St} (hd : DK u) (h : sX11_answerTo_p187 v1 v2 v4 Q K20 u) : X11_answerTo_p187 SH 0 v1 v2 v4 QW KW20 (emb ρ u) := by
  unfold X11_answerTo_p187
  unfold sX11_answerTo_p187 at h
  exact hK20 _ _ _ hd h
set_option maxHeartbeats 4000000 in
set_option maxRecDepth 100000 in
theorem t_X11_answerTo_p113 {ρ : Nat → Nat → Option Nat} (hR : RfH ρ) {v1 : Int32} {v4 : Int32} {s0 : Int64} {Q : Int64 → St → Prop} {QW : Int64 → Mem → Prop} {K20 : Int64 → Int32 → St → Prop} {KW20 : Int64 → Int32 → Mem → Prop} (hQ : ∀ (r : Int64) (u : St), DK u → Q r u → QW r (emb ρ u)) (hK20 : ∀ (x2 : Int64) (x4 : Int32) (u : St), DK u → K20 x2 x4 u → KW20 x2 x4 (emb ρ u)) {u : St} (hd : DK u) (h : sX11_answerTo_p113 v1 v4 s0 Q K20 u) : X11_answerTo_p113 SH 0 v1 v4 s0 QW KW20 (emb ρ u) := by
  unfold X11_answerTo_p113
  unfold sX11_answerTo_p113 at h
  exact t_X11_answerTo_p187 hR hQ hK20 hd h
set_option maxHeartbeats 4000000 in
set_option maxRecDepth 100000 in
theorem t_X11_answerTo_p112 {ρ : Nat → Nat → Option Nat} (hR : RfH ρ) {v1 : Int32} {v2 : Int64} {v4 : Int32} {Q : Int64 → St → Prop} {QW : Int64 → Mem → Prop} {K20 : Int64 → Int32 → St → Prop} {KW20 : Int64 → Int32 → Mem → Prop} (hQ : ∀ (r : Int64) (u : St), DK u → Q r u → QW r (emb ρ u)) (hK20 : ∀ (x2 : Int64) (x4 : Int32) (u : St), DK u → K20 x2 x4 u → KW20 x2 x4 (emb ρ u)) {u : St} (hd : DK u) (h : sX11_answerTo_p112 v1 v2 v4 Q K20 u) : X11_answerTo_p112 SH 0 v1 v2 v4 QW KW20 (emb ρ u) := by
  unfold X11_answerTo_p112
  unfold sX11_answerTo_p112 at h
  exact t_X11_answerTo_p113 hR hQ hK20 hd h
set_option maxHeartbeats 4000000 in
set_option maxRecDepth 100000 in
theorem t_X11_answerTo_p130 {ρ : Nat → Nat → Option Nat} (hR : RfH ρ) {v1 : Int32} {v4 : Int32} {s0 : Int64} {Q : Int64 → St → Prop} {QW : Int64 → Mem → Prop} {K20 : Int64 → Int32 → St → Prop} {KW20 : Int64 → Int32 → Mem → Prop} (hQ : ∀ (r : Int64) (u : St), DK u → Q r u → QW r (emb ρ u)) (hK20 : ∀ (x2 : Int64) (x4 : Int32) (u : St), DK u → K20 x2 x4 u → KW20 x2 x4 (emb ρ u)) {u : St} (hd : DK u) (h : sX11_answerTo_p130 v1 v4 s0 Q K20 u) : X11_answerTo_p130 SH 0 v1 v4 s0 QW KW20 (emb ρ u) := by
  unfold X11_answerTo_p130
  unfold sX11_answerTo_p130 at h
  exact t_X11_answerTo_p187 hR hQ hK20 hd h
set_option maxHeartbeats 4000000 in
set_option maxRecDepth 100000 in
theorem t_X11_answerTo_p161 {ρ : Nat → Nat → Option Nat} (hR : RfH ρ) {v1 : Int32} {v4 : Int32} {s0 : Int64} {Q : Int64 → St → Prop} {QW : Int64 → Mem → Prop} {K20 : Int64 → Int32 → St → Prop} {KW20 : Int64 → Int32 → Mem → Prop} (hQ : ∀ (r : Int64) (u : St), DK u → Q r u → QW r (emb ρ u)) (hK20 : ∀ (x2 : Int64) (x4 : Int32) (u : St), DK u → K20 x2 x4 u → KW20 x2 x4 (emb ρ u)) {u : St} (hd : DK u) (h : sX11_answerTo_p161 v1 v4 s0 Q K20 u) : X11_answerTo_p161 SH 0 v1 v4 s0 QW KW20 (emb ρ u) := by
  unfold X11_answerTo_p161
  unfold sX11_answerTo_p161 at h
  exact t_X11_answerTo_p187 hR hQ hK20 hd h
set_option maxHeartbeats 4000000 in
set_option maxRecDepth 100000 in
theorem t_X11_answerTo_p183 {ρ : Nat → Nat → Option Nat} (hR : RfH ρ) {v1 : Int32} {v4 : Int32} {s0 : Int64} {Q : Int64 → St → Prop} {QW : Int64 → Mem → Prop} {K20 : Int64 → Int32 → St → Prop} {KW20 : Int64 → Int32 → Mem → Prop} (hQ : ∀ (r : Int64) (u : St), DK u → Q r u → QW r (emb ρ u)) (hK20 : ∀ (x2 : Int64) (x4 : Int32) (u : St), DK u → K20 x2 x4 u → KW20 x2 x4 (emb ρ u)) {u : St} (hd : DK u) (h : sX11_answerTo_p183 v1 v4 s0 Q K20 u) : X11_answerTo_p183 SH 0 v1 v4 s0 QW KW20 (emb ρ u) := by
  unfold X11_answerTo_p183
  unfold sX11_answerTo_p183 at h
  exact t_X11_answerTo_p187 hR hQ hK20 hd h
set_option maxHeartbeats 4000000 in
set_option maxRecDepth 100000 in
theorem t_X11_answerTo_p20b {ρ : Nat → Nat → Option Nat} (hR : RfH ρ) {v1 : Int32} {v2 : Int64} {v4 : Int32} {Q : Int64 → St → Prop} {QW : Int64 → Mem → Prop} (hQ : ∀ (r : Int64) (u : St), DK u → Q r u → QW r (emb ρ u)) {K20 : Int64 → Int32 → St → Prop} {KW20 : Int64 → Int32 → Mem → Prop} (hK20 : ∀ (x2 : Int64) (x4 : Int32) (u : St), DK u → K20 x2 x4 u → KW20 x2 x4 (emb ρ u)) {u : St} (hd : DK u) (h : sX11_answerTo_p20b v1 Q K20 v2 v4 u) : X11_answerTo_p20b SH 0 v1 QW KW20 v2 v4 (emb ρ u) := by
  unfold X11_answerTo_p20b
  unfold sX11_answerTo_p20b at h
  refine ⟨on_0, ?_⟩
  refine ⟨_, rfl, ?_⟩
  have db1 := hd.1
  refine ⟨db1, ?_⟩
  refine ite_mono (fun hc h => ?_) (fun hc h => ?_) h
  · exact hQ _ _ hd h
  · refine t_X11_gatherFacts hR (fun u3 hd h => ?_) hd h
    refine ⟨_, rn_0_1 hR _, ?_⟩
    refine ⟨_, rn_0_14 hR _, ?_⟩
    refine ⟨on_3, ?_⟩
    refine t_X0_worth hR on_3 (fun r6 u7 hd h => ?_) hd h
    refine ite_mono (fun hc h => ?_) (fun hc h => ?_) h
    · refine ite_mono (fun hc h => ?_) (fun hc h => ?_) h
      · refine ite_mono (fun hc h => ?_) (fun hc h => ?_) h
        · exact t_X11_answerTo_p113 hR hQ hK20 hd h
        · exact t_X11_answerTo_p112 hR hQ hK20 hd h
      · exact t_X11_answerTo_p112 hR hQ hK20 hd h
    refine ite_mono (fun hc h => ?_) (fun hc h => ?_) h
    · refine ite_mono (fun hc h => ?_) (fun hc h => ?_) h
      · exact t_X11_answerTo_p130 hR hQ hK20 hd h
      · exact t_X11_answerTo_p130 hR hQ hK20 hd h
    refine ite_mono (fun hc h => ?_) (fun hc h => ?_) h
    · exact t_X11_answerTo_p187 hR hQ hK20 hd h
    refine ite_mono (fun hc h => ?_) (fun hc h => ?_) h
    · exact t_X11_answerTo_p187 hR hQ hK20 hd h
    refine ite_mono (fun hc h => ?_) (fun hc h => ?_) h
    · refine ite_mono (fun hc h => ?_) (fun hc h => ?_) h
      · exact t_X11_answerTo_p161 hR hQ hK20 hd h
      · refine t_J9_max_f86c9 hR (fun r8 u9 hd h => ?_) hd h
        exact t_X11_answerTo_p161 hR hQ hK20 hd h
    refine ite_mono (fun hc h => ?_) (fun hc h => ?_) h
    · refine ite_mono (fun hc h => ?_) (fun hc h => ?_) h
      · exact t_X11_answerTo_p183 hR hQ hK20 hd h
      · refine t_J9_min_f86c9 hR (fun r10 u11 hd h => ?_) hd h
        exact t_X11_answerTo_p183 hR hQ hK20 hd h
    exact t_X11_answerTo_p187 hR hQ hK20 hd h
set_option maxHeartbeats 4000000 in
set_option maxRecDepth 100000 in
theorem t_X11_answerTo_p20n {ρ : Nat → Nat → Option Nat} (hR : RfH ρ) {v1 : Int32} {Q : Int64 → St → Prop} {QW : Int64 → Mem → Prop} (hQ : ∀ (r : Int64) (u : St), DK u → Q r u → QW r (emb ρ u)) : ∀ (n : Nat) (v2 : Int64) (v4 : Int32) (u : St), DK u → sX11_answerTo_p20n v1 Q n v2 v4 u → X11_answerTo_p20n SH 0 v1 QW n v2 v4 (emb ρ u)
  | 0, _,_, _,  _, h => h.elim
  | n + 1, v2, v4,  u,  hd, h => t_X11_answerTo_p20b hR hQ (fun v2 v4 u  hd h => t_X11_answerTo_p20n hR hQ n v2 v4 u  hd h) hd h
set_option maxHeartbeats 4000000 in
set_option maxRecDepth 100000 in
theorem t_X11_answerTo_p20 {ρ : Nat → Nat → Option Nat} (hR : RfH ρ) {v1 : Int32} {v2 : Int64} {v4 : Int32} {Q : Int64 → St → Prop} {QW : Int64 → Mem → Prop} (hQ : ∀ (r : Int64) (u : St), DK u → Q r u → QW r (emb ρ u)) {u : St} (hd : DK u) (h : sX11_answerTo_p20 v1 Q v2 v4 u) : X11_answerTo_p20 SH 0 v1 QW v2 v4 (emb ρ u) := h.elim (fun n h => ⟨n, t_X11_answerTo_p20n hR hQ n _ _ _ hd h⟩)
set_option maxHeartbeats 4000000 in
set_option maxRecDepth 100000 in
theorem t_X11_answerTo_p16 {ρ : Nat → Nat → Option Nat} (hR : RfH ρ) {v1 : Int32} {s0 : Int64} {Q : Int64 → St → Prop} {QW : Int64 → Mem → Prop} (hQ : ∀ (r : Int64) (u : St), DK u → Q r u → QW r (emb ρ u)) {u : St} (hd : DK u) (h : sX11_answerTo_p16 v1 s0 Q u) : X11_answerTo_p16 SH 0 v1 s0 QW (emb ρ u) := by
  unfold X11_answerTo_p16
  unfold sX11_answerTo_p16 at h
  exact t_X11_answerTo_p20 hR hQ hd h
set_option maxHeartbeats 4000000 in
set_option maxRecDepth 100000 in
theorem t_X11_answerTo_p9 {ρ : Nat → Nat → Option Nat} (hR : RfH ρ) {v1 : Int32} {Q : Int64 → St → Prop} {QW : Int64 → Mem → Prop} (hQ : ∀ (r : Int64) (u : St), DK u → Q r u → QW r (emb ρ u)) {u : St} (hd : DK u) (h : sX11_answerTo_p9 v1 Q u) : X11_answerTo_p9 SH 0 v1 QW (emb ρ u) := by
  unfold X11_answerTo_p9
  unfold sX11_answerTo_p9 at h
  exact t_X11_answerTo_p16 hR hQ hd h
set_option maxHeartbeats 4000000 in
set_option maxRecDepth 100000 in
theorem t_X11_answerTo {ρ : Nat → Nat → Option Nat} (hR : RfH ρ) {v1 : Int32} {Q : Int64 → St → Prop} {QW : Int64 → Mem → Prop} (hQ : ∀ (r : Int64) (u : St), DK u → Q r u → QW r (emb ρ u)) {u : St} (hd : DK u) (h : s_X11_answerTo v1 Q u) : wp_X11_answerTo SH 0 v1 QW (emb ρ u) := by
  unfold wp_X11_answerTo
  unfold s_X11_answerTo at h
  refine ite_mono (fun hc h => ?_) (fun hc h => ?_) h
  · exact t_X11_answerTo_p9 hR hQ hd h
  · refine ite_mono (fun hc h => ?_) (fun hc h => ?_) h
    · exact t_X11_answerTo_p9 hR hQ hd h
    · exact t_X11_answerTo_p16 hR hQ hd h
/-! CalledRiver.ask -/
set_option maxHeartbeats 4000000 in
set_option maxRecDepth 100000 in
def s_X11_ask (Q : Int64 → St → Prop) (u : St) : Prop :=
  if (u.1 u.2.2.1 0) = 0 then (bnd (tI u 1 1 (0 : Int32)) (fun u11 => Q (-1000000000000000 : Int64) u11)) else (s_X8_readQuestion 3 (fun r4 u5 => bnd (tI u5 1 1 (0 : Int32)) (fun u7 => if (u7.1 1 5) = 0 then (s_X11_answerTo r4 (fun r8 u9 => Q r8 u9) u7) else (Q (-1000000000000000 : Int64) u7))) u)
set_option maxHeartbeats 4000000 in
set_option maxRecDepth 100000 in
theorem t_X11_ask {ρ : Nat → Nat → Option Nat} (hR : RfH ρ) {Q : Int64 → St → Prop} {QW : Int64 → Mem → Prop} (hQ : ∀ (r : Int64) (u : St), DK u → Q r u → QW r (emb ρ u)) {u : St} (hd : DK u) (h : s_X11_ask Q u) : wp_X11_ask SH 0 QW (emb ρ u) := by
  unfold wp_X11_ask
  unfold s_X11_ask at h
  refine ⟨on_0, ?_⟩
  refine ⟨_, rfl, ?_⟩
  have db1 := hd.1
  refine ⟨db1, ?_⟩
  refine ite_mono (fun hc h => ?_) (fun hc h => ?_) h
  · refine ⟨_, rn_0_0 hR _, ?_⟩
    refine ⟨on_1, ?_⟩
    refine bnd_I ?_
    replace h := bnd_e h
    exact hQ _ _ hd h
  · refine ⟨_, rn_0_2 hR _, ?_⟩
    refine ⟨_, rn_0_1 hR _, ?_⟩
    refine ⟨on_6, ?_⟩
    refine t_X8_readQuestion hR on_3 (fun r4 u5 hd h => ?_) hd h
    refine ⟨_, rn_0_0 hR _, ?_⟩
    refine ⟨on_1, ?_⟩
    refine bnd_I ?_
    replace h := bnd_e h
    refine ite_mono (fun hc h => ?_) (fun hc h => ?_) h
    · refine t_X11_answerTo hR (fun r8 u9 hd h => ?_) hd h
      exact hQ _ _ hd h
    · exact hQ _ _ hd h
/-! CalledRiver.forgetWays -/
set_option maxHeartbeats 4000000 in
set_option maxRecDepth 100000 in
def sX11_forgetWays_p2b (Q : St → Prop) (K2 : Int32 → St → Prop) (v1 : Int32) (u : St) : Prop :=
  if (5 : Int32) ≤ v1 then (Q u) else (vp_in v1 5 ∧ (bnd (tI u (178 + 4 * v1.toNatClampNeg) 5 (0 : Int32)) (fun u4 => K2 (v1 + (1 : Int32)) u4)))
set_option maxHeartbeats 4000000 in
set_option maxRecDepth 100000 in
def sX11_forgetWays_p2n (Q : St → Prop) : Nat → Int32 → St → Prop
  | 0 => fun _ _ => False
  | n + 1 => sX11_forgetWays_p2b Q (sX11_forgetWays_p2n Q n)
set_option maxHeartbeats 4000000 in
set_option maxRecDepth 100000 in
def sX11_forgetWays_p2 (Q : St → Prop) (v1 : Int32) (u : St) : Prop := ∃ n, sX11_forgetWays_p2n Q n v1 u
set_option maxHeartbeats 4000000 in
set_option maxRecDepth 100000 in
def s_X11_forgetWays (Q : St → Prop) (u : St) : Prop :=
  sX11_forgetWays_p2 Q (0 : Int32) u
set_option maxHeartbeats 4000000 in
set_option maxRecDepth 100000 in
theorem t_X11_forgetWays_p2b {ρ : Nat → Nat → Option Nat} (hR : RfH ρ) {v1 : Int32} {Q : St → Prop} {QW : Mem → Prop} (hQ : ∀ (u : St), DK u → Q u → QW (emb ρ u)) {K2 : Int32 → St → Prop} {KW2 : Int32 → Mem → Prop} (hK2 : ∀ (x1 : Int32) (u : St), DK u → K2 x1 u → KW2 x1 (emb ρ u)) {u : St} (hd : DK u) (h : sX11_forgetWays_p2b Q K2 v1 u) : X11_forgetWays_p2b SH 0 QW KW2 v1 (emb ρ u) := by
  unfold X11_forgetWays_p2b
  unfold sX11_forgetWays_p2b at h
  refine ite_mono (fun hc h => ?_) (fun hc h => ?_) h
  · exact hQ _ hd h
  · refine ⟨on_0, ?_⟩
    refine ⟨_, rn_0_11 hR _, ?_⟩
    obtain ⟨x2, h⟩ := h
    refine ⟨ix_i (show SH[164]? = some (104, 5) from rfl) x2, ?_⟩
    refine ⟨_, rw_104 hR _ x2, ?_⟩
    refine ⟨(ow_104 x2), ?_⟩
    refine bnd_I ?_
    replace h := bnd_e h
    exact hK2 _ _ hd h
set_option maxHeartbeats 4000000 in
set_option maxRecDepth 100000 in
theorem t_X11_forgetWays_p2n {ρ : Nat → Nat → Option Nat} (hR : RfH ρ) {Q : St → Prop} {QW : Mem → Prop} (hQ : ∀ (u : St), DK u → Q u → QW (emb ρ u)) : ∀ (n : Nat) (v1 : Int32) (u : St), DK u → sX11_forgetWays_p2n Q n v1 u → X11_forgetWays_p2n SH 0 QW n v1 (emb ρ u)
  | 0, _, _,  _, h => h.elim
  | n + 1, v1,  u,  hd, h => t_X11_forgetWays_p2b hR hQ (fun v1 u  hd h => t_X11_forgetWays_p2n hR hQ n v1 u  hd h) hd h
set_option maxHeartbeats 4000000 in
set_option maxRecDepth 100000 in
theorem t_X11_forgetWays_p2 {ρ : Nat → Nat → Option Nat} (hR : RfH ρ) {v1 : Int32} {Q : St → Prop} {QW : Mem → Prop} (hQ : ∀ (u : St), DK u → Q u → QW (emb ρ u)) {u : St} (hd : DK u) (h : sX11_forgetWays_p2 Q v1 u) : X11_forgetWays_p2 SH 0 QW v1 (emb ρ u) := h.elim (fun n h => ⟨n, t_X11_forgetWays_p2n hR hQ n _ _ hd h⟩)
set_option maxHeartbeats 4000000 in
set_option maxRecDepth 100000 in
theorem t_X11_forgetWays {ρ : Nat → Nat → Option Nat} (hR : RfH ρ) {Q : St → Prop} {QW : Mem → Prop} (hQ : ∀ (u : St), DK u → Q u → QW (emb ρ u)) {u : St} (hd : DK u) (h : s_X11_forgetWays Q u) : wp_X11_forgetWays SH 0 QW (emb ρ u) := by
  unfold wp_X11_forgetWays
  unfold s_X11_forgetWays at h
  exact t_X11_forgetWays_p2 hR hQ hd h
/-! CalledRiver.refuse -/
set_option maxHeartbeats 4000000 in
set_option maxRecDepth 100000 in
def s_X11_refuse (v1 : Int32) (Q : Int32 → St → Prop) (u : St) : Prop :=
  vp_in v1 6 ∧ (bnd (tI u 177 v1.toNatClampNeg ((u.1 177 v1.toNatClampNeg) + (1 : Int32))) (fun u3 => Q (-1 : Int32) u3))
set_option maxHeartbeats 4000000 in
set_option maxRecDepth 100000 in
theorem t_X11_refuse {ρ : Nat → Nat → Option Nat} (hR : RfH ρ) {v1 : Int32} {Q : Int32 → St → Prop} {QW : Int32 → Mem → Prop} (hQ : ∀ (r : Int32) (u : St), DK u → Q r u → QW r (emb ρ u)) {u : St} (hd : DK u) (h : s_X11_refuse v1 Q u) : wp_X11_refuse SH 0 v1 QW (emb ρ u) := by
  unfold wp_X11_refuse
  unfold s_X11_refuse at h
  refine ⟨on_0, ?_⟩
  refine ⟨_, rn_0_17 hR _, ?_⟩
  obtain ⟨x2, h⟩ := h
  refine ⟨ix_i (show SH[177]? = some (100, 6) from rfl) x2, ?_⟩
  refine bnd_I ?_
  replace h := bnd_e h
  exact hQ _ _ hd h
/-! CalledRiver.bake -/
set_option maxHeartbeats 4000000 in
set_option maxRecDepth 100000 in
def sX11_bake_p34 (Q : Int32 → St → Prop) (u : St) : Prop :=
  s_X11_refuse (3 : Int32) (fun r16 u17 => Q (0 : Int32) u17) u
set_option maxHeartbeats 4000000 in
set_option maxRecDepth 100000 in
def s_X11_bake (v1 : Int32) (v2 : Int32) (Q : Int32 → St → Prop) (u : St) : Prop :=
  s_X5_isFarm u.2.2.1 v1 (fun r2 u3 => if r2 = 0 then (sX11_bake_p34 Q u3) else (if v2 < 0 then (sX11_bake_p34 Q u3) else (if (9 : Int32) < v2 then (sX11_bake_p34 Q u3) else (vp_in v1 6 ∧ (if (u3.1 46 v1.toNatClampNeg) = v2 then (sX11_bake_p34 Q u3) else (s_X3_remember 42 (fun u9 => vp_in v1 6 ∧ bnd (tI u9 46 v1.toNatClampNeg v2) (fun u13 => s_X11_forgetWays  (fun u15 => Q (1 : Int32) u15) u13)) u3)))))) u
set_option maxHeartbeats 4000000 in
set_option maxRecDepth 100000 in
theorem t_X11_bake_p34 {ρ : Nat → Nat → Option Nat} (hR : RfH ρ) {Q : Int32 → St → Prop} {QW : Int32 → Mem → Prop} (hQ : ∀ (r : Int32) (u : St), DK u → Q r u → QW r (emb ρ u)) {u : St} (hd : DK u) (h : sX11_bake_p34 Q u) : X11_bake_p34 SH 0 QW (emb ρ u) := by
  unfold X11_bake_p34
  unfold sX11_bake_p34 at h
  refine ⟨on_0, ?_⟩
  refine t_X11_refuse hR (fun r16 u17 hd h => ?_) hd h
  exact hQ _ _ hd h
set_option maxHeartbeats 4000000 in
set_option maxRecDepth 100000 in
theorem t_X11_bake {ρ : Nat → Nat → Option Nat} (hR : RfH ρ) {v1 : Int32} {v2 : Int32} {Q : Int32 → St → Prop} {QW : Int32 → Mem → Prop} (hQ : ∀ (r : Int32) (u : St), DK u → Q r u → QW r (emb ρ u)) {u : St} (hd : DK u) (h : s_X11_bake v1 v2 Q u) : wp_X11_bake SH 0 v1 v2 QW (emb ρ u) := by
  unfold wp_X11_bake
  unfold s_X11_bake at h
  refine ⟨on_0, ?_⟩
  refine ⟨_, rfl, ?_⟩
  have db1 := hd.1
  refine ⟨db1, ?_⟩
  refine t_X5_isFarm hR db1 (fun r2 u3 hd h => ?_) hd h
  refine ite_mono (fun hc h => ?_) (fun hc h => ?_) h
  · exact t_X11_bake_p34 hR hQ hd h
  · refine ite_mono (fun hc h => ?_) (fun hc h => ?_) h
    · exact t_X11_bake_p34 hR hQ hd h
    · refine ite_mono (fun hc h => ?_) (fun hc h => ?_) h
      · exact t_X11_bake_p34 hR hQ hd h
      · refine ⟨_, rn_0_6 hR _, ?_⟩
        refine ⟨on_42, ?_⟩
        refine ⟨_, rr_1_5 hR _ on_42, ?_⟩
        obtain ⟨x6, h⟩ := h
        refine ⟨ix_i (show SH[46]? = some (100, 6) from rfl) x6, ?_⟩
        refine ite_mono (fun hc h => ?_) (fun hc h => ?_) h
        · exact t_X11_bake_p34 hR hQ hd h
        · refine ⟨_, rn_0_8 hR _, ?_⟩
          refine ⟨on_52, ?_⟩
          refine t_X3_remember hR on_42 (fun u9 hd h => ?_) hd h
          refine ⟨_, rn_0_6 hR _, ?_⟩
          refine ⟨on_42, ?_⟩
          refine ⟨_, rr_1_5 hR _ on_42, ?_⟩
          obtain ⟨x12, h⟩ := h
          refine ⟨ix_i (show SH[46]? = some (100, 6) from rfl) x12, ?_⟩
          refine bnd_I ?_
          replace h := bnd_e h
          refine t_X11_forgetWays hR (fun u15 hd h => ?_) hd h
          exact hQ _ _ hd h
/-! CalledRiver.best -/
set_option maxHeartbeats 4000000 in
set_option maxRecDepth 100000 in
def sX11_best_p50 (v1 : Int32) (v2 : Int32) (Q : Int32 → St → Prop) (K4 : Int32 → Int32 → St → Prop) (u : St) : Prop :=
  K4 v1 (v2 + (1 : Int32)) u
set_option maxHeartbeats 4000000 in
set_option maxRecDepth 100000 in
def sX11_best_p48 (v2 : Int32) (Q : Int32 → St → Prop) (K4 : Int32 → Int32 → St → Prop) (u : St) : Prop :=
  sX11_best_p50 v2 v2 Q K4 u
set_option maxHeartbeats 4000000 in
set_option maxRecDepth 100000 in
def sX11_best_p4b (Q : Int32 → St → Prop) (K4 : Int32 → Int32 → St → Prop) (v1 : Int32) (v2 : Int32) (u : St) : Prop :=
  if (u.1 u.2.2.1 4) ≤ v2 then (Q v1 u) else (s_X11_wayOf v2 (fun r2 u3 => if (u3.1 r2 2) = (-1 : Int32) then (sX11_best_p50 v1 v2 Q K4 u3) else (if v1 = (-1 : Int32) then (sX11_best_p48 v2 Q K4 u3) else (s_X11_wayOf v2 (fun r4 u5 => s_X11_wayOf v1 (fun r6 u7 => s_X10_isBetterThan r4 r6 (fun r8 u9 => if r8 = 0 then (sX11_best_p50 v1 v2 Q K4 u9) else (sX11_best_p48 v2 Q K4 u9)) u7) u5) u3))) u)
set_option maxHeartbeats 4000000 in
set_option maxRecDepth 100000 in
def sX11_best_p4n (Q : Int32 → St → Prop) : Nat → Int32 → Int32 → St → Prop
  | 0 => fun _ _ _ => False
  | n + 1 => sX11_best_p4b Q (sX11_best_p4n Q n)
set_option maxHeartbeats 4000000 in
set_option maxRecDepth 100000 in
def sX11_best_p4 (Q : Int32 → St → Prop) (v1 : Int32) (v2 : Int32) (u : St) : Prop := ∃ n, sX11_best_p4n Q n v1 v2 u
set_option maxHeartbeats 4000000 in
set_option maxRecDepth 100000 in
def s_X11_best (Q : Int32 → St → Prop) (u : St) : Prop :=
  sX11_best_p4 Q (-1 : Int32) (0 : Int32) u
set_option maxHeartbeats 4000000 in
set_option maxRecDepth 100000 in
theorem t_X11_best_p50 {ρ : Nat → Nat → Option Nat} (hR : RfH ρ) {v1 : Int32} {v2 : Int32} {Q : Int32 → St → Prop} {QW : Int32 → Mem → Prop} {K4 : Int32 → Int32 → St → Prop} {KW4 : Int32 → Int32 → Mem → Prop} (hQ : ∀ (r : Int32) (u : St), DK u → Q r u → QW r (emb ρ u)) (hK4 : ∀ (x1 : Int32) (x2 : Int32) (u : St), DK u → K4 x1 x2 u → KW4 x1 x2 (emb ρ u)) {u : St} (hd : DK u) (h : sX11_best_p50 v1 v2 Q K4 u) : X11_best_p50 SH 0 v1 v2 QW KW4 (emb ρ u) := by
  unfold X11_best_p50
  unfold sX11_best_p50 at h
  exact hK4 _ _ _ hd h
set_option maxHeartbeats 4000000 in
set_option maxRecDepth 100000 in
theorem t_X11_best_p48 {ρ : Nat → Nat → Option Nat} (hR : RfH ρ) {v2 : Int32} {Q : Int32 → St → Prop} {QW : Int32 → Mem → Prop} {K4 : Int32 → Int32 → St → Prop} {KW4 : Int32 → Int32 → Mem → Prop} (hQ : ∀ (r : Int32) (u : St), DK u → Q r u → QW r (emb ρ u)) (hK4 : ∀ (x1 : Int32) (x2 : Int32) (u : St), DK u → K4 x1 x2 u → KW4 x1 x2 (emb ρ u)) {u : St} (hd : DK u) (h : sX11_best_p48 v2 Q K4 u) : X11_best_p48 SH 0 v2 QW KW4 (emb ρ u) := by
  unfold X11_best_p48
  unfold sX11_best_p48 at h
  exact t_X11_best_p50 hR hQ hK4 hd h
set_option maxHeartbeats 4000000 in
set_option maxRecDepth 100000 in
theorem t_X11_best_p4b {ρ : Nat → Nat → Option Nat} (hR : RfH ρ) {v1 : Int32} {v2 : Int32} {Q : Int32 → St → Prop} {QW : Int32 → Mem → Prop} (hQ : ∀ (r : Int32) (u : St), DK u → Q r u → QW r (emb ρ u)) {K4 : Int32 → Int32 → St → Prop} {KW4 : Int32 → Int32 → Mem → Prop} (hK4 : ∀ (x1 : Int32) (x2 : Int32) (u : St), DK u → K4 x1 x2 u → KW4 x1 x2 (emb ρ u)) {u : St} (hd : DK u) (h : sX11_best_p4b Q K4 v1 v2 u) : X11_best_p4b SH 0 QW KW4 v1 v2 (emb ρ u) := by
  unfold X11_best_p4b
  unfold sX11_best_p4b at h
  refine ⟨on_0, ?_⟩
  refine ⟨_, rfl, ?_⟩
  have db1 := hd.1
  refine ⟨db1, ?_⟩
  refine ite_mono (fun hc h => ?_) (fun hc h => ?_) h
  · exact hQ _ _ hd h
  · refine t_X11_wayOf hR (fun r2 u3 hd or2 h => ?_) hd h
    refine ⟨or2, ?_⟩
    refine ite_mono (fun hc h => ?_) (fun hc h => ?_) h
    · exact t_X11_best_p50 hR hQ hK4 hd h
    · refine ite_mono (fun hc h => ?_) (fun hc h => ?_) h
      · exact t_X11_best_p48 hR hQ hK4 hd h
      · refine t_X11_wayOf hR (fun r4 u5 hd or4 h => ?_) hd h
        refine t_X11_wayOf hR (fun r6 u7 hd or6 h => ?_) hd h
        refine ⟨or4, ?_⟩
        refine t_X10_isBetterThan hR or4 or6 (fun r8 u9 hd h => ?_) hd h
        refine ite_mono (fun hc h => ?_) (fun hc h => ?_) h
        · exact t_X11_best_p50 hR hQ hK4 hd h
        · exact t_X11_best_p48 hR hQ hK4 hd h
set_option maxHeartbeats 4000000 in
set_option maxRecDepth 100000 in
theorem t_X11_best_p4n {ρ : Nat → Nat → Option Nat} (hR : RfH ρ) {Q : Int32 → St → Prop} {QW : Int32 → Mem → Prop} (hQ : ∀ (r : Int32) (u : St), DK u → Q r u → QW r (emb ρ u)) : ∀ (n : Nat) (v1 : Int32) (v2 : Int32) (u : St), DK u → sX11_best_p4n Q n v1 v2 u → X11_best_p4n SH 0 QW n v1 v2 (emb ρ u)
  | 0, _,_, _,  _, h => h.elim
  | n + 1, v1, v2,  u,  hd, h => t_X11_best_p4b hR hQ (fun v1 v2 u  hd h => t_X11_best_p4n hR hQ n v1 v2 u  hd h) hd h
set_option maxHeartbeats 4000000 in
set_option maxRecDepth 100000 in
theorem t_X11_best_p4 {ρ : Nat → Nat → Option Nat} (hR : RfH ρ) {v1 : Int32} {v2 : Int32} {Q : Int32 → St → Prop} {QW : Int32 → Mem → Prop} (hQ : ∀ (r : Int32) (u : St), DK u → Q r u → QW r (emb ρ u)) {u : St} (hd : DK u) (h : sX11_best_p4 Q v1 v2 u) : X11_best_p4 SH 0 QW v1 v2 (emb ρ u) := h.elim (fun n h => ⟨n, t_X11_best_p4n hR hQ n _ _ _ hd h⟩)
set_option maxHeartbeats 4000000 in
set_option maxRecDepth 100000 in
theorem t_X11_best {ρ : Nat → Nat → Option Nat} (hR : RfH ρ) {Q : Int32 → St → Prop} {QW : Int32 → Mem → Prop} (hQ : ∀ (r : Int32) (u : St), DK u → Q r u → QW r (emb ρ u)) {u : St} (hd : DK u) (h : s_X11_best Q u) : wp_X11_best SH 0 QW (emb ρ u) := by
  unfold wp_X11_best
  unfold s_X11_best at h
  exact t_X11_best_p4 hR hQ hd h
/-! CalledRiver.bid -/
set_option maxHeartbeats 4000000 in
set_option maxRecDepth 100000 in
def sX11_bid_p37b (v1 : Int32) (v2 : Int32) (Q : Int32 → St → Prop) (K37 : Int32 → St → Prop) (v3 : Int32) (u : St) : Prop :=
  if (9 : Int32) < v3 then (Q (-1 : Int32) u) else (vp_in v1 6 ∧ bnd (tI u 51 v1.toNatClampNeg v3) (fun u14 => s_X10_lead 165 u14.2.2.1 47 v2 (fun u18 => s_X10_waters 165 v1 (fun r20 u21 => if r20 = 0 then (K37 (v3 + (1 : Int32)) u21) else (Q v3 u21)) u18) u14))
set_option maxHeartbeats 4000000 in
set_option maxRecDepth 100000 in
def sX11_bid_p37n (v1 : Int32) (v2 : Int32) (Q : Int32 → St → Prop) : Nat → Int32 → St → Prop
  | 0 => fun _ _ => False
  | n + 1 => sX11_bid_p37b v1 v2 Q (sX11_bid_p37n v1 v2 Q n)
set_option maxHeartbeats 4000000 in
set_option maxRecDepth 100000 in
def sX11_bid_p37 (v1 : Int32) (v2 : Int32) (Q : Int32 → St → Prop) (v3 : Int32) (u : St) : Prop := ∃ n, sX11_bid_p37n v1 v2 Q n v3 u
set_option maxHeartbeats 4000000 in
set_option maxRecDepth 100000 in
def s_X11_bid (v1 : Int32) (v2 : Int32) (Q : Int32 → St → Prop) (u : St) : Prop :=
  s_X5_isFarm u.2.2.1 v1 (fun r2 u3 => if r2 = 0 then (Q (-1 : Int32) u3) else (s_X5_isCaller u3.2.2.1 v2 (fun r5 u6 => if r5 = 0 then (Q (-1 : Int32) u6) else (s_X1_copy 47 42 (fun u10 => sX11_bid_p37 v1 v2 Q (0 : Int32) u10) u6)) u3)) u
set_option maxHeartbeats 4000000 in
set_option maxRecDepth 100000 in
theorem t_X11_bid_p37b {ρ : Nat → Nat → Option Nat} (hR : RfH ρ) {v1 : Int32} {v2 : Int32} {v3 : Int32} {Q : Int32 → St → Prop} {QW : Int32 → Mem → Prop} (hQ : ∀ (r : Int32) (u : St), DK u → Q r u → QW r (emb ρ u)) {K37 : Int32 → St → Prop} {KW37 : Int32 → Mem → Prop} (hK37 : ∀ (x3 : Int32) (u : St), DK u → K37 x3 u → KW37 x3 (emb ρ u)) {u : St} (hd : DK u) (h : sX11_bid_p37b v1 v2 Q K37 v3 u) : X11_bid_p37b SH 0 v1 v2 QW KW37 v3 (emb ρ u) := by
  unfold X11_bid_p37b
  unfold sX11_bid_p37b at h
  refine ite_mono (fun hc h => ?_) (fun hc h => ?_) h
  · exact hQ _ _ hd h
  · refine ⟨on_0, ?_⟩
    refine ⟨_, rn_0_7 hR _, ?_⟩
    refine ⟨on_47, ?_⟩
    refine ⟨_, rr_1_5 hR _ on_47, ?_⟩
    obtain ⟨x13, h⟩ := h
    refine ⟨ix_i (show SH[51]? = some (100, 6) from rfl) x13, ?_⟩
    refine bnd_I ?_
    replace h := bnd_e h
    refine ⟨_, rn_0_12 hR _, ?_⟩
    refine ⟨_, rfl, ?_⟩
    have db16 := hd.1
    refine ⟨on_165, ?_⟩
    refine t_X10_lead hR on_165 db16 on_47 (fun u18 hd h => ?_) hd h
    refine ⟨_, rn_0_12 hR _, ?_⟩
    refine ⟨on_165, ?_⟩
    refine t_X10_waters hR on_165 (fun r20 u21 hd h => ?_) hd h
    refine ite_mono (fun hc h => ?_) (fun hc h => ?_) h
    · exact hK37 _ _ hd h
    · exact hQ _ _ hd h
set_option maxHeartbeats 4000000 in
set_option maxRecDepth 100000 in
theorem t_X11_bid_p37n {ρ : Nat → Nat → Option Nat} (hR : RfH ρ) {v1 : Int32} {v2 : Int32} {Q : Int32 → St → Prop} {QW : Int32 → Mem → Prop} (hQ : ∀ (r : Int32) (u : St), DK u → Q r u → QW r (emb ρ u)) : ∀ (n : Nat) (v3 : Int32) (u : St), DK u → sX11_bid_p37n v1 v2 Q n v3 u → X11_bid_p37n SH 0 v1 v2 QW n v3 (emb ρ u)
  | 0, _, _,  _, h => h.elim
  | n + 1, v3,  u,  hd, h => t_X11_bid_p37b hR hQ (fun v3 u  hd h => t_X11_bid_p37n hR hQ n v3 u  hd h) hd h
set_option maxHeartbeats 4000000 in
set_option maxRecDepth 100000 in
theorem t_X11_bid_p37 {ρ : Nat → Nat → Option Nat} (hR : RfH ρ) {v1 : Int32} {v2 : Int32} {v3 : Int32} {Q : Int32 → St → Prop} {QW : Int32 → Mem → Prop} (hQ : ∀ (r : Int32) (u : St), DK u → Q r u → QW r (emb ρ u)) {u : St} (hd : DK u) (h : sX11_bid_p37 v1 v2 Q v3 u) : X11_bid_p37 SH 0 v1 v2 QW v3 (emb ρ u) := h.elim (fun n h => ⟨n, t_X11_bid_p37n hR hQ n _ _ hd h⟩)
set_option maxHeartbeats 4000000 in
set_option maxRecDepth 100000 in
theorem t_X11_bid {ρ : Nat → Nat → Option Nat} (hR : RfH ρ) {v1 : Int32} {v2 : Int32} {Q : Int32 → St → Prop} {QW : Int32 → Mem → Prop} (hQ : ∀ (r : Int32) (u : St), DK u → Q r u → QW r (emb ρ u)) {u : St} (hd : DK u) (h : s_X11_bid v1 v2 Q u) : wp_X11_bid SH 0 v1 v2 QW (emb ρ u) := by
  unfold wp_X11_bid
  unfold s_X11_bid at h
  refine ⟨on_0, ?_⟩
  refine ⟨_, rfl, ?_⟩
  have db1 := hd.1
  refine ⟨db1, ?_⟩
  refine t_X5_isFarm hR db1 (fun r2 u3 hd h => ?_) hd h
  refine ite_mono (fun hc h => ?_) (fun hc h => ?_) h
  · exact hQ _ _ hd h
  · refine ⟨_, rfl, ?_⟩
    have db4 := hd.1
    refine ⟨db4, ?_⟩
    refine t_X5_isCaller hR db4 (fun r5 u6 hd h => ?_) hd h
    refine ite_mono (fun hc h => ?_) (fun hc h => ?_) h
    · exact hQ _ _ hd h
    · refine ⟨_, rn_0_7 hR _, ?_⟩
      refine ⟨_, rn_0_6 hR _, ?_⟩
      refine ⟨on_47, ?_⟩
      refine t_X1_copy hR on_47 on_42 (fun u10 hd h => ?_) hd h
      exact t_X11_bid_p37 hR hQ hd h
/-! CalledRiver.caller -/
set_option maxHeartbeats 4000000 in
set_option maxRecDepth 100000 in
def s_X11_caller (v1 : Int32) (v2 : Int32) (Q : Int32 → St → Prop) (u : St) : Prop :=
  s_X5_isCaller u.2.2.1 v1 (fun r2 u3 => if r2 = 0 then (Q (-1 : Int32) u3) else (if v2 = 0 then (vp_in v1 5 ∧ (Q (u3.1 (u3.2.2.1 + 9) v1.toNatClampNeg) u3)) else (if v2 = (1 : Int32) then (vp_in v1 5 ∧ (Q (u3.1 (u3.2.2.1 + 10) v1.toNatClampNeg) u3)) else (Q (-1 : Int32) u3)))) u
set_option maxHeartbeats 4000000 in
set_option maxRecDepth 100000 in
theorem t_X11_caller {ρ : Nat → Nat → Option Nat} (hR : RfH ρ) {v1 : Int32} {v2 : Int32} {Q : Int32 → St → Prop} {QW : Int32 → Mem → Prop} (hQ : ∀ (r : Int32) (u : St), DK u → Q r u → QW r (emb ρ u)) {u : St} (hd : DK u) (h : s_X11_caller v1 v2 Q u) : wp_X11_caller SH 0 v1 v2 QW (emb ρ u) := by
  unfold wp_X11_caller
  unfold s_X11_caller at h
  refine ⟨on_0, ?_⟩
  refine ⟨_, rfl, ?_⟩
  have db1 := hd.1
  refine ⟨db1, ?_⟩
  refine t_X5_isCaller hR db1 (fun r2 u3 hd h => ?_) hd h
  refine ite_mono (fun hc h => ?_) (fun hc h => ?_) h
  · exact hQ _ _ hd h
  · refine ite_mono (fun hc h => ?_) (fun hc h => ?_) h
    · refine ⟨_, rfl, ?_⟩
      have db7 := hd.1
      refine ⟨db7, ?_⟩
      refine ⟨_, rr_5_13 hR _ db7, ?_⟩
      obtain ⟨x9, h⟩ := h
      refine ⟨ix_i (ce_5_13 db7) x9, ?_⟩
      exact hQ _ _ hd h
    · refine ite_mono (fun hc h => ?_) (fun hc h => ?_) h
      · refine ⟨_, rfl, ?_⟩
        have db4 := hd.1
        refine ⟨db4, ?_⟩
        refine ⟨_, rr_5_14 hR _ db4, ?_⟩
        obtain ⟨x6, h⟩ := h
        refine ⟨ix_i (ce_5_14 db4) x6, ?_⟩
        exact hQ _ _ hd h
      · exact hQ _ _ hd h
/-! CalledRiver.callersLeft -/
set_option maxHeartbeats 4000000 in
set_option maxRecDepth 100000 in
def sX11_callersLeft_p36 (v1 : Int32) (v2 : Int32) (Q : Int32 → St → Prop) (K4 : Int32 → Int32 → St → Prop) (u : St) : Prop :=
  K4 v1 (v2 + (1 : Int32)) u
set_option maxHeartbeats 4000000 in
set_option maxRecDepth 100000 in
def sX11_callersLeft_p4b (Q : Int32 → St → Prop) (K4 : Int32 → Int32 → St → Prop) (v1 : Int32) (v2 : Int32) (u : St) : Prop :=
  if (u.1 u.2.2.1 4) ≤ v2 then (Q v1 u) else (s_X11_wayOf v2 (fun r3 u4 => s_X7_fits r3 (fun r5 u6 => if r5 = 0 then (sX11_callersLeft_p36 v1 v2 Q K4 u6) else (sX11_callersLeft_p36 (v1 ||| ((1 : Int32) <<< (v2 &&& 31))) v2 Q K4 u6)) u4) u)
set_option maxHeartbeats 4000000 in
set_option maxRecDepth 100000 in
def sX11_callersLeft_p4n (Q : Int32 → St → Prop) : Nat → Int32 → Int32 → St → Prop
  | 0 => fun _ _ _ => False
  | n + 1 => sX11_callersLeft_p4b Q (sX11_callersLeft_p4n Q n)
set_option maxHeartbeats 4000000 in
set_option maxRecDepth 100000 in
def sX11_callersLeft_p4 (Q : Int32 → St → Prop) (v1 : Int32) (v2 : Int32) (u : St) : Prop := ∃ n, sX11_callersLeft_p4n Q n v1 v2 u
set_option maxHeartbeats 4000000 in
set_option maxRecDepth 100000 in
def s_X11_callersLeft (Q : Int32 → St → Prop) (u : St) : Prop :=
  sX11_callersLeft_p4 Q (0 : Int32) (0 : Int32) u
set_option maxHeartbeats 4000000 in
set_option maxRecDepth 100000 in
theorem t_X11_callersLeft_p36 {ρ : Nat → Nat → Option Nat} (hR : RfH ρ) {v1 : Int32} {v2 : Int32} {Q : Int32 → St → Prop} {QW : Int32 → Mem → Prop} {K4 : Int32 → Int32 → St → Prop} {KW4 : Int32 → Int32 → Mem → Prop} (hQ : ∀ (r : Int32) (u : St), DK u → Q r u → QW r (emb ρ u)) (hK4 : ∀ (x1 : Int32) (x2 : Int32) (u : St), DK u → K4 x1 x2 u → KW4 x1 x2 (emb ρ u)) {u : St} (hd : DK u) (h : sX11_callersLeft_p36 v1 v2 Q K4 u) : X11_callersLeft_p36 SH 0 v1 v2 QW KW4 (emb ρ u) := by
  unfold X11_callersLeft_p36
  unfold sX11_callersLeft_p36 at h
  exact hK4 _ _ _ hd h
set_option maxHeartbeats 4000000 in
set_option maxRecDepth 100000 in
theorem t_X11_callersLeft_p4b {ρ : Nat → Nat → Option Nat} (hR : RfH ρ) {v1 : Int32} {v2 : Int32} {Q : Int32 → St → Prop} {QW : Int32 → Mem → Prop} (hQ : ∀ (r : Int32) (u : St), DK u → Q r u → QW r (emb ρ u)) {K4 : Int32 → Int32 → St → Prop} {KW4 : Int32 → Int32 → Mem → Prop} (hK4 : ∀ (x1 : Int32) (x2 : Int32) (u : St), DK u → K4 x1 x2 u → KW4 x1 x2 (emb ρ u)) {u : St} (hd : DK u) (h : sX11_callersLeft_p4b Q K4 v1 v2 u) : X11_callersLeft_p4b SH 0 QW KW4 v1 v2 (emb ρ u) := by
  unfold X11_callersLeft_p4b
  unfold sX11_callersLeft_p4b at h
  refine ⟨on_0, ?_⟩
  refine ⟨_, rfl, ?_⟩
  have db1 := hd.1
  refine ⟨db1, ?_⟩
  refine ite_mono (fun hc h => ?_) (fun hc h => ?_) h
  · exact hQ _ _ hd h
  · refine ⟨_, rn_0_10 hR _, ?_⟩
    refine t_X11_wayOf hR (fun r3 u4 hd or3 h => ?_) hd h
    refine ⟨on_161, ?_⟩
    refine t_X7_fits hR or3 (fun r5 u6 hd h => ?_) hd h
    refine ite_mono (fun hc h => ?_) (fun hc h => ?_) h
    · exact t_X11_callersLeft_p36 hR hQ hK4 hd h
    · exact t_X11_callersLeft_p36 hR hQ hK4 hd h
set_option maxHeartbeats 4000000 in
set_option maxRecDepth 100000 in
theorem t_X11_callersLeft_p4n {ρ : Nat → Nat → Option Nat} (hR : RfH ρ) {Q : Int32 → St → Prop} {QW : Int32 → Mem → Prop} (hQ : ∀ (r : Int32) (u : St), DK u → Q r u → QW r (emb ρ u)) : ∀ (n : Nat) (v1 : Int32) (v2 : Int32) (u : St), DK u → sX11_callersLeft_p4n Q n v1 v2 u → X11_callersLeft_p4n SH 0 QW n v1 v2 (emb ρ u)
  | 0, _,_, _,  _, h => h.elim
  | n + 1, v1, v2,  u,  hd, h => t_X11_callersLeft_p4b hR hQ (fun v1 v2 u  hd h => t_X11_callersLeft_p4n hR hQ n v1 v2 u  hd h) hd h
set_option maxHeartbeats 4000000 in
set_option maxRecDepth 100000 in
theorem t_X11_callersLeft_p4 {ρ : Nat → Nat → Option Nat} (hR : RfH ρ) {v1 : Int32} {v2 : Int32} {Q : Int32 → St → Prop} {QW : Int32 → Mem → Prop} (hQ : ∀ (r : Int32) (u : St), DK u → Q r u → QW r (emb ρ u)) {u : St} (hd : DK u) (h : sX11_callersLeft_p4 Q v1 v2 u) : X11_callersLeft_p4 SH 0 QW v1 v2 (emb ρ u) := h.elim (fun n h => ⟨n, t_X11_callersLeft_p4n hR hQ n _ _ _ hd h⟩)
set_option maxHeartbeats 4000000 in
set_option maxRecDepth 100000 in
theorem t_X11_callersLeft {ρ : Nat → Nat → Option Nat} (hR : RfH ρ) {Q : Int32 → St → Prop} {QW : Int32 → Mem → Prop} (hQ : ∀ (r : Int32) (u : St), DK u → Q r u → QW r (emb ρ u)) {u : St} (hd : DK u) (h : s_X11_callersLeft Q u) : wp_X11_callersLeft SH 0 QW (emb ρ u) := by
  unfold wp_X11_callersLeft
  unfold s_X11_callersLeft at h
  exact t_X11_callersLeft_p4 hR hQ hd h
/-! CalledRiver.cell -/
set_option maxHeartbeats 4000000 in
set_option maxRecDepth 100000 in
def s_X11_cell (v1 : Int32) (v2 : Int32) (v3 : Int32) (Q : Int32 → St → Prop) (u : St) : Prop :=
  s_X5_placeOf u.2.2.1 v1 v2 (fun r2 u3 => if r2 = (-1 : Int32) then (Q (-1 : Int32) u3) else (if v3 = (0 : Int32) then (vp_in r2 36 ∧ (Q (u3.1 43 r2.toNatClampNeg) u3)) else if v3 = (1 : Int32) then (vp_in r2 36 ∧ (Q (u3.1 44 r2.toNatClampNeg) u3)) else if v3 = (2 : Int32) then (vp_in r2 36 ∧ (Q (u3.1 45 r2.toNatClampNeg) u3)) else if v3 = (3 : Int32) then (vp_in r2 36 ∧ (Q (u3.1 (u3.2.2.1 + 3) r2.toNatClampNeg) u3)) else (Q (-1 : Int32) u3))) u
set_option maxHeartbeats 4000000 in
set_option maxRecDepth 100000 in
theorem t_X11_cell {ρ : Nat → Nat → Option Nat} (hR : RfH ρ) {v1 : Int32} {v2 : Int32} {v3 : Int32} {Q : Int32 → St → Prop} {QW : Int32 → Mem → Prop} (hQ : ∀ (r : Int32) (u : St), DK u → Q r u → QW r (emb ρ u)) {u : St} (hd : DK u) (h : s_X11_cell v1 v2 v3 Q u) : wp_X11_cell SH 0 v1 v2 v3 QW (emb ρ u) := by
  unfold wp_X11_cell
  unfold s_X11_cell at h
  refine ⟨on_0, ?_⟩
  refine ⟨_, rfl, ?_⟩
  have db1 := hd.1
  refine ⟨db1, ?_⟩
  refine t_X5_placeOf hR db1 (fun r2 u3 hd h => ?_) hd h
  refine ite_mono (fun hc h => ?_) (fun hc h => ?_) h
  · exact hQ _ _ hd h
  · refine ite_mono (fun hc h => ?_) (fun hc h => ?_) h
    · refine ⟨_, rn_0_6 hR _, ?_⟩
      refine ⟨on_42, ?_⟩
      refine ⟨_, rr_1_2 hR _ on_42, ?_⟩
      obtain ⟨x6, h⟩ := h
      refine ⟨ix_i (show SH[43]? = some (100, 36) from rfl) x6, ?_⟩
      exact hQ _ _ hd h
    refine ite_mono (fun hc h => ?_) (fun hc h => ?_) h
    · refine ⟨_, rn_0_6 hR _, ?_⟩
      refine ⟨on_42, ?_⟩
      refine ⟨_, rr_1_3 hR _ on_42, ?_⟩
      obtain ⟨x9, h⟩ := h
      refine ⟨ix_i (show SH[44]? = some (100, 36) from rfl) x9, ?_⟩
      exact hQ _ _ hd h
    refine ite_mono (fun hc h => ?_) (fun hc h => ?_) h
    · refine ⟨_, rn_0_6 hR _, ?_⟩
      refine ⟨on_42, ?_⟩
      refine ⟨_, rr_1_4 hR _ on_42, ?_⟩
      obtain ⟨x12, h⟩ := h
      refine ⟨ix_i (show SH[45]? = some (100, 36) from rfl) x12, ?_⟩
      exact hQ _ _ hd h
    refine ite_mono (fun hc h => ?_) (fun hc h => ?_) h
    · refine ⟨_, rfl, ?_⟩
      have db13 := hd.1
      refine ⟨db13, ?_⟩
      refine ⟨_, rr_5_7 hR _ db13, ?_⟩
      obtain ⟨x15, h⟩ := h
      refine ⟨ix_i (ce_5_7 db13) x15, ?_⟩
      exact hQ _ _ hd h
    exact hQ _ _ hd h
/-! CalledRiver.drawCaller -/
set_option maxHeartbeats 4000000 in
set_option maxRecDepth 100000 in
def s_X11_drawCaller (Q : Int32 → St → Prop) (u : St) : Prop :=
  bnd (tL u 0 18 ((((1103515245 : Int64) * (u.2.1 0 18)) + (12345 : Int64)) &&& (2147483647 : Int64))) (fun u1 => if (u1.1 u1.2.2.1 4) = 0 then (Q (-1 : Int32) u1) else (¬ (u1.1 u1.2.2.1 4).toInt64 = 0 ∧ (Q (((u1.2.1 0 18) / (64 : Int64)) - ((u1.2.1 0 18) / (64 : Int64)) / (u1.1 u1.2.2.1 4).toInt64 * (u1.1 u1.2.2.1 4).toInt64).toInt32 u1)))
set_option maxHeartbeats 4000000 in
set_option maxRecDepth 100000 in
theorem t_X11_drawCaller {ρ : Nat → Nat → Option Nat} (hR : RfH ρ) {Q : Int32 → St → Prop} {QW : Int32 → Mem → Prop} (hQ : ∀ (r : Int32) (u : St), DK u → Q r u → QW r (emb ρ u)) {u : St} (hd : DK u) (h : s_X11_drawCaller Q u) : wp_X11_drawCaller SH 0 QW (emb ρ u) := by
  unfold wp_X11_drawCaller
  unfold s_X11_drawCaller at h
  refine ⟨on_0, ?_⟩
  refine bnd_L ?_
  replace h := bnd_e h
  refine ⟨_, rfl, ?_⟩
  have db2 := hd.1
  refine ⟨db2, ?_⟩
  refine ite_mono (fun hc h => ?_) (fun hc h => ?_) h
  · exact hQ _ _ hd h
  · refine ⟨h.1, ?_⟩
    replace h := h.2
    exact hQ _ _ hd h
/-! CalledRiver.passYear -/
set_option maxHeartbeats 4000000 in
set_option maxRecDepth 100000 in
def sX11_passYear_p140 (v1 : Int32) (v2 : Nat) (v3 : Int32) (s2 : Int32) (s1 : Int32) (Q : Int32 → St → Prop) (K59 : Int32 → St → Prop) (u : St) : Prop :=
  vp_in s1 23 ∧ bnd (tI u 173 s1.toNatClampNeg s2) (fun u42 => s_X0_worth (u42.2.2.1 + 14) 173 (fun r48 u49 => s_J9_min_7cf53 r48 (9 : Int32) (fun r50 u51 => s_J9_max_7cf53 (0 : Int32) r50 (fun r52 u53 => vp_in v3 6 ∧ bnd (tI u53 46 v3.toNatClampNeg r52) (fun u55 => K59 (v3 + (1 : Int32)) u55)) u51) u49) u42)
set_option maxHeartbeats 4000000 in
set_option maxRecDepth 100000 in
def sX11_passYear_p59b (v1 : Int32) (v2 : Nat) (Q : Int32 → St → Prop) (K59 : Int32 → St → Prop) (v3 : Int32) (u : St) : Prop :=
  if (u.1 u.2.2.1 3) ≤ v3 then (s_J6_bitCount_0f7a4 (u.1 v2 4) (fun r12 u13 => s_X3_keep (u13.1 42 1) (u13.1 42 0) v1 r12 (fun r16 u17 => bnd (tI u17 42 1 r16) (fun u18 => s_J9_min_7cf53 ((u18.1 42 0) + (1 : Int32)) (999 : Int32) (fun r20 u21 => bnd (tI u21 42 0 r20) (fun u22 => s_X11_forgetWays  (fun u24 => Q r12 u24) u22)) u18)) u13) u) else (vp_in (0 : Int32) 23 ∧ bnd (tI u 173 (0 : Int32).toNatClampNeg (u.1 42 0)) (fun u28 => vp_in v3 6 ∧ (vp_in (1 : Int32) 23 ∧ bnd (tI u28 173 (1 : Int32).toNatClampNeg (u28.1 46 v3.toNatClampNeg)) (fun u32 => vp_in v3 6 ∧ (vp_in (u32.1 (u.2.2.1 + 5) v3.toNatClampNeg) 36 ∧ (vp_in (2 : Int32) 23 ∧ bnd (tI u32 173 (2 : Int32).toNatClampNeg (u32.1 45 (u32.1 (u.2.2.1 + 5) v3.toNatClampNeg).toNatClampNeg)) (fun u38 => s_X10_waters v2 v3 (fun r39 u40 => if r39 = 0 then (sX11_passYear_p140 v1 v2 v3 (0 : Int32) (8 : Int32) Q K59 u40) else (sX11_passYear_p140 v1 v2 v3 (1 : Int32) (8 : Int32) Q K59 u40)) u38)))))))
set_option maxHeartbeats 4000000 in
set_option maxRecDepth 100000 in
def sX11_passYear_p59n (v1 : Int32) (v2 : Nat) (Q : Int32 → St → Prop) : Nat → Int32 → St → Prop
  | 0 => fun _ _ => False
  | n + 1 => sX11_passYear_p59b v1 v2 Q (sX11_passYear_p59n v1 v2 Q n)
set_option maxHeartbeats 4000000 in
set_option maxRecDepth 100000 in
def sX11_passYear_p59 (v1 : Int32) (v2 : Nat) (Q : Int32 → St → Prop) (v3 : Int32) (u : St) : Prop := ∃ n, sX11_passYear_p59n v1 v2 Q n v3 u
set_option maxHeartbeats 4000000 in
set_option maxRecDepth 100000 in
def sX11_passYear_p8b (v1 : Int32) (v2 : Nat) (Q : Int32 → St → Prop) (K8 : Int32 → St → Prop) (v3 : Int32) (u : St) : Prop :=
  if (u.1 v2 2) < v3 then (sX11_passYear_p59 v1 v2 Q (0 : Int32) u) else (vp_in v3 36 ∧ (vp_in (u.1 (v2 + 1) v3.toNatClampNeg) 36 ∧ (s_J9_min_7cf53 ((u.1 45 (u.1 (v2 + 1) v3.toNatClampNeg).toNatClampNeg) + (1 : Int32)) (99 : Int32) (fun r8 u9 => bnd (tI u9 45 (u.1 (v2 + 1) v3.toNatClampNeg).toNatClampNeg r8) (fun u10 => K8 (v3 + (1 : Int32)) u10)) u)))
set_option maxHeartbeats 4000000 in
set_option maxRecDepth 100000 in
def sX11_passYear_p8n (v1 : Int32) (v2 : Nat) (Q : Int32 → St → Prop) : Nat → Int32 → St → Prop
  | 0 => fun _ _ => False
  | n + 1 => sX11_passYear_p8b v1 v2 Q (sX11_passYear_p8n v1 v2 Q n)
set_option maxHeartbeats 4000000 in
set_option maxRecDepth 100000 in
def sX11_passYear_p8 (v1 : Int32) (v2 : Nat) (Q : Int32 → St → Prop) (v3 : Int32) (u : St) : Prop := ∃ n, sX11_passYear_p8n v1 v2 Q n v3 u
set_option maxHeartbeats 4000000 in
set_option maxRecDepth 100000 in
def s_X11_passYear (v1 : Int32) (Q : Int32 → St → Prop) (u : St) : Prop :=
  s_X11_wayOf v1 (fun r1 u2 => sX11_passYear_p8 v1 r1 Q (0 : Int32) u2) u
set_option maxHeartbeats 4000000 in
set_option maxRecDepth 100000 in
theorem t_X11_passYear_p140 {ρ : Nat → Nat → Option Nat} (hR : RfH ρ) {v1 : Int32} {v2 : Nat} {v3 : Int32} (o2 : Ob SH v2 10) {s2 : Int32} {s1 : Int32} {Q : Int32 → St → Prop} {QW : Int32 → Mem → Prop} {K59 : Int32 → St → Prop} {KW59 : Int32 → Mem → Prop} (hQ : ∀ (r : Int32) (u : St), DK u → Q r u → QW r (emb ρ u)) (hK59 : ∀ (x3 : Int32) (u : St), DK u → K59 x3 u → KW59 x3 (emb ρ u)) {u : St} (hd : DK u) (h : sX11_passYear_p140 v1 v2 v3 s2 s1 Q K59 u) : X11_passYear_p140 SH 0 v1 v2 v3 s2 s1 173 QW KW59 (emb ρ u) := by
  unfold X11_passYear_p140
  unfold sX11_passYear_p140 at h
  obtain ⟨x41, h⟩ := h
  refine ⟨ix_i (show SH[173]? = some (100, 23) from rfl) x41, ?_⟩
  refine bnd_I ?_
  replace h := bnd_e h
  refine ⟨on_0, ?_⟩
  refine ⟨_, rn_0_6 hR _, ?_⟩
  refine ⟨on_42, ?_⟩
  refine ⟨_, rr_1_5 hR _ on_42, ?_⟩
  refine ⟨_, rfl, ?_⟩
  have db45 := hd.1
  refine ⟨db45, ?_⟩
  refine ⟨_, rr_5_16 hR _ db45, ?_⟩
  refine ⟨_, rn_0_14 hR _, ?_⟩
  refine ⟨(ob_5_16 db45), ?_⟩
  refine t_X0_worth hR (ob_5_16 db45) (fun r48 u49 hd h => ?_) hd h
  refine t_J9_min_7cf53 hR (fun r50 u51 hd h => ?_) hd h
  refine t_J9_max_7cf53 hR (fun r52 u53 hd h => ?_) hd h
  obtain ⟨x54, h⟩ := h
  refine ⟨ix_i (show SH[46]? = some (100, 6) from rfl) x54, ?_⟩
  refine bnd_I ?_
  replace h := bnd_e h
  exact hK59 _ _ hd h
set_option maxHeartbeats 4000000 in
set_option maxRecDepth 100000 in
theorem t_X11_passYear_p59b {ρ : Nat → Nat → Option Nat} (hR : RfH ρ) {v1 : Int32} {v2 : Nat} {v3 : Int32} (o2 : Ob SH v2 10) {Q : Int32 → St → Prop} {QW : Int32 → Mem → Prop} (hQ : ∀ (r : Int32) (u : St), DK u → Q r u → QW r (emb ρ u)) {K59 : Int32 → St → Prop} {KW59 : Int32 → Mem → Prop} (hK59 : ∀ (x3 : Int32) (u : St), DK u → K59 x3 u → KW59 x3 (emb ρ u)) {u : St} (hd : DK u) (h : sX11_passYear_p59b v1 v2 Q K59 v3 u) : X11_passYear_p59b SH 0 v1 v2 QW KW59 v3 (emb ρ u) := by
  unfold X11_passYear_p59b
  unfold sX11_passYear_p59b at h
  refine ⟨on_0, ?_⟩
  refine ⟨_, rfl, ?_⟩
  have db11 := hd.1
  refine ⟨db11, ?_⟩
  refine ite_mono (fun hc h => ?_) (fun hc h => ?_) h
  · refine ⟨o2, ?_⟩
    refine t_J6_bitCount_0f7a4 hR (fun r12 u13 hd h => ?_) hd h
    refine ⟨_, rn_0_6 hR _, ?_⟩
    refine ⟨_, rn_0_8 hR _, ?_⟩
    refine ⟨on_42, ?_⟩
    refine ⟨on_52, ?_⟩
    refine t_X3_keep hR (fun r16 u17 hd h => ?_) hd h
    refine bnd_I ?_
    replace h := bnd_e h
    refine ⟨_, rn_0_6 hR _, ?_⟩
    refine ⟨on_42, ?_⟩
    refine t_J9_min_7cf53 hR (fun r20 u21 hd h => ?_) hd h
    refine bnd_I ?_
    replace h := bnd_e h
    refine t_X11_forgetWays hR (fun u24 hd h => ?_) hd h
    exact hQ _ _ hd h
  · refine ⟨_, rn_0_14 hR _, ?_⟩
    refine ⟨_, rn_0_6 hR _, ?_⟩
    refine ⟨on_42, ?_⟩
    obtain ⟨x27, h⟩ := h
    refine ⟨ix_i (show SH[173]? = some (100, 23) from rfl) x27, ?_⟩
    refine bnd_I ?_
    replace h := bnd_e h
    refine ⟨_, rr_1_5 hR _ on_42, ?_⟩
    obtain ⟨x30, h⟩ := h
    refine ⟨ix_i (show SH[46]? = some (100, 6) from rfl) x30, ?_⟩
    obtain ⟨x31, h⟩ := h
    refine ⟨ix_i (show SH[173]? = some (100, 23) from rfl) x31, ?_⟩
    refine bnd_I ?_
    replace h := bnd_e h
    refine ⟨_, rr_1_4 hR _ on_42, ?_⟩
    refine ⟨_, rr_5_9 hR _ db11, ?_⟩
    obtain ⟨x35, h⟩ := h
    refine ⟨ix_i (ce_5_9 db11) x35, ?_⟩
    obtain ⟨x36, h⟩ := h
    refine ⟨ix_i (show SH[45]? = some (100, 36) from rfl) x36, ?_⟩
    obtain ⟨x37, h⟩ := h
    refine ⟨ix_i (show SH[173]? = some (100, 23) from rfl) x37, ?_⟩
    refine bnd_I ?_
    replace h := bnd_e h
    refine ⟨o2, ?_⟩
    refine t_X10_waters hR o2 (fun r39 u40 hd h => ?_) hd h
    refine ite_mono (fun hc h => ?_) (fun hc h => ?_) h
    · exact t_X11_passYear_p140 hR o2 hQ hK59 hd h
    · exact t_X11_passYear_p140 hR o2 hQ hK59 hd h
set_option maxHeartbeats 4000000 in
set_option maxRecDepth 100000 in
theorem t_X11_passYear_p59n {ρ : Nat → Nat → Option Nat} (hR : RfH ρ) {v1 : Int32} {v2 : Nat} (o2 : Ob SH v2 10) {Q : Int32 → St → Prop} {QW : Int32 → Mem → Prop} (hQ : ∀ (r : Int32) (u : St), DK u → Q r u → QW r (emb ρ u)) : ∀ (n : Nat) (v3 : Int32) (u : St), DK u → sX11_passYear_p59n v1 v2 Q n v3 u → X11_passYear_p59n SH 0 v1 v2 QW n v3 (emb ρ u)
  | 0, _, _,  _, h => h.elim
  | n + 1, v3,  u,  hd, h => t_X11_passYear_p59b hR o2 hQ (fun v3 u  hd h => t_X11_passYear_p59n hR o2 hQ n v3 u  hd h) hd h
set_option maxHeartbeats 4000000 in
set_option maxRecDepth 100000 in
theorem t_X11_passYear_p59 {ρ : Nat → Nat → Option Nat} (hR : RfH ρ) {v1 : Int32} {v2 : Nat} {v3 : Int32} (o2 : Ob SH v2 10) {Q : Int32 → St → Prop} {QW : Int32 → Mem → Prop} (hQ : ∀ (r : Int32) (u : St), DK u → Q r u → QW r (emb ρ u)) {u : St} (hd : DK u) (h : sX11_passYear_p59 v1 v2 Q v3 u) : X11_passYear_p59 SH 0 v1 v2 QW v3 (emb ρ u) := h.elim (fun n h => ⟨n, t_X11_passYear_p59n hR o2 hQ n _ _ hd h⟩)
set_option maxHeartbeats 4000000 in
set_option maxRecDepth 100000 in
theorem t_X11_passYear_p8b {ρ : Nat → Nat → Option Nat} (hR : RfH ρ) {v1 : Int32} {v2 : Nat} {v3 : Int32} (o2 : Ob SH v2 10) {Q : Int32 → St → Prop} {QW : Int32 → Mem → Prop} (hQ : ∀ (r : Int32) (u : St), DK u → Q r u → QW r (emb ρ u)) {K8 : Int32 → St → Prop} {KW8 : Int32 → Mem → Prop} (hK8 : ∀ (x3 : Int32) (u : St), DK u → K8 x3 u → KW8 x3 (emb ρ u)) {u : St} (hd : DK u) (h : sX11_passYear_p8b v1 v2 Q K8 v3 u) : X11_passYear_p8b SH 0 v1 v2 QW KW8 v3 (emb ρ u) := by
  unfold X11_passYear_p8b
  unfold sX11_passYear_p8b at h
  refine ⟨o2, ?_⟩
  refine ite_mono (fun hc h => ?_) (fun hc h => ?_) h
  · exact t_X11_passYear_p59 hR o2 hQ hd h
  · refine ⟨_, rr_10_0 hR _ o2, ?_⟩
    obtain ⟨x4, h⟩ := h
    refine ⟨ix_i (ce_10_0 o2) x4, ?_⟩
    refine ⟨on_0, ?_⟩
    refine ⟨_, rn_0_6 hR _, ?_⟩
    refine ⟨on_42, ?_⟩
    refine ⟨_, rr_1_4 hR _ on_42, ?_⟩
    obtain ⟨x7, h⟩ := h
    refine ⟨ix_i (show SH[45]? = some (100, 36) from rfl) x7, ?_⟩
    refine t_J9_min_7cf53 hR (fun r8 u9 hd h => ?_) hd h
    refine bnd_I ?_
    replace h := bnd_e h
    exact hK8 _ _ hd h
set_option maxHeartbeats 4000000 in
set_option maxRecDepth 100000 in
theorem t_X11_passYear_p8n {ρ : Nat → Nat → Option Nat} (hR : RfH ρ) {v1 : Int32} {v2 : Nat} (o2 : Ob SH v2 10) {Q : Int32 → St → Prop} {QW : Int32 → Mem → Prop} (hQ : ∀ (r : Int32) (u : St), DK u → Q r u → QW r (emb ρ u)) : ∀ (n : Nat) (v3 : Int32) (u : St), DK u → sX11_passYear_p8n v1 v2 Q n v3 u → X11_passYear_p8n SH 0 v1 v2 QW n v3 (emb ρ u)
  | 0, _, _,  _, h => h.elim
  | n + 1, v3,  u,  hd, h => t_X11_passYear_p8b hR o2 hQ (fun v3 u  hd h => t_X11_passYear_p8n hR o2 hQ n v3 u  hd h) hd h
set_option maxHeartbeats 4000000 in
set_option maxRecDepth 100000 in
theorem t_X11_passYear_p8 {ρ : Nat → Nat → Option Nat} (hR : RfH ρ) {v1 : Int32} {v2 : Nat} {v3 : Int32} (o2 : Ob SH v2 10) {Q : Int32 → St → Prop} {QW : Int32 → Mem → Prop} (hQ : ∀ (r : Int32) (u : St), DK u → Q r u → QW r (emb ρ u)) {u : St} (hd : DK u) (h : sX11_passYear_p8 v1 v2 Q v3 u) : X11_passYear_p8 SH 0 v1 v2 QW v3 (emb ρ u) := h.elim (fun n h => ⟨n, t_X11_passYear_p8n hR o2 hQ n _ _ hd h⟩)
set_option maxHeartbeats 4000000 in
set_option maxRecDepth 100000 in
theorem t_X11_passYear {ρ : Nat → Nat → Option Nat} (hR : RfH ρ) {v1 : Int32} {Q : Int32 → St → Prop} {QW : Int32 → Mem → Prop} (hQ : ∀ (r : Int32) (u : St), DK u → Q r u → QW r (emb ρ u)) {u : St} (hd : DK u) (h : s_X11_passYear v1 Q u) : wp_X11_passYear SH 0 v1 QW (emb ρ u) := by
  unfold wp_X11_passYear
  unfold s_X11_passYear at h
  refine ⟨on_0, ?_⟩
  refine t_X11_wayOf hR (fun r1 u2 hd or1 h => ?_) hd h
  exact t_X11_passYear_p8 hR or1 hQ hd h
/-! CalledRiver.chance -/
set_option maxHeartbeats 4000000 in
set_option maxRecDepth 100000 in
def sX11_chance_p38 (Q : Int32 → St → Prop) (u : St) : Prop :=
  s_X11_refuse (2 : Int32) (fun r7 u8 => Q r7 u8) u
set_option maxHeartbeats 4000000 in
set_option maxRecDepth 100000 in
def sX11_chance_p59b (v1 : Int32) (Q : Int32 → St → Prop) (K59 : Int32 → Int32 → St → Prop) (v2 : Int32) (v3 : Int32) (u : St) : Prop :=
  if v1 ≤ v3 then (Q v2 u) else (s_X11_drawCaller  (fun r9 u10 => s_X11_passYear r9 (fun r11 u12 => K59 (v2 + r11) (v3 + (1 : Int32)) u12) u10) u)
set_option maxHeartbeats 4000000 in
set_option maxRecDepth 100000 in
def sX11_chance_p59n (v1 : Int32) (Q : Int32 → St → Prop) : Nat → Int32 → Int32 → St → Prop
  | 0 => fun _ _ _ => False
  | n + 1 => sX11_chance_p59b v1 Q (sX11_chance_p59n v1 Q n)
set_option maxHeartbeats 4000000 in
set_option maxRecDepth 100000 in
def sX11_chance_p59 (v1 : Int32) (Q : Int32 → St → Prop) (v2 : Int32) (v3 : Int32) (u : St) : Prop := ∃ n, sX11_chance_p59n v1 Q n v2 v3 u
set_option maxHeartbeats 4000000 in
set_option maxRecDepth 100000 in
def s_X11_chance (v1 : Int32) (Q : Int32 → St → Prop) (u : St) : Prop :=
  if v1 < (1 : Int32) then (sX11_chance_p38 Q u) else (if (100 : Int32) < v1 then (sX11_chance_p38 Q u) else (s_X11_wayOf (0 : Int32) (fun r1 u2 => if (u2.1 r1 2) = (-1 : Int32) then (sX11_chance_p38 Q u2) else (if ((u2.1 42 0) + v1) ≤ (999 : Int32) then (s_X3_remember 42 (fun u6 => sX11_chance_p59 v1 Q (0 : Int32) (0 : Int32) u6) u2) else (sX11_chance_p38 Q u2))) u))
set_option maxHeartbeats 4000000 in
set_option maxRecDepth 100000 in
theorem t_X11_chance_p38 {ρ : Nat → Nat → Option Nat} (hR : RfH ρ) {Q : Int32 → St → Prop} {QW : Int32 → Mem → Prop} (hQ : ∀ (r : Int32) (u : St), DK u → Q r u → QW r (emb ρ u)) {u : St} (hd : DK u) (h : sX11_chance_p38 Q u) : X11_chance_p38 SH 0 QW (emb ρ u) := by
  unfold X11_chance_p38
  unfold sX11_chance_p38 at h
  refine ⟨on_0, ?_⟩
  refine t_X11_refuse hR (fun r7 u8 hd h => ?_) hd h
  exact hQ _ _ hd h
set_option maxHeartbeats 4000000 in
set_option maxRecDepth 100000 in
theorem t_X11_chance_p59b {ρ : Nat → Nat → Option Nat} (hR : RfH ρ) {v1 : Int32} {v2 : Int32} {v3 : Int32} {Q : Int32 → St → Prop} {QW : Int32 → Mem → Prop} (hQ : ∀ (r : Int32) (u : St), DK u → Q r u → QW r (emb ρ u)) {K59 : Int32 → Int32 → St → Prop} {KW59 : Int32 → Int32 → Mem → Prop} (hK59 : ∀ (x2 : Int32) (x3 : Int32) (u : St), DK u → K59 x2 x3 u → KW59 x2 x3 (emb ρ u)) {u : St} (hd : DK u) (h : sX11_chance_p59b v1 Q K59 v2 v3 u) : X11_chance_p59b SH 0 v1 QW KW59 v2 v3 (emb ρ u) := by
  unfold X11_chance_p59b
  unfold sX11_chance_p59b at h
  refine ite_mono (fun hc h => ?_) (fun hc h => ?_) h
  · exact hQ _ _ hd h
  · refine ⟨on_0, ?_⟩
    refine t_X11_drawCaller hR (fun r9 u10 hd h => ?_) hd h
    refine t_X11_passYear hR (fun r11 u12 hd h => ?_) hd h
    exact hK59 _ _ _ hd h
set_option maxHeartbeats 4000000 in
set_option maxRecDepth 100000 in
theorem t_X11_chance_p59n {ρ : Nat → Nat → Option Nat} (hR : RfH ρ) {v1 : Int32} {Q : Int32 → St → Prop} {QW : Int32 → Mem → Prop} (hQ : ∀ (r : Int32) (u : St), DK u → Q r u → QW r (emb ρ u)) : ∀ (n : Nat) (v2 : Int32) (v3 : Int32) (u : St), DK u → sX11_chance_p59n v1 Q n v2 v3 u → X11_chance_p59n SH 0 v1 QW n v2 v3 (emb ρ u)
  | 0, _,_, _,  _, h => h.elim
  | n + 1, v2, v3,  u,  hd, h => t_X11_chance_p59b hR hQ (fun v2 v3 u  hd h => t_X11_chance_p59n hR hQ n v2 v3 u  hd h) hd h
set_option maxHeartbeats 4000000 in
set_option maxRecDepth 100000 in
theorem t_X11_chance_p59 {ρ : Nat → Nat → Option Nat} (hR : RfH ρ) {v1 : Int32} {v2 : Int32} {v3 : Int32} {Q : Int32 → St → Prop} {QW : Int32 → Mem → Prop} (hQ : ∀ (r : Int32) (u : St), DK u → Q r u → QW r (emb ρ u)) {u : St} (hd : DK u) (h : sX11_chance_p59 v1 Q v2 v3 u) : X11_chance_p59 SH 0 v1 QW v2 v3 (emb ρ u) := h.elim (fun n h => ⟨n, t_X11_chance_p59n hR hQ n _ _ _ hd h⟩)
set_option maxHeartbeats 4000000 in
set_option maxRecDepth 100000 in
theorem t_X11_chance {ρ : Nat → Nat → Option Nat} (hR : RfH ρ) {v1 : Int32} {Q : Int32 → St → Prop} {QW : Int32 → Mem → Prop} (hQ : ∀ (r : Int32) (u : St), DK u → Q r u → QW r (emb ρ u)) {u : St} (hd : DK u) (h : s_X11_chance v1 Q u) : wp_X11_chance SH 0 v1 QW (emb ρ u) := by
  unfold wp_X11_chance
  unfold s_X11_chance at h
  refine ite_mono (fun hc h => ?_) (fun hc h => ?_) h
  · exact t_X11_chance_p38 hR hQ hd h
  · refine ite_mono (fun hc h => ?_) (fun hc h => ?_) h
    · exact t_X11_chance_p38 hR hQ hd h
    · refine ⟨on_0, ?_⟩
      refine t_X11_wayOf hR (fun r1 u2 hd or1 h => ?_) hd h
      refine ⟨or1, ?_⟩
      refine ite_mono (fun hc h => ?_) (fun hc h => ?_) h
      · exact t_X11_chance_p38 hR hQ hd h
      · refine ⟨_, rn_0_6 hR _, ?_⟩
        refine ⟨on_42, ?_⟩
        refine ite_mono (fun hc h => ?_) (fun hc h => ?_) h
        · refine ⟨_, rn_0_8 hR _, ?_⟩
          refine ⟨on_52, ?_⟩
          refine t_X3_remember hR on_42 (fun u6 hd h => ?_) hd h
          exact t_X11_chance_p59 hR hQ hd h
        · exact t_X11_chance_p38 hR hQ hd h
/-! CalledRiver.dig -/
set_option maxHeartbeats 4000000 in
set_option maxRecDepth 100000 in
def sX11_dig_p40 (Q : Int32 → St → Prop) (u : St) : Prop :=
  s_X11_refuse (3 : Int32) (fun r21 u22 => Q r21 u22) u
set_option maxHeartbeats 4000000 in
set_option maxRecDepth 100000 in
def s_X11_dig (v1 : Int32) (v2 : Int32) (Q : Int32 → St → Prop) (u : St) : Prop :=
  s_X5_placeOf u.2.2.1 v1 v2 (fun r2 u3 => if r2 = (-1 : Int32) then (sX11_dig_p40 Q u3) else (vp_in r2 36 ∧ (if (u3.1 44 r2.toNatClampNeg) = (1 : Int32) then (sX11_dig_p40 Q u3) else (vp_in r2 36 ∧ (if (u3.1 43 r2.toNatClampNeg) = 0 then (sX11_dig_p40 Q u3) else (s_X3_remember 42 (fun u11 => vp_in r2 36 ∧ (bnd (tI u11 43 r2.toNatClampNeg ((u11.1 43 r2.toNatClampNeg) - (1 : Int32))) (fun u15 => s_X11_forgetWays  (fun u17 => vp_in r2 36 ∧ (Q (u17.1 43 r2.toNatClampNeg) u17)) u15))) u3)))))) u
set_option maxHeartbeats 4000000 in
set_option maxRecDepth 100000 in
theorem t_X11_dig_p40 {ρ : Nat → Nat → Option Nat} (hR : RfH ρ) {Q : Int32 → St → Prop} {QW : Int32 → Mem → Prop} (hQ : ∀ (r : Int32) (u : St), DK u → Q r u → QW r (emb ρ u)) {u : St} (hd : DK u) (h : sX11_dig_p40 Q u) : X11_dig_p40 SH 0 QW (emb ρ u) := by
  unfold X11_dig_p40
  unfold sX11_dig_p40 at h
  refine ⟨on_0, ?_⟩
  refine t_X11_refuse hR (fun r21 u22 hd h => ?_) hd h
  exact hQ _ _ hd h
set_option maxHeartbeats 4000000 in
set_option maxRecDepth 100000 in
theorem t_X11_dig {ρ : Nat → Nat → Option Nat} (hR : RfH ρ) {v1 : Int32} {v2 : Int32} {Q : Int32 → St → Prop} {QW : Int32 → Mem → Prop} (hQ : ∀ (r : Int32) (u : St), DK u → Q r u → QW r (emb ρ u)) {u : St} (hd : DK u) (h : s_X11_dig v1 v2 Q u) : wp_X11_dig SH 0 v1 v2 QW (emb ρ u) := by
  unfold wp_X11_dig
  unfold s_X11_dig at h
  refine ⟨on_0, ?_⟩
  refine ⟨_, rfl, ?_⟩
  have db1 := hd.1
  refine ⟨db1, ?_⟩
  refine t_X5_placeOf hR db1 (fun r2 u3 hd h => ?_) hd h
  refine ite_mono (fun hc h => ?_) (fun hc h => ?_) h
  · exact t_X11_dig_p40 hR hQ hd h
  · refine ⟨_, rn_0_6 hR _, ?_⟩
    refine ⟨on_42, ?_⟩
    refine ⟨_, rr_1_3 hR _ on_42, ?_⟩
    obtain ⟨x6, h⟩ := h
    refine ⟨ix_i (show SH[44]? = some (100, 36) from rfl) x6, ?_⟩
    refine ite_mono (fun hc h => ?_) (fun hc h => ?_) h
    · exact t_X11_dig_p40 hR hQ hd h
    · refine ⟨_, rr_1_2 hR _ on_42, ?_⟩
      obtain ⟨x8, h⟩ := h
      refine ⟨ix_i (show SH[43]? = some (100, 36) from rfl) x8, ?_⟩
      refine ite_mono (fun hc h => ?_) (fun hc h => ?_) h
      · exact t_X11_dig_p40 hR hQ hd h
      · refine ⟨_, rn_0_8 hR _, ?_⟩
        refine ⟨on_52, ?_⟩
        refine t_X3_remember hR on_42 (fun u11 hd h => ?_) hd h
        refine ⟨_, rn_0_6 hR _, ?_⟩
        refine ⟨on_42, ?_⟩
        refine ⟨_, rr_1_2 hR _ on_42, ?_⟩
        obtain ⟨x14, h⟩ := h
        refine ⟨ix_i (show SH[43]? = some (100, 36) from rfl) x14, ?_⟩
        refine bnd_I ?_
        replace h := bnd_e h
        refine t_X11_forgetWays hR (fun u17 hd h => ?_) hd h
        refine ⟨_, rn_0_6 hR _, ?_⟩
        refine ⟨on_42, ?_⟩
        refine ⟨_, rr_1_2 hR _ on_42, ?_⟩
        obtain ⟨x20, h⟩ := h
        refine ⟨ix_i (show SH[43]? = some (100, 36) from rfl) x20, ?_⟩
        exact hQ _ _ hd h
/-! CalledRiver.dry -/
set_option maxHeartbeats 4000000 in
set_option maxRecDepth 100000 in
def sX11_dry_p82 (v1 : Int32) (v2 : Int32) (v3 : Int32) (Q : Int32 → St → Prop) (K31 : Int32 → Int32 → St → Prop) (u : St) : Prop :=
  K31 v2 (v3 + (1 : Int32)) u
set_option maxHeartbeats 4000000 in
set_option maxRecDepth 100000 in
def sX11_dry_p57 (v1 : Int32) (v2 : Int32) (v3 : Int32) (s0 : Int32) (Q : Int32 → St → Prop) (K31 : Int32 → Int32 → St → Prop) (u : St) : Prop :=
  if s0 = 0 then (sX11_dry_p82 v1 v2 v3 Q K31 u) else (s_X2_fewestFor (v1 &&& (v3 ^^^ (-1 : Int32))) (fun r12 u13 => if r12 = (-1 : Int32) then (sX11_dry_p82 v1 v2 v3 Q K31 u13) else (sX11_dry_p82 v1 v3 v3 Q K31 u13)) u)
set_option maxHeartbeats 4000000 in
set_option maxRecDepth 100000 in
def sX11_dry_p52 (v1 : Int32) (v2 : Int32) (v3 : Int32) (Q : Int32 → St → Prop) (K31 : Int32 → Int32 → St → Prop) (u : St) : Prop :=
  sX11_dry_p57 v1 v2 v3 (1 : Int32) Q K31 u
set_option maxHeartbeats 4000000 in
set_option maxRecDepth 100000 in
def sX11_dry_p31b (v1 : Int32) (Q : Int32 → St → Prop) (K31 : Int32 → Int32 → St → Prop) (v2 : Int32) (v3 : Int32) (u : St) : Prop :=
  if v1 < v3 then (Q v2 u) else (if v2 = (-1 : Int32) then (sX11_dry_p52 v1 v2 v3 Q K31 u) else (s_J6_bitCount_0f7a4 v3 (fun r7 u8 => s_J6_bitCount_0f7a4 v2 (fun r9 u10 => if r9 ≤ r7 then (sX11_dry_p57 v1 v2 v3 (0 : Int32) Q K31 u10) else (sX11_dry_p52 v1 v2 v3 Q K31 u10)) u8) u))
set_option maxHeartbeats 4000000 in
set_option maxRecDepth 100000 in
def sX11_dry_p31n (v1 : Int32) (Q : Int32 → St → Prop) : Nat → Int32 → Int32 → St → Prop
  | 0 => fun _ _ _ => False
  | n + 1 => sX11_dry_p31b v1 Q (sX11_dry_p31n v1 Q n)
set_option maxHeartbeats 4000000 in
set_option maxRecDepth 100000 in
def sX11_dry_p31 (v1 : Int32) (Q : Int32 → St → Prop) (v2 : Int32) (v3 : Int32) (u : St) : Prop := ∃ n, sX11_dry_p31n v1 Q n v2 v3 u
set_option maxHeartbeats 4000000 in
set_option maxRecDepth 100000 in
def s_X11_dry (Q : Int32 → St → Prop) (u : St) : Prop :=
  s_X2_search u.2.2.1 42 (fun u5 => sX11_dry_p31 (((1 : Int32) <<< ((u5.1 u5.2.2.1 3) &&& 31)) - (1 : Int32)) Q (-1 : Int32) (0 : Int32) u5) u
set_option maxHeartbeats 4000000 in
set_option maxRecDepth 100000 in
theorem t_X11_dry_p82 {ρ : Nat → Nat → Option Nat} (hR : RfH ρ) {v1 : Int32} {v2 : Int32} {v3 : Int32} {Q : Int32 → St → Prop} {QW : Int32 → Mem → Prop} {K31 : Int32 → Int32 → St → Prop} {KW31 : Int32 → Int32 → Mem → Prop} (hQ : ∀ (r : Int32) (u : St), DK u → Q r u → QW r (emb ρ u)) (hK31 : ∀ (x2 : Int32) (x3 : Int32) (u : St), DK u → K31 x2 x3 u → KW31 x2 x3 (emb ρ u)) {u : St} (hd : DK u) (h : sX11_dry_p82 v1 v2 v3 Q K31 u) : X11_dry_p82 SH 0 v1 v2 v3 QW KW31 (emb ρ u) := by
  unfold X11_dry_p82
  unfold sX11_dry_p82 at h
  exact hK31 _ _ _ hd h
set_option maxHeartbeats 4000000 in
set_option maxRecDepth 100000 in
theorem t_X11_dry_p57 {ρ : Nat → Nat → Option Nat} (hR : RfH ρ) {v1 : Int32} {v2 : Int32} {v3 : Int32} {s0 : Int32} {Q : Int32 → St → Prop} {QW : Int32 → Mem → Prop} {K31 : Int32 → Int32 → St → Prop} {KW31 : Int32 → Int32 → Mem → Prop} (hQ : ∀ (r : Int32) (u : St), DK u → Q r u → QW r (emb ρ u)) (hK31 : ∀ (x2 : Int32) (x3 : Int32) (u : St), DK u → K31 x2 x3 u → KW31 x2 x3 (emb ρ u)) {u : St} (hd : DK u) (h : sX11_dry_p57 v1 v2 v3 s0 Q K31 u) : X11_dry_p57 SH 0 v1 v2 v3 s0 QW KW31 (emb ρ u) := by
  unfold X11_dry_p57
  unfold sX11_dry_p57 at h
  refine ite_mono (fun hc h => ?_) (fun hc h => ?_) h
  · exact t_X11_dry_p82 hR hQ hK31 hd h
  · refine ⟨on_0, ?_⟩
    refine ⟨_, rn_0_9 hR _, ?_⟩
    refine ⟨on_157, ?_⟩
    refine t_X2_fewestFor hR (fun r12 u13 hd h => ?_) hd h
    refine ite_mono (fun hc h => ?_) (fun hc h => ?_) h
    · exact t_X11_dry_p82 hR hQ hK31 hd h
    · exact t_X11_dry_p82 hR hQ hK31 hd h
set_option maxHeartbeats 4000000 in
set_option maxRecDepth 100000 in
theorem t_X11_dry_p52 {ρ : Nat → Nat → Option Nat} (hR : RfH ρ) {v1 : Int32} {v2 : Int32} {v3 : Int32} {Q : Int32 → St → Prop} {QW : Int32 → Mem → Prop} {K31 : Int32 → Int32 → St → Prop} {KW31 : Int32 → Int32 → Mem → Prop} (hQ : ∀ (r : Int32) (u : St), DK u → Q r u → QW r (emb ρ u)) (hK31 : ∀ (x2 : Int32) (x3 : Int32) (u : St), DK u → K31 x2 x3 u → KW31 x2 x3 (emb ρ u)) {u : St} (hd : DK u) (h : sX11_dry_p52 v1 v2 v3 Q K31 u) : X11_dry_p52 SH 0 v1 v2 v3 QW KW31 (emb ρ u) := by
  unfold X11_dry_p52
  unfold sX11_dry_p52 at h
  exact t_X11_dry_p57 hR hQ hK31 hd h
set_option maxHeartbeats 4000000 in
set_option maxRecDepth 100000 in
theorem t_X11_dry_p31b {ρ : Nat → Nat → Option Nat} (hR : RfH ρ) {v1 : Int32} {v2 : Int32} {v3 : Int32} {Q : Int32 → St → Prop} {QW : Int32 → Mem → Prop} (hQ : ∀ (r : Int32) (u : St), DK u → Q r u → QW r (emb ρ u)) {K31 : Int32 → Int32 → St → Prop} {KW31 : Int32 → Int32 → Mem → Prop} (hK31 : ∀ (x2 : Int32) (x3 : Int32) (u : St), DK u → K31 x2 x3 u → KW31 x2 x3 (emb ρ u)) {u : St} (hd : DK u) (h : sX11_dry_p31b v1 Q K31 v2 v3 u) : X11_dry_p31b SH 0 v1 QW KW31 v2 v3 (emb ρ u) := by
  unfold X11_dry_p31b
  unfold sX11_dry_p31b at h
  refine ite_mono (fun hc h => ?_) (fun hc h => ?_) h
  · exact hQ _ _ hd h
  · refine ite_mono (fun hc h => ?_) (fun hc h => ?_) h
    · exact t_X11_dry_p52 hR hQ hK31 hd h
    · refine t_J6_bitCount_0f7a4 hR (fun r7 u8 hd h => ?_) hd h
      refine t_J6_bitCount_0f7a4 hR (fun r9 u10 hd h => ?_) hd h
      refine ite_mono (fun hc h => ?_) (fun hc h => ?_) h
      · exact t_X11_dry_p57 hR hQ hK31 hd h
      · exact t_X11_dry_p52 hR hQ hK31 hd h
set_option maxHeartbeats 4000000 in
set_option maxRecDepth 100000 in
theorem t_X11_dry_p31n {ρ : Nat → Nat → Option Nat} (hR : RfH ρ) {v1 : Int32} {Q : Int32 → St → Prop} {QW : Int32 → Mem → Prop} (hQ : ∀ (r : Int32) (u : St), DK u → Q r u → QW r (emb ρ u)) : ∀ (n : Nat) (v2 : Int32) (v3 : Int32) (u : St), DK u → sX11_dry_p31n v1 Q n v2 v3 u → X11_dry_p31n SH 0 v1 QW n v2 v3 (emb ρ u)
  | 0, _,_, _,  _, h => h.elim
  | n + 1, v2, v3,  u,  hd, h => t_X11_dry_p31b hR hQ (fun v2 v3 u  hd h => t_X11_dry_p31n hR hQ n v2 v3 u  hd h) hd h
set_option maxHeartbeats 4000000 in
set_option maxRecDepth 100000 in
theorem t_X11_dry_p31 {ρ : Nat → Nat → Option Nat} (hR : RfH ρ) {v1 : Int32} {v2 : Int32} {v3 : Int32} {Q : Int32 → St → Prop} {QW : Int32 → Mem → Prop} (hQ : ∀ (r : Int32) (u : St), DK u → Q r u → QW r (emb ρ u)) {u : St} (hd : DK u) (h : sX11_dry_p31 v1 Q v2 v3 u) : X11_dry_p31 SH 0 v1 QW v2 v3 (emb ρ u) := h.elim (fun n h => ⟨n, t_X11_dry_p31n hR hQ n _ _ _ hd h⟩)
set_option maxHeartbeats 4000000 in
set_option maxRecDepth 100000 in
theorem t_X11_dry {ρ : Nat → Nat → Option Nat} (hR : RfH ρ) {Q : Int32 → St → Prop} {QW : Int32 → Mem → Prop} (hQ : ∀ (r : Int32) (u : St), DK u → Q r u → QW r (emb ρ u)) {u : St} (hd : DK u) (h : s_X11_dry Q u) : wp_X11_dry SH 0 QW (emb ρ u) := by
  unfold wp_X11_dry
  unfold s_X11_dry at h
  refine ⟨on_0, ?_⟩
  refine ⟨_, rn_0_9 hR _, ?_⟩
  refine ⟨_, rfl, ?_⟩
  have db2 := hd.1
  refine ⟨_, rn_0_6 hR _, ?_⟩
  refine ⟨on_157, ?_⟩
  refine t_X2_search hR db2 on_42 (fun u5 hd h => ?_) hd h
  refine ⟨_, rfl, ?_⟩
  have db6 := hd.1
  refine ⟨db6, ?_⟩
  exact t_X11_dry_p31 hR hQ hd h
/-! CalledRiver.end -/
set_option maxHeartbeats 4000000 in
set_option maxRecDepth 100000 in
def sX11_end_p15 (Q : Int32 → St → Prop) (u : St) : Prop :=
  s_X11_refuse (0 : Int32) (fun r3 u4 => Q (0 : Int32) u4) u
set_option maxHeartbeats 4000000 in
set_option maxRecDepth 100000 in
def s_X11_end (v1 : Int32) (Q : Int32 → St → Prop) (u : St) : Prop :=
  if v1 < 0 then (sX11_end_p15 Q u) else (if v1 ≤ (u.1 1 1) then (bnd (tI u 1 1 v1) (fun u2 => Q (1 : Int32) u2)) else (sX11_end_p15 Q u))
set_option maxHeartbeats 4000000 in
set_option maxRecDepth 100000 in
theorem t_X11_end_p15 {ρ : Nat → Nat → Option Nat} (hR : RfH ρ) {Q : Int32 → St → Prop} {QW : Int32 → Mem → Prop} (hQ : ∀ (r : Int32) (u : St), DK u → Q r u → QW r (emb ρ u)) {u : St} (hd : DK u) (h : sX11_end_p15 Q u) : X11_end_p15 SH 0 QW (emb ρ u) := by
  unfold X11_end_p15
  unfold sX11_end_p15 at h
  refine ⟨on_0, ?_⟩
  refine t_X11_refuse hR (fun r3 u4 hd h => ?_) hd h
  exact hQ _ _ hd h
set_option maxHeartbeats 4000000 in
set_option maxRecDepth 100000 in
theorem t_X11_end {ρ : Nat → Nat → Option Nat} (hR : RfH ρ) {v1 : Int32} {Q : Int32 → St → Prop} {QW : Int32 → Mem → Prop} (hQ : ∀ (r : Int32) (u : St), DK u → Q r u → QW r (emb ρ u)) {u : St} (hd : DK u) (h : s_X11_end v1 Q u) : wp_X11_end SH 0 v1 QW (emb ρ u) := by
  unfold wp_X11_end
  unfold s_X11_end at h
  refine ite_mono (fun hc h => ?_) (fun hc h => ?_) h
  · exact t_X11_end_p15 hR hQ hd h
  · refine ⟨on_0, ?_⟩
    refine ⟨_, rn_0_0 hR _, ?_⟩
    refine ⟨on_1, ?_⟩
    refine ite_mono (fun hc h => ?_) (fun hc h => ?_) h
    · refine bnd_I ?_
      replace h := bnd_e h
      exact hQ _ _ hd h
    · exact t_X11_end_p15 hR hQ hd h
/-! CalledRiver.farm -/
set_option maxHeartbeats 4000000 in
set_option maxRecDepth 100000 in
def s_X11_farm (v1 : Int32) (v2 : Int32) (Q : Int32 → St → Prop) (u : St) : Prop :=
  s_X5_isFarm u.2.2.1 v1 (fun r2 u3 => if r2 = 0 then (Q (-1 : Int32) u3) else (if v2 = (0 : Int32) then (vp_in v1 6 ∧ (s_X5_columnOf u3.2.2.1 (u3.1 (u3.2.2.1 + 5) v1.toNatClampNeg) (fun r7 u8 => Q r7 u8) u3)) else if v2 = (1 : Int32) then (vp_in v1 6 ∧ (s_X5_rowOf u3.2.2.1 (u3.1 (u3.2.2.1 + 5) v1.toNatClampNeg) (fun r12 u13 => Q r12 u13) u3)) else if v2 = (2 : Int32) then (vp_in v1 6 ∧ (Q (u3.1 (u3.2.2.1 + 6) v1.toNatClampNeg) u3)) else if v2 = (3 : Int32) then (vp_in v1 6 ∧ (Q (u3.1 46 v1.toNatClampNeg) u3)) else (Q (-1 : Int32) u3))) u
set_option maxHeartbeats 4000000 in
set_option maxRecDepth 100000 in
theorem t_X11_farm {ρ : Nat → Nat → Option Nat} (hR : RfH ρ) {v1 : Int32} {v2 : Int32} {Q : Int32 → St → Prop} {QW : Int32 → Mem → Prop} (hQ : ∀ (r : Int32) (u : St), DK u → Q r u → QW r (emb ρ u)) {u : St} (hd : DK u) (h : s_X11_farm v1 v2 Q u) : wp_X11_farm SH 0 v1 v2 QW (emb ρ u) := by
  unfold wp_X11_farm
  unfold s_X11_farm at h
  refine ⟨on_0, ?_⟩
  refine ⟨_, rfl, ?_⟩
  have db1 := hd.1
  refine ⟨db1, ?_⟩
  refine t_X5_isFarm hR db1 (fun r2 u3 hd h => ?_) hd h
  refine ite_mono (fun hc h => ?_) (fun hc h => ?_) h
  · exact hQ _ _ hd h
  · refine ite_mono (fun hc h => ?_) (fun hc h => ?_) h
    · refine ⟨_, rfl, ?_⟩
      have db4 := hd.1
      refine ⟨db4, ?_⟩
      refine ⟨_, rr_5_9 hR _ db4, ?_⟩
      obtain ⟨x6, h⟩ := h
      refine ⟨ix_i (ce_5_9 db4) x6, ?_⟩
      refine t_X5_columnOf hR db4 (fun r7 u8 hd h => ?_) hd h
      exact hQ _ _ hd h
    refine ite_mono (fun hc h => ?_) (fun hc h => ?_) h
    · refine ⟨_, rfl, ?_⟩
      have db9 := hd.1
      refine ⟨db9, ?_⟩
      refine ⟨_, rr_5_9 hR _ db9, ?_⟩
      obtain ⟨x11, h⟩ := h
      refine ⟨ix_i (ce_5_9 db9) x11, ?_⟩
      refine t_X5_rowOf hR db9 (fun r12 u13 hd h => ?_) hd h
      exact hQ _ _ hd h
    refine ite_mono (fun hc h => ?_) (fun hc h => ?_) h
    · refine ⟨_, rfl, ?_⟩
      have db14 := hd.1
      refine ⟨db14, ?_⟩
      refine ⟨_, rr_5_10 hR _ db14, ?_⟩
      obtain ⟨x16, h⟩ := h
      refine ⟨ix_i (ce_5_10 db14) x16, ?_⟩
      exact hQ _ _ hd h
    refine ite_mono (fun hc h => ?_) (fun hc h => ?_) h
    · refine ⟨_, rn_0_6 hR _, ?_⟩
      refine ⟨on_42, ?_⟩
      refine ⟨_, rr_1_5 hR _ on_42, ?_⟩
      obtain ⟨x19, h⟩ := h
      refine ⟨ix_i (show SH[46]? = some (100, 6) from rfl) x19, ?_⟩
      exact hQ _ _ hd h
    exact hQ _ _ hd h
/-! CalledRiver.fault -/
set_option maxHeartbeats 4000000 in
set_option maxRecDepth 100000 in
def s_X11_fault (v1 : Int32) (Q : Int32 → St → Prop) (u : St) : Prop :=
  if v1 = 0 then (Q (u.1 1 5) u) else (if v1 = (1 : Int32) then (Q (u.1 1 6) u) else (Q (-1 : Int32) u))
set_option maxHeartbeats 4000000 in
set_option maxRecDepth 100000 in
theorem t_X11_fault {ρ : Nat → Nat → Option Nat} (hR : RfH ρ) {v1 : Int32} {Q : Int32 → St → Prop} {QW : Int32 → Mem → Prop} (hQ : ∀ (r : Int32) (u : St), DK u → Q r u → QW r (emb ρ u)) {u : St} (hd : DK u) (h : s_X11_fault v1 Q u) : wp_X11_fault SH 0 v1 QW (emb ρ u) := by
  unfold wp_X11_fault
  unfold s_X11_fault at h
  refine ite_mono (fun hc h => ?_) (fun hc h => ?_) h
  · refine ⟨on_0, ?_⟩
    refine ⟨_, rn_0_0 hR _, ?_⟩
    refine ⟨on_1, ?_⟩
    exact hQ _ _ hd h
  · refine ite_mono (fun hc h => ?_) (fun hc h => ?_) h
    · refine ⟨on_0, ?_⟩
      refine ⟨_, rn_0_0 hR _, ?_⟩
      refine ⟨on_1, ?_⟩
      exact hQ _ _ hd h
    · exact hQ _ _ hd h
/-! CalledRiver.feed -/
set_option maxHeartbeats 4000000 in
set_option maxRecDepth 100000 in
def s_X11_feed (v1 : Int32) (v2 : Int32) (v3 : Int32) (v4 : Int32) (v5 : Int32) (Q : Int32 → St → Prop) (u : St) : Prop :=
  if ((u.1 1 1) + (20 : Int32)) ≤ (1600 : Int32) then (s_X9_append v1 (fun u3 => s_X9_append v2 (fun u6 => s_X9_append v3 (fun u9 => s_X9_append v4 (fun u12 => s_X9_append v5 (fun u15 => Q (u15.1 1 1) u15) u12) u9) u6) u3) u) else (s_X11_refuse (0 : Int32) (fun r17 u18 => Q r17 u18) u)
set_option maxHeartbeats 4000000 in
set_option maxRecDepth 100000 in
theorem t_X11_feed {ρ : Nat → Nat → Option Nat} (hR : RfH ρ) {v1 : Int32} {v2 : Int32} {v3 : Int32} {v4 : Int32} {v5 : Int32} {Q : Int32 → St → Prop} {QW : Int32 → Mem → Prop} (hQ : ∀ (r : Int32) (u : St), DK u → Q r u → QW r (emb ρ u)) {u : St} (hd : DK u) (h : s_X11_feed v1 v2 v3 v4 v5 Q u) : wp_X11_feed SH 0 v1 v2 v3 v4 v5 QW (emb ρ u) := by
  unfold wp_X11_feed
  unfold s_X11_feed at h
  refine ⟨on_0, ?_⟩
  refine ⟨_, rn_0_0 hR _, ?_⟩
  refine ⟨on_1, ?_⟩
  refine ite_mono (fun hc h => ?_) (fun hc h => ?_) h
  · refine t_X9_append hR (fun u3 hd h => ?_) hd h
    refine ⟨_, rn_0_0 hR _, ?_⟩
    refine ⟨on_1, ?_⟩
    refine t_X9_append hR (fun u6 hd h => ?_) hd h
    refine ⟨_, rn_0_0 hR _, ?_⟩
    refine ⟨on_1, ?_⟩
    refine t_X9_append hR (fun u9 hd h => ?_) hd h
    refine ⟨_, rn_0_0 hR _, ?_⟩
    refine ⟨on_1, ?_⟩
    refine t_X9_append hR (fun u12 hd h => ?_) hd h
    refine ⟨_, rn_0_0 hR _, ?_⟩
    refine ⟨on_1, ?_⟩
    refine t_X9_append hR (fun u15 hd h => ?_) hd h
    refine ⟨_, rn_0_0 hR _, ?_⟩
    refine ⟨on_1, ?_⟩
    exact hQ _ _ hd h
  · refine t_X11_refuse hR (fun r17 u18 hd h => ?_) hd h
    exact hQ _ _ hd h
/-! CalledRiver.has -/
set_option maxHeartbeats 4000000 in
set_option maxRecDepth 100000 in
def s_X11_has (v1 : Int32) (Q : Int32 → St → Prop) (u : St) : Prop :=
  if v1 = (0 : Int32) then (Q (u.1 u.2.2.1 0) u) else if v1 = (1 : Int32) then (Q (u.1 u.2.2.1 1) u) else if v1 = (2 : Int32) then (Q (u.1 u.2.2.1 3) u) else if v1 = (3 : Int32) then (Q (u.1 u.2.2.1 4) u) else if v1 = (4 : Int32) then (Q (u.1 42 0) u) else if v1 = (5 : Int32) then (s_X1_stones 42 (fun r7 u8 => Q r7 u8) u) else if v1 = (6 : Int32) then (if (u.1 u.2.2.1 0) = 0 then (Q (-1 : Int32) u) else (Q (u.1 u.2.2.1 2) u)) else if v1 = (7 : Int32) then (s_X1_pies 42 (fun r11 u12 => Q r11 u12) u) else if v1 = (8 : Int32) then (s_J9_min_7cf53 (u.1 42 1) (40 : Int32) (fun r14 u15 => Q r14 u15) u) else if v1 = (9 : Int32) then (Q (u.1 161 0) u) else if v1 = (10 : Int32) then (Q (u.1 52 0) u) else (Q (-1 : Int32) u)
set_option maxHeartbeats 4000000 in
set_option maxRecDepth 100000 in
theorem t_X11_has {ρ : Nat → Nat → Option Nat} (hR : RfH ρ) {v1 : Int32} {Q : Int32 → St → Prop} {QW : Int32 → Mem → Prop} (hQ : ∀ (r : Int32) (u : St), DK u → Q r u → QW r (emb ρ u)) {u : St} (hd : DK u) (h : s_X11_has v1 Q u) : wp_X11_has SH 0 v1 QW (emb ρ u) := by
  unfold wp_X11_has
  unfold s_X11_has at h
  refine ite_mono (fun hc h => ?_) (fun hc h => ?_) h
  · refine ⟨on_0, ?_⟩
    refine ⟨_, rfl, ?_⟩
    have db1 := hd.1
    refine ⟨db1, ?_⟩
    exact hQ _ _ hd h
  refine ite_mono (fun hc h => ?_) (fun hc h => ?_) h
  · refine ⟨on_0, ?_⟩
    refine ⟨_, rfl, ?_⟩
    have db2 := hd.1
    refine ⟨db2, ?_⟩
    exact hQ _ _ hd h
  refine ite_mono (fun hc h => ?_) (fun hc h => ?_) h
  · refine ⟨on_0, ?_⟩
    refine ⟨_, rfl, ?_⟩
    have db3 := hd.1
    refine ⟨db3, ?_⟩
    exact hQ _ _ hd h
  refine ite_mono (fun hc h => ?_) (fun hc h => ?_) h
  · refine ⟨on_0, ?_⟩
    refine ⟨_, rfl, ?_⟩
    have db4 := hd.1
    refine ⟨db4, ?_⟩
    exact hQ _ _ hd h
  refine ite_mono (fun hc h => ?_) (fun hc h => ?_) h
  · refine ⟨on_0, ?_⟩
    refine ⟨_, rn_0_6 hR _, ?_⟩
    refine ⟨on_42, ?_⟩
    exact hQ _ _ hd h
  refine ite_mono (fun hc h => ?_) (fun hc h => ?_) h
  · refine ⟨on_0, ?_⟩
    refine ⟨_, rn_0_6 hR _, ?_⟩
    refine ⟨on_42, ?_⟩
    refine t_X1_stones hR on_42 (fun r7 u8 hd h => ?_) hd h
    exact hQ _ _ hd h
  refine ite_mono (fun hc h => ?_) (fun hc h => ?_) h
  · refine ⟨on_0, ?_⟩
    refine ⟨_, rfl, ?_⟩
    have db9 := hd.1
    refine ⟨db9, ?_⟩
    refine ite_mono (fun hc h => ?_) (fun hc h => ?_) h
    · exact hQ _ _ hd h
    · exact hQ _ _ hd h
  refine ite_mono (fun hc h => ?_) (fun hc h => ?_) h
  · refine ⟨on_0, ?_⟩
    refine ⟨_, rn_0_6 hR _, ?_⟩
    refine ⟨on_42, ?_⟩
    refine t_X1_pies hR on_42 (fun r11 u12 hd h => ?_) hd h
    exact hQ _ _ hd h
  refine ite_mono (fun hc h => ?_) (fun hc h => ?_) h
  · refine ⟨on_0, ?_⟩
    refine ⟨_, rn_0_6 hR _, ?_⟩
    refine ⟨on_42, ?_⟩
    refine t_J9_min_7cf53 hR (fun r14 u15 hd h => ?_) hd h
    exact hQ _ _ hd h
  refine ite_mono (fun hc h => ?_) (fun hc h => ?_) h
  · refine ⟨on_0, ?_⟩
    refine ⟨_, rn_0_10 hR _, ?_⟩
    refine ⟨on_161, ?_⟩
    exact hQ _ _ hd h
  refine ite_mono (fun hc h => ?_) (fun hc h => ?_) h
  · refine ⟨on_0, ?_⟩
    refine ⟨_, rn_0_8 hR _, ?_⟩
    refine ⟨on_52, ?_⟩
    exact hQ _ _ hd h
  exact hQ _ _ hd h
/-! CalledRiver.image -/
set_option maxHeartbeats 4000000 in
set_option maxRecDepth 100000 in
def s_X11_image (Q : Int32 → St → Prop) (u : St) : Prop :=
  s_X4_write u.2.2.1 42 (fun u5 => Q (u5.1 175 1) u5) u
set_option maxHeartbeats 4000000 in
set_option maxRecDepth 100000 in
theorem t_X11_image {ρ : Nat → Nat → Option Nat} (hR : RfH ρ) {Q : Int32 → St → Prop} {QW : Int32 → Mem → Prop} (hQ : ∀ (r : Int32) (u : St), DK u → Q r u → QW r (emb ρ u)) {u : St} (hd : DK u) (h : s_X11_image Q u) : wp_X11_image SH 0 QW (emb ρ u) := by
  unfold wp_X11_image
  unfold s_X11_image at h
  refine ⟨on_0, ?_⟩
  refine ⟨_, rn_0_16 hR _, ?_⟩
  refine ⟨_, rfl, ?_⟩
  have db2 := hd.1
  refine ⟨_, rn_0_6 hR _, ?_⟩
  refine ⟨on_175, ?_⟩
  refine t_X4_write hR db2 on_42 (fun u5 hd h => ?_) hd h
  refine ⟨_, rn_0_16 hR _, ?_⟩
  refine ⟨on_175, ?_⟩
  exact hQ _ _ hd h
/-! CalledRiver.pieIn -/
set_option maxHeartbeats 4000000 in
set_option maxRecDepth 100000 in
def s_X11_pieIn (v1 : Int32) (v2 : Int32) (Q : Int32 → St → Prop) (u : St) : Prop :=
  if ((v1 >>> (v2 &&& 31)) &&& (1 : Int32)) = (1 : Int32) then (vp_in v2 6 ∧ (Q (u.1 46 v2.toNatClampNeg) u)) else (Q (0 : Int32) u)
set_option maxHeartbeats 4000000 in
set_option maxRecDepth 100000 in
theorem t_X11_pieIn {ρ : Nat → Nat → Option Nat} (hR : RfH ρ) {v1 : Int32} {v2 : Int32} {Q : Int32 → St → Prop} {QW : Int32 → Mem → Prop} (hQ : ∀ (r : Int32) (u : St), DK u → Q r u → QW r (emb ρ u)) {u : St} (hd : DK u) (h : s_X11_pieIn v1 v2 Q u) : wp_X11_pieIn SH 0 v1 v2 QW (emb ρ u) := by
  unfold wp_X11_pieIn
  unfold s_X11_pieIn at h
  refine ite_mono (fun hc h => ?_) (fun hc h => ?_) h
  · refine ⟨on_0, ?_⟩
    refine ⟨_, rn_0_6 hR _, ?_⟩
    refine ⟨on_42, ?_⟩
    refine ⟨_, rr_1_5 hR _ on_42, ?_⟩
    obtain ⟨x3, h⟩ := h
    refine ⟨ix_i (show SH[46]? = some (100, 6) from rfl) x3, ?_⟩
    exact hQ _ _ hd h
  · exact hQ _ _ hd h
/-! CalledRiver.welfare -/
set_option maxHeartbeats 4000000 in
set_option maxRecDepth 100000 in
def s_X11_welfare (v1 : Int32) (v2 : Int32) (Q : Int32 → St → Prop) (u : St) : Prop :=
  vp_in v1 64 ∧ (s_X11_pieIn v1 v2 (fun r3 u4 => Q (((10 : Int32) * (((u.1 174 v1.toNatClampNeg) >>> (v2 &&& 31)) &&& (1 : Int32))) - r3) u4) u)
set_option maxHeartbeats 4000000 in
set_option maxRecDepth 100000 in
theorem t_X11_welfare {ρ : Nat → Nat → Option Nat} (hR : RfH ρ) {v1 : Int32} {v2 : Int32} {Q : Int32 → St → Prop} {QW : Int32 → Mem → Prop} (hQ : ∀ (r : Int32) (u : St), DK u → Q r u → QW r (emb ρ u)) {u : St} (hd : DK u) (h : s_X11_welfare v1 v2 Q u) : wp_X11_welfare SH 0 v1 v2 QW (emb ρ u) := by
  unfold wp_X11_welfare
  unfold s_X11_welfare at h
  refine ⟨on_0, ?_⟩
  refine ⟨_, rn_0_15 hR _, ?_⟩
  obtain ⟨x2, h⟩ := h
  refine ⟨ix_i (show SH[174]? = some (100, 64) from rfl) x2, ?_⟩
  refine t_X11_pieIn hR (fun r3 u4 hd h => ?_) hd h
  exact hQ _ _ hd h
/-! CalledRiver.isAtRest -/
set_option maxHeartbeats 4000000 in
set_option maxRecDepth 100000 in
def sX11_isAtRest_p2b (v1 : Int32) (Q : Int32 → St → Prop) (K2 : Int32 → St → Prop) (v2 : Int32) (u : St) : Prop :=
  if (u.1 u.2.2.1 3) ≤ v2 then (Q (1 : Int32) u) else (s_X11_welfare (v1 ^^^ ((1 : Int32) <<< (v2 &&& 31))) v2 (fun r2 u3 => s_X11_welfare v1 v2 (fun r4 u5 => if r2 ≤ r4 then (K2 (v2 + (1 : Int32)) u5) else (Q (0 : Int32) u5)) u3) u)
set_option maxHeartbeats 4000000 in
set_option maxRecDepth 100000 in
def sX11_isAtRest_p2n (v1 : Int32) (Q : Int32 → St → Prop) : Nat → Int32 → St → Prop
  | 0 => fun _ _ => False
  | n + 1 => sX11_isAtRest_p2b v1 Q (sX11_isAtRest_p2n v1 Q n)
set_option maxHeartbeats 4000000 in
set_option maxRecDepth 100000 in
def sX11_isAtRest_p2 (v1 : Int32) (Q : Int32 → St → Prop) (v2 : Int32) (u : St) : Prop := ∃ n, sX11_isAtRest_p2n v1 Q n v2 u
set_option maxHeartbeats 4000000 in
set_option maxRecDepth 100000 in
def s_X11_isAtRest (v1 : Int32) (Q : Int32 → St → Prop) (u : St) : Prop :=
  sX11_isAtRest_p2 v1 Q (0 : Int32) u
set_option maxHeartbeats 4000000 in
set_option maxRecDepth 100000 in
theorem t_X11_isAtRest_p2b {ρ : Nat → Nat → Option Nat} (hR : RfH ρ) {v1 : Int32} {v2 : Int32} {Q : Int32 → St → Prop} {QW : Int32 → Mem → Prop} (hQ : ∀ (r : Int32) (u : St), DK u → Q r u → QW r (emb ρ u)) {K2 : Int32 → St → Prop} {KW2 : Int32 → Mem → Prop} (hK2 : ∀ (x2 : Int32) (u : St), DK u → K2 x2 u → KW2 x2 (emb ρ u)) {u : St} (hd : DK u) (h : sX11_isAtRest_p2b v1 Q K2 v2 u) : X11_isAtRest_p2b SH 0 v1 QW KW2 v2 (emb ρ u) := by
  unfold X11_isAtRest_p2b
  unfold sX11_isAtRest_p2b at h
  refine ⟨on_0, ?_⟩
  refine ⟨_, rfl, ?_⟩
  have db1 := hd.1
  refine ⟨db1, ?_⟩
  refine ite_mono (fun hc h => ?_) (fun hc h => ?_) h
  · exact hQ _ _ hd h
  · refine t_X11_welfare hR (fun r2 u3 hd h => ?_) hd h
    refine t_X11_welfare hR (fun r4 u5 hd h => ?_) hd h
    refine ite_mono (fun hc h => ?_) (fun hc h => ?_) h
    · exact hK2 _ _ hd h
    · exact hQ _ _ hd h
set_option maxHeartbeats 4000000 in
set_option maxRecDepth 100000 in
theorem t_X11_isAtRest_p2n {ρ : Nat → Nat → Option Nat} (hR : RfH ρ) {v1 : Int32} {Q : Int32 → St → Prop} {QW : Int32 → Mem → Prop} (hQ : ∀ (r : Int32) (u : St), DK u → Q r u → QW r (emb ρ u)) : ∀ (n : Nat) (v2 : Int32) (u : St), DK u → sX11_isAtRest_p2n v1 Q n v2 u → X11_isAtRest_p2n SH 0 v1 QW n v2 (emb ρ u)
  | 0, _, _,  _, h => h.elim
  | n + 1, v2,  u,  hd, h => t_X11_isAtRest_p2b hR hQ (fun v2 u  hd h => t_X11_isAtRest_p2n hR hQ n v2 u  hd h) hd h
set_option maxHeartbeats 4000000 in
set_option maxRecDepth 100000 in
theorem t_X11_isAtRest_p2 {ρ : Nat → Nat → Option Nat} (hR : RfH ρ) {v1 : Int32} {v2 : Int32} {Q : Int32 → St → Prop} {QW : Int32 → Mem → Prop} (hQ : ∀ (r : Int32) (u : St), DK u → Q r u → QW r (emb ρ u)) {u : St} (hd : DK u) (h : sX11_isAtRest_p2 v1 Q v2 u) : X11_isAtRest_p2 SH 0 v1 QW v2 (emb ρ u) := h.elim (fun n h => ⟨n, t_X11_isAtRest_p2n hR hQ n _ _ hd h⟩)
set_option maxHeartbeats 4000000 in
set_option maxRecDepth 100000 in
theorem t_X11_isAtRest {ρ : Nat → Nat → Option Nat} (hR : RfH ρ) {v1 : Int32} {Q : Int32 → St → Prop} {QW : Int32 → Mem → Prop} (hQ : ∀ (r : Int32) (u : St), DK u → Q r u → QW r (emb ρ u)) {u : St} (hd : DK u) (h : s_X11_isAtRest v1 Q u) : wp_X11_isAtRest SH 0 v1 QW (emb ρ u) := by
  unfold wp_X11_isAtRest
  unfold s_X11_isAtRest at h
  exact t_X11_isAtRest_p2 hR hQ hd h
/-! CalledRiver.kept -/
set_option maxHeartbeats 4000000 in
set_option maxRecDepth 100000 in
def s_X11_kept (v1 : Int32) (v2 : Int32) (Q : Int32 → St → Prop) (u : St) : Prop :=
  s_J9_min_7cf53 (u.1 42 1) (40 : Int32) (fun r2 u3 => if v1 < 0 then (Q (-1 : Int32) u3) else (if v1 < r2 then (s_X3_tell (((u3.1 42 1) - r2) + v1) v2 (fun r6 u7 => Q r6 u7) u3) else (Q (-1 : Int32) u3))) u
set_option maxHeartbeats 4000000 in
set_option maxRecDepth 100000 in
theorem t_X11_kept {ρ : Nat → Nat → Option Nat} (hR : RfH ρ) {v1 : Int32} {v2 : Int32} {Q : Int32 → St → Prop} {QW : Int32 → Mem → Prop} (hQ : ∀ (r : Int32) (u : St), DK u → Q r u → QW r (emb ρ u)) {u : St} (hd : DK u) (h : s_X11_kept v1 v2 Q u) : wp_X11_kept SH 0 v1 v2 QW (emb ρ u) := by
  unfold wp_X11_kept
  unfold s_X11_kept at h
  refine ⟨on_0, ?_⟩
  refine ⟨_, rn_0_6 hR _, ?_⟩
  refine ⟨on_42, ?_⟩
  refine t_J9_min_7cf53 hR (fun r2 u3 hd h => ?_) hd h
  refine ite_mono (fun hc h => ?_) (fun hc h => ?_) h
  · exact hQ _ _ hd h
  · refine ite_mono (fun hc h => ?_) (fun hc h => ?_) h
    · refine ⟨_, rn_0_8 hR _, ?_⟩
      refine ⟨_, rn_0_6 hR _, ?_⟩
      refine ⟨on_42, ?_⟩
      refine ⟨on_52, ?_⟩
      refine t_X3_tell hR (fun r6 u7 hd h => ?_) hd h
      exact hQ _ _ hd h
    · exact hQ _ _ hd h
/-! CalledRiver.leads -/
set_option maxHeartbeats 4000000 in
set_option maxRecDepth 100000 in
def s_X11_leads (v1 : Int32) (v2 : Int32) (Q : Int32 → St → Prop) (u : St) : Prop :=
  s_X11_wayOf v1 (fun r1 u2 => if (u2.1 r1 2) = (-1 : Int32) then (Q (-1 : Int32) u2) else (if v2 = (0 : Int32) then (Q (u2.1 r1 2) u2) else if v2 = (1 : Int32) then (if (u2.1 r1 3) = 0 then (Q (0 : Int32) u2) else (Q (1 : Int32) u2)) else if v2 = (2 : Int32) then (Q (u2.1 r1 4) u2) else (Q (-1 : Int32) u2))) u
set_option maxHeartbeats 4000000 in
set_option maxRecDepth 100000 in
theorem t_X11_leads {ρ : Nat → Nat → Option Nat} (hR : RfH ρ) {v1 : Int32} {v2 : Int32} {Q : Int32 → St → Prop} {QW : Int32 → Mem → Prop} (hQ : ∀ (r : Int32) (u : St), DK u → Q r u → QW r (emb ρ u)) {u : St} (hd : DK u) (h : s_X11_leads v1 v2 Q u) : wp_X11_leads SH 0 v1 v2 QW (emb ρ u) := by
  unfold wp_X11_leads
  unfold s_X11_leads at h
  refine ⟨on_0, ?_⟩
  refine t_X11_wayOf hR (fun r1 u2 hd or1 h => ?_) hd h
  refine ⟨or1, ?_⟩
  refine ite_mono (fun hc h => ?_) (fun hc h => ?_) h
  · exact hQ _ _ hd h
  · refine ite_mono (fun hc h => ?_) (fun hc h => ?_) h
    · exact hQ _ _ hd h
    refine ite_mono (fun hc h => ?_) (fun hc h => ?_) h
    · refine ite_mono (fun hc h => ?_) (fun hc h => ?_) h
      · exact hQ _ _ hd h
      · exact hQ _ _ hd h
    refine ite_mono (fun hc h => ?_) (fun hc h => ?_) h
    · exact hQ _ _ hd h
    exact hQ _ _ hd h
/-! CalledRiver.least -/
set_option maxHeartbeats 4000000 in
set_option maxRecDepth 100000 in
def s_X11_least (v1 : Int32) (Q : Int32 → St → Prop) (u : St) : Prop :=
  if v1 < 0 then (Q (-1 : Int32) u) else (if v1 < ((1 : Int32) <<< ((u.1 u.2.2.1 3) &&& 31)) then (s_X2_search u.2.2.1 42 (fun u5 => s_X2_fewestFor v1 (fun r7 u8 => Q r7 u8) u5) u) else (Q (-1 : Int32) u))
set_option maxHeartbeats 4000000 in
set_option maxRecDepth 100000 in
theorem t_X11_least {ρ : Nat → Nat → Option Nat} (hR : RfH ρ) {v1 : Int32} {Q : Int32 → St → Prop} {QW : Int32 → Mem → Prop} (hQ : ∀ (r : Int32) (u : St), DK u → Q r u → QW r (emb ρ u)) {u : St} (hd : DK u) (h : s_X11_least v1 Q u) : wp_X11_least SH 0 v1 QW (emb ρ u) := by
  unfold wp_X11_least
  unfold s_X11_least at h
  refine ite_mono (fun hc h => ?_) (fun hc h => ?_) h
  · exact hQ _ _ hd h
  · refine ⟨on_0, ?_⟩
    refine ⟨_, rfl, ?_⟩
    have db1 := hd.1
    refine ⟨db1, ?_⟩
    refine ite_mono (fun hc h => ?_) (fun hc h => ?_) h
    · refine ⟨_, rn_0_9 hR _, ?_⟩
      refine ⟨_, rn_0_6 hR _, ?_⟩
      refine ⟨on_157, ?_⟩
      refine t_X2_search hR db1 on_42 (fun u5 hd h => ?_) hd h
      refine ⟨_, rn_0_9 hR _, ?_⟩
      refine ⟨on_157, ?_⟩
      refine t_X2_fewestFor hR (fun r7 u8 hd h => ?_) hd h
      exact hQ _ _ hd h
    · exact hQ _ _ hd h
/-! CalledRiver.letter -/
set_option maxHeartbeats 4000000 in
set_option maxRecDepth 100000 in
def sX11_letter_p41 (v1 : Int32) (v2 : Int32) (v3 : Int32) (Q : Int32 → St → Prop) (u : St) : Prop :=
  if v1 = (1 : Int32) then (s_X5_isCaller u.2.2.1 v2 (fun r10 u11 => if r10 = 0 then (Q (-1 : Int32) u11) else (vp_in v2 5 ∧ (s_X9_letterOf (u11.1 (u11.2.2.1 + 8) v2.toNatClampNeg) v3 (fun r15 u16 => Q r15 u16) u11))) u) else (Q (-1 : Int32) u)
set_option maxHeartbeats 4000000 in
set_option maxRecDepth 100000 in
def s_X11_letter (v1 : Int32) (v2 : Int32) (v3 : Int32) (Q : Int32 → St → Prop) (u : St) : Prop :=
  if v3 < 0 then (Q (-1 : Int32) u) else (if v3 < (6 : Int32) then (if v1 = 0 then (s_X5_isFarm u.2.2.1 v2 (fun r2 u3 => if r2 = 0 then (sX11_letter_p41 v1 v2 v3 Q u3) else (vp_in v2 6 ∧ (s_X9_letterOf (u3.1 (u3.2.2.1 + 4) v2.toNatClampNeg) v3 (fun r7 u8 => Q r7 u8) u3))) u) else (sX11_letter_p41 v1 v2 v3 Q u)) else (Q (-1 : Int32) u))
set_option maxHeartbeats 4000000 in
set_option maxRecDepth 100000 in
theorem t_X11_letter_p41 {ρ : Nat → Nat → Option Nat} (hR : RfH ρ) {v1 : Int32} {v2 : Int32} {v3 : Int32} {Q : Int32 → St → Prop} {QW : Int32 → Mem → Prop} (hQ : ∀ (r : Int32) (u : St), DK u → Q r u → QW r (emb ρ u)) {u : St} (hd : DK u) (h : sX11_letter_p41 v1 v2 v3 Q u) : X11_letter_p41 SH 0 v1 v2 v3 QW (emb ρ u) := by
  unfold X11_letter_p41
  unfold sX11_letter_p41 at h
  refine ite_mono (fun hc h => ?_) (fun hc h => ?_) h
  · refine ⟨on_0, ?_⟩
    refine ⟨_, rfl, ?_⟩
    have db9 := hd.1
    refine ⟨db9, ?_⟩
    refine t_X5_isCaller hR db9 (fun r10 u11 hd h => ?_) hd h
    refine ite_mono (fun hc h => ?_) (fun hc h => ?_) h
    · exact hQ _ _ hd h
    · refine ⟨_, rfl, ?_⟩
      have db12 := hd.1
      refine ⟨db12, ?_⟩
      refine ⟨_, rr_5_12 hR _ db12, ?_⟩
      obtain ⟨x14, h⟩ := h
      refine ⟨ix_i (ce_5_12 db12) x14, ?_⟩
      refine t_X9_letterOf hR (fun r15 u16 hd h => ?_) hd h
      exact hQ _ _ hd h
  · exact hQ _ _ hd h
set_option maxHeartbeats 4000000 in
set_option maxRecDepth 100000 in
theorem t_X11_letter {ρ : Nat → Nat → Option Nat} (hR : RfH ρ) {v1 : Int32} {v2 : Int32} {v3 : Int32} {Q : Int32 → St → Prop} {QW : Int32 → Mem → Prop} (hQ : ∀ (r : Int32) (u : St), DK u → Q r u → QW r (emb ρ u)) {u : St} (hd : DK u) (h : s_X11_letter v1 v2 v3 Q u) : wp_X11_letter SH 0 v1 v2 v3 QW (emb ρ u) := by
  unfold wp_X11_letter
  unfold s_X11_letter at h
  refine ite_mono (fun hc h => ?_) (fun hc h => ?_) h
  · exact hQ _ _ hd h
  · refine ite_mono (fun hc h => ?_) (fun hc h => ?_) h
    · refine ite_mono (fun hc h => ?_) (fun hc h => ?_) h
      · refine ⟨on_0, ?_⟩
        refine ⟨_, rfl, ?_⟩
        have db1 := hd.1
        refine ⟨db1, ?_⟩
        refine t_X5_isFarm hR db1 (fun r2 u3 hd h => ?_) hd h
        refine ite_mono (fun hc h => ?_) (fun hc h => ?_) h
        · exact t_X11_letter_p41 hR hQ hd h
        · refine ⟨_, rfl, ?_⟩
          have db4 := hd.1
          refine ⟨db4, ?_⟩
          refine ⟨_, rr_5_8 hR _ db4, ?_⟩
          obtain ⟨x6, h⟩ := h
          refine ⟨ix_i (ce_5_8 db4) x6, ?_⟩
          refine t_X9_letterOf hR (fun r7 u8 hd h => ?_) hd h
          exact hQ _ _ hd h
      · exact t_X11_letter_p41 hR hQ hd h
    · exact hQ _ _ hd h
/-! CalledRiver.placePart -/
set_option maxHeartbeats 4000000 in
set_option maxRecDepth 100000 in
def s_X11_placePart (v1 : Int32) (v2 : Int32) (Q : Int32 → St → Prop) (u : St) : Prop :=
  if v1 = (-1 : Int32) then (Q (-1 : Int32) u) else (if v2 = 0 then (s_X5_columnOf u.2.2.1 v1 (fun r5 u6 => Q r5 u6) u) else (if v2 = (1 : Int32) then (s_X5_rowOf u.2.2.1 v1 (fun r2 u3 => Q r2 u3) u) else (Q (-1 : Int32) u)))
set_option maxHeartbeats 4000000 in
set_option maxRecDepth 100000 in
theorem t_X11_placePart {ρ : Nat → Nat → Option Nat} (hR : RfH ρ) {v1 : Int32} {v2 : Int32} {Q : Int32 → St → Prop} {QW : Int32 → Mem → Prop} (hQ : ∀ (r : Int32) (u : St), DK u → Q r u → QW r (emb ρ u)) {u : St} (hd : DK u) (h : s_X11_placePart v1 v2 Q u) : wp_X11_placePart SH 0 v1 v2 QW (emb ρ u) := by
  unfold wp_X11_placePart
  unfold s_X11_placePart at h
  refine ite_mono (fun hc h => ?_) (fun hc h => ?_) h
  · exact hQ _ _ hd h
  · refine ite_mono (fun hc h => ?_) (fun hc h => ?_) h
    · refine ⟨on_0, ?_⟩
      refine ⟨_, rfl, ?_⟩
      have db4 := hd.1
      refine ⟨db4, ?_⟩
      refine t_X5_columnOf hR db4 (fun r5 u6 hd h => ?_) hd h
      exact hQ _ _ hd h
    · refine ite_mono (fun hc h => ?_) (fun hc h => ?_) h
      · refine ⟨on_0, ?_⟩
        refine ⟨_, rfl, ?_⟩
        have db1 := hd.1
        refine ⟨db1, ?_⟩
        refine t_X5_rowOf hR db1 (fun r2 u3 hd h => ?_) hd h
        exact hQ _ _ hd h
      · exact hQ _ _ hd h
/-! CalledRiver.waysThrough -/
set_option maxHeartbeats 4000000 in
set_option maxRecDepth 100000 in
def sX11_waysThrough_p32 (v1 : Int32) (v2 : Int32) (v3 : Int32) (Q : Int32 → St → Prop) (K4 : Int32 → Int32 → St → Prop) (u : St) : Prop :=
  K4 v2 (v3 + (1 : Int32)) u
set_option maxHeartbeats 4000000 in
set_option maxRecDepth 100000 in
def sX11_waysThrough_p4b (v1 : Int32) (Q : Int32 → St → Prop) (K4 : Int32 → Int32 → St → Prop) (v2 : Int32) (v3 : Int32) (u : St) : Prop :=
  if (u.1 u.2.2.1 4) ≤ v3 then (Q v2 u) else (s_X11_wayOf v3 (fun r2 u3 => vp_in v1 36 ∧ (if (u3.1 (r2 + 2) v1.toNatClampNeg) = (-1 : Int32) then (sX11_waysThrough_p32 v1 v2 v3 Q K4 u3) else (sX11_waysThrough_p32 v1 (v2 + (1 : Int32)) v3 Q K4 u3))) u)
set_option maxHeartbeats 4000000 in
set_option maxRecDepth 100000 in
def sX11_waysThrough_p4n (v1 : Int32) (Q : Int32 → St → Prop) : Nat → Int32 → Int32 → St → Prop
  | 0 => fun _ _ _ => False
  | n + 1 => sX11_waysThrough_p4b v1 Q (sX11_waysThrough_p4n v1 Q n)
set_option maxHeartbeats 4000000 in
set_option maxRecDepth 100000 in
def sX11_waysThrough_p4 (v1 : Int32) (Q : Int32 → St → Prop) (v2 : Int32) (v3 : Int32) (u : St) : Prop := ∃ n, sX11_waysThrough_p4n v1 Q n v2 v3 u
set_option maxHeartbeats 4000000 in
set_option maxRecDepth 100000 in
def s_X11_waysThrough (v1 : Int32) (Q : Int32 → St → Prop) (u : St) : Prop :=
  sX11_waysThrough_p4 v1 Q (0 : Int32) (0 : Int32) u
set_option maxHeartbeats 4000000 in
set_option maxRecDepth 100000 in
theorem t_X11_waysThrough_p32 {ρ : Nat → Nat → Option Nat} (hR : RfH ρ) {v1 : Int32} {v2 : Int32} {v3 : Int32} {Q : Int32 → St → Prop} {QW : Int32 → Mem → Prop} {K4 : Int32 → Int32 → St → Prop} {KW4 : Int32 → Int32 → Mem → Prop} (hQ : ∀ (r : Int32) (u : St), DK u → Q r u → QW r (emb ρ u)) (hK4 : ∀ (x2 : Int32) (x3 : Int32) (u : St), DK u → K4 x2 x3 u → KW4 x2 x3 (emb ρ u)) {u : St} (hd : DK u) (h : sX11_waysThrough_p32 v1 v2 v3 Q K4 u) : X11_waysThrough_p32 SH 0 v1 v2 v3 QW KW4 (emb ρ u) := by
  unfold X11_waysThrough_p32
  unfold sX11_waysThrough_p32 at h
  exact hK4 _ _ _ hd h
set_option maxHeartbeats 4000000 in
set_option maxRecDepth 100000 in
theorem t_X11_waysThrough_p4b {ρ : Nat → Nat → Option Nat} (hR : RfH ρ) {v1 : Int32} {v2 : Int32} {v3 : Int32} {Q : Int32 → St → Prop} {QW : Int32 → Mem → Prop} (hQ : ∀ (r : Int32) (u : St), DK u → Q r u → QW r (emb ρ u)) {K4 : Int32 → Int32 → St → Prop} {KW4 : Int32 → Int32 → Mem → Prop} (hK4 : ∀ (x2 : Int32) (x3 : Int32) (u : St), DK u → K4 x2 x3 u → KW4 x2 x3 (emb ρ u)) {u : St} (hd : DK u) (h : sX11_waysThrough_p4b v1 Q K4 v2 v3 u) : X11_waysThrough_p4b SH 0 v1 QW KW4 v2 v3 (emb ρ u) := by
  unfold X11_waysThrough_p4b
  unfold sX11_waysThrough_p4b at h
  refine ⟨on_0, ?_⟩
  refine ⟨_, rfl, ?_⟩
  have db1 := hd.1
  refine ⟨db1, ?_⟩
  refine ite_mono (fun hc h => ?_) (fun hc h => ?_) h
  · exact hQ _ _ hd h
  · refine t_X11_wayOf hR (fun r2 u3 hd or2 h => ?_) hd h
    refine ⟨or2, ?_⟩
    refine ⟨_, rr_10_1 hR _ or2, ?_⟩
    obtain ⟨x5, h⟩ := h
    refine ⟨ix_i (ce_10_1 or2) x5, ?_⟩
    refine ite_mono (fun hc h => ?_) (fun hc h => ?_) h
    · exact t_X11_waysThrough_p32 hR hQ hK4 hd h
    · exact t_X11_waysThrough_p32 hR hQ hK4 hd h
set_option maxHeartbeats 4000000 in
set_option maxRecDepth 100000 in
theorem t_X11_waysThrough_p4n {ρ : Nat → Nat → Option Nat} (hR : RfH ρ) {v1 : Int32} {Q : Int32 → St → Prop} {QW : Int32 → Mem → Prop} (hQ : ∀ (r : Int32) (u : St), DK u → Q r u → QW r (emb ρ u)) : ∀ (n : Nat) (v2 : Int32) (v3 : Int32) (u : St), DK u → sX11_waysThrough_p4n v1 Q n v2 v3 u → X11_waysThrough_p4n SH 0 v1 QW n v2 v3 (emb ρ u)
  | 0, _,_, _,  _, h => h.elim
  | n + 1, v2, v3,  u,  hd, h => t_X11_waysThrough_p4b hR hQ (fun v2 v3 u  hd h => t_X11_waysThrough_p4n hR hQ n v2 v3 u  hd h) hd h
set_option maxHeartbeats 4000000 in
set_option maxRecDepth 100000 in
theorem t_X11_waysThrough_p4 {ρ : Nat → Nat → Option Nat} (hR : RfH ρ) {v1 : Int32} {v2 : Int32} {v3 : Int32} {Q : Int32 → St → Prop} {QW : Int32 → Mem → Prop} (hQ : ∀ (r : Int32) (u : St), DK u → Q r u → QW r (emb ρ u)) {u : St} (hd : DK u) (h : sX11_waysThrough_p4 v1 Q v2 v3 u) : X11_waysThrough_p4 SH 0 v1 QW v2 v3 (emb ρ u) := h.elim (fun n h => ⟨n, t_X11_waysThrough_p4n hR hQ n _ _ _ hd h⟩)
set_option maxHeartbeats 4000000 in
set_option maxRecDepth 100000 in
theorem t_X11_waysThrough {ρ : Nat → Nat → Option Nat} (hR : RfH ρ) {v1 : Int32} {Q : Int32 → St → Prop} {QW : Int32 → Mem → Prop} (hQ : ∀ (r : Int32) (u : St), DK u → Q r u → QW r (emb ρ u)) {u : St} (hd : DK u) (h : s_X11_waysThrough v1 Q u) : wp_X11_waysThrough SH 0 v1 QW (emb ρ u) := by
  unfold wp_X11_waysThrough
  unfold s_X11_waysThrough at h
  exact t_X11_waysThrough_p4 hR hQ hd h
/-! CalledRiver.mill -/
set_option maxHeartbeats 4000000 in
set_option maxRecDepth 100000 in
def sX11_mill_p55 (v1 : Int32) (v2 : Int32) (v3 : Int32) (v4 : Int32) (Q : Int32 → St → Prop) (K7 : Int32 → Int32 → Int32 → St → Prop) (u : St) : Prop :=
  K7 v2 v3 (v4 + (1 : Int32)) u
set_option maxHeartbeats 4000000 in
set_option maxRecDepth 100000 in
def sX11_mill_p41 (v1 : Int32) (v2 : Int32) (v3 : Int32) (v4 : Int32) (s0 : Int32) (Q : Int32 → St → Prop) (K7 : Int32 → Int32 → Int32 → St → Prop) (u : St) : Prop :=
  if s0 ≤ v3 then (sX11_mill_p55 v1 v2 v3 v4 Q K7 u) else (sX11_mill_p55 v1 v4 s0 v4 Q K7 u)
set_option maxHeartbeats 4000000 in
set_option maxRecDepth 100000 in
def sX11_mill_p75 (v1 : Int32) (v2 : Int32) (Q : Int32 → St → Prop) (u : St) : Prop :=
  s_X11_placePart v2 v1 (fun r7 u8 => Q r7 u8) u
set_option maxHeartbeats 4000000 in
set_option maxRecDepth 100000 in
def sX11_mill_p7b (v1 : Int32) (Q : Int32 → St → Prop) (K7 : Int32 → Int32 → Int32 → St → Prop) (v2 : Int32) (v3 : Int32) (v4 : Int32) (u : St) : Prop :=
  s_X5_places u.2.2.1 (fun r2 u3 => if r2 ≤ v4 then (if v1 = (2 : Int32) then (if v2 = (-1 : Int32) then (sX11_mill_p75 v1 v2 Q u3) else (Q v3 u3)) else (sX11_mill_p75 v1 v2 Q u3)) else (if v4 = (u3.1 u3.2.2.1 2) then (sX11_mill_p41 v1 v2 v3 v4 (0 : Int32) Q K7 u3) else (s_X11_waysThrough v4 (fun r5 u6 => sX11_mill_p41 v1 v2 v3 v4 r5 Q K7 u6) u3))) u
set_option maxHeartbeats 4000000 in
set_option maxRecDepth 100000 in
def sX11_mill_p7n (v1 : Int32) (Q : Int32 → St → Prop) : Nat → Int32 → Int32 → Int32 → St → Prop
  | 0 => fun _ _ _ _ => False
  | n + 1 => sX11_mill_p7b v1 Q (sX11_mill_p7n v1 Q n)
set_option maxHeartbeats 4000000 in
set_option maxRecDepth 100000 in
def sX11_mill_p7 (v1 : Int32) (Q : Int32 → St → Prop) (v2 : Int32) (v3 : Int32) (v4 : Int32) (u : St) : Prop := ∃ n, sX11_mill_p7n v1 Q n v2 v3 v4 u
set_option maxHeartbeats 4000000 in
set_option maxRecDepth 100000 in
def s_X11_mill (v1 : Int32) (Q : Int32 → St → Prop) (u : St) : Prop :=
  sX11_mill_p7 v1 Q (-1 : Int32) (0 : Int32) (0 : Int32) u
set_option maxHeartbeats 4000000 in
set_option maxRecDepth 100000 in
theorem t_X11_mill_p55 {ρ : Nat → Nat → Option Nat} (hR : RfH ρ) {v1 : Int32} {v2 : Int32} {v3 : Int32} {v4 : Int32} {Q : Int32 → St → Prop} {QW : Int32 → Mem → Prop} {K7 : Int32 → Int32 → Int32 → St → Prop} {KW7 : Int32 → Int32 → Int32 → Mem → Prop} (hQ : ∀ (r : Int32) (u : St), DK u → Q r u → QW r (emb ρ u)) (hK7 : ∀ (x2 : Int32) (x3 : Int32) (x4 : Int32) (u : St), DK u → K7 x2 x3 x4 u → KW7 x2 x3 x4 (emb ρ u)) {u : St} (hd : DK u) (h : sX11_mill_p55 v1 v2 v3 v4 Q K7 u) : X11_mill_p55 SH 0 v1 v2 v3 v4 QW KW7 (emb ρ u) := by
  unfold X11_mill_p55
  unfold sX11_mill_p55 at h
  exact hK7 _ _ _ _ hd h
set_option maxHeartbeats 4000000 in
set_option maxRecDepth 100000 in
theorem t_X11_mill_p41 {ρ : Nat → Nat → Option Nat} (hR : RfH ρ) {v1 : Int32} {v2 : Int32} {v3 : Int32} {v4 : Int32} {s0 : Int32} {Q : Int32 → St → Prop} {QW : Int32 → Mem → Prop} {K7 : Int32 → Int32 → Int32 → St → Prop} {KW7 : Int32 → Int32 → Int32 → Mem → Prop} (hQ : ∀ (r : Int32) (u : St), DK u → Q r u → QW r (emb ρ u)) (hK7 : ∀ (x2 : Int32) (x3 : Int32) (x4 : Int32) (u : St), DK u → K7 x2 x3 x4 u → KW7 x2 x3 x4 (emb ρ u)) {u : St} (hd : DK u) (h : sX11_mill_p41 v1 v2 v3 v4 s0 Q K7 u) : X11_mill_p41 SH 0 v1 v2 v3 v4 s0 QW KW7 (emb ρ u) := by
  unfold X11_mill_p41
  unfold sX11_mill_p41 at h
  refine ite_mono (fun hc h => ?_) (fun hc h => ?_) h
  · exact t_X11_mill_p55 hR hQ hK7 hd h
  · exact t_X11_mill_p55 hR hQ hK7 hd h
set_option maxHeartbeats 4000000 in
set_option maxRecDepth 100000 in
theorem t_X11_mill_p75 {ρ : Nat → Nat → Option Nat} (hR : RfH ρ) {v1 : Int32} {v2 : Int32} {Q : Int32 → St → Prop} {QW : Int32 → Mem → Prop} (hQ : ∀ (r : Int32) (u : St), DK u → Q r u → QW r (emb ρ u)) {u : St} (hd : DK u) (h : sX11_mill_p75 v1 v2 Q u) : X11_mill_p75 SH 0 v1 v2 QW (emb ρ u) := by
  unfold X11_mill_p75
  unfold sX11_mill_p75 at h
  refine ⟨on_0, ?_⟩
  refine t_X11_placePart hR (fun r7 u8 hd h => ?_) hd h
  exact hQ _ _ hd h
set_option maxHeartbeats 4000000 in
set_option maxRecDepth 100000 in
theorem t_X11_mill_p7b {ρ : Nat → Nat → Option Nat} (hR : RfH ρ) {v1 : Int32} {v2 : Int32} {v3 : Int32} {v4 : Int32} {Q : Int32 → St → Prop} {QW : Int32 → Mem → Prop} (hQ : ∀ (r : Int32) (u : St), DK u → Q r u → QW r (emb ρ u)) {K7 : Int32 → Int32 → Int32 → St → Prop} {KW7 : Int32 → Int32 → Int32 → Mem → Prop} (hK7 : ∀ (x2 : Int32) (x3 : Int32) (x4 : Int32) (u : St), DK u → K7 x2 x3 x4 u → KW7 x2 x3 x4 (emb ρ u)) {u : St} (hd : DK u) (h : sX11_mill_p7b v1 Q K7 v2 v3 v4 u) : X11_mill_p7b SH 0 v1 QW KW7 v2 v3 v4 (emb ρ u) := by
  unfold X11_mill_p7b
  unfold sX11_mill_p7b at h
  refine ⟨on_0, ?_⟩
  refine ⟨_, rfl, ?_⟩
  have db1 := hd.1
  refine ⟨db1, ?_⟩
  refine t_X5_places hR db1 (fun r2 u3 hd h => ?_) hd h
  refine ite_mono (fun hc h => ?_) (fun hc h => ?_) h
  · refine ite_mono (fun hc h => ?_) (fun hc h => ?_) h
    · refine ite_mono (fun hc h => ?_) (fun hc h => ?_) h
      · exact t_X11_mill_p75 hR hQ hd h
      · exact hQ _ _ hd h
    · exact t_X11_mill_p75 hR hQ hd h
  · refine ⟨_, rfl, ?_⟩
    have db4 := hd.1
    refine ⟨db4, ?_⟩
    refine ite_mono (fun hc h => ?_) (fun hc h => ?_) h
    · exact t_X11_mill_p41 hR hQ hK7 hd h
    · refine t_X11_waysThrough hR (fun r5 u6 hd h => ?_) hd h
      exact t_X11_mill_p41 hR hQ hK7 hd h
set_option maxHeartbeats 4000000 in
set_option maxRecDepth 100000 in
theorem t_X11_mill_p7n {ρ : Nat → Nat → Option Nat} (hR : RfH ρ) {v1 : Int32} {Q : Int32 → St → Prop} {QW : Int32 → Mem → Prop} (hQ : ∀ (r : Int32) (u : St), DK u → Q r u → QW r (emb ρ u)) : ∀ (n : Nat) (v2 : Int32) (v3 : Int32) (v4 : Int32) (u : St), DK u → sX11_mill_p7n v1 Q n v2 v3 v4 u → X11_mill_p7n SH 0 v1 QW n v2 v3 v4 (emb ρ u)
  | 0, _,_,_, _,  _, h => h.elim
  | n + 1, v2, v3, v4,  u,  hd, h => t_X11_mill_p7b hR hQ (fun v2 v3 v4 u  hd h => t_X11_mill_p7n hR hQ n v2 v3 v4 u  hd h) hd h
set_option maxHeartbeats 4000000 in
set_option maxRecDepth 100000 in
theorem t_X11_mill_p7 {ρ : Nat → Nat → Option Nat} (hR : RfH ρ) {v1 : Int32} {v2 : Int32} {v3 : Int32} {v4 : Int32} {Q : Int32 → St → Prop} {QW : Int32 → Mem → Prop} (hQ : ∀ (r : Int32) (u : St), DK u → Q r u → QW r (emb ρ u)) {u : St} (hd : DK u) (h : sX11_mill_p7 v1 Q v2 v3 v4 u) : X11_mill_p7 SH 0 v1 QW v2 v3 v4 (emb ρ u) := h.elim (fun n h => ⟨n, t_X11_mill_p7n hR hQ n _ _ _ _ hd h⟩)
set_option maxHeartbeats 4000000 in
set_option maxRecDepth 100000 in
theorem t_X11_mill {ρ : Nat → Nat → Option Nat} (hR : RfH ρ) {v1 : Int32} {Q : Int32 → St → Prop} {QW : Int32 → Mem → Prop} (hQ : ∀ (r : Int32) (u : St), DK u → Q r u → QW r (emb ρ u)) {u : St} (hd : DK u) (h : s_X11_mill v1 Q u) : wp_X11_mill SH 0 v1 QW (emb ρ u) := by
  unfold wp_X11_mill
  unfold s_X11_mill at h
  exact t_X11_mill_p7 hR hQ hd h
/-! CalledRiver.mostLeftBy -/
set_option maxHeartbeats 4000000 in
set_option maxRecDepth 100000 in
def sX11_mostLeftBy_p93 (v1 : Int32) (v2 : Int32) (v3 : Int32) (v4 : Int32) (v5 : Int32) (v6 : Int32) (Q : Int32 → St → Prop) (K5 : Int32 → Int32 → St → Prop) (K23 : Int32 → Int32 → St → Prop) (u : St) : Prop :=
  K23 v5 (v6 + (1 : Int32)) u
set_option maxHeartbeats 4000000 in
set_option maxRecDepth 100000 in
def sX11_mostLeftBy_p60 (v1 : Int32) (v2 : Int32) (v3 : Int32) (v4 : Int32) (v5 : Int32) (v6 : Int32) (s0 : Int32) (Q : Int32 → St → Prop) (K5 : Int32 → Int32 → St → Prop) (K23 : Int32 → Int32 → St → Prop) (u : St) : Prop :=
  if s0 = 0 then (sX11_mostLeftBy_p93 v1 v2 v3 v4 v5 v6 Q K5 K23 u) else (s_X11_wayOf v4 (fun r5 u6 => s_X10_placeBy r5 v1 (fun r7 u8 => s_X11_wayOf v6 (fun r9 u10 => s_X10_placeBy r9 v1 (fun r11 u12 => if r7 = r11 then (sX11_mostLeftBy_p93 v1 v2 v3 v4 (v5 + (1 : Int32)) v6 Q K5 K23 u12) else (sX11_mostLeftBy_p93 v1 v2 v3 v4 v5 v6 Q K5 K23 u12)) u10) u8) u6) u)
set_option maxHeartbeats 4000000 in
set_option maxRecDepth 100000 in
def sX11_mostLeftBy_p59 (v1 : Int32) (v2 : Int32) (v3 : Int32) (v4 : Int32) (v5 : Int32) (v6 : Int32) (Q : Int32 → St → Prop) (K5 : Int32 → Int32 → St → Prop) (K23 : Int32 → Int32 → St → Prop) (u : St) : Prop :=
  sX11_mostLeftBy_p60 v1 v2 v3 v4 v5 v6 (0 : Int32) Q K5 K23 u
set_option maxHeartbeats 4000000 in
set_option maxRecDepth 100000 in
def sX11_mostLeftBy_p23b (v1 : Int32) (v2 : Int32) (v3 : Int32) (v4 : Int32) (Q : Int32 → St → Prop) (K5 : Int32 → Int32 → St → Prop) (K23 : Int32 → Int32 → St → Prop) (v5 : Int32) (v6 : Int32) (u : St) : Prop :=
  if (u.1 u.2.2.1 4) ≤ v6 then (s_J9_max_7cf53 v3 v5 (fun r3 u4 => K5 r3 (v4 + (1 : Int32)) u4) u) else (if ((v2 >>> (v4 &&& 31)) &&& (1 : Int32)) = (1 : Int32) then (if ((v2 >>> (v6 &&& 31)) &&& (1 : Int32)) = (1 : Int32) then (sX11_mostLeftBy_p60 v1 v2 v3 v4 v5 v6 (1 : Int32) Q K5 K23 u) else (sX11_mostLeftBy_p59 v1 v2 v3 v4 v5 v6 Q K5 K23 u)) else (sX11_mostLeftBy_p59 v1 v2 v3 v4 v5 v6 Q K5 K23 u))
set_option maxHeartbeats 4000000 in
set_option maxRecDepth 100000 in
def sX11_mostLeftBy_p23n (v1 : Int32) (v2 : Int32) (v3 : Int32) (v4 : Int32) (Q : Int32 → St → Prop) (K5 : Int32 → Int32 → St → Prop) : Nat → Int32 → Int32 → St → Prop
  | 0 => fun _ _ _ => False
  | n + 1 => sX11_mostLeftBy_p23b v1 v2 v3 v4 Q K5 (sX11_mostLeftBy_p23n v1 v2 v3 v4 Q K5 n)
set_option maxHeartbeats 4000000 in
set_option maxRecDepth 100000 in
def sX11_mostLeftBy_p23 (v1 : Int32) (v2 : Int32) (v3 : Int32) (v4 : Int32) (Q : Int32 → St → Prop) (K5 : Int32 → Int32 → St → Prop) (v5 : Int32) (v6 : Int32) (u : St) : Prop := ∃ n, sX11_mostLeftBy_p23n v1 v2 v3 v4 Q K5 n v5 v6 u
set_option maxHeartbeats 4000000 in
set_option maxRecDepth 100000 in
def sX11_mostLeftBy_p5b (v1 : Int32) (v2 : Int32) (Q : Int32 → St → Prop) (K5 : Int32 → Int32 → St → Prop) (v3 : Int32) (v4 : Int32) (u : St) : Prop :=
  if (u.1 u.2.2.1 4) ≤ v4 then (Q v3 u) else (sX11_mostLeftBy_p23 v1 v2 v3 v4 Q K5 (0 : Int32) (0 : Int32) u)
set_option maxHeartbeats 4000000 in
set_option maxRecDepth 100000 in
def sX11_mostLeftBy_p5n (v1 : Int32) (v2 : Int32) (Q : Int32 → St → Prop) : Nat → Int32 → Int32 → St → Prop
  | 0 => fun _ _ _ => False
  | n + 1 => sX11_mostLeftBy_p5b v1 v2 Q (sX11_mostLeftBy_p5n v1 v2 Q n)
set_option maxHeartbeats 4000000 in
set_option maxRecDepth 100000 in
def sX11_mostLeftBy_p5 (v1 : Int32) (v2 : Int32) (Q : Int32 → St → Prop) (v3 : Int32) (v4 : Int32) (u : St) : Prop := ∃ n, sX11_mostLeftBy_p5n v1 v2 Q n v3 v4 u
set_option maxHeartbeats 4000000 in
set_option maxRecDepth 100000 in
def s_X11_mostLeftBy (v1 : Int32) (v2 : Int32) (Q : Int32 → St → Prop) (u : St) : Prop :=
  sX11_mostLeftBy_p5 v1 v2 Q (0 : Int32) (0 : Int32) u
set_option maxHeartbeats 4000000 in
set_option maxRecDepth 100000 in
theorem t_X11_mostLeftBy_p93 {ρ : Nat → Nat → Option Nat} (hR : RfH ρ) {v1 : Int32} {v2 : Int32} {v3 : Int32} {v4 : Int32} {v5 : Int32} {v6 : Int32} {Q : Int32 → St → Prop} {QW : Int32 → Mem → Prop} {K5 : Int32 → Int32 → St → Prop} {KW5 : Int32 → Int32 → Mem → Prop} {K23 : Int32 → Int32 → St → Prop} {KW23 : Int32 → Int32 → Mem → Prop} (hQ : ∀ (r : Int32) (u : St), DK u → Q r u → QW r (emb ρ u)) (hK5 : ∀ (x3 : Int32) (x4 : Int32) (u : St), DK u → K5 x3 x4 u → KW5 x3 x4 (emb ρ u)) (hK23 : ∀ (x5 : Int32) (x6 : Int32) (u : St), DK u → K23 x5 x6 u → KW23 x5 x6 (emb ρ u)) {u : St} (hd : DK u) (h : sX11_mostLeftBy_p93 v1 v2 v3 v4 v5 v6 Q K5 K23 u) : X11_mostLeftBy_p93 SH 0 v1 v2 v3 v4 v5 v6 QW KW5 KW23 (emb ρ u) := by
  unfold X11_mostLeftBy_p93
  unfold sX11_mostLeftBy_p93 at h
  exact hK23 _ _ _ hd h
set_option maxHeartbeats 4000000 in
set_option maxRecDepth 100000 in
theorem t_X11_mostLeftBy_p60 {ρ : Nat → Nat → Option Nat} (hR : RfH ρ) {v1 : Int32} {v2 : Int32} {v3 : Int32} {v4 : Int32} {v5 : Int32} {v6 : Int32} {s0 : Int32} {Q : Int32 → St → Prop} {QW : Int32 → Mem → Prop} {K5 : Int32 → Int32 → St → Prop} {KW5 : Int32 → Int32 → Mem → Prop} {K23 : Int32 → Int32 → St → Prop} {KW23 : Int32 → Int32 → Mem → Prop} (hQ : ∀ (r : Int32) (u : St), DK u → Q r u → QW r (emb ρ u)) (hK5 : ∀ (x3 : Int32) (x4 : Int32) (u : St), DK u → K5 x3 x4 u → KW5 x3 x4 (emb ρ u)) (hK23 : ∀ (x5 : Int32) (x6 : Int32) (u : St), DK u → K23 x5 x6 u → KW23 x5 x6 (emb ρ u)) {u : St} (hd : DK u) (h : sX11_mostLeftBy_p60 v1 v2 v3 v4 v5 v6 s0 Q K5 K23 u) : X11_mostLeftBy_p60 SH 0 v1 v2 v3 v4 v5 v6 s0 QW KW5 KW23 (emb ρ u) := by
  unfold X11_mostLeftBy_p60
  unfold sX11_mostLeftBy_p60 at h
  refine ite_mono (fun hc h => ?_) (fun hc h => ?_) h
  · exact t_X11_mostLeftBy_p93 hR hQ hK5 hK23 hd h
  · refine ⟨on_0, ?_⟩
    refine t_X11_wayOf hR (fun r5 u6 hd or5 h => ?_) hd h
    refine ⟨or5, ?_⟩
    refine t_X10_placeBy hR or5 (fun r7 u8 hd h => ?_) hd h
    refine t_X11_wayOf hR (fun r9 u10 hd or9 h => ?_) hd h
    refine ⟨or9, ?_⟩
    refine t_X10_placeBy hR or9 (fun r11 u12 hd h => ?_) hd h
    refine ite_mono (fun hc h => ?_) (fun hc h => ?_) h
    · exact t_X11_mostLeftBy_p93 hR hQ hK5 hK23 hd h
    · exact t_X11_mostLeftBy_p93 hR hQ hK5 hK23 hd h
set_option maxHeartbeats 4000000 in
set_option maxRecDepth 100000 in
theorem t_X11_mostLeftBy_p59 {ρ : Nat → Nat → Option Nat} (hR : RfH ρ) {v1 : Int32} {v2 : Int32} {v3 : Int32} {v4 : Int32} {v5 : Int32} {v6 : Int32} {Q : Int32 → St → Prop} {QW : Int32 → Mem → Prop} {K5 : Int32 → Int32 → St → Prop} {KW5 : Int32 → Int32 → Mem → Prop} {K23 : Int32 → Int32 → St → Prop} {KW23 : Int32 → Int32 → Mem → Prop} (hQ : ∀ (r : Int32) (u : St), DK u → Q r u → QW r (emb ρ u)) (hK5 : ∀ (x3 : Int32) (x4 : Int32) (u : St), DK u → K5 x3 x4 u → KW5 x3 x4 (emb ρ u)) (hK23 : ∀ (x5 : Int32) (x6 : Int32) (u : St), DK u → K23 x5 x6 u → KW23 x5 x6 (emb ρ u)) {u : St} (hd : DK u) (h : sX11_mostLeftBy_p59 v1 v2 v3 v4 v5 v6 Q K5 K23 u) : X11_mostLeftBy_p59 SH 0 v1 v2 v3 v4 v5 v6 QW KW5 KW23 (emb ρ u) := by
  unfold X11_mostLeftBy_p59
  unfold sX11_mostLeftBy_p59 at h
  exact t_X11_mostLeftBy_p60 hR hQ hK5 hK23 hd h
set_option maxHeartbeats 4000000 in
set_option maxRecDepth 100000 in
theorem t_X11_mostLeftBy_p23b {ρ : Nat → Nat → Option Nat} (hR : RfH ρ) {v1 : Int32} {v2 : Int32} {v3 : Int32} {v4 : Int32} {v5 : Int32} {v6 : Int32} {Q : Int32 → St → Prop} {QW : Int32 → Mem → Prop} {K5 : Int32 → Int32 → St → Prop} {KW5 : Int32 → Int32 → Mem → Prop} (hQ : ∀ (r : Int32) (u : St), DK u → Q r u → QW r (emb ρ u)) (hK5 : ∀ (x3 : Int32) (x4 : Int32) (u : St), DK u → K5 x3 x4 u → KW5 x3 x4 (emb ρ u)) {K23 : Int32 → Int32 → St → Prop} {KW23 : Int32 → Int32 → Mem → Prop} (hK23 : ∀ (x5 : Int32) (x6 : Int32) (u : St), DK u → K23 x5 x6 u → KW23 x5 x6 (emb ρ u)) {u : St} (hd : DK u) (h : sX11_mostLeftBy_p23b v1 v2 v3 v4 Q K5 K23 v5 v6 u) : X11_mostLeftBy_p23b SH 0 v1 v2 v3 v4 QW KW5 KW23 v5 v6 (emb ρ u) := by
  unfold X11_mostLeftBy_p23b
  unfold sX11_mostLeftBy_p23b at h
  refine ⟨on_0, ?_⟩
  refine ⟨_, rfl, ?_⟩
  have db2 := hd.1
  refine ⟨db2, ?_⟩
  refine ite_mono (fun hc h => ?_) (fun hc h => ?_) h
  · refine t_J9_max_7cf53 hR (fun r3 u4 hd h => ?_) hd h
    exact hK5 _ _ _ hd h
  · refine ite_mono (fun hc h => ?_) (fun hc h => ?_) h
    · refine ite_mono (fun hc h => ?_) (fun hc h => ?_) h
      · exact t_X11_mostLeftBy_p60 hR hQ hK5 hK23 hd h
      · exact t_X11_mostLeftBy_p59 hR hQ hK5 hK23 hd h
    · exact t_X11_mostLeftBy_p59 hR hQ hK5 hK23 hd h
set_option maxHeartbeats 4000000 in
set_option maxRecDepth 100000 in
theorem t_X11_mostLeftBy_p23n {ρ : Nat → Nat → Option Nat} (hR : RfH ρ) {v1 : Int32} {v2 : Int32} {v3 : Int32} {v4 : Int32} {Q : Int32 → St → Prop} {QW : Int32 → Mem → Prop} {K5 : Int32 → Int32 → St → Prop} {KW5 : Int32 → Int32 → Mem → Prop} (hQ : ∀ (r : Int32) (u : St), DK u → Q r u → QW r (emb ρ u)) (hK5 : ∀ (x3 : Int32) (x4 : Int32) (u : St), DK u → K5 x3 x4 u → KW5 x3 x4 (emb ρ u)) : ∀ (n : Nat) (v5 : Int32) (v6 : Int32) (u : St), DK u → sX11_mostLeftBy_p23n v1 v2 v3 v4 Q K5 n v5 v6 u → X11_mostLeftBy_p23n SH 0 v1 v2 v3 v4 QW KW5 n v5 v6 (emb ρ u)
  | 0, _,_, _,  _, h => h.elim
  | n + 1, v5, v6,  u,  hd, h => t_X11_mostLeftBy_p23b hR hQ hK5 (fun v5 v6 u  hd h => t_X11_mostLeftBy_p23n hR hQ hK5 n v5 v6 u  hd h) hd h
set_option maxHeartbeats 4000000 in
set_option maxRecDepth 100000 in
theorem t_X11_mostLeftBy_p23 {ρ : Nat → Nat → Option Nat} (hR : RfH ρ) {v1 : Int32} {v2 : Int32} {v3 : Int32} {v4 : Int32} {v5 : Int32} {v6 : Int32} {Q : Int32 → St → Prop} {QW : Int32 → Mem → Prop} {K5 : Int32 → Int32 → St → Prop} {KW5 : Int32 → Int32 → Mem → Prop} (hQ : ∀ (r : Int32) (u : St), DK u → Q r u → QW r (emb ρ u)) (hK5 : ∀ (x3 : Int32) (x4 : Int32) (u : St), DK u → K5 x3 x4 u → KW5 x3 x4 (emb ρ u)) {u : St} (hd : DK u) (h : sX11_mostLeftBy_p23 v1 v2 v3 v4 Q K5 v5 v6 u) : X11_mostLeftBy_p23 SH 0 v1 v2 v3 v4 QW KW5 v5 v6 (emb ρ u) := h.elim (fun n h => ⟨n, t_X11_mostLeftBy_p23n hR hQ hK5 n _ _ _ hd h⟩)
set_option maxHeartbeats 4000000 in
set_option maxRecDepth 100000 in
theorem t_X11_mostLeftBy_p5b {ρ : Nat → Nat → Option Nat} (hR : RfH ρ) {v1 : Int32} {v2 : Int32} {v3 : Int32} {v4 : Int32} {Q : Int32 → St → Prop} {QW : Int32 → Mem → Prop} (hQ : ∀ (r : Int32) (u : St), DK u → Q r u → QW r (emb ρ u)) {K5 : Int32 → Int32 → St → Prop} {KW5 : Int32 → Int32 → Mem → Prop} (hK5 : ∀ (x3 : Int32) (x4 : Int32) (u : St), DK u → K5 x3 x4 u → KW5 x3 x4 (emb ρ u)) {u : St} (hd : DK u) (h : sX11_mostLeftBy_p5b v1 v2 Q K5 v3 v4 u) : X11_mostLeftBy_p5b SH 0 v1 v2 QW KW5 v3 v4 (emb ρ u) := by
  unfold X11_mostLeftBy_p5b
  unfold sX11_mostLeftBy_p5b at h
  refine ⟨on_0, ?_⟩
  refine ⟨_, rfl, ?_⟩
  have db1 := hd.1
  refine ⟨db1, ?_⟩
  refine ite_mono (fun hc h => ?_) (fun hc h => ?_) h
  · exact hQ _ _ hd h
  · exact t_X11_mostLeftBy_p23 hR hQ hK5 hd h
set_option maxHeartbeats 4000000 in
set_option maxRecDepth 100000 in
theorem t_X11_mostLeftBy_p5n {ρ : Nat → Nat → Option Nat} (hR : RfH ρ) {v1 : Int32} {v2 : Int32} {Q : Int32 → St → Prop} {QW : Int32 → Mem → Prop} (hQ : ∀ (r : Int32) (u : St), DK u → Q r u → QW r (emb ρ u)) : ∀ (n : Nat) (v3 : Int32) (v4 : Int32) (u : St), DK u → sX11_mostLeftBy_p5n v1 v2 Q n v3 v4 u → X11_mostLeftBy_p5n SH 0 v1 v2 QW n v3 v4 (emb ρ u)
  | 0, _,_, _,  _, h => h.elim
  | n + 1, v3, v4,  u,  hd, h => t_X11_mostLeftBy_p5b hR hQ (fun v3 v4 u  hd h => t_X11_mostLeftBy_p5n hR hQ n v3 v4 u  hd h) hd h
set_option maxHeartbeats 4000000 in
set_option maxRecDepth 100000 in
theorem t_X11_mostLeftBy_p5 {ρ : Nat → Nat → Option Nat} (hR : RfH ρ) {v1 : Int32} {v2 : Int32} {v3 : Int32} {v4 : Int32} {Q : Int32 → St → Prop} {QW : Int32 → Mem → Prop} (hQ : ∀ (r : Int32) (u : St), DK u → Q r u → QW r (emb ρ u)) {u : St} (hd : DK u) (h : sX11_mostLeftBy_p5 v1 v2 Q v3 v4 u) : X11_mostLeftBy_p5 SH 0 v1 v2 QW v3 v4 (emb ρ u) := h.elim (fun n h => ⟨n, t_X11_mostLeftBy_p5n hR hQ n _ _ _ hd h⟩)
set_option maxHeartbeats 4000000 in
set_option maxRecDepth 100000 in
theorem t_X11_mostLeftBy {ρ : Nat → Nat → Option Nat} (hR : RfH ρ) {v1 : Int32} {v2 : Int32} {Q : Int32 → St → Prop} {QW : Int32 → Mem → Prop} (hQ : ∀ (r : Int32) (u : St), DK u → Q r u → QW r (emb ρ u)) {u : St} (hd : DK u) (h : s_X11_mostLeftBy v1 v2 Q u) : wp_X11_mostLeftBy SH 0 v1 v2 QW (emb ρ u) := by
  unfold wp_X11_mostLeftBy
  unfold s_X11_mostLeftBy at h
  exact t_X11_mostLeftBy_p5 hR hQ hd h
/-! CalledRiver.octet -/
set_option maxHeartbeats 4000000 in
set_option maxRecDepth 100000 in
def s_X11_octet (v1 : Int32) (Q : Int32 → St → Prop) (u : St) : Prop :=
  if v1 < 0 then (Q (-1 : Int32) u) else (if v1 < (u.1 175 1) then (vp_in v1 117 ∧ (Q (u.1 176 v1.toNatClampNeg) u)) else (Q (-1 : Int32) u))
set_option maxHeartbeats 4000000 in
set_option maxRecDepth 100000 in
theorem t_X11_octet {ρ : Nat → Nat → Option Nat} (hR : RfH ρ) {v1 : Int32} {Q : Int32 → St → Prop} {QW : Int32 → Mem → Prop} (hQ : ∀ (r : Int32) (u : St), DK u → Q r u → QW r (emb ρ u)) {u : St} (hd : DK u) (h : s_X11_octet v1 Q u) : wp_X11_octet SH 0 v1 QW (emb ρ u) := by
  unfold wp_X11_octet
  unfold s_X11_octet at h
  refine ite_mono (fun hc h => ?_) (fun hc h => ?_) h
  · exact hQ _ _ hd h
  · refine ⟨on_0, ?_⟩
    refine ⟨_, rn_0_16 hR _, ?_⟩
    refine ⟨on_175, ?_⟩
    refine ite_mono (fun hc h => ?_) (fun hc h => ?_) h
    · refine ⟨_, rn_175_0 hR _, ?_⟩
      obtain ⟨x3, h⟩ := h
      refine ⟨ix_i (show SH[176]? = some (100, 117) from rfl) x3, ?_⟩
      exact hQ _ _ hd h
    · exact hQ _ _ hd h
/-! CalledRiver.on -/
set_option maxHeartbeats 4000000 in
set_option maxRecDepth 100000 in
def sX11_on_p51 (v1 : Int32) (Q : Int32 → St → Prop) (u : St) : Prop :=
  bnd (tI u 1 1 (0 : Int32)) (fun u18 => (v1 = 0 ∨ v1 = 1) ∧ Q v1 u18)
set_option maxHeartbeats 4000000 in
set_option maxRecDepth 100000 in
def s_X11_on (Q : Int32 → St → Prop) (u : St) : Prop :=
  s_X4_isOf u.2.2.1 (fun r3 u4 => if r3 = 0 then (s_X11_refuse (5 : Int32) (fun r5 u6 => sX11_on_p51 r3 Q u6) u4) else (s_X4_show u4.2.2.1 42 (fun u11 => s_X3_forget  (fun u14 => s_X11_forgetWays  (fun u16 => sX11_on_p51 r3 Q u16) u14) u11) u4)) u
set_option maxHeartbeats 4000000 in
set_option maxRecDepth 100000 in
theorem t_X11_on_p51 {ρ : Nat → Nat → Option Nat} (hR : RfH ρ) {v1 : Int32} {Q : Int32 → St → Prop} {QW : Int32 → Mem → Prop} (hQ : ∀ (r : Int32) (u : St), DK u → Q r u → QW r (emb ρ u)) {u : St} (hd : DK u) (h : sX11_on_p51 v1 Q u) : X11_on_p51 SH 0 v1 QW (emb ρ u) := by
  unfold X11_on_p51
  unfold sX11_on_p51 at h
  refine ⟨on_0, ?_⟩
  refine ⟨_, rn_0_0 hR _, ?_⟩
  refine ⟨on_1, ?_⟩
  refine bnd_I ?_
  replace h := bnd_e h
  exact ⟨h.1, hQ _ _ hd h.2⟩
set_option maxHeartbeats 4000000 in
set_option maxRecDepth 100000 in
theorem t_X11_on {ρ : Nat → Nat → Option Nat} (hR : RfH ρ) {Q : Int32 → St → Prop} {QW : Int32 → Mem → Prop} (hQ : ∀ (r : Int32) (u : St), DK u → Q r u → QW r (emb ρ u)) {u : St} (hd : DK u) (h : s_X11_on Q u) : wp_X11_on SH 0 QW (emb ρ u) := by
  unfold wp_X11_on
  unfold s_X11_on at h
  refine ⟨on_0, ?_⟩
  refine ⟨_, rfl, ?_⟩
  have db1 := hd.1
  refine ⟨_, rn_0_0 hR _, ?_⟩
  refine t_X4_isOf hR db1 (fun r3 u4 hd h => ?_) hd h
  refine ite_mono (fun hc h => ?_) (fun hc h => ?_) h
  · refine t_X11_refuse hR (fun r5 u6 hd h => ?_) hd h
    exact t_X11_on_p51 hR hQ hd h
  · refine ⟨_, rfl, ?_⟩
    have db7 := hd.1
    refine ⟨_, rn_0_0 hR _, ?_⟩
    refine ⟨_, rn_0_6 hR _, ?_⟩
    refine t_X4_show hR db7 on_42 (fun u11 hd h => ?_) hd h
    refine ⟨_, rn_0_8 hR _, ?_⟩
    refine ⟨on_52, ?_⟩
    refine t_X3_forget hR (fun u14 hd h => ?_) hd h
    refine t_X11_forgetWays hR (fun u16 hd h => ?_) hd h
    exact t_X11_on_p51 hR hQ hd h
/-! CalledRiver.parts -/
set_option maxHeartbeats 4000000 in
set_option maxRecDepth 100000 in
def s_X11_parts (v1 : Int32) (v2 : Int32) (v3 : Int32) (Q : Int32 → St → Prop) (u : St) : Prop :=
  s_X11_wayOf v1 (fun r1 u2 => s_X11_wayOf v2 (fun r3 u4 => if v1 = v2 then (Q (-1 : Int32) u4) else (if (u4.1 r1 2) = (-1 : Int32) then (Q (-1 : Int32) u4) else (if (u4.1 r3 2) = (-1 : Int32) then (Q (-1 : Int32) u4) else (s_X10_partingFrom r1 r3 (fun r5 u6 => if v3 = 0 then (Q r5 u6) else (if r5 = (-1 : Int32) then (Q r5 u6) else (s_X10_meetingWith r1 r3 r5 (fun r7 u8 => s_X11_placePart r7 (v3 - (1 : Int32)) (fun r9 u10 => Q r9 u10) u8) u6))) u4)))) u2) u
set_option maxHeartbeats 4000000 in
set_option maxRecDepth 100000 in
theorem t_X11_parts {ρ : Nat → Nat → Option Nat} (hR : RfH ρ) {v1 : Int32} {v2 : Int32} {v3 : Int32} {Q : Int32 → St → Prop} {QW : Int32 → Mem → Prop} (hQ : ∀ (r : Int32) (u : St), DK u → Q r u → QW r (emb ρ u)) {u : St} (hd : DK u) (h : s_X11_parts v1 v2 v3 Q u) : wp_X11_parts SH 0 v1 v2 v3 QW (emb ρ u) := by
  unfold wp_X11_parts
  unfold s_X11_parts at h
  refine ⟨on_0, ?_⟩
  refine t_X11_wayOf hR (fun r1 u2 hd or1 h => ?_) hd h
  refine t_X11_wayOf hR (fun r3 u4 hd or3 h => ?_) hd h
  refine ite_mono (fun hc h => ?_) (fun hc h => ?_) h
  · exact hQ _ _ hd h
  · refine ⟨or1, ?_⟩
    refine ite_mono (fun hc h => ?_) (fun hc h => ?_) h
    · exact hQ _ _ hd h
    · refine ⟨or3, ?_⟩
      refine ite_mono (fun hc h => ?_) (fun hc h => ?_) h
      · exact hQ _ _ hd h
      · refine t_X10_partingFrom hR or1 or3 (fun r5 u6 hd h => ?_) hd h
        refine ite_mono (fun hc h => ?_) (fun hc h => ?_) h
        · exact hQ _ _ hd h
        · refine ite_mono (fun hc h => ?_) (fun hc h => ?_) h
          · exact hQ _ _ hd h
          · refine t_X10_meetingWith hR or1 or3 (fun r7 u8 hd h => ?_) hd h
            refine t_X11_placePart hR (fun r9 u10 hd h => ?_) hd h
            exact hQ _ _ hd h
/-! CalledRiver.plain -/
set_option maxHeartbeats 4000000 in
set_option maxRecDepth 100000 in
def s_X11_plain (Q : Int32 → St → Prop) (u : St) : Prop :=
  s_X6_readPlain u.2.2.2.1 (fun r3 u4 => bnd (tI u4 1 1 (0 : Int32)) (fun u6 => if (u6.1 1 5) = 0 then (bnd (tD1 u6 u6.2.2.2.1) (fun u9 => bnd (tD2 u9 u6.2.2.1) (fun u10 => s_X1_begin 42 u10.2.2.1 (fun u14 => s_X3_forget  (fun u17 => bnd (tI u17 161 0 (0 : Int32)) (fun u19 => s_X11_forgetWays  (fun u21 => Q r3 u21) u19)) u14) u10))) else (s_X11_refuse (1 : Int32) (fun r22 u23 => Q r22 u23) u6))) u
set_option maxHeartbeats 4000000 in
set_option maxRecDepth 100000 in
theorem t_X11_plain {ρ : Nat → Nat → Option Nat} (hR : RfH ρ) {Q : Int32 → St → Prop} {QW : Int32 → Mem → Prop} (hQ : ∀ (r : Int32) (u : St), DK u → Q r u → QW r (emb ρ u)) {u : St} (hd : DK u) (h : s_X11_plain Q u) : wp_X11_plain SH 0 QW (emb ρ u) := by
  unfold wp_X11_plain
  unfold s_X11_plain at h
  refine ⟨on_0, ?_⟩
  refine ⟨_, rn_0_5 hR _, ?_⟩
  refine ⟨_, rfl, ?_⟩
  have db2 := hd.2.1
  refine ⟨on_41, ?_⟩
  refine t_X6_readPlain hR db2 (fun r3 u4 hd h => ?_) hd h
  refine ⟨_, rn_0_0 hR _, ?_⟩
  refine ⟨on_1, ?_⟩
  refine bnd_I ?_
  replace h := bnd_e h
  refine ite_mono (fun hc h => ?_) (fun hc h => ?_) h
  · refine ⟨_, rfl, ?_⟩
    have db7 := hd.1
    refine ⟨_, rfl, ?_⟩
    have db8 := hd.2.1
    refine bnd_D1 ?_
    replace h := bnd_e h
    replace hd := dk_1 hd db8
    refine bnd_D2 ?_
    replace h := bnd_e h
    replace hd := dk_2 hd db7
    refine ⟨_, rn_0_6 hR _, ?_⟩
    refine ⟨_, rfl, ?_⟩
    have db12 := hd.1
    refine ⟨on_42, ?_⟩
    refine t_X1_begin hR on_42 db12 (fun u14 hd h => ?_) hd h
    refine ⟨_, rn_0_8 hR _, ?_⟩
    refine ⟨on_52, ?_⟩
    refine t_X3_forget hR (fun u17 hd h => ?_) hd h
    refine ⟨_, rn_0_10 hR _, ?_⟩
    refine ⟨on_161, ?_⟩
    refine bnd_I ?_
    replace h := bnd_e h
    refine t_X11_forgetWays hR (fun u21 hd h => ?_) hd h
    exact hQ _ _ hd h
  · refine t_X11_refuse hR (fun r22 u23 hd h => ?_) hd h
    exact hQ _ _ hd h
/-! CalledRiver.waterBySets -/
set_option maxHeartbeats 4000000 in
set_option maxRecDepth 100000 in
def sX11_waterBySets_p28b (v1 : Int32) (v2 : Int32) (Q : St → Prop) (K13 : Int32 → St → Prop) (K28 : Int32 → St → Prop) (v3 : Int32) (u : St) : Prop :=
  if (u.1 u.2.2.1 3) ≤ v3 then (s_X10_lead 165 u.2.2.1 47 v1 (fun u10 => vp_in v2 64 ∧ bnd (tI u10 174 v2.toNatClampNeg (u10.1 165 4)) (fun u14 => K13 (v2 + (1 : Int32)) u14)) u) else (s_X11_pieIn v2 v3 (fun r17 u18 => vp_in v3 6 ∧ bnd (tI u18 51 v3.toNatClampNeg r17) (fun u20 => K28 (v3 + (1 : Int32)) u20)) u)
set_option maxHeartbeats 4000000 in
set_option maxRecDepth 100000 in
def sX11_waterBySets_p28n (v1 : Int32) (v2 : Int32) (Q : St → Prop) (K13 : Int32 → St → Prop) : Nat → Int32 → St → Prop
  | 0 => fun _ _ => False
  | n + 1 => sX11_waterBySets_p28b v1 v2 Q K13 (sX11_waterBySets_p28n v1 v2 Q K13 n)
set_option maxHeartbeats 4000000 in
set_option maxRecDepth 100000 in
def sX11_waterBySets_p28 (v1 : Int32) (v2 : Int32) (Q : St → Prop) (K13 : Int32 → St → Prop) (v3 : Int32) (u : St) : Prop := ∃ n, sX11_waterBySets_p28n v1 v2 Q K13 n v3 u
set_option maxHeartbeats 4000000 in
set_option maxRecDepth 100000 in
def sX11_waterBySets_p13b (v1 : Int32) (Q : St → Prop) (K13 : Int32 → St → Prop) (v2 : Int32) (u : St) : Prop :=
  if ((1 : Int32) <<< ((u.1 u.2.2.1 3) &&& 31)) ≤ v2 then (Q u) else (sX11_waterBySets_p28 v1 v2 Q K13 (0 : Int32) u)
set_option maxHeartbeats 4000000 in
set_option maxRecDepth 100000 in
def sX11_waterBySets_p13n (v1 : Int32) (Q : St → Prop) : Nat → Int32 → St → Prop
  | 0 => fun _ _ => False
  | n + 1 => sX11_waterBySets_p13b v1 Q (sX11_waterBySets_p13n v1 Q n)
set_option maxHeartbeats 4000000 in
set_option maxRecDepth 100000 in
def sX11_waterBySets_p13 (v1 : Int32) (Q : St → Prop) (v2 : Int32) (u : St) : Prop := ∃ n, sX11_waterBySets_p13n v1 Q n v2 u
set_option maxHeartbeats 4000000 in
set_option maxRecDepth 100000 in
def s_X11_waterBySets (v1 : Int32) (Q : St → Prop) (u : St) : Prop :=
  s_X1_copy 47 42 (fun u4 => sX11_waterBySets_p13 v1 Q (0 : Int32) u4) u
set_option maxHeartbeats 4000000 in
set_option maxRecDepth 100000 in
theorem t_X11_waterBySets_p28b {ρ : Nat → Nat → Option Nat} (hR : RfH ρ) {v1 : Int32} {v2 : Int32} {v3 : Int32} {Q : St → Prop} {QW : Mem → Prop} {K13 : Int32 → St → Prop} {KW13 : Int32 → Mem → Prop} (hQ : ∀ (u : St), DK u → Q u → QW (emb ρ u)) (hK13 : ∀ (x2 : Int32) (u : St), DK u → K13 x2 u → KW13 x2 (emb ρ u)) {K28 : Int32 → St → Prop} {KW28 : Int32 → Mem → Prop} (hK28 : ∀ (x3 : Int32) (u : St), DK u → K28 x3 u → KW28 x3 (emb ρ u)) {u : St} (hd : DK u) (h : sX11_waterBySets_p28b v1 v2 Q K13 K28 v3 u) : X11_waterBySets_p28b SH 0 v1 v2 QW KW13 KW28 v3 (emb ρ u) := by
  unfold X11_waterBySets_p28b
  unfold sX11_waterBySets_p28b at h
  refine ⟨on_0, ?_⟩
  refine ⟨_, rfl, ?_⟩
  have db6 := hd.1
  refine ⟨db6, ?_⟩
  refine ite_mono (fun hc h => ?_) (fun hc h => ?_) h
  · refine ⟨_, rn_0_12 hR _, ?_⟩
    refine ⟨_, rn_0_7 hR _, ?_⟩
    refine ⟨on_165, ?_⟩
    refine t_X10_lead hR on_165 db6 on_47 (fun u10 hd h => ?_) hd h
    refine ⟨_, rn_0_15 hR _, ?_⟩
    refine ⟨_, rn_0_12 hR _, ?_⟩
    refine ⟨on_165, ?_⟩
    obtain ⟨x13, h⟩ := h
    refine ⟨ix_i (show SH[174]? = some (100, 64) from rfl) x13, ?_⟩
    refine bnd_I ?_
    replace h := bnd_e h
    exact hK13 _ _ hd h
  · refine ⟨_, rn_0_7 hR _, ?_⟩
    refine ⟨on_47, ?_⟩
    refine ⟨_, rr_1_5 hR _ on_47, ?_⟩
    refine t_X11_pieIn hR (fun r17 u18 hd h => ?_) hd h
    obtain ⟨x19, h⟩ := h
    refine ⟨ix_i (show SH[51]? = some (100, 6) from rfl) x19, ?_⟩
    refine bnd_I ?_
    replace h := bnd_e h
    exact hK28 _ _ hd h
set_option maxHeartbeats 4000000 in
set_option maxRecDepth 100000 in
theorem t_X11_waterBySets_p28n {ρ : Nat → Nat → Option Nat} (hR : RfH ρ) {v1 : Int32} {v2 : Int32} {Q : St → Prop} {QW : Mem → Prop} {K13 : Int32 → St → Prop} {KW13 : Int32 → Mem → Prop} (hQ : ∀ (u : St), DK u → Q u → QW (emb ρ u)) (hK13 : ∀ (x2 : Int32) (u : St), DK u → K13 x2 u → KW13 x2 (emb ρ u)) : ∀ (n : Nat) (v3 : Int32) (u : St), DK u → sX11_waterBySets_p28n v1 v2 Q K13 n v3 u → X11_waterBySets_p28n SH 0 v1 v2 QW KW13 n v3 (emb ρ u)
  | 0, _, _,  _, h => h.elim
  | n + 1, v3,  u,  hd, h => t_X11_waterBySets_p28b hR hQ hK13 (fun v3 u  hd h => t_X11_waterBySets_p28n hR hQ hK13 n v3 u  hd h) hd h
set_option maxHeartbeats 4000000 in
set_option maxRecDepth 100000 in
theorem t_X11_waterBySets_p28 {ρ : Nat → Nat → Option Nat} (hR : RfH ρ) {v1 : Int32} {v2 : Int32} {v3 : Int32} {Q : St → Prop} {QW : Mem → Prop} {K13 : Int32 → St → Prop} {KW13 : Int32 → Mem → Prop} (hQ : ∀ (u : St), DK u → Q u → QW (emb ρ u)) (hK13 : ∀ (x2 : Int32) (u : St), DK u → K13 x2 u → KW13 x2 (emb ρ u)) {u : St} (hd : DK u) (h : sX11_waterBySets_p28 v1 v2 Q K13 v3 u) : X11_waterBySets_p28 SH 0 v1 v2 QW KW13 v3 (emb ρ u) := h.elim (fun n h => ⟨n, t_X11_waterBySets_p28n hR hQ hK13 n _ _ hd h⟩)
set_option maxHeartbeats 4000000 in
set_option maxRecDepth 100000 in
theorem t_X11_waterBySets_p13b {ρ : Nat → Nat → Option Nat} (hR : RfH ρ) {v1 : Int32} {v2 : Int32} {Q : St → Prop} {QW : Mem → Prop} (hQ : ∀ (u : St), DK u → Q u → QW (emb ρ u)) {K13 : Int32 → St → Prop} {KW13 : Int32 → Mem → Prop} (hK13 : ∀ (x2 : Int32) (u : St), DK u → K13 x2 u → KW13 x2 (emb ρ u)) {u : St} (hd : DK u) (h : sX11_waterBySets_p13b v1 Q K13 v2 u) : X11_waterBySets_p13b SH 0 v1 QW KW13 v2 (emb ρ u) := by
  unfold X11_waterBySets_p13b
  unfold sX11_waterBySets_p13b at h
  refine ⟨on_0, ?_⟩
  refine ⟨_, rfl, ?_⟩
  have db5 := hd.1
  refine ⟨db5, ?_⟩
  refine ite_mono (fun hc h => ?_) (fun hc h => ?_) h
  · exact hQ _ hd h
  · exact t_X11_waterBySets_p28 hR hQ hK13 hd h
set_option maxHeartbeats 4000000 in
set_option maxRecDepth 100000 in
theorem t_X11_waterBySets_p13n {ρ : Nat → Nat → Option Nat} (hR : RfH ρ) {v1 : Int32} {Q : St → Prop} {QW : Mem → Prop} (hQ : ∀ (u : St), DK u → Q u → QW (emb ρ u)) : ∀ (n : Nat) (v2 : Int32) (u : St), DK u → sX11_waterBySets_p13n v1 Q n v2 u → X11_waterBySets_p13n SH 0 v1 QW n v2 (emb ρ u)
  | 0, _, _,  _, h => h.elim
  | n + 1, v2,  u,  hd, h => t_X11_waterBySets_p13b hR hQ (fun v2 u  hd h => t_X11_waterBySets_p13n hR hQ n v2 u  hd h) hd h
set_option maxHeartbeats 4000000 in
set_option maxRecDepth 100000 in
theorem t_X11_waterBySets_p13 {ρ : Nat → Nat → Option Nat} (hR : RfH ρ) {v1 : Int32} {v2 : Int32} {Q : St → Prop} {QW : Mem → Prop} (hQ : ∀ (u : St), DK u → Q u → QW (emb ρ u)) {u : St} (hd : DK u) (h : sX11_waterBySets_p13 v1 Q v2 u) : X11_waterBySets_p13 SH 0 v1 QW v2 (emb ρ u) := h.elim (fun n h => ⟨n, t_X11_waterBySets_p13n hR hQ n _ _ hd h⟩)
set_option maxHeartbeats 4000000 in
set_option maxRecDepth 100000 in
theorem t_X11_waterBySets {ρ : Nat → Nat → Option Nat} (hR : RfH ρ) {v1 : Int32} {Q : St → Prop} {QW : Mem → Prop} (hQ : ∀ (u : St), DK u → Q u → QW (emb ρ u)) {u : St} (hd : DK u) (h : s_X11_waterBySets v1 Q u) : wp_X11_waterBySets SH 0 v1 QW (emb ρ u) := by
  unfold wp_X11_waterBySets
  unfold s_X11_waterBySets at h
  refine ⟨on_0, ?_⟩
  refine ⟨_, rn_0_7 hR _, ?_⟩
  refine ⟨_, rn_0_6 hR _, ?_⟩
  refine ⟨on_47, ?_⟩
  refine t_X1_copy hR on_47 on_42 (fun u4 hd h => ?_) hd h
  exact t_X11_waterBySets_p13 hR hQ hd h
/-! CalledRiver.rest -/
set_option maxHeartbeats 4000000 in
set_option maxRecDepth 100000 in
def sX11_rest_p74 (v2 : Int32) (v3 : Int32) (Q : Int32 → St → Prop) (K23 : Int32 → Int32 → St → Prop) (u : St) : Prop :=
  K23 v2 (v3 + (1 : Int32)) u
set_option maxHeartbeats 4000000 in
set_option maxRecDepth 100000 in
def sX11_rest_p57 (v2 : Int32) (v3 : Int32) (s0 : Int32) (Q : Int32 → St → Prop) (K23 : Int32 → Int32 → St → Prop) (u : St) : Prop :=
  if s0 = 0 then (sX11_rest_p74 v2 v3 Q K23 u) else (s_X11_isAtRest v3 (fun r10 u11 => if r10 = 0 then (sX11_rest_p74 v2 v3 Q K23 u11) else (sX11_rest_p74 v3 v3 Q K23 u11)) u)
set_option maxHeartbeats 4000000 in
set_option maxRecDepth 100000 in
def sX11_rest_p52 (v2 : Int32) (v3 : Int32) (Q : Int32 → St → Prop) (K23 : Int32 → Int32 → St → Prop) (u : St) : Prop :=
  sX11_rest_p57 v2 v3 (1 : Int32) Q K23 u
set_option maxHeartbeats 4000000 in
set_option maxRecDepth 100000 in
def sX11_rest_p23b (Q : Int32 → St → Prop) (K23 : Int32 → Int32 → St → Prop) (v2 : Int32) (v3 : Int32) (u : St) : Prop :=
  if ((1 : Int32) <<< ((u.1 u.2.2.1 3) &&& 31)) ≤ v3 then (Q v2 u) else (if v2 = (-1 : Int32) then (sX11_rest_p52 v2 v3 Q K23 u) else (s_J6_bitCount_0f7a4 v3 (fun r6 u7 => s_J6_bitCount_0f7a4 v2 (fun r8 u9 => if r6 ≤ r8 then (sX11_rest_p57 v2 v3 (0 : Int32) Q K23 u9) else (sX11_rest_p52 v2 v3 Q K23 u9)) u7) u))
set_option maxHeartbeats 4000000 in
set_option maxRecDepth 100000 in
def sX11_rest_p23n (Q : Int32 → St → Prop) : Nat → Int32 → Int32 → St → Prop
  | 0 => fun _ _ _ => False
  | n + 1 => sX11_rest_p23b Q (sX11_rest_p23n Q n)
set_option maxHeartbeats 4000000 in
set_option maxRecDepth 100000 in
def sX11_rest_p23 (Q : Int32 → St → Prop) (v2 : Int32) (v3 : Int32) (u : St) : Prop := ∃ n, sX11_rest_p23n Q n v2 v3 u
set_option maxHeartbeats 4000000 in
set_option maxRecDepth 100000 in
def s_X11_rest (v1 : Int32) (Q : Int32 → St → Prop) (u : St) : Prop :=
  s_X11_wayOf v1 (fun r1 u2 => if (u2.1 r1 2) = (-1 : Int32) then (Q (-1 : Int32) u2) else (s_X11_waterBySets v1 (fun u4 => sX11_rest_p23 Q (-1 : Int32) (0 : Int32) u4) u2)) u
set_option maxHeartbeats 4000000 in
set_option maxRecDepth 100000 in
theorem t_X11_rest_p74 {ρ : Nat → Nat → Option Nat} (hR : RfH ρ) {v2 : Int32} {v3 : Int32} {Q : Int32 → St → Prop} {QW : Int32 → Mem → Prop} {K23 : Int32 → Int32 → St → Prop} {KW23 : Int32 → Int32 → Mem → Prop} (hQ : ∀ (r : Int32) (u : St), DK u → Q r u → QW r (emb ρ u)) (hK23 : ∀ (x2 : Int32) (x3 : Int32) (u : St), DK u → K23 x2 x3 u → KW23 x2 x3 (emb ρ u)) {u : St} (hd : DK u) (h : sX11_rest_p74 v2 v3 Q K23 u) : X11_rest_p74 SH 0 v2 v3 QW KW23 (emb ρ u) := by
  unfold X11_rest_p74
  unfold sX11_rest_p74 at h
  exact hK23 _ _ _ hd h
set_option maxHeartbeats 4000000 in
set_option maxRecDepth 100000 in
theorem t_X11_rest_p57 {ρ : Nat → Nat → Option Nat} (hR : RfH ρ) {v2 : Int32} {v3 : Int32} {s0 : Int32} {Q : Int32 → St → Prop} {QW : Int32 → Mem → Prop} {K23 : Int32 → Int32 → St → Prop} {KW23 : Int32 → Int32 → Mem → Prop} (hQ : ∀ (r : Int32) (u : St), DK u → Q r u → QW r (emb ρ u)) (hK23 : ∀ (x2 : Int32) (x3 : Int32) (u : St), DK u → K23 x2 x3 u → KW23 x2 x3 (emb ρ u)) {u : St} (hd : DK u) (h : sX11_rest_p57 v2 v3 s0 Q K23 u) : X11_rest_p57 SH 0 v2 v3 s0 QW KW23 (emb ρ u) := by
  unfold X11_rest_p57
  unfold sX11_rest_p57 at h
  refine ite_mono (fun hc h => ?_) (fun hc h => ?_) h
  · exact t_X11_rest_p74 hR hQ hK23 hd h
  · refine ⟨on_0, ?_⟩
    refine t_X11_isAtRest hR (fun r10 u11 hd h => ?_) hd h
    refine ite_mono (fun hc h => ?_) (fun hc h => ?_) h
    · exact t_X11_rest_p74 hR hQ hK23 hd h
    · exact t_X11_rest_p74 hR hQ hK23 hd h
set_option maxHeartbeats 4000000 in
set_option maxRecDepth 100000 in
theorem t_X11_rest_p52 {ρ : Nat → Nat → Option Nat} (hR : RfH ρ) {v2 : Int32} {v3 : Int32} {Q : Int32 → St → Prop} {QW : Int32 → Mem → Prop} {K23 : Int32 → Int32 → St → Prop} {KW23 : Int32 → Int32 → Mem → Prop} (hQ : ∀ (r : Int32) (u : St), DK u → Q r u → QW r (emb ρ u)) (hK23 : ∀ (x2 : Int32) (x3 : Int32) (u : St), DK u → K23 x2 x3 u → KW23 x2 x3 (emb ρ u)) {u : St} (hd : DK u) (h : sX11_rest_p52 v2 v3 Q K23 u) : X11_rest_p52 SH 0 v2 v3 QW KW23 (emb ρ u) := by
  unfold X11_rest_p52
  unfold sX11_rest_p52 at h
  exact t_X11_rest_p57 hR hQ hK23 hd h
set_option maxHeartbeats 4000000 in
set_option maxRecDepth 100000 in
theorem t_X11_rest_p23b {ρ : Nat → Nat → Option Nat} (hR : RfH ρ) {v2 : Int32} {v3 : Int32} {Q : Int32 → St → Prop} {QW : Int32 → Mem → Prop} (hQ : ∀ (r : Int32) (u : St), DK u → Q r u → QW r (emb ρ u)) {K23 : Int32 → Int32 → St → Prop} {KW23 : Int32 → Int32 → Mem → Prop} (hK23 : ∀ (x2 : Int32) (x3 : Int32) (u : St), DK u → K23 x2 x3 u → KW23 x2 x3 (emb ρ u)) {u : St} (hd : DK u) (h : sX11_rest_p23b Q K23 v2 v3 u) : X11_rest_p23b SH 0 QW KW23 v2 v3 (emb ρ u) := by
  unfold X11_rest_p23b
  unfold sX11_rest_p23b at h
  refine ⟨on_0, ?_⟩
  refine ⟨_, rfl, ?_⟩
  have db5 := hd.1
  refine ⟨db5, ?_⟩
  refine ite_mono (fun hc h => ?_) (fun hc h => ?_) h
  · exact hQ _ _ hd h
  · refine ite_mono (fun hc h => ?_) (fun hc h => ?_) h
    · exact t_X11_rest_p52 hR hQ hK23 hd h
    · refine t_J6_bitCount_0f7a4 hR (fun r6 u7 hd h => ?_) hd h
      refine t_J6_bitCount_0f7a4 hR (fun r8 u9 hd h => ?_) hd h
      refine ite_mono (fun hc h => ?_) (fun hc h => ?_) h
      · exact t_X11_rest_p57 hR hQ hK23 hd h
      · exact t_X11_rest_p52 hR hQ hK23 hd h
set_option maxHeartbeats 4000000 in
set_option maxRecDepth 100000 in
theorem t_X11_rest_p23n {ρ : Nat → Nat → Option Nat} (hR : RfH ρ) {Q : Int32 → St → Prop} {QW : Int32 → Mem → Prop} (hQ : ∀ (r : Int32) (u : St), DK u → Q r u → QW r (emb ρ u)) : ∀ (n : Nat) (v2 : Int32) (v3 : Int32) (u : St), DK u → sX11_rest_p23n Q n v2 v3 u → X11_rest_p23n SH 0 QW n v2 v3 (emb ρ u)
  | 0, _,_, _,  _, h => h.elim
  | n + 1, v2, v3,  u,  hd, h => t_X11_rest_p23b hR hQ (fun v2 v3 u  hd h => t_X11_rest_p23n hR hQ n v2 v3 u  hd h) hd h
set_option maxHeartbeats 4000000 in
set_option maxRecDepth 100000 in
theorem t_X11_rest_p23 {ρ : Nat → Nat → Option Nat} (hR : RfH ρ) {v2 : Int32} {v3 : Int32} {Q : Int32 → St → Prop} {QW : Int32 → Mem → Prop} (hQ : ∀ (r : Int32) (u : St), DK u → Q r u → QW r (emb ρ u)) {u : St} (hd : DK u) (h : sX11_rest_p23 Q v2 v3 u) : X11_rest_p23 SH 0 QW v2 v3 (emb ρ u) := h.elim (fun n h => ⟨n, t_X11_rest_p23n hR hQ n _ _ _ hd h⟩)
set_option maxHeartbeats 4000000 in
set_option maxRecDepth 100000 in
theorem t_X11_rest {ρ : Nat → Nat → Option Nat} (hR : RfH ρ) {v1 : Int32} {Q : Int32 → St → Prop} {QW : Int32 → Mem → Prop} (hQ : ∀ (r : Int32) (u : St), DK u → Q r u → QW r (emb ρ u)) {u : St} (hd : DK u) (h : s_X11_rest v1 Q u) : wp_X11_rest SH 0 v1 QW (emb ρ u) := by
  unfold wp_X11_rest
  unfold s_X11_rest at h
  refine ⟨on_0, ?_⟩
  refine t_X11_wayOf hR (fun r1 u2 hd or1 h => ?_) hd h
  refine ⟨or1, ?_⟩
  refine ite_mono (fun hc h => ?_) (fun hc h => ?_) h
  · exact hQ _ _ hd h
  · refine t_X11_waterBySets hR (fun u4 hd h => ?_) hd h
    exact t_X11_rest_p23 hR hQ hd h
/-! CalledRiver.see -/
set_option maxHeartbeats 4000000 in
set_option maxRecDepth 100000 in
def s_X11_see (Q : Int32 → St → Prop) (u : St) : Prop :=
  s_X7_take u.2.2.1 (fun r4 u5 => bnd (tI u5 1 1 (0 : Int32)) (fun u7 => if r4 = 0 then (s_X11_refuse (1 : Int32) (fun r8 u9 => Q r8 u9) u7) else (Q (u7.1 161 0) u7))) u
set_option maxHeartbeats 4000000 in
set_option maxRecDepth 100000 in
theorem t_X11_see {ρ : Nat → Nat → Option Nat} (hR : RfH ρ) {Q : Int32 → St → Prop} {QW : Int32 → Mem → Prop} (hQ : ∀ (r : Int32) (u : St), DK u → Q r u → QW r (emb ρ u)) {u : St} (hd : DK u) (h : s_X11_see Q u) : wp_X11_see SH 0 QW (emb ρ u) := by
  unfold wp_X11_see
  unfold s_X11_see at h
  refine ⟨on_0, ?_⟩
  refine ⟨_, rn_0_10 hR _, ?_⟩
  refine ⟨_, rn_0_0 hR _, ?_⟩
  refine ⟨_, rfl, ?_⟩
  have db3 := hd.1
  refine ⟨on_161, ?_⟩
  refine t_X7_take hR db3 (fun r4 u5 hd h => ?_) hd h
  refine ⟨_, rn_0_0 hR _, ?_⟩
  refine ⟨on_1, ?_⟩
  refine bnd_I ?_
  replace h := bnd_e h
  refine ite_mono (fun hc h => ?_) (fun hc h => ?_) h
  · refine t_X11_refuse hR (fun r8 u9 hd h => ?_) hd h
    exact hQ _ _ hd h
  · refine ⟨_, rn_0_10 hR _, ?_⟩
    refine ⟨on_161, ?_⟩
    exact hQ _ _ hd h
/-! CalledRiver.seed -/
set_option maxHeartbeats 4000000 in
set_option maxRecDepth 100000 in
def s_X11_seed (v1 : Int32) (Q : Int32 → St → Prop) (u : St) : Prop :=
  if 0 ≤ v1 then (bnd (tL u 0 18 v1.toInt64) (fun u1 => Q (1 : Int32) u1)) else (s_X11_refuse (5 : Int32) (fun r2 u3 => Q (0 : Int32) u3) u)
set_option maxHeartbeats 4000000 in
set_option maxRecDepth 100000 in
theorem t_X11_seed {ρ : Nat → Nat → Option Nat} (hR : RfH ρ) {v1 : Int32} {Q : Int32 → St → Prop} {QW : Int32 → Mem → Prop} (hQ : ∀ (r : Int32) (u : St), DK u → Q r u → QW r (emb ρ u)) {u : St} (hd : DK u) (h : s_X11_seed v1 Q u) : wp_X11_seed SH 0 v1 QW (emb ρ u) := by
  unfold wp_X11_seed
  unfold s_X11_seed at h
  refine ite_mono (fun hc h => ?_) (fun hc h => ?_) h
  · refine ⟨on_0, ?_⟩
    refine bnd_L ?_
    replace h := bnd_e h
    exact hQ _ _ hd h
  · refine ⟨on_0, ?_⟩
    refine t_X11_refuse hR (fun r2 u3 hd h => ?_) hd h
    exact hQ _ _ hd h
/-! CalledRiver.spring -/
set_option maxHeartbeats 4000000 in
set_option maxRecDepth 100000 in
def sX11_spring_p25 (Q : Int32 → St → Prop) (u : St) : Prop :=
  s_X11_refuse (2 : Int32) (fun r9 u10 => Q r9 u10) u
set_option maxHeartbeats 4000000 in
set_option maxRecDepth 100000 in
def s_X11_spring (v1 : Int32) (Q : Int32 → St → Prop) (u : St) : Prop :=
  s_X11_wayOf v1 (fun r1 u2 => if (u2.1 r1 2) = (-1 : Int32) then (sX11_spring_p25 Q u2) else (if (u2.1 42 0) < (999 : Int32) then (s_X3_remember 42 (fun u6 => s_X11_passYear v1 (fun r7 u8 => Q r7 u8) u6) u2) else (sX11_spring_p25 Q u2))) u
set_option maxHeartbeats 4000000 in
set_option maxRecDepth 100000 in
theorem t_X11_spring_p25 {ρ : Nat → Nat → Option Nat} (hR : RfH ρ) {Q : Int32 → St → Prop} {QW : Int32 → Mem → Prop} (hQ : ∀ (r : Int32) (u : St), DK u → Q r u → QW r (emb ρ u)) {u : St} (hd : DK u) (h : sX11_spring_p25 Q u) : X11_spring_p25 SH 0 QW (emb ρ u) := by
  unfold X11_spring_p25
  unfold sX11_spring_p25 at h
  refine ⟨on_0, ?_⟩
  refine t_X11_refuse hR (fun r9 u10 hd h => ?_) hd h
  exact hQ _ _ hd h
set_option maxHeartbeats 4000000 in
set_option maxRecDepth 100000 in
theorem t_X11_spring {ρ : Nat → Nat → Option Nat} (hR : RfH ρ) {v1 : Int32} {Q : Int32 → St → Prop} {QW : Int32 → Mem → Prop} (hQ : ∀ (r : Int32) (u : St), DK u → Q r u → QW r (emb ρ u)) {u : St} (hd : DK u) (h : s_X11_spring v1 Q u) : wp_X11_spring SH 0 v1 QW (emb ρ u) := by
  unfold wp_X11_spring
  unfold s_X11_spring at h
  refine ⟨on_0, ?_⟩
  refine t_X11_wayOf hR (fun r1 u2 hd or1 h => ?_) hd h
  refine ⟨or1, ?_⟩
  refine ite_mono (fun hc h => ?_) (fun hc h => ?_) h
  · exact t_X11_spring_p25 hR hQ hd h
  · refine ⟨_, rn_0_6 hR _, ?_⟩
    refine ⟨on_42, ?_⟩
    refine ite_mono (fun hc h => ?_) (fun hc h => ?_) h
    · refine ⟨_, rn_0_8 hR _, ?_⟩
      refine ⟨on_52, ?_⟩
      refine t_X3_remember hR on_42 (fun u6 hd h => ?_) hd h
      refine t_X11_passYear hR (fun r7 u8 hd h => ?_) hd h
      exact hQ _ _ hd h
    · exact t_X11_spring_p25 hR hQ hd h
/-! CalledRiver.status -/
set_option maxHeartbeats 4000000 in
set_option maxRecDepth 100000 in
def s_X11_status (v1 : Int32) (Q : Int32 → St → Prop) (u : St) : Prop :=
  if v1 < 0 then (Q (-1 : Int32) u) else (if v1 < (6 : Int32) then (vp_in v1 6 ∧ (Q (u.1 177 v1.toNatClampNeg) u)) else (Q (-1 : Int32) u))
set_option maxHeartbeats 4000000 in
set_option maxRecDepth 100000 in
theorem t_X11_status {ρ : Nat → Nat → Option Nat} (hR : RfH ρ) {v1 : Int32} {Q : Int32 → St → Prop} {QW : Int32 → Mem → Prop} (hQ : ∀ (r : Int32) (u : St), DK u → Q r u → QW r (emb ρ u)) {u : St} (hd : DK u) (h : s_X11_status v1 Q u) : wp_X11_status SH 0 v1 QW (emb ρ u) := by
  unfold wp_X11_status
  unfold s_X11_status at h
  refine ite_mono (fun hc h => ?_) (fun hc h => ?_) h
  · exact hQ _ _ hd h
  · refine ite_mono (fun hc h => ?_) (fun hc h => ?_) h
    · refine ⟨on_0, ?_⟩
      refine ⟨_, rn_0_17 hR _, ?_⟩
      obtain ⟨x2, h⟩ := h
      refine ⟨ix_i (show SH[177]? = some (100, 6) from rfl) x2, ?_⟩
      exact hQ _ _ hd h
    · exact hQ _ _ hd h
/-! CalledRiver.stone -/
set_option maxHeartbeats 4000000 in
set_option maxRecDepth 100000 in
def sX11_stone_p40 (Q : Int32 → St → Prop) (u : St) : Prop :=
  s_X11_refuse (3 : Int32) (fun r16 u17 => Q (0 : Int32) u17) u
set_option maxHeartbeats 4000000 in
set_option maxRecDepth 100000 in
def s_X11_stone (v1 : Int32) (v2 : Int32) (v3 : Int32) (Q : Int32 → St → Prop) (u : St) : Prop :=
  s_X5_placeOf u.2.2.1 v1 v2 (fun r2 u3 => if r2 = (-1 : Int32) then (sX11_stone_p40 Q u3) else (if v3 < 0 then (sX11_stone_p40 Q u3) else (if (1 : Int32) < v3 then (sX11_stone_p40 Q u3) else (vp_in r2 36 ∧ (if (u3.1 44 r2.toNatClampNeg) = v3 then (sX11_stone_p40 Q u3) else (s_X3_remember 42 (fun u9 => vp_in r2 36 ∧ bnd (tI u9 44 r2.toNatClampNeg v3) (fun u13 => s_X11_forgetWays  (fun u15 => Q (1 : Int32) u15) u13)) u3)))))) u
set_option maxHeartbeats 4000000 in
set_option maxRecDepth 100000 in
theorem t_X11_stone_p40 {ρ : Nat → Nat → Option Nat} (hR : RfH ρ) {Q : Int32 → St → Prop} {QW : Int32 → Mem → Prop} (hQ : ∀ (r : Int32) (u : St), DK u → Q r u → QW r (emb ρ u)) {u : St} (hd : DK u) (h : sX11_stone_p40 Q u) : X11_stone_p40 SH 0 QW (emb ρ u) := by
  unfold X11_stone_p40
  unfold sX11_stone_p40 at h
  refine ⟨on_0, ?_⟩
  refine t_X11_refuse hR (fun r16 u17 hd h => ?_) hd h
  exact hQ _ _ hd h
set_option maxHeartbeats 4000000 in
set_option maxRecDepth 100000 in
theorem t_X11_stone {ρ : Nat → Nat → Option Nat} (hR : RfH ρ) {v1 : Int32} {v2 : Int32} {v3 : Int32} {Q : Int32 → St → Prop} {QW : Int32 → Mem → Prop} (hQ : ∀ (r : Int32) (u : St), DK u → Q r u → QW r (emb ρ u)) {u : St} (hd : DK u) (h : s_X11_stone v1 v2 v3 Q u) : wp_X11_stone SH 0 v1 v2 v3 QW (emb ρ u) := by
  unfold wp_X11_stone
  unfold s_X11_stone at h
  refine ⟨on_0, ?_⟩
  refine ⟨_, rfl, ?_⟩
  have db1 := hd.1
  refine ⟨db1, ?_⟩
  refine t_X5_placeOf hR db1 (fun r2 u3 hd h => ?_) hd h
  refine ite_mono (fun hc h => ?_) (fun hc h => ?_) h
  · exact t_X11_stone_p40 hR hQ hd h
  · refine ite_mono (fun hc h => ?_) (fun hc h => ?_) h
    · exact t_X11_stone_p40 hR hQ hd h
    · refine ite_mono (fun hc h => ?_) (fun hc h => ?_) h
      · exact t_X11_stone_p40 hR hQ hd h
      · refine ⟨_, rn_0_6 hR _, ?_⟩
        refine ⟨on_42, ?_⟩
        refine ⟨_, rr_1_3 hR _ on_42, ?_⟩
        obtain ⟨x6, h⟩ := h
        refine ⟨ix_i (show SH[44]? = some (100, 36) from rfl) x6, ?_⟩
        refine ite_mono (fun hc h => ?_) (fun hc h => ?_) h
        · exact t_X11_stone_p40 hR hQ hd h
        · refine ⟨_, rn_0_8 hR _, ?_⟩
          refine ⟨on_52, ?_⟩
          refine t_X3_remember hR on_42 (fun u9 hd h => ?_) hd h
          refine ⟨_, rn_0_6 hR _, ?_⟩
          refine ⟨on_42, ?_⟩
          refine ⟨_, rr_1_3 hR _ on_42, ?_⟩
          obtain ⟨x12, h⟩ := h
          refine ⟨ix_i (show SH[44]? = some (100, 36) from rfl) x12, ?_⟩
          refine bnd_I ?_
          replace h := bnd_e h
          refine t_X11_forgetWays hR (fun u15 hd h => ?_) hd h
          exact hQ _ _ hd h
/-! CalledRiver.tells -/
set_option maxHeartbeats 4000000 in
set_option maxRecDepth 100000 in
def sX11_tells_p63 (v1 : Int32) (v2 : Int32) (v3 : Int32) (v4 : Int32) (v5 : Int32) (Q : Int32 → St → Prop) (K33 : Int32 → Int32 → Int32 → St → Prop) (u : St) : Prop :=
  K33 v3 v4 (v5 + (1 : Int32)) u
set_option maxHeartbeats 4000000 in
set_option maxRecDepth 100000 in
def sX11_tells_p33b (v1 : Int32) (v2 : Int32) (Q : Int32 → St → Prop) (K33 : Int32 → Int32 → Int32 → St → Prop) (v3 : Int32) (v4 : Int32) (v5 : Int32) (u : St) : Prop :=
  if (40 : Int32) < v5 then (if v1 = 0 then (Q v3 u) else (Q v4 u)) else (s_X11_mostLeftBy v5 v2 (fun r5 u6 => if v4 ≤ r5 then (sX11_tells_p63 v1 v2 v3 v4 v5 Q K33 u6) else (sX11_tells_p63 v1 v2 v5 r5 v5 Q K33 u6)) u)
set_option maxHeartbeats 4000000 in
set_option maxRecDepth 100000 in
def sX11_tells_p33n (v1 : Int32) (v2 : Int32) (Q : Int32 → St → Prop) : Nat → Int32 → Int32 → Int32 → St → Prop
  | 0 => fun _ _ _ _ => False
  | n + 1 => sX11_tells_p33b v1 v2 Q (sX11_tells_p33n v1 v2 Q n)
set_option maxHeartbeats 4000000 in
set_option maxRecDepth 100000 in
def sX11_tells_p33 (v1 : Int32) (v2 : Int32) (Q : Int32 → St → Prop) (v3 : Int32) (v4 : Int32) (v5 : Int32) (u : St) : Prop := ∃ n, sX11_tells_p33n v1 v2 Q n v3 v4 v5 u
set_option maxHeartbeats 4000000 in
set_option maxRecDepth 100000 in
def s_X11_tells (v1 : Int32) (Q : Int32 → St → Prop) (u : St) : Prop :=
  s_X11_callersLeft  (fun r1 u2 => if r1 = 0 then (Q (-1 : Int32) u2) else (if v1 < 0 then (Q (-1 : Int32) u2) else (if v1 ≤ (1 : Int32) then (s_X11_mostLeftBy (0 : Int32) r1 (fun r3 u4 => sX11_tells_p33 v1 r1 Q (0 : Int32) r3 (1 : Int32) u4) u2) else (Q (-1 : Int32) u2)))) u
set_option maxHeartbeats 4000000 in
set_option maxRecDepth 100000 in
theorem t_X11_tells_p63 {ρ : Nat → Nat → Option Nat} (hR : RfH ρ) {v1 : Int32} {v2 : Int32} {v3 : Int32} {v4 : Int32} {v5 : Int32} {Q : Int32 → St → Prop} {QW : Int32 → Mem → Prop} {K33 : Int32 → Int32 → Int32 → St → Prop} {KW33 : Int32 → Int32 → Int32 → Mem → Prop} (hQ : ∀ (r : Int32) (u : St), DK u → Q r u → QW r (emb ρ u)) (hK33 : ∀ (x3 : Int32) (x4 : Int32) (x5 : Int32) (u : St), DK u → K33 x3 x4 x5 u → KW33 x3 x4 x5 (emb ρ u)) {u : St} (hd : DK u) (h : sX11_tells_p63 v1 v2 v3 v4 v5 Q K33 u) : X11_tells_p63 SH 0 v1 v2 v3 v4 v5 QW KW33 (emb ρ u) := by
  unfold X11_tells_p63
  unfold sX11_tells_p63 at h
  exact hK33 _ _ _ _ hd h
set_option maxHeartbeats 4000000 in
set_option maxRecDepth 100000 in
theorem t_X11_tells_p33b {ρ : Nat → Nat → Option Nat} (hR : RfH ρ) {v1 : Int32} {v2 : Int32} {v3 : Int32} {v4 : Int32} {v5 : Int32} {Q : Int32 → St → Prop} {QW : Int32 → Mem → Prop} (hQ : ∀ (r : Int32) (u : St), DK u → Q r u → QW r (emb ρ u)) {K33 : Int32 → Int32 → Int32 → St → Prop} {KW33 : Int32 → Int32 → Int32 → Mem → Prop} (hK33 : ∀ (x3 : Int32) (x4 : Int32) (x5 : Int32) (u : St), DK u → K33 x3 x4 x5 u → KW33 x3 x4 x5 (emb ρ u)) {u : St} (hd : DK u) (h : sX11_tells_p33b v1 v2 Q K33 v3 v4 v5 u) : X11_tells_p33b SH 0 v1 v2 QW KW33 v3 v4 v5 (emb ρ u) := by
  unfold X11_tells_p33b
  unfold sX11_tells_p33b at h
  refine ite_mono (fun hc h => ?_) (fun hc h => ?_) h
  · refine ite_mono (fun hc h => ?_) (fun hc h => ?_) h
    · exact hQ _ _ hd h
    · exact hQ _ _ hd h
  · refine ⟨on_0, ?_⟩
    refine t_X11_mostLeftBy hR (fun r5 u6 hd h => ?_) hd h
    refine ite_mono (fun hc h => ?_) (fun hc h => ?_) h
    · exact t_X11_tells_p63 hR hQ hK33 hd h
    · exact t_X11_tells_p63 hR hQ hK33 hd h
set_option maxHeartbeats 4000000 in
set_option maxRecDepth 100000 in
theorem t_X11_tells_p33n {ρ : Nat → Nat → Option Nat} (hR : RfH ρ) {v1 : Int32} {v2 : Int32} {Q : Int32 → St → Prop} {QW : Int32 → Mem → Prop} (hQ : ∀ (r : Int32) (u : St), DK u → Q r u → QW r (emb ρ u)) : ∀ (n : Nat) (v3 : Int32) (v4 : Int32) (v5 : Int32) (u : St), DK u → sX11_tells_p33n v1 v2 Q n v3 v4 v5 u → X11_tells_p33n SH 0 v1 v2 QW n v3 v4 v5 (emb ρ u)
  | 0, _,_,_, _,  _, h => h.elim
  | n + 1, v3, v4, v5,  u,  hd, h => t_X11_tells_p33b hR hQ (fun v3 v4 v5 u  hd h => t_X11_tells_p33n hR hQ n v3 v4 v5 u  hd h) hd h
set_option maxHeartbeats 4000000 in
set_option maxRecDepth 100000 in
theorem t_X11_tells_p33 {ρ : Nat → Nat → Option Nat} (hR : RfH ρ) {v1 : Int32} {v2 : Int32} {v3 : Int32} {v4 : Int32} {v5 : Int32} {Q : Int32 → St → Prop} {QW : Int32 → Mem → Prop} (hQ : ∀ (r : Int32) (u : St), DK u → Q r u → QW r (emb ρ u)) {u : St} (hd : DK u) (h : sX11_tells_p33 v1 v2 Q v3 v4 v5 u) : X11_tells_p33 SH 0 v1 v2 QW v3 v4 v5 (emb ρ u) := h.elim (fun n h => ⟨n, t_X11_tells_p33n hR hQ n _ _ _ _ hd h⟩)
set_option maxHeartbeats 4000000 in
set_option maxRecDepth 100000 in
theorem t_X11_tells {ρ : Nat → Nat → Option Nat} (hR : RfH ρ) {v1 : Int32} {Q : Int32 → St → Prop} {QW : Int32 → Mem → Prop} (hQ : ∀ (r : Int32) (u : St), DK u → Q r u → QW r (emb ρ u)) {u : St} (hd : DK u) (h : s_X11_tells v1 Q u) : wp_X11_tells SH 0 v1 QW (emb ρ u) := by
  unfold wp_X11_tells
  unfold s_X11_tells at h
  refine ⟨on_0, ?_⟩
  refine t_X11_callersLeft hR (fun r1 u2 hd h => ?_) hd h
  refine ite_mono (fun hc h => ?_) (fun hc h => ?_) h
  · exact hQ _ _ hd h
  · refine ite_mono (fun hc h => ?_) (fun hc h => ?_) h
    · exact hQ _ _ hd h
    · refine ite_mono (fun hc h => ?_) (fun hc h => ?_) h
      · refine t_X11_mostLeftBy hR (fun r3 u4 hd h => ?_) hd h
        exact t_X11_tells_p33 hR hQ hd h
      · exact hQ _ _ hd h
/-! CalledRiver.undo -/
set_option maxHeartbeats 4000000 in
set_option maxRecDepth 100000 in
def s_X11_undo (Q : Int32 → St → Prop) (u : St) : Prop :=
  s_X3_restore 42 (fun r3 u4 => if r3 = 0 then (s_X11_refuse (4 : Int32) (fun r7 u8 => Q (0 : Int32) u8) u4) else (s_X11_forgetWays  (fun u6 => Q (1 : Int32) u6) u4)) u
set_option maxHeartbeats 4000000 in
set_option maxRecDepth 100000 in
theorem t_X11_undo {ρ : Nat → Nat → Option Nat} (hR : RfH ρ) {Q : Int32 → St → Prop} {QW : Int32 → Mem → Prop} (hQ : ∀ (r : Int32) (u : St), DK u → Q r u → QW r (emb ρ u)) {u : St} (hd : DK u) (h : s_X11_undo Q u) : wp_X11_undo SH 0 QW (emb ρ u) := by
  unfold wp_X11_undo
  unfold s_X11_undo at h
  refine ⟨on_0, ?_⟩
  refine ⟨_, rn_0_8 hR _, ?_⟩
  refine ⟨_, rn_0_6 hR _, ?_⟩
  refine ⟨on_52, ?_⟩
  refine t_X3_restore hR on_42 (fun r3 u4 hd h => ?_) hd h
  refine ite_mono (fun hc h => ?_) (fun hc h => ?_) h
  · refine t_X11_refuse hR (fun r7 u8 hd h => ?_) hd h
    exact hQ _ _ hd h
  · refine t_X11_forgetWays hR (fun u6 hd h => ?_) hd h
    exact hQ _ _ hd h
/-! CalledRiver.way -/
set_option maxHeartbeats 4000000 in
set_option maxRecDepth 100000 in
def s_X11_way (v1 : Int32) (v2 : Int32) (v3 : Int32) (Q : Int32 → St → Prop) (u : St) : Prop :=
  s_X11_wayOf v1 (fun r1 u2 => s_X10_placeBy r1 v2 (fun r3 u4 => s_X11_placePart r3 v3 (fun r5 u6 => Q r5 u6) u4) u2) u
set_option maxHeartbeats 4000000 in
set_option maxRecDepth 100000 in
theorem t_X11_way {ρ : Nat → Nat → Option Nat} (hR : RfH ρ) {v1 : Int32} {v2 : Int32} {v3 : Int32} {Q : Int32 → St → Prop} {QW : Int32 → Mem → Prop} (hQ : ∀ (r : Int32) (u : St), DK u → Q r u → QW r (emb ρ u)) {u : St} (hd : DK u) (h : s_X11_way v1 v2 v3 Q u) : wp_X11_way SH 0 v1 v2 v3 QW (emb ρ u) := by
  unfold wp_X11_way
  unfold s_X11_way at h
  refine ⟨on_0, ?_⟩
  refine t_X11_wayOf hR (fun r1 u2 hd or1 h => ?_) hd h
  refine ⟨or1, ?_⟩
  refine t_X10_placeBy hR or1 (fun r3 u4 hd h => ?_) hd h
  refine t_X11_placePart hR (fun r5 u6 hd h => ?_) hd h
  exact hQ _ _ hd h
/-! CalledRiver.who -/
set_option maxHeartbeats 4000000 in
set_option maxRecDepth 100000 in
def s_X11_who (Q : Int32 → St → Prop) (u : St) : Prop :=
  s_X11_callersLeft  (fun r1 u2 => Q r1 u2) u
set_option maxHeartbeats 4000000 in
set_option maxRecDepth 100000 in
theorem t_X11_who {ρ : Nat → Nat → Option Nat} (hR : RfH ρ) {Q : Int32 → St → Prop} {QW : Int32 → Mem → Prop} (hQ : ∀ (r : Int32) (u : St), DK u → Q r u → QW r (emb ρ u)) {u : St} (hd : DK u) (h : s_X11_who Q u) : wp_X11_who SH 0 QW (emb ρ u) := by
  unfold wp_X11_who
  unfold s_X11_who at h
  refine ⟨on_0, ?_⟩
  refine t_X11_callersLeft hR (fun r1 u2 hd h => ?_) hd h
  exact hQ _ _ hd h
