theorem bnd_I {ρ : Nat → Nat → Option Nat} {u : St} {a k : Nat} {v : Int32} {P : Mem → Prop} (h : P (emb ρ (tI u a k v))) : bnd (sI (emb ρ u) a k v) P := h
theorem bnd_L {ρ : Nat → Nat → Option Nat} {u : St} {a k : Nat} {v : Int64} {P : Mem → Prop} (h : P (emb ρ (tL u a k v))) : bnd (sL (emb ρ u) a k v) P := h
theorem bnd_C {ρ : Nat → Nat → Option Nat} {u : St} {a b : Nat} {sp dp n : Int32} {P : Mem → Prop} (h : P (emb ρ (tC u a sp b dp n))) : bnd (cpI (emb ρ u) a sp b dp n) P := h
theorem bnd_D1 {ρ : Nat → Nat → Option Nat} {u : St} {b : Nat} {P : Mem → Prop} (h : P (emb ρ (tD1 u b))) : bnd (sR (emb ρ u) 0 3 (some b)) P := by rw [e_D1]; exact h
theorem bnd_D2 {ρ : Nat → Nat → Option Nat} {u : St} {b : Nat} {P : Mem → Prop} (h : P (emb ρ (tD2 u b))) : bnd (sR (emb ρ u) 0 4 (some b)) P := by rw [e_D2]; exact h
theorem bnd_D3 {ρ : Nat → Nat → Option Nat} {u : St} {b : Nat} {P : Mem → Prop} (h : P (emb ρ (tD3 u b))) : bnd (sR (emb ρ u) 6 1 (some b)) P := by rw [e_D3]; exact h
theorem bnd_D4 {ρ : Nat → Nat → Option Nat} {u : St} {b : Nat} {P : Mem → Prop} (h : P (emb ρ (tD4 u b))) : bnd (sR (emb ρ u) 41 2 (some b)) P := by rw [e_D4]; exact h
theorem dk_1 {u : St} {b : Nat} (h : DK u) (hb : Ob SH b 5) : DK (tD1 u b) := ⟨hb, h.2⟩
theorem dk_2 {u : St} {b : Nat} (h : DK u) (hb : Ob SH b 5) : DK (tD2 u b) := ⟨h.1, hb, h.2.2⟩
theorem dk_3 {u : St} {b : Nat} (h : DK u) (hb : Ob SH b 0) : DK (tD3 u b) := ⟨h.1, h.2.1, hb, h.2.2.2⟩
theorem dk_4 {u : St} {b : Nat} (h : DK u) (hb : Ob SH b 5) : DK (tD4 u b) := ⟨h.1, h.2.1, h.2.2.1, hb⟩

/-! java/lang/Integer.bitCount -/
set_option maxHeartbeats 4000000 in
set_option maxRecDepth 100000 in
def s_J6_bitCount_0f7a4 (v0 : Int32) (Q : Int32 → St → Prop) (u : St) : Prop :=
  Q ((((((((v0 - ((v0.toUInt32 >>> ((1 : Int32).toUInt32 &&& Int32.toUInt32 31)).toInt32 &&& (1431655765 : Int32))) &&& (858993459 : Int32)) + (((v0 - ((v0.toUInt32 >>> ((1 : Int32).toUInt32 &&& Int32.toUInt32 31)).toInt32 &&& (1431655765 : Int32))).toUInt32 >>> ((2 : Int32).toUInt32 &&& Int32.toUInt32 31)).toInt32 &&& (858993459 : Int32))) + ((((v0 - ((v0.toUInt32 >>> ((1 : Int32).toUInt32 &&& Int32.toUInt32 31)).toInt32 &&& (1431655765 : Int32))) &&& (858993459 : Int32)) + (((v0 - ((v0.toUInt32 >>> ((1 : Int32).toUInt32 &&& Int32.toUInt32 31)).toInt32 &&& (1431655765 : Int32))).toUInt32 >>> ((2 : Int32).toUInt32 &&& Int32.toUInt32 31)).toInt32 &&& (858993459 : Int32))).toUInt32 >>> ((4 : Int32).toUInt32 &&& Int32.toUInt32 31)).toInt32) &&& (252645135 : Int32)) + ((((((v0 - ((v0.toUInt32 >>> ((1 : Int32).toUInt32 &&& Int32.toUInt32 31)).toInt32 &&& (1431655765 : Int32))) &&& (858993459 : Int32)) + (((v0 - ((v0.toUInt32 >>> ((1 : Int32).toUInt32 &&& Int32.toUInt32 31)).toInt32 &&& (1431655765 : Int32))).toUInt32 >>> ((2 : Int32).toUInt32 &&& Int32.toUInt32 31)).toInt32 &&& (858993459 : Int32))) + ((((v0 - ((v0.toUInt32 >>> ((1 : Int32).toUInt32 &&& Int32.toUInt32 31)).toInt32 &&& (1431655765 : Int32))) &&& (858993459 : Int32)) + (((v0 - ((v0.toUInt32 >>> ((1 : Int32).toUInt32 &&& Int32.toUInt32 31)).toInt32 &&& (1431655765 : Int32))).toUInt32 >>> ((2 : Int32).toUInt32 &&& Int32.toUInt32 31)).toInt32 &&& (858993459 : Int32))).toUInt32 >>> ((4 : Int32).toUInt32 &&& Int32.toUInt32 31)).toInt32) &&& (252645135 : Int32)).toUInt32 >>> ((8 : Int32).toUInt32 &&& Int32.toUInt32 31)).toInt32) + (((((((v0 - ((v0.toUInt32 >>> ((1 : Int32).toUInt32 &&& Int32.toUInt32 31)).toInt32 &&& (1431655765 : Int32))) &&& (858993459 : Int32)) + (((v0 - ((v0.toUInt32 >>> ((1 : Int32).toUInt32 &&& Int32.toUInt32 31)).toInt32 &&& (1431655765 : Int32))).toUInt32 >>> ((2 : Int32).toUInt32 &&& Int32.toUInt32 31)).toInt32 &&& (858993459 : Int32))) + ((((v0 - ((v0.toUInt32 >>> ((1 : Int32).toUInt32 &&& Int32.toUInt32 31)).toInt32 &&& (1431655765 : Int32))) &&& (858993459 : Int32)) + (((v0 - ((v0.toUInt32 >>> ((1 : Int32).toUInt32 &&& Int32.toUInt32 31)).toInt32 &&& (1431655765 : Int32))).toUInt32 >>> ((2 : Int32).toUInt32 &&& Int32.toUInt32 31)).toInt32 &&& (858993459 : Int32))).toUInt32 >>> ((4 : Int32).toUInt32 &&& Int32.toUInt32 31)).toInt32) &&& (252645135 : Int32)) + ((((((v0 - ((v0.toUInt32 >>> ((1 : Int32).toUInt32 &&& Int32.toUInt32 31)).toInt32 &&& (1431655765 : Int32))) &&& (858993459 : Int32)) + (((v0 - ((v0.toUInt32 >>> ((1 : Int32).toUInt32 &&& Int32.toUInt32 31)).toInt32 &&& (1431655765 : Int32))).toUInt32 >>> ((2 : Int32).toUInt32 &&& Int32.toUInt32 31)).toInt32 &&& (858993459 : Int32))) + ((((v0 - ((v0.toUInt32 >>> ((1 : Int32).toUInt32 &&& Int32.toUInt32 31)).toInt32 &&& (1431655765 : Int32))) &&& (858993459 : Int32)) + (((v0 - ((v0.toUInt32 >>> ((1 : Int32).toUInt32 &&& Int32.toUInt32 31)).toInt32 &&& (1431655765 : Int32))).toUInt32 >>> ((2 : Int32).toUInt32 &&& Int32.toUInt32 31)).toInt32 &&& (858993459 : Int32))).toUInt32 >>> ((4 : Int32).toUInt32 &&& Int32.toUInt32 31)).toInt32) &&& (252645135 : Int32)).toUInt32 >>> ((8 : Int32).toUInt32 &&& Int32.toUInt32 31)).toInt32).toUInt32 >>> ((16 : Int32).toUInt32 &&& Int32.toUInt32 31)).toInt32) &&& (63 : Int32)) u
set_option maxHeartbeats 4000000 in
set_option maxRecDepth 100000 in
theorem t_J6_bitCount_0f7a4 {ρ : Nat → Nat → Option Nat} (hR : RfH ρ) {v0 : Int32} {Q : Int32 → St → Prop} {QW : Int32 → Mem → Prop} (hQ : ∀ (r : Int32) (u : St), DK u → Q r u → QW r (emb ρ u)) {u : St} (hd : DK u) (h : s_J6_bitCount_0f7a4 v0 Q u) : wp_J6_bitCount_0f7a4 SH v0 QW (emb ρ u) := by
  unfold wp_J6_bitCount_0f7a4
  unfold s_J6_bitCount_0f7a4 at h
  exact hQ _ _ hd h
/-! java/util/Arrays.fill -/
set_option maxHeartbeats 4000000 in
set_option maxRecDepth 100000 in
def sJ7_fill_53178_p5b (v0 : Nat) (v1 : Int32) (v3 : Int32) (Q : St → Prop) (K5 : Int32 → St → Prop) (v2 : Int32) (u : St) : Prop :=
  if v3 ≤ v2 then (Q u) else (Ix SH v0 100 v2 ∧ bnd (tI u v0 v2.toNatClampNeg v1) (fun u4 => K5 (v2 + (1 : Int32)) u4))
set_option maxHeartbeats 4000000 in
set_option maxRecDepth 100000 in
def sJ7_fill_53178_p5n (v0 : Nat) (v1 : Int32) (v3 : Int32) (Q : St → Prop) : Nat → Int32 → St → Prop
  | 0 => fun _ _ => False
  | n + 1 => sJ7_fill_53178_p5b v0 v1 v3 Q (sJ7_fill_53178_p5n v0 v1 v3 Q n)
set_option maxHeartbeats 4000000 in
set_option maxRecDepth 100000 in
def sJ7_fill_53178_p5 (v0 : Nat) (v1 : Int32) (v3 : Int32) (Q : St → Prop) (v2 : Int32) (u : St) : Prop := ∃ n, sJ7_fill_53178_p5n v0 v1 v3 Q n v2 u
set_option maxHeartbeats 4000000 in
set_option maxRecDepth 100000 in
def s_J7_fill_53178 (v0 : Nat) (v1 : Int32) (Q : St → Prop) (u : St) : Prop :=
  ∃ n1 : Nat, Ar SH v0 100 n1 ∧ (sJ7_fill_53178_p5 v0 v1 (nI n1) Q (0 : Int32) u)
set_option maxHeartbeats 4000000 in
set_option maxRecDepth 100000 in
theorem t_J7_fill_53178_p5b {ρ : Nat → Nat → Option Nat} (hR : RfH ρ) {v0 : Nat} {v1 : Int32} {v2 : Int32} {v3 : Int32} {Q : St → Prop} {QW : Mem → Prop} (hQ : ∀ (u : St), DK u → Q u → QW (emb ρ u)) {K5 : Int32 → St → Prop} {KW5 : Int32 → Mem → Prop} (hK5 : ∀ (x2 : Int32) (u : St), DK u → K5 x2 u → KW5 x2 (emb ρ u)) {u : St} (hd : DK u) (h : sJ7_fill_53178_p5b v0 v1 v3 Q K5 v2 u) : J7_fill_53178_p5b SH v0 v1 v3 QW KW5 v2 (emb ρ u) := by
  unfold J7_fill_53178_p5b
  unfold sJ7_fill_53178_p5b at h
  refine ite_mono (fun hc h => ?_) (fun hc h => ?_) h
  · exact hQ _ hd h
  · obtain ⟨x3, h⟩ := h
    refine ⟨x3, ?_⟩
    refine bnd_I ?_
    replace h := bnd_e h
    exact hK5 _ _ hd h
set_option maxHeartbeats 4000000 in
set_option maxRecDepth 100000 in
theorem t_J7_fill_53178_p5n {ρ : Nat → Nat → Option Nat} (hR : RfH ρ) {v0 : Nat} {v1 : Int32} {v3 : Int32} {Q : St → Prop} {QW : Mem → Prop} (hQ : ∀ (u : St), DK u → Q u → QW (emb ρ u)) : ∀ (n : Nat) (v2 : Int32) (u : St), DK u → sJ7_fill_53178_p5n v0 v1 v3 Q n v2 u → J7_fill_53178_p5n SH v0 v1 v3 QW n v2 (emb ρ u)
  | 0, _, _,  _, h => h.elim
  | n + 1, v2,  u,  hd, h => t_J7_fill_53178_p5b hR hQ (fun v2 u  hd h => t_J7_fill_53178_p5n hR hQ n v2 u  hd h) hd h
set_option maxHeartbeats 4000000 in
set_option maxRecDepth 100000 in
theorem t_J7_fill_53178_p5 {ρ : Nat → Nat → Option Nat} (hR : RfH ρ) {v0 : Nat} {v1 : Int32} {v2 : Int32} {v3 : Int32} {Q : St → Prop} {QW : Mem → Prop} (hQ : ∀ (u : St), DK u → Q u → QW (emb ρ u)) {u : St} (hd : DK u) (h : sJ7_fill_53178_p5 v0 v1 v3 Q v2 u) : J7_fill_53178_p5 SH v0 v1 v3 QW v2 (emb ρ u) := h.elim (fun n h => ⟨n, t_J7_fill_53178_p5n hR hQ n _ _ hd h⟩)
set_option maxHeartbeats 4000000 in
set_option maxRecDepth 100000 in
theorem t_J7_fill_53178 {ρ : Nat → Nat → Option Nat} (hR : RfH ρ) {v0 : Nat} {v1 : Int32} {Q : St → Prop} {QW : Mem → Prop} (hQ : ∀ (u : St), DK u → Q u → QW (emb ρ u)) {u : St} (hd : DK u) (h : s_J7_fill_53178 v0 v1 Q u) : wp_J7_fill_53178 SH v0 v1 QW (emb ρ u) := by
  unfold wp_J7_fill_53178
  unfold s_J7_fill_53178 at h
  obtain ⟨n1, hn, h⟩ := h
  refine ⟨n1, hn, ?_⟩
  exact t_J7_fill_53178_p5 hR hQ hd h
/-! java/lang/Math.floorDiv -/
set_option maxHeartbeats 4000000 in
set_option maxRecDepth 100000 in
def s_J9_floorDiv_f86c9 (v0 : Int64) (v2 : Int64) (Q : Int64 → St → Prop) (u : St) : Prop :=
  ¬ v2 = 0 ∧ (if 0 ≤ (lg_cmp (v0 ^^^ v2) (0 : Int64)) then (Q (v0 / v2) u) else (if (lg_cmp ((v0 / v2) * v2) v0) = 0 then (Q (v0 / v2) u) else (Q ((v0 / v2) - (1 : Int64)) u)))
set_option maxHeartbeats 4000000 in
set_option maxRecDepth 100000 in
theorem t_J9_floorDiv_f86c9 {ρ : Nat → Nat → Option Nat} (hR : RfH ρ) {v0 : Int64} {v2 : Int64} {Q : Int64 → St → Prop} {QW : Int64 → Mem → Prop} (hQ : ∀ (r : Int64) (u : St), DK u → Q r u → QW r (emb ρ u)) {u : St} (hd : DK u) (h : s_J9_floorDiv_f86c9 v0 v2 Q u) : wp_J9_floorDiv_f86c9 SH v0 v2 QW (emb ρ u) := by
  unfold wp_J9_floorDiv_f86c9
  unfold s_J9_floorDiv_f86c9 at h
  refine ⟨h.1, ?_⟩
  replace h := h.2
  refine ite_mono (fun hc h => ?_) (fun hc h => ?_) h
  · exact hQ _ _ hd h
  · refine ite_mono (fun hc h => ?_) (fun hc h => ?_) h
    · exact hQ _ _ hd h
    · exact hQ _ _ hd h
/-! java/lang/Math.max -/
set_option maxHeartbeats 4000000 in
set_option maxRecDepth 100000 in
def s_J9_max_7cf53 (v0 : Int32) (v1 : Int32) (Q : Int32 → St → Prop) (u : St) : Prop :=
  if v0 < v1 then (Q v1 u) else (Q v0 u)
set_option maxHeartbeats 4000000 in
set_option maxRecDepth 100000 in
theorem t_J9_max_7cf53 {ρ : Nat → Nat → Option Nat} (hR : RfH ρ) {v0 : Int32} {v1 : Int32} {Q : Int32 → St → Prop} {QW : Int32 → Mem → Prop} (hQ : ∀ (r : Int32) (u : St), DK u → Q r u → QW r (emb ρ u)) {u : St} (hd : DK u) (h : s_J9_max_7cf53 v0 v1 Q u) : wp_J9_max_7cf53 SH v0 v1 QW (emb ρ u) := by
  unfold wp_J9_max_7cf53
  unfold s_J9_max_7cf53 at h
  refine ite_mono (fun hc h => ?_) (fun hc h => ?_) h
  · exact hQ _ _ hd h
  · exact hQ _ _ hd h
/-! java/lang/Math.max -/
set_option maxHeartbeats 4000000 in
set_option maxRecDepth 100000 in
def s_J9_max_f86c9 (v0 : Int64) (v2 : Int64) (Q : Int64 → St → Prop) (u : St) : Prop :=
  if (lg_cmp v0 v2) < 0 then (Q v2 u) else (Q v0 u)
set_option maxHeartbeats 4000000 in
set_option maxRecDepth 100000 in
theorem t_J9_max_f86c9 {ρ : Nat → Nat → Option Nat} (hR : RfH ρ) {v0 : Int64} {v2 : Int64} {Q : Int64 → St → Prop} {QW : Int64 → Mem → Prop} (hQ : ∀ (r : Int64) (u : St), DK u → Q r u → QW r (emb ρ u)) {u : St} (hd : DK u) (h : s_J9_max_f86c9 v0 v2 Q u) : wp_J9_max_f86c9 SH v0 v2 QW (emb ρ u) := by
  unfold wp_J9_max_f86c9
  unfold s_J9_max_f86c9 at h
  refine ite_mono (fun hc h => ?_) (fun hc h => ?_) h
  · exact hQ _ _ hd h
  · exact hQ _ _ hd h
/-! java/lang/Math.min -/
set_option maxHeartbeats 4000000 in
set_option maxRecDepth 100000 in
def s_J9_min_7cf53 (v0 : Int32) (v1 : Int32) (Q : Int32 → St → Prop) (u : St) : Prop :=
  if v1 < v0 then (Q v1 u) else (Q v0 u)
set_option maxHeartbeats 4000000 in
set_option maxRecDepth 100000 in
theorem t_J9_min_7cf53 {ρ : Nat → Nat → Option Nat} (hR : RfH ρ) {v0 : Int32} {v1 : Int32} {Q : Int32 → St → Prop} {QW : Int32 → Mem → Prop} (hQ : ∀ (r : Int32) (u : St), DK u → Q r u → QW r (emb ρ u)) {u : St} (hd : DK u) (h : s_J9_min_7cf53 v0 v1 Q u) : wp_J9_min_7cf53 SH v0 v1 QW (emb ρ u) := by
  unfold wp_J9_min_7cf53
  unfold s_J9_min_7cf53 at h
  refine ite_mono (fun hc h => ?_) (fun hc h => ?_) h
  · exact hQ _ _ hd h
  · exact hQ _ _ hd h
/-! java/lang/Math.min -/
set_option maxHeartbeats 4000000 in
set_option maxRecDepth 100000 in
def s_J9_min_f86c9 (v0 : Int64) (v2 : Int64) (Q : Int64 → St → Prop) (u : St) : Prop :=
  if 0 < (lg_cmp v0 v2) then (Q v2 u) else (Q v0 u)
set_option maxHeartbeats 4000000 in
set_option maxRecDepth 100000 in
theorem t_J9_min_f86c9 {ρ : Nat → Nat → Option Nat} (hR : RfH ρ) {v0 : Int64} {v2 : Int64} {Q : Int64 → St → Prop} {QW : Int64 → Mem → Prop} (hQ : ∀ (r : Int64) (u : St), DK u → Q r u → QW r (emb ρ u)) {u : St} (hd : DK u) (h : s_J9_min_f86c9 v0 v2 Q u) : wp_J9_min_f86c9 SH v0 v2 QW (emb ρ u) := by
  unfold wp_J9_min_f86c9
  unfold s_J9_min_f86c9 at h
  refine ite_mono (fun hc h => ?_) (fun hc h => ?_) h
  · exact hQ _ _ hd h
  · exact hQ _ _ hd h
/-! CalledRiver$Code.add -/
set_option maxHeartbeats 4000000 in
set_option maxRecDepth 100000 in
def s_X0_add (v0 : Nat) (v1 : Int32) (Q : St → Prop) (u : St) : Prop :=
  if (1600 : Int32) ≤ (u.1 v0 2) then (Q u) else (vp_in (u.1 v0 2) 1600 ∧ bnd (tI u (v0 + 1) (u.1 v0 2).toNatClampNeg v1) (fun u3 => bnd (tI u3 v0 2 ((u3.1 v0 2) + (1 : Int32))) (fun u4 => Q u4)))
set_option maxHeartbeats 4000000 in
set_option maxRecDepth 100000 in
theorem t_X0_add {ρ : Nat → Nat → Option Nat} (hR : RfH ρ) {v0 : Nat} {v1 : Int32} (o0 : Ob SH v0 0) {Q : St → Prop} {QW : Mem → Prop} (hQ : ∀ (u : St), DK u → Q u → QW (emb ρ u)) {u : St} (hd : DK u) (h : s_X0_add v0 v1 Q u) : wp_X0_add SH v0 v1 QW (emb ρ u) := by
  unfold wp_X0_add
  unfold s_X0_add at h
  refine ⟨o0, ?_⟩
  refine ite_mono (fun hc h => ?_) (fun hc h => ?_) h
  · exact hQ _ hd h
  · refine ⟨_, rr_0_0 hR _ o0, ?_⟩
    obtain ⟨x2, h⟩ := h
    refine ⟨ix_i (ce_0_0 o0) x2, ?_⟩
    refine bnd_I ?_
    replace h := bnd_e h
    refine bnd_I ?_
    replace h := bnd_e h
    exact hQ _ hd h
/-! CalledRiver$Code.clear -/
set_option maxHeartbeats 4000000 in
set_option maxRecDepth 100000 in
def s_X0_clear (v0 : Nat) (Q : St → Prop) (u : St) : Prop :=
  bnd (tI u v0 2 (0 : Int32)) (fun u1 => Q u1)
set_option maxHeartbeats 4000000 in
set_option maxRecDepth 100000 in
theorem t_X0_clear {ρ : Nat → Nat → Option Nat} (hR : RfH ρ) {v0 : Nat} (o0 : Ob SH v0 0) {Q : St → Prop} {QW : Mem → Prop} (hQ : ∀ (u : St), DK u → Q u → QW (emb ρ u)) {u : St} (hd : DK u) (h : s_X0_clear v0 Q u) : wp_X0_clear SH v0 QW (emb ρ u) := by
  unfold wp_X0_clear
  unfold s_X0_clear at h
  refine ⟨o0, ?_⟩
  refine bnd_I ?_
  replace h := bnd_e h
  exact hQ _ hd h
/-! CalledRiver$Code.held -/
set_option maxHeartbeats 4000000 in
set_option maxRecDepth 100000 in
def s_X0_held (v0 : Int64) (Q : Int32 → St → Prop) (u : St) : Prop :=
  s_J9_min_f86c9 v0 (1000000 : Int64) (fun r1 u2 => s_J9_max_f86c9 (-1000000 : Int64) r1 (fun r3 u4 => Q r3.toInt32 u4) u2) u
set_option maxHeartbeats 4000000 in
set_option maxRecDepth 100000 in
theorem t_X0_held {ρ : Nat → Nat → Option Nat} (hR : RfH ρ) {v0 : Int64} {Q : Int32 → St → Prop} {QW : Int32 → Mem → Prop} (hQ : ∀ (r : Int32) (u : St), DK u → Q r u → QW r (emb ρ u)) {u : St} (hd : DK u) (h : s_X0_held v0 Q u) : wp_X0_held SH v0 QW (emb ρ u) := by
  unfold wp_X0_held
  unfold s_X0_held at h
  refine t_J9_min_f86c9 hR (fun r1 u2 hd h => ?_) hd h
  refine t_J9_max_f86c9 hR (fun r3 u4 hd h => ?_) hd h
  exact hQ _ _ hd h
/-! CalledRiver$Code.isEmpty -/
set_option maxHeartbeats 4000000 in
set_option maxRecDepth 100000 in
def s_X0_isEmpty (v0 : Nat) (Q : Int32 → St → Prop) (u : St) : Prop :=
  if (u.1 v0 2) = 0 then (Q (1 : Int32) u) else (Q (0 : Int32) u)
set_option maxHeartbeats 4000000 in
set_option maxRecDepth 100000 in
theorem t_X0_isEmpty {ρ : Nat → Nat → Option Nat} (hR : RfH ρ) {v0 : Nat} (o0 : Ob SH v0 0) {Q : Int32 → St → Prop} {QW : Int32 → Mem → Prop} (hQ : ∀ (r : Int32) (u : St), DK u → Q r u → QW r (emb ρ u)) {u : St} (hd : DK u) (h : s_X0_isEmpty v0 Q u) : wp_X0_isEmpty SH v0 QW (emb ρ u) := by
  unfold wp_X0_isEmpty
  unfold s_X0_isEmpty at h
  refine ⟨o0, ?_⟩
  refine ite_mono (fun hc h => ?_) (fun hc h => ?_) h
  · exact hQ _ _ hd h
  · exact hQ _ _ hd h
/-! CalledRiver$Code.ofOne -/
set_option maxHeartbeats 4000000 in
set_option maxRecDepth 100000 in
def sX0_ofOne_p14 (v0 : Int32) (v1 : Int32) (v2 : Nat) (s0 : Int32) (Q : Int32 → St → Prop) (u : St) : Prop :=
  if v0 = (10023 : Int32) then (Q ((1 : Int32) - v1) u) else if v0 = (10024 : Int32) then (if s0 = 0 then (Q (0 : Int32) u) else (Ix SH v2 100 ((13 : Int32) + v1) ∧ (Q (u.1 v2 ((13 : Int32) + v1).toNatClampNeg) u))) else if v0 = (10025 : Int32) then (if s0 = 0 then (Q (-1 : Int32) u) else (Ix SH v2 100 ((18 : Int32) + v1) ∧ (Q (u.1 v2 ((18 : Int32) + v1).toNatClampNeg) u))) else (Q v1 u)
set_option maxHeartbeats 4000000 in
set_option maxRecDepth 100000 in
def sX0_ofOne_p13 (v0 : Int32) (v1 : Int32) (v2 : Nat) (Q : Int32 → St → Prop) (u : St) : Prop :=
  sX0_ofOne_p14 v0 v1 v2 (0 : Int32) Q u
set_option maxHeartbeats 4000000 in
set_option maxRecDepth 100000 in
def s_X0_ofOne (v0 : Int32) (v1 : Int32) (v2 : Nat) (Q : Int32 → St → Prop) (u : St) : Prop :=
  if v1 < 0 then (sX0_ofOne_p13 v0 v1 v2 Q u) else (if (5 : Int32) ≤ v1 then (sX0_ofOne_p13 v0 v1 v2 Q u) else (sX0_ofOne_p14 v0 v1 v2 (1 : Int32) Q u))
set_option maxHeartbeats 4000000 in
set_option maxRecDepth 100000 in
theorem t_X0_ofOne_p14 {ρ : Nat → Nat → Option Nat} (hR : RfH ρ) {v0 : Int32} {v1 : Int32} {v2 : Nat} {s0 : Int32} {Q : Int32 → St → Prop} {QW : Int32 → Mem → Prop} (hQ : ∀ (r : Int32) (u : St), DK u → Q r u → QW r (emb ρ u)) {u : St} (hd : DK u) (h : sX0_ofOne_p14 v0 v1 v2 s0 Q u) : X0_ofOne_p14 SH v0 v1 v2 s0 QW (emb ρ u) := by
  unfold X0_ofOne_p14
  unfold sX0_ofOne_p14 at h
  refine ite_mono (fun hc h => ?_) (fun hc h => ?_) h
  · exact hQ _ _ hd h
  refine ite_mono (fun hc h => ?_) (fun hc h => ?_) h
  · refine ite_mono (fun hc h => ?_) (fun hc h => ?_) h
    · exact hQ _ _ hd h
    · obtain ⟨x1, h⟩ := h
      refine ⟨x1, ?_⟩
      exact hQ _ _ hd h
  refine ite_mono (fun hc h => ?_) (fun hc h => ?_) h
  · refine ite_mono (fun hc h => ?_) (fun hc h => ?_) h
    · exact hQ _ _ hd h
    · obtain ⟨x2, h⟩ := h
      refine ⟨x2, ?_⟩
      exact hQ _ _ hd h
  exact hQ _ _ hd h
set_option maxHeartbeats 4000000 in
set_option maxRecDepth 100000 in
theorem t_X0_ofOne_p13 {ρ : Nat → Nat → Option Nat} (hR : RfH ρ) {v0 : Int32} {v1 : Int32} {v2 : Nat} {Q : Int32 → St → Prop} {QW : Int32 → Mem → Prop} (hQ : ∀ (r : Int32) (u : St), DK u → Q r u → QW r (emb ρ u)) {u : St} (hd : DK u) (h : sX0_ofOne_p13 v0 v1 v2 Q u) : X0_ofOne_p13 SH v0 v1 v2 QW (emb ρ u) := by
  unfold X0_ofOne_p13
  unfold sX0_ofOne_p13 at h
  exact t_X0_ofOne_p14 hR hQ hd h
set_option maxHeartbeats 4000000 in
set_option maxRecDepth 100000 in
theorem t_X0_ofOne {ρ : Nat → Nat → Option Nat} (hR : RfH ρ) {v0 : Int32} {v1 : Int32} {v2 : Nat} {Q : Int32 → St → Prop} {QW : Int32 → Mem → Prop} (hQ : ∀ (r : Int32) (u : St), DK u → Q r u → QW r (emb ρ u)) {u : St} (hd : DK u) (h : s_X0_ofOne v0 v1 v2 Q u) : wp_X0_ofOne SH v0 v1 v2 QW (emb ρ u) := by
  unfold wp_X0_ofOne
  unfold s_X0_ofOne at h
  refine ite_mono (fun hc h => ?_) (fun hc h => ?_) h
  · exact t_X0_ofOne_p13 hR hQ hd h
  · refine ite_mono (fun hc h => ?_) (fun hc h => ?_) h
    · exact t_X0_ofOne_p13 hR hQ hd h
    · exact t_X0_ofOne_p14 hR hQ hd h
/-! CalledRiver$Code.ofTwo -/
set_option maxHeartbeats 4000000 in
set_option maxRecDepth 100000 in
def s_X0_ofTwo (v0 : Int32) (v1 : Int64) (v3 : Int64) (Q : Int64 → St → Prop) (u : St) : Prop :=
  if v0 = (10026 : Int32) then (Q (v1 + v3) u) else if v0 = (10027 : Int32) then (Q (v1 - v3) u) else if v0 = (10028 : Int32) then (Q (v1 * v3) u) else if v0 = (10029 : Int32) then (if (lg_cmp v3 (0 : Int64)) = 0 then (Q (0 : Int64) u) else (s_J9_floorDiv_f86c9 v1 v3 (fun r1 u2 => Q r1 u2) u)) else if v0 = (10030 : Int32) then (s_J9_min_f86c9 v1 v3 (fun r3 u4 => Q r3 u4) u) else if v0 = (10031 : Int32) then (s_J9_max_f86c9 v1 v3 (fun r5 u6 => Q r5 u6) u) else if v0 = (10032 : Int32) then (if 0 ≤ (lg_cmp v1 v3) then (Q (0 : Int64) u) else (Q (1 : Int64) u)) else if v0 = (10033 : Int32) then (if (lg_cmp v1 v3) ≤ 0 then (Q (0 : Int64) u) else (Q (1 : Int64) u)) else if v0 = (10034 : Int32) then (if (lg_cmp v1 v3) = 0 then (Q (1 : Int64) u) else (Q (0 : Int64) u)) else (Q v1 u)
set_option maxHeartbeats 4000000 in
set_option maxRecDepth 100000 in
theorem t_X0_ofTwo {ρ : Nat → Nat → Option Nat} (hR : RfH ρ) {v0 : Int32} {v1 : Int64} {v3 : Int64} {Q : Int64 → St → Prop} {QW : Int64 → Mem → Prop} (hQ : ∀ (r : Int64) (u : St), DK u → Q r u → QW r (emb ρ u)) {u : St} (hd : DK u) (h : s_X0_ofTwo v0 v1 v3 Q u) : wp_X0_ofTwo SH v0 v1 v3 QW (emb ρ u) := by
  unfold wp_X0_ofTwo
  unfold s_X0_ofTwo at h
  refine ite_mono (fun hc h => ?_) (fun hc h => ?_) h
  · exact hQ _ _ hd h
  refine ite_mono (fun hc h => ?_) (fun hc h => ?_) h
  · exact hQ _ _ hd h
  refine ite_mono (fun hc h => ?_) (fun hc h => ?_) h
  · exact hQ _ _ hd h
  refine ite_mono (fun hc h => ?_) (fun hc h => ?_) h
  · refine ite_mono (fun hc h => ?_) (fun hc h => ?_) h
    · exact hQ _ _ hd h
    · refine t_J9_floorDiv_f86c9 hR (fun r1 u2 hd h => ?_) hd h
      exact hQ _ _ hd h
  refine ite_mono (fun hc h => ?_) (fun hc h => ?_) h
  · refine t_J9_min_f86c9 hR (fun r3 u4 hd h => ?_) hd h
    exact hQ _ _ hd h
  refine ite_mono (fun hc h => ?_) (fun hc h => ?_) h
  · refine t_J9_max_f86c9 hR (fun r5 u6 hd h => ?_) hd h
    exact hQ _ _ hd h
  refine ite_mono (fun hc h => ?_) (fun hc h => ?_) h
  · refine ite_mono (fun hc h => ?_) (fun hc h => ?_) h
    · exact hQ _ _ hd h
    · exact hQ _ _ hd h
  refine ite_mono (fun hc h => ?_) (fun hc h => ?_) h
  · refine ite_mono (fun hc h => ?_) (fun hc h => ?_) h
    · exact hQ _ _ hd h
    · exact hQ _ _ hd h
  refine ite_mono (fun hc h => ?_) (fun hc h => ?_) h
  · refine ite_mono (fun hc h => ?_) (fun hc h => ?_) h
    · exact hQ _ _ hd h
    · exact hQ _ _ hd h
  exact hQ _ _ hd h
/-! CalledRiver$Code.worth -/
set_option maxHeartbeats 4000000 in
set_option maxRecDepth 100000 in
def sX0_worth_p144 (v0 : Nat) (v1 : Nat) (v2 : Int32) (v3 : Int32) (Q : Int32 → St → Prop) (K4 : Int32 → Int32 → St → Prop) (u : St) : Prop :=
  K4 v2 (v3 + (1 : Int32)) u
set_option maxHeartbeats 4000000 in
set_option maxRecDepth 100000 in
def sX0_worth_p60 (v0 : Nat) (v1 : Nat) (v2 : Int32) (v3 : Int32) (s2 : Int32) (s1 : Int32) (s0 : Nat) (Q : Int32 → St → Prop) (K4 : Int32 → Int32 → St → Prop) (u : St) : Prop :=
  vp_in s1 64 ∧ bnd (tI u s0 s1.toNatClampNeg s2) (fun u21 => sX0_worth_p144 v0 v1 (v2 + (1 : Int32)) v3 Q K4 u21)
set_option maxHeartbeats 4000000 in
set_option maxRecDepth 100000 in
def sX0_worth_p4b (v0 : Nat) (v1 : Nat) (Q : Int32 → St → Prop) (K4 : Int32 → Int32 → St → Prop) (v2 : Int32) (v3 : Int32) (u : St) : Prop :=
  if (u.1 v0 2) ≤ v3 then (vp_in (0 : Int32) 64 ∧ (Q (u.1 (v0 + 2) (0 : Int32).toNatClampNeg) u)) else (vp_in v3 1600 ∧ (if (10023 : Int32) ≤ (u.1 (v0 + 1) v3.toNatClampNeg) then (if (10026 : Int32) ≤ (u.1 (v0 + 1) v3.toNatClampNeg) then (if v2 ≤ (1 : Int32) then (sX0_worth_p144 v0 v1 v2 v3 Q K4 u) else (vp_in ((v2 + (-1 : Int32)) - (1 : Int32)) 64 ∧ (vp_in (v2 + (-1 : Int32)) 64 ∧ (s_X0_ofTwo (u.1 (v0 + 1) v3.toNatClampNeg) (u.1 (v0 + 2) ((v2 + (-1 : Int32)) - (1 : Int32)).toNatClampNeg).toInt64 (u.1 (v0 + 2) (v2 + (-1 : Int32)).toNatClampNeg).toInt64 (fun r8 u9 => s_X0_held r8 (fun r10 u11 => bnd (tI u11 (v0 + 2) ((v2 + (-1 : Int32)) - (1 : Int32)).toNatClampNeg r10) (fun u12 => sX0_worth_p144 v0 v1 (v2 + (-1 : Int32)) v3 Q K4 u12)) u9) u)))) else (if v2 ≤ 0 then (sX0_worth_p144 v0 v1 v2 v3 Q K4 u) else (vp_in (v2 - (1 : Int32)) 64 ∧ (s_X0_ofOne (u.1 (v0 + 1) v3.toNatClampNeg) (u.1 (v0 + 2) (v2 - (1 : Int32)).toNatClampNeg) v1 (fun r15 u16 => bnd (tI u16 (v0 + 2) (v2 - (1 : Int32)).toNatClampNeg r15) (fun u17 => sX0_worth_p144 v0 v1 v2 v3 Q K4 u17)) u)))) else (if (64 : Int32) ≤ v2 then (sX0_worth_p144 v0 v1 v2 v3 Q K4 u) else (if (10000 : Int32) ≤ (u.1 (v0 + 1) v3.toNatClampNeg) then (Ix SH v1 100 ((u.1 (v0 + 1) v3.toNatClampNeg) - (10000 : Int32)) ∧ (sX0_worth_p60 v0 v1 v2 v3 (u.1 v1 ((u.1 (v0 + 1) v3.toNatClampNeg) - (10000 : Int32)).toNatClampNeg) v2 (v0 + 2) Q K4 u)) else (sX0_worth_p60 v0 v1 v2 v3 (u.1 (v0 + 1) v3.toNatClampNeg) v2 (v0 + 2) Q K4 u)))))
set_option maxHeartbeats 4000000 in
set_option maxRecDepth 100000 in
def sX0_worth_p4n (v0 : Nat) (v1 : Nat) (Q : Int32 → St → Prop) : Nat → Int32 → Int32 → St → Prop
  | 0 => fun _ _ _ => False
  | n + 1 => sX0_worth_p4b v0 v1 Q (sX0_worth_p4n v0 v1 Q n)
set_option maxHeartbeats 4000000 in
set_option maxRecDepth 100000 in
def sX0_worth_p4 (v0 : Nat) (v1 : Nat) (Q : Int32 → St → Prop) (v2 : Int32) (v3 : Int32) (u : St) : Prop := ∃ n, sX0_worth_p4n v0 v1 Q n v2 v3 u
set_option maxHeartbeats 4000000 in
set_option maxRecDepth 100000 in
def s_X0_worth (v0 : Nat) (v1 : Nat) (Q : Int32 → St → Prop) (u : St) : Prop :=
  sX0_worth_p4 v0 v1 Q (0 : Int32) (0 : Int32) u
set_option maxHeartbeats 4000000 in
set_option maxRecDepth 100000 in
theorem t_X0_worth_p144 {ρ : Nat → Nat → Option Nat} (hR : RfH ρ) {v0 : Nat} {v1 : Nat} {v2 : Int32} {v3 : Int32} (o0 : Ob SH v0 0) {Q : Int32 → St → Prop} {QW : Int32 → Mem → Prop} {K4 : Int32 → Int32 → St → Prop} {KW4 : Int32 → Int32 → Mem → Prop} (hQ : ∀ (r : Int32) (u : St), DK u → Q r u → QW r (emb ρ u)) (hK4 : ∀ (x2 : Int32) (x3 : Int32) (u : St), DK u → K4 x2 x3 u → KW4 x2 x3 (emb ρ u)) {u : St} (hd : DK u) (h : sX0_worth_p144 v0 v1 v2 v3 Q K4 u) : X0_worth_p144 SH v0 v1 v2 v3 QW KW4 (emb ρ u) := by
  unfold X0_worth_p144
  unfold sX0_worth_p144 at h
  exact hK4 _ _ _ hd h
set_option maxHeartbeats 4000000 in
set_option maxRecDepth 100000 in
theorem t_X0_worth_p60 {ρ : Nat → Nat → Option Nat} (hR : RfH ρ) {v0 : Nat} {v1 : Nat} {v2 : Int32} {v3 : Int32} (o0 : Ob SH v0 0) {s2 : Int32} {s1 : Int32} {s0 : Nat} (qs0 : SH[s0]? = some (100, 64)) {Q : Int32 → St → Prop} {QW : Int32 → Mem → Prop} {K4 : Int32 → Int32 → St → Prop} {KW4 : Int32 → Int32 → Mem → Prop} (hQ : ∀ (r : Int32) (u : St), DK u → Q r u → QW r (emb ρ u)) (hK4 : ∀ (x2 : Int32) (x3 : Int32) (u : St), DK u → K4 x2 x3 u → KW4 x2 x3 (emb ρ u)) {u : St} (hd : DK u) (h : sX0_worth_p60 v0 v1 v2 v3 s2 s1 s0 Q K4 u) : X0_worth_p60 SH v0 v1 v2 v3 s2 s1 s0 QW KW4 (emb ρ u) := by
  unfold X0_worth_p60
  unfold sX0_worth_p60 at h
  obtain ⟨x20, h⟩ := h
  refine ⟨ix_i qs0 x20, ?_⟩
  refine bnd_I ?_
  replace h := bnd_e h
  exact t_X0_worth_p144 hR o0 hQ hK4 hd h
set_option maxHeartbeats 4000000 in
set_option maxRecDepth 100000 in
theorem t_X0_worth_p4b {ρ : Nat → Nat → Option Nat} (hR : RfH ρ) {v0 : Nat} {v1 : Nat} {v2 : Int32} {v3 : Int32} (o0 : Ob SH v0 0) {Q : Int32 → St → Prop} {QW : Int32 → Mem → Prop} (hQ : ∀ (r : Int32) (u : St), DK u → Q r u → QW r (emb ρ u)) {K4 : Int32 → Int32 → St → Prop} {KW4 : Int32 → Int32 → Mem → Prop} (hK4 : ∀ (x2 : Int32) (x3 : Int32) (u : St), DK u → K4 x2 x3 u → KW4 x2 x3 (emb ρ u)) {u : St} (hd : DK u) (h : sX0_worth_p4b v0 v1 Q K4 v2 v3 u) : X0_worth_p4b SH v0 v1 QW KW4 v2 v3 (emb ρ u) := by
  unfold X0_worth_p4b
  unfold sX0_worth_p4b at h
  refine ⟨o0, ?_⟩
  refine ite_mono (fun hc h => ?_) (fun hc h => ?_) h
  · refine ⟨_, rr_0_1 hR _ o0, ?_⟩
    obtain ⟨x2, h⟩ := h
    refine ⟨ix_i (ce_0_1 o0) x2, ?_⟩
    exact hQ _ _ hd h
  · refine ⟨_, rr_0_0 hR _ o0, ?_⟩
    obtain ⟨x4, h⟩ := h
    refine ⟨ix_i (ce_0_0 o0) x4, ?_⟩
    refine ite_mono (fun hc h => ?_) (fun hc h => ?_) h
    · refine ite_mono (fun hc h => ?_) (fun hc h => ?_) h
      · refine ite_mono (fun hc h => ?_) (fun hc h => ?_) h
        · exact t_X0_worth_p144 hR o0 hQ hK4 hd h
        · refine ⟨_, rr_0_1 hR _ o0, ?_⟩
          obtain ⟨x6, h⟩ := h
          refine ⟨ix_i (ce_0_1 o0) x6, ?_⟩
          obtain ⟨x7, h⟩ := h
          refine ⟨ix_i (ce_0_1 o0) x7, ?_⟩
          refine t_X0_ofTwo hR (fun r8 u9 hd h => ?_) hd h
          refine t_X0_held hR (fun r10 u11 hd h => ?_) hd h
          refine bnd_I ?_
          replace h := bnd_e h
          exact t_X0_worth_p144 hR o0 hQ hK4 hd h
      · refine ite_mono (fun hc h => ?_) (fun hc h => ?_) h
        · exact t_X0_worth_p144 hR o0 hQ hK4 hd h
        · refine ⟨_, rr_0_1 hR _ o0, ?_⟩
          obtain ⟨x14, h⟩ := h
          refine ⟨ix_i (ce_0_1 o0) x14, ?_⟩
          refine t_X0_ofOne hR (fun r15 u16 hd h => ?_) hd h
          refine bnd_I ?_
          replace h := bnd_e h
          exact t_X0_worth_p144 hR o0 hQ hK4 hd h
    · refine ite_mono (fun hc h => ?_) (fun hc h => ?_) h
      · exact t_X0_worth_p144 hR o0 hQ hK4 hd h
      · refine ⟨_, rr_0_1 hR _ o0, ?_⟩
        refine ite_mono (fun hc h => ?_) (fun hc h => ?_) h
        · obtain ⟨x19, h⟩ := h
          refine ⟨x19, ?_⟩
          exact t_X0_worth_p60 hR o0 (ce_0_1 o0) hQ hK4 hd h
        · exact t_X0_worth_p60 hR o0 (ce_0_1 o0) hQ hK4 hd h
set_option maxHeartbeats 4000000 in
set_option maxRecDepth 100000 in
theorem t_X0_worth_p4n {ρ : Nat → Nat → Option Nat} (hR : RfH ρ) {v0 : Nat} {v1 : Nat} (o0 : Ob SH v0 0) {Q : Int32 → St → Prop} {QW : Int32 → Mem → Prop} (hQ : ∀ (r : Int32) (u : St), DK u → Q r u → QW r (emb ρ u)) : ∀ (n : Nat) (v2 : Int32) (v3 : Int32) (u : St), DK u → sX0_worth_p4n v0 v1 Q n v2 v3 u → X0_worth_p4n SH v0 v1 QW n v2 v3 (emb ρ u)
  | 0, _,_, _,  _, h => h.elim
  | n + 1, v2, v3,  u,  hd, h => t_X0_worth_p4b hR o0 hQ (fun v2 v3 u  hd h => t_X0_worth_p4n hR o0 hQ n v2 v3 u  hd h) hd h
set_option maxHeartbeats 4000000 in
set_option maxRecDepth 100000 in
theorem t_X0_worth_p4 {ρ : Nat → Nat → Option Nat} (hR : RfH ρ) {v0 : Nat} {v1 : Nat} {v2 : Int32} {v3 : Int32} (o0 : Ob SH v0 0) {Q : Int32 → St → Prop} {QW : Int32 → Mem → Prop} (hQ : ∀ (r : Int32) (u : St), DK u → Q r u → QW r (emb ρ u)) {u : St} (hd : DK u) (h : sX0_worth_p4 v0 v1 Q v2 v3 u) : X0_worth_p4 SH v0 v1 QW v2 v3 (emb ρ u) := h.elim (fun n h => ⟨n, t_X0_worth_p4n hR o0 hQ n _ _ _ hd h⟩)
set_option maxHeartbeats 4000000 in
set_option maxRecDepth 100000 in
theorem t_X0_worth {ρ : Nat → Nat → Option Nat} (hR : RfH ρ) {v0 : Nat} {v1 : Nat} (o0 : Ob SH v0 0) {Q : Int32 → St → Prop} {QW : Int32 → Mem → Prop} (hQ : ∀ (r : Int32) (u : St), DK u → Q r u → QW r (emb ρ u)) {u : St} (hd : DK u) (h : s_X0_worth v0 v1 Q u) : wp_X0_worth SH v0 v1 QW (emb ρ u) := by
  unfold wp_X0_worth
  unfold s_X0_worth at h
  exact t_X0_worth_p4 hR o0 hQ hd h
/-! CalledRiver$Tape.kindOf -/
set_option maxHeartbeats 4000000 in
set_option maxRecDepth 100000 in
def sX9_kindOf_p14 (v0 : Int32) (Q : Int32 → St → Prop) (u : St) : Prop :=
  if v0 < (48 : Int32) then (Q (3 : Int32) u) else (if (57 : Int32) < v0 then (Q (3 : Int32) u) else (Q (2 : Int32) u))
set_option maxHeartbeats 4000000 in
set_option maxRecDepth 100000 in
def s_X9_kindOf (v0 : Int32) (Q : Int32 → St → Prop) (u : St) : Prop :=
  if v0 < (97 : Int32) then (sX9_kindOf_p14 v0 Q u) else (if (122 : Int32) < v0 then (sX9_kindOf_p14 v0 Q u) else (Q (1 : Int32) u))
set_option maxHeartbeats 4000000 in
set_option maxRecDepth 100000 in
theorem t_X9_kindOf_p14 {ρ : Nat → Nat → Option Nat} (hR : RfH ρ) {v0 : Int32} {Q : Int32 → St → Prop} {QW : Int32 → Mem → Prop} (hQ : ∀ (r : Int32) (u : St), DK u → Q r u → QW r (emb ρ u)) {u : St} (hd : DK u) (h : sX9_kindOf_p14 v0 Q u) : X9_kindOf_p14 SH v0 QW (emb ρ u) := by
  unfold X9_kindOf_p14
  unfold sX9_kindOf_p14 at h
  refine ite_mono (fun hc h => ?_) (fun hc h => ?_) h
  · exact hQ _ _ hd h
  · refine ite_mono (fun hc h => ?_) (fun hc h => ?_) h
    · exact hQ _ _ hd h
    · exact hQ _ _ hd h
set_option maxHeartbeats 4000000 in
set_option maxRecDepth 100000 in
theorem t_X9_kindOf {ρ : Nat → Nat → Option Nat} (hR : RfH ρ) {v0 : Int32} {Q : Int32 → St → Prop} {QW : Int32 → Mem → Prop} (hQ : ∀ (r : Int32) (u : St), DK u → Q r u → QW r (emb ρ u)) {u : St} (hd : DK u) (h : s_X9_kindOf v0 Q u) : wp_X9_kindOf SH v0 QW (emb ρ u) := by
  unfold wp_X9_kindOf
  unfold s_X9_kindOf at h
  refine ite_mono (fun hc h => ?_) (fun hc h => ?_) h
  · exact t_X9_kindOf_p14 hR hQ hd h
  · refine ite_mono (fun hc h => ?_) (fun hc h => ?_) h
    · exact t_X9_kindOf_p14 hR hQ hd h
    · exact hQ _ _ hd h
/-! CalledRiver$Tape.advance -/
set_option maxHeartbeats 4000000 in
set_option maxRecDepth 100000 in
def sX9_advance_p71 (v1 : Int32) (v2 : Int32) (Q : St → Prop) (K32 : St → Prop) (u : St) : Prop :=
  bnd (tI u 1 3 ((u.1 1 3) + (1 : Int32))) (fun u8 => K32 u8)
set_option maxHeartbeats 4000000 in
set_option maxRecDepth 100000 in
def sX9_advance_p212 (s1 : Int32) (Q : St → Prop) (u : St) : Prop :=
  bnd (tI u 1 2 s1) (fun u18 => Q u18)
set_option maxHeartbeats 4000000 in
set_option maxRecDepth 100000 in
def sX9_advance_p208 (Q : St → Prop) (u : St) : Prop :=
  sX9_advance_p212 (u.1 1 2) Q u
set_option maxHeartbeats 4000000 in
set_option maxRecDepth 100000 in
def sX9_advance_p191 (v1 : Int32) (v2 : Int32) (Q : St → Prop) (u : St) : Prop :=
  if v1 = 0 then (sX9_advance_p208 Q u) else (if (u.1 1 3) = v2 then (sX9_advance_p212 (4 : Int32) Q u) else (sX9_advance_p208 Q u))
set_option maxHeartbeats 4000000 in
set_option maxRecDepth 100000 in
def sX9_advance_p148b (v1 : Int32) (v2 : Int32) (Q : St → Prop) (K148 : St → Prop) (u : St) : Prop :=
  if (u.1 1 1) ≤ (u.1 1 4) then (sX9_advance_p191 v1 v2 Q u) else (vp_in (u.1 1 4) 1600 ∧ (s_X9_kindOf (u.1 2 (u.1 1 4).toNatClampNeg) (fun r15 u16 => if r15 = (u16.1 1 2) then (bnd (tI u16 1 4 ((u16.1 1 4) + (1 : Int32))) (fun u17 => K148 u17)) else (sX9_advance_p191 v1 v2 Q u16)) u))
set_option maxHeartbeats 4000000 in
set_option maxRecDepth 100000 in
def sX9_advance_p148n (v1 : Int32) (v2 : Int32) (Q : St → Prop) : Nat → St → Prop
  | 0 => fun _ => False
  | n + 1 => sX9_advance_p148b v1 v2 Q (sX9_advance_p148n v1 v2 Q n)
set_option maxHeartbeats 4000000 in
set_option maxRecDepth 100000 in
def sX9_advance_p148 (v1 : Int32) (v2 : Int32) (Q : St → Prop) (u : St) : Prop := ∃ n, sX9_advance_p148n v1 v2 Q n u
set_option maxHeartbeats 4000000 in
set_option maxRecDepth 100000 in
def sX9_advance_p112 (v1 : Int32) (v2 : Int32) (s1 : Int32) (Q : St → Prop) (u : St) : Prop :=
  bnd (tI u 1 2 s1) (fun u9 => s_J9_min_7cf53 ((u9.1 1 3) + (1 : Int32)) (u9.1 1 1) (fun r10 u11 => bnd (tI u11 1 4 r10) (fun u12 => if (u12.1 1 2) = (1 : Int32) then (sX9_advance_p148 v1 v2 Q u12) else (if (u12.1 1 2) = (2 : Int32) then (sX9_advance_p148 v1 v2 Q u12) else (Q u12)))) u9)
set_option maxHeartbeats 4000000 in
set_option maxRecDepth 100000 in
def sX9_advance_p84 (v1 : Int32) (v2 : Int32) (Q : St → Prop) (u : St) : Prop :=
  if (u.1 1 1) ≤ (u.1 1 3) then (sX9_advance_p112 v1 v2 (0 : Int32) Q u) else (vp_in (u.1 1 3) 1600 ∧ (s_X9_kindOf (u.1 2 (u.1 1 3).toNatClampNeg) (fun r6 u7 => sX9_advance_p112 v1 v2 r6 Q u7) u))
set_option maxHeartbeats 4000000 in
set_option maxRecDepth 100000 in
def sX9_advance_p32b (v1 : Int32) (v2 : Int32) (Q : St → Prop) (K32 : St → Prop) (u : St) : Prop :=
  if (u.1 1 1) ≤ (u.1 1 3) then (sX9_advance_p84 v1 v2 Q u) else (vp_in (u.1 1 3) 1600 ∧ (if (u.1 2 (u.1 1 3).toNatClampNeg) = (32 : Int32) then (sX9_advance_p71 v1 v2 Q K32 u) else (if (u.1 2 (u.1 1 3).toNatClampNeg) = (10 : Int32) then (sX9_advance_p71 v1 v2 Q K32 u) else (sX9_advance_p84 v1 v2 Q u))))
set_option maxHeartbeats 4000000 in
set_option maxRecDepth 100000 in
def sX9_advance_p32n (v1 : Int32) (v2 : Int32) (Q : St → Prop) : Nat → St → Prop
  | 0 => fun _ => False
  | n + 1 => sX9_advance_p32b v1 v2 Q (sX9_advance_p32n v1 v2 Q n)
set_option maxHeartbeats 4000000 in
set_option maxRecDepth 100000 in
def sX9_advance_p32 (v1 : Int32) (v2 : Int32) (Q : St → Prop) (u : St) : Prop := ∃ n, sX9_advance_p32n v1 v2 Q n u
set_option maxHeartbeats 4000000 in
set_option maxRecDepth 100000 in
def sX9_advance_p21 (s0 : Int32) (Q : St → Prop) (u : St) : Prop :=
  bnd (tI u 1 3 (u.1 1 4)) (fun u1 => sX9_advance_p32 s0 (u.1 1 4) Q u1)
set_option maxHeartbeats 4000000 in
set_option maxRecDepth 100000 in
def sX9_advance_p16 (Q : St → Prop) (u : St) : Prop :=
  sX9_advance_p21 (1 : Int32) Q u
set_option maxHeartbeats 4000000 in
set_option maxRecDepth 100000 in
def s_X9_advance (Q : St → Prop) (u : St) : Prop :=
  if (u.1 1 2) = (1 : Int32) then (sX9_advance_p16 Q u) else (if (u.1 1 2) = (2 : Int32) then (sX9_advance_p16 Q u) else (sX9_advance_p21 (0 : Int32) Q u))
set_option maxHeartbeats 4000000 in
set_option maxRecDepth 100000 in
theorem t_X9_advance_p71 {ρ : Nat → Nat → Option Nat} (hR : RfH ρ) {v1 : Int32} {v2 : Int32} {Q : St → Prop} {QW : Mem → Prop} {K32 : St → Prop} {KW32 : Mem → Prop} (hQ : ∀ (u : St), DK u → Q u → QW (emb ρ u)) (hK32 : ∀ (u : St), DK u → K32 u → KW32 (emb ρ u)) {u : St} (hd : DK u) (h : sX9_advance_p71 v1 v2 Q K32 u) : X9_advance_p71 SH 1 v1 v2 QW KW32 (emb ρ u) := by
  unfold X9_advance_p71
  unfold sX9_advance_p71 at h
  refine ⟨on_1, ?_⟩
  refine bnd_I ?_
  replace h := bnd_e h
  exact hK32  _ hd h
set_option maxHeartbeats 4000000 in
set_option maxRecDepth 100000 in
theorem t_X9_advance_p212 {ρ : Nat → Nat → Option Nat} (hR : RfH ρ) {s1 : Int32} {Q : St → Prop} {QW : Mem → Prop} (hQ : ∀ (u : St), DK u → Q u → QW (emb ρ u)) {u : St} (hd : DK u) (h : sX9_advance_p212 s1 Q u) : X9_advance_p212 SH s1 1 QW (emb ρ u) := by
  unfold X9_advance_p212
  unfold sX9_advance_p212 at h
  refine ⟨on_1, ?_⟩
  refine bnd_I ?_
  replace h := bnd_e h
  exact hQ _ hd h
set_option maxHeartbeats 4000000 in
set_option maxRecDepth 100000 in
theorem t_X9_advance_p208 {ρ : Nat → Nat → Option Nat} (hR : RfH ρ) {Q : St → Prop} {QW : Mem → Prop} (hQ : ∀ (u : St), DK u → Q u → QW (emb ρ u)) {u : St} (hd : DK u) (h : sX9_advance_p208 Q u) : X9_advance_p208 SH 1 1 QW (emb ρ u) := by
  unfold X9_advance_p208
  unfold sX9_advance_p208 at h
  refine ⟨on_1, ?_⟩
  exact t_X9_advance_p212 hR hQ hd h
set_option maxHeartbeats 4000000 in
set_option maxRecDepth 100000 in
theorem t_X9_advance_p191 {ρ : Nat → Nat → Option Nat} (hR : RfH ρ) {v1 : Int32} {v2 : Int32} {Q : St → Prop} {QW : Mem → Prop} (hQ : ∀ (u : St), DK u → Q u → QW (emb ρ u)) {u : St} (hd : DK u) (h : sX9_advance_p191 v1 v2 Q u) : X9_advance_p191 SH 1 v1 v2 QW (emb ρ u) := by
  unfold X9_advance_p191
  unfold sX9_advance_p191 at h
  refine ite_mono (fun hc h => ?_) (fun hc h => ?_) h
  · exact t_X9_advance_p208 hR hQ hd h
  · refine ⟨on_1, ?_⟩
    refine ite_mono (fun hc h => ?_) (fun hc h => ?_) h
    · exact t_X9_advance_p212 hR hQ hd h
    · exact t_X9_advance_p208 hR hQ hd h
set_option maxHeartbeats 4000000 in
set_option maxRecDepth 100000 in
theorem t_X9_advance_p148b {ρ : Nat → Nat → Option Nat} (hR : RfH ρ) {v1 : Int32} {v2 : Int32} {Q : St → Prop} {QW : Mem → Prop} (hQ : ∀ (u : St), DK u → Q u → QW (emb ρ u)) {K148 : St → Prop} {KW148 : Mem → Prop} (hK148 : ∀ (u : St), DK u → K148 u → KW148 (emb ρ u)) {u : St} (hd : DK u) (h : sX9_advance_p148b v1 v2 Q K148 u) : X9_advance_p148b SH 1 v1 v2 QW KW148 (emb ρ u) := by
  unfold X9_advance_p148b
  unfold sX9_advance_p148b at h
  refine ⟨on_1, ?_⟩
  refine ite_mono (fun hc h => ?_) (fun hc h => ?_) h
  · exact t_X9_advance_p191 hR hQ hd h
  · refine ⟨_, rn_1_0 hR _, ?_⟩
    obtain ⟨x14, h⟩ := h
    refine ⟨ix_i (show SH[2]? = some (100, 1600) from rfl) x14, ?_⟩
    refine t_X9_kindOf hR (fun r15 u16 hd h => ?_) hd h
    refine ite_mono (fun hc h => ?_) (fun hc h => ?_) h
    · refine bnd_I ?_
      replace h := bnd_e h
      exact hK148  _ hd h
    · exact t_X9_advance_p191 hR hQ hd h
set_option maxHeartbeats 4000000 in
set_option maxRecDepth 100000 in
theorem t_X9_advance_p148n {ρ : Nat → Nat → Option Nat} (hR : RfH ρ) {v1 : Int32} {v2 : Int32} {Q : St → Prop} {QW : Mem → Prop} (hQ : ∀ (u : St), DK u → Q u → QW (emb ρ u)) : ∀ (n : Nat) (u : St), DK u → sX9_advance_p148n v1 v2 Q n u → X9_advance_p148n SH 1 v1 v2 QW n (emb ρ u)
  | 0,  _,  _, h => h.elim
  | n + 1,  u,  hd, h => t_X9_advance_p148b hR hQ (fun  u  hd h => t_X9_advance_p148n hR hQ n  u  hd h) hd h
set_option maxHeartbeats 4000000 in
set_option maxRecDepth 100000 in
theorem t_X9_advance_p148 {ρ : Nat → Nat → Option Nat} (hR : RfH ρ) {v1 : Int32} {v2 : Int32} {Q : St → Prop} {QW : Mem → Prop} (hQ : ∀ (u : St), DK u → Q u → QW (emb ρ u)) {u : St} (hd : DK u) (h : sX9_advance_p148 v1 v2 Q u) : X9_advance_p148 SH 1 v1 v2 QW (emb ρ u) := h.elim (fun n h => ⟨n, t_X9_advance_p148n hR hQ n _ hd h⟩)
set_option maxHeartbeats 4000000 in
set_option maxRecDepth 100000 in
theorem t_X9_advance_p112 {ρ : Nat → Nat → Option Nat} (hR : RfH ρ) {v1 : Int32} {v2 : Int32} {s1 : Int32} {Q : St → Prop} {QW : Mem → Prop} (hQ : ∀ (u : St), DK u → Q u → QW (emb ρ u)) {u : St} (hd : DK u) (h : sX9_advance_p112 v1 v2 s1 Q u) : X9_advance_p112 SH 1 v1 v2 s1 1 QW (emb ρ u) := by
  unfold X9_advance_p112
  unfold sX9_advance_p112 at h
  refine ⟨on_1, ?_⟩
  refine bnd_I ?_
  replace h := bnd_e h
  refine ⟨on_1, ?_⟩
  refine t_J9_min_7cf53 hR (fun r10 u11 hd h => ?_) hd h
  refine bnd_I ?_
  replace h := bnd_e h
  refine ite_mono (fun hc h => ?_) (fun hc h => ?_) h
  · exact t_X9_advance_p148 hR hQ hd h
  · refine ite_mono (fun hc h => ?_) (fun hc h => ?_) h
    · exact t_X9_advance_p148 hR hQ hd h
    · exact hQ _ hd h
set_option maxHeartbeats 4000000 in
set_option maxRecDepth 100000 in
theorem t_X9_advance_p84 {ρ : Nat → Nat → Option Nat} (hR : RfH ρ) {v1 : Int32} {v2 : Int32} {Q : St → Prop} {QW : Mem → Prop} (hQ : ∀ (u : St), DK u → Q u → QW (emb ρ u)) {u : St} (hd : DK u) (h : sX9_advance_p84 v1 v2 Q u) : X9_advance_p84 SH 1 v1 v2 QW (emb ρ u) := by
  unfold X9_advance_p84
  unfold sX9_advance_p84 at h
  refine ⟨on_1, ?_⟩
  refine ite_mono (fun hc h => ?_) (fun hc h => ?_) h
  · exact t_X9_advance_p112 hR hQ hd h
  · refine ⟨_, rn_1_0 hR _, ?_⟩
    obtain ⟨x5, h⟩ := h
    refine ⟨ix_i (show SH[2]? = some (100, 1600) from rfl) x5, ?_⟩
    refine t_X9_kindOf hR (fun r6 u7 hd h => ?_) hd h
    exact t_X9_advance_p112 hR hQ hd h
set_option maxHeartbeats 4000000 in
set_option maxRecDepth 100000 in
theorem t_X9_advance_p32b {ρ : Nat → Nat → Option Nat} (hR : RfH ρ) {v1 : Int32} {v2 : Int32} {Q : St → Prop} {QW : Mem → Prop} (hQ : ∀ (u : St), DK u → Q u → QW (emb ρ u)) {K32 : St → Prop} {KW32 : Mem → Prop} (hK32 : ∀ (u : St), DK u → K32 u → KW32 (emb ρ u)) {u : St} (hd : DK u) (h : sX9_advance_p32b v1 v2 Q K32 u) : X9_advance_p32b SH 1 v1 v2 QW KW32 (emb ρ u) := by
  unfold X9_advance_p32b
  unfold sX9_advance_p32b at h
  refine ⟨on_1, ?_⟩
  refine ite_mono (fun hc h => ?_) (fun hc h => ?_) h
  · exact t_X9_advance_p84 hR hQ hd h
  · refine ⟨_, rn_1_0 hR _, ?_⟩
    obtain ⟨x3, h⟩ := h
    refine ⟨ix_i (show SH[2]? = some (100, 1600) from rfl) x3, ?_⟩
    refine ite_mono (fun hc h => ?_) (fun hc h => ?_) h
    · exact t_X9_advance_p71 hR hQ hK32 hd h
    · refine ite_mono (fun hc h => ?_) (fun hc h => ?_) h
      · exact t_X9_advance_p71 hR hQ hK32 hd h
      · exact t_X9_advance_p84 hR hQ hd h
set_option maxHeartbeats 4000000 in
set_option maxRecDepth 100000 in
theorem t_X9_advance_p32n {ρ : Nat → Nat → Option Nat} (hR : RfH ρ) {v1 : Int32} {v2 : Int32} {Q : St → Prop} {QW : Mem → Prop} (hQ : ∀ (u : St), DK u → Q u → QW (emb ρ u)) : ∀ (n : Nat) (u : St), DK u → sX9_advance_p32n v1 v2 Q n u → X9_advance_p32n SH 1 v1 v2 QW n (emb ρ u)
  | 0,  _,  _, h => h.elim
  | n + 1,  u,  hd, h => t_X9_advance_p32b hR hQ (fun  u  hd h => t_X9_advance_p32n hR hQ n  u  hd h) hd h
set_option maxHeartbeats 4000000 in
set_option maxRecDepth 100000 in
theorem t_X9_advance_p32 {ρ : Nat → Nat → Option Nat} (hR : RfH ρ) {v1 : Int32} {v2 : Int32} {Q : St → Prop} {QW : Mem → Prop} (hQ : ∀ (u : St), DK u → Q u → QW (emb ρ u)) {u : St} (hd : DK u) (h : sX9_advance_p32 v1 v2 Q u) : X9_advance_p32 SH 1 v1 v2 QW (emb ρ u) := h.elim (fun n h => ⟨n, t_X9_advance_p32n hR hQ n _ hd h⟩)
set_option maxHeartbeats 4000000 in
set_option maxRecDepth 100000 in
theorem t_X9_advance_p21 {ρ : Nat → Nat → Option Nat} (hR : RfH ρ) {s0 : Int32} {Q : St → Prop} {QW : Mem → Prop} (hQ : ∀ (u : St), DK u → Q u → QW (emb ρ u)) {u : St} (hd : DK u) (h : sX9_advance_p21 s0 Q u) : X9_advance_p21 SH 1 s0 QW (emb ρ u) := by
  unfold X9_advance_p21
  unfold sX9_advance_p21 at h
  refine ⟨on_1, ?_⟩
  refine bnd_I ?_
  replace h := bnd_e h
  exact t_X9_advance_p32 hR hQ hd h
set_option maxHeartbeats 4000000 in
set_option maxRecDepth 100000 in
theorem t_X9_advance_p16 {ρ : Nat → Nat → Option Nat} (hR : RfH ρ) {Q : St → Prop} {QW : Mem → Prop} (hQ : ∀ (u : St), DK u → Q u → QW (emb ρ u)) {u : St} (hd : DK u) (h : sX9_advance_p16 Q u) : X9_advance_p16 SH 1 QW (emb ρ u) := by
  unfold X9_advance_p16
  unfold sX9_advance_p16 at h
  exact t_X9_advance_p21 hR hQ hd h
set_option maxHeartbeats 4000000 in
set_option maxRecDepth 100000 in
theorem t_X9_advance {ρ : Nat → Nat → Option Nat} (hR : RfH ρ) {Q : St → Prop} {QW : Mem → Prop} (hQ : ∀ (u : St), DK u → Q u → QW (emb ρ u)) {u : St} (hd : DK u) (h : s_X9_advance Q u) : wp_X9_advance SH 1 QW (emb ρ u) := by
  unfold wp_X9_advance
  unfold s_X9_advance at h
  refine ⟨on_1, ?_⟩
  refine ite_mono (fun hc h => ?_) (fun hc h => ?_) h
  · exact t_X9_advance_p16 hR hQ hd h
  · refine ite_mono (fun hc h => ?_) (fun hc h => ?_) h
    · exact t_X9_advance_p16 hR hQ hd h
    · exact t_X9_advance_p21 hR hQ hd h
/-! CalledRiver$Tape.append -/
set_option maxHeartbeats 4000000 in
set_option maxRecDepth 100000 in
def sX9_append_p3b (v1 : Int32) (Q : St → Prop) (K3 : Int32 → St → Prop) (v2 : Int32) (u : St) : Prop :=
  if v2 < 0 then (Q u) else (if (1600 : Int32) ≤ (u.1 1 1) then (Q u) else (vp_in (u.1 1 1) 1600 ∧ bnd (tI u 2 (u.1 1 1).toNatClampNeg ((v1 >>> (v2 &&& 31)) &&& (255 : Int32))) (fun u3 => bnd (tI u3 1 1 ((u3.1 1 1) + (1 : Int32))) (fun u4 => K3 (v2 + (-8 : Int32)) u4))))
set_option maxHeartbeats 4000000 in
set_option maxRecDepth 100000 in
def sX9_append_p3n (v1 : Int32) (Q : St → Prop) : Nat → Int32 → St → Prop
  | 0 => fun _ _ => False
  | n + 1 => sX9_append_p3b v1 Q (sX9_append_p3n v1 Q n)
set_option maxHeartbeats 4000000 in
set_option maxRecDepth 100000 in
def sX9_append_p3 (v1 : Int32) (Q : St → Prop) (v2 : Int32) (u : St) : Prop := ∃ n, sX9_append_p3n v1 Q n v2 u
set_option maxHeartbeats 4000000 in
set_option maxRecDepth 100000 in
def s_X9_append (v1 : Int32) (Q : St → Prop) (u : St) : Prop :=
  sX9_append_p3 v1 Q (24 : Int32) u
set_option maxHeartbeats 4000000 in
set_option maxRecDepth 100000 in
theorem t_X9_append_p3b {ρ : Nat → Nat → Option Nat} (hR : RfH ρ) {v1 : Int32} {v2 : Int32} {Q : St → Prop} {QW : Mem → Prop} (hQ : ∀ (u : St), DK u → Q u → QW (emb ρ u)) {K3 : Int32 → St → Prop} {KW3 : Int32 → Mem → Prop} (hK3 : ∀ (x2 : Int32) (u : St), DK u → K3 x2 u → KW3 x2 (emb ρ u)) {u : St} (hd : DK u) (h : sX9_append_p3b v1 Q K3 v2 u) : X9_append_p3b SH 1 v1 QW KW3 v2 (emb ρ u) := by
  unfold X9_append_p3b
  unfold sX9_append_p3b at h
  refine ite_mono (fun hc h => ?_) (fun hc h => ?_) h
  · exact hQ _ hd h
  · refine ⟨on_1, ?_⟩
    refine ite_mono (fun hc h => ?_) (fun hc h => ?_) h
    · exact hQ _ hd h
    · refine ⟨_, rn_1_0 hR _, ?_⟩
      obtain ⟨x2, h⟩ := h
      refine ⟨ix_i (show SH[2]? = some (100, 1600) from rfl) x2, ?_⟩
      refine bnd_I ?_
      replace h := bnd_e h
      refine bnd_I ?_
      replace h := bnd_e h
      exact hK3 _ _ hd h
set_option maxHeartbeats 4000000 in
set_option maxRecDepth 100000 in
theorem t_X9_append_p3n {ρ : Nat → Nat → Option Nat} (hR : RfH ρ) {v1 : Int32} {Q : St → Prop} {QW : Mem → Prop} (hQ : ∀ (u : St), DK u → Q u → QW (emb ρ u)) : ∀ (n : Nat) (v2 : Int32) (u : St), DK u → sX9_append_p3n v1 Q n v2 u → X9_append_p3n SH 1 v1 QW n v2 (emb ρ u)
  | 0, _, _,  _, h => h.elim
  | n + 1, v2,  u,  hd, h => t_X9_append_p3b hR hQ (fun v2 u  hd h => t_X9_append_p3n hR hQ n v2 u  hd h) hd h
set_option maxHeartbeats 4000000 in
set_option maxRecDepth 100000 in
theorem t_X9_append_p3 {ρ : Nat → Nat → Option Nat} (hR : RfH ρ) {v1 : Int32} {v2 : Int32} {Q : St → Prop} {QW : Mem → Prop} (hQ : ∀ (u : St), DK u → Q u → QW (emb ρ u)) {u : St} (hd : DK u) (h : sX9_append_p3 v1 Q v2 u) : X9_append_p3 SH 1 v1 QW v2 (emb ρ u) := h.elim (fun n h => ⟨n, t_X9_append_p3n hR hQ n _ _ hd h⟩)
set_option maxHeartbeats 4000000 in
set_option maxRecDepth 100000 in
theorem t_X9_append {ρ : Nat → Nat → Option Nat} (hR : RfH ρ) {v1 : Int32} {Q : St → Prop} {QW : Mem → Prop} (hQ : ∀ (u : St), DK u → Q u → QW (emb ρ u)) {u : St} (hd : DK u) (h : s_X9_append v1 Q u) : wp_X9_append SH 1 v1 QW (emb ρ u) := by
  unfold wp_X9_append
  unfold s_X9_append at h
  exact t_X9_append_p3 hR hQ hd h
/-! CalledRiver$Tape.fail -/
set_option maxHeartbeats 4000000 in
set_option maxRecDepth 100000 in
def s_X9_fail (v1 : Int32) (v2 : Int32) (Q : St → Prop) (u : St) : Prop :=
  if (u.1 1 5) = 0 then (bnd (tI u 1 5 v1) (fun u1 => bnd (tI u1 1 6 v2) (fun u2 => bnd (tI u2 1 2 (5 : Int32)) (fun u3 => Q u3)))) else (Q u)
set_option maxHeartbeats 4000000 in
set_option maxRecDepth 100000 in
theorem t_X9_fail {ρ : Nat → Nat → Option Nat} (hR : RfH ρ) {v1 : Int32} {v2 : Int32} {Q : St → Prop} {QW : Mem → Prop} (hQ : ∀ (u : St), DK u → Q u → QW (emb ρ u)) {u : St} (hd : DK u) (h : s_X9_fail v1 v2 Q u) : wp_X9_fail SH 1 v1 v2 QW (emb ρ u) := by
  unfold wp_X9_fail
  unfold s_X9_fail at h
  refine ⟨on_1, ?_⟩
  refine ite_mono (fun hc h => ?_) (fun hc h => ?_) h
  · refine bnd_I ?_
    replace h := bnd_e h
    refine bnd_I ?_
    replace h := bnd_e h
    refine bnd_I ?_
    replace h := bnd_e h
    exact hQ _ hd h
  · exact hQ _ hd h
/-! CalledRiver$Tape.isSign -/
set_option maxHeartbeats 4000000 in
set_option maxRecDepth 100000 in
def s_X9_isSign (v1 : Int32) (Q : Int32 → St → Prop) (u : St) : Prop :=
  if (u.1 1 2) = (3 : Int32) then (vp_in (u.1 1 3) 1600 ∧ (if (u.1 2 (u.1 1 3).toNatClampNeg) = v1 then (Q (1 : Int32) u) else (Q (0 : Int32) u))) else (Q (0 : Int32) u)
set_option maxHeartbeats 4000000 in
set_option maxRecDepth 100000 in
theorem t_X9_isSign {ρ : Nat → Nat → Option Nat} (hR : RfH ρ) {v1 : Int32} {Q : Int32 → St → Prop} {QW : Int32 → Mem → Prop} (hQ : ∀ (r : Int32) (u : St), DK u → Q r u → QW r (emb ρ u)) {u : St} (hd : DK u) (h : s_X9_isSign v1 Q u) : wp_X9_isSign SH 1 v1 QW (emb ρ u) := by
  unfold wp_X9_isSign
  unfold s_X9_isSign at h
  refine ⟨on_1, ?_⟩
  refine ite_mono (fun hc h => ?_) (fun hc h => ?_) h
  · refine ⟨_, rn_1_0 hR _, ?_⟩
    obtain ⟨x2, h⟩ := h
    refine ⟨ix_i (show SH[2]? = some (100, 1600) from rfl) x2, ?_⟩
    refine ite_mono (fun hc h => ?_) (fun hc h => ?_) h
    · exact hQ _ _ hd h
    · exact hQ _ _ hd h
  · exact hQ _ _ hd h
/-! CalledRiver$Tape.isSpelled -/
set_option maxHeartbeats 4000000 in
set_option maxRecDepth 100000 in
def sX9_isSpelled_p5b (v1 : Nat) (v2 : Int32) (Q : Int32 → St → Prop) (K5 : Int32 → St → Prop) (v3 : Int32) (u : St) : Prop :=
  if (u.1 1 4) ≤ v3 then (Q (1 : Int32) u) else (vp_in v3 1600 ∧ (v1 < 19 ∧ vp_in ((v2 + v3) - (u.1 1 3)) (slen.getD v1 0) ∧ (if (u.1 2 v3.toNatClampNeg) = (sch v1 ((v2 + v3) - (u.1 1 3))) then (K5 (v3 + (1 : Int32)) u) else (Q (0 : Int32) u))))
set_option maxHeartbeats 4000000 in
set_option maxRecDepth 100000 in
def sX9_isSpelled_p5n (v1 : Nat) (v2 : Int32) (Q : Int32 → St → Prop) : Nat → Int32 → St → Prop
  | 0 => fun _ _ => False
  | n + 1 => sX9_isSpelled_p5b v1 v2 Q (sX9_isSpelled_p5n v1 v2 Q n)
set_option maxHeartbeats 4000000 in
set_option maxRecDepth 100000 in
def sX9_isSpelled_p5 (v1 : Nat) (v2 : Int32) (Q : Int32 → St → Prop) (v3 : Int32) (u : St) : Prop := ∃ n, sX9_isSpelled_p5n v1 v2 Q n v3 u
set_option maxHeartbeats 4000000 in
set_option maxRecDepth 100000 in
def s_X9_isSpelled (v1 : Nat) (v2 : Int32) (Q : Int32 → St → Prop) (u : St) : Prop :=
  sX9_isSpelled_p5 v1 v2 Q (u.1 1 3) u
set_option maxHeartbeats 4000000 in
set_option maxRecDepth 100000 in
theorem t_X9_isSpelled_p5b {ρ : Nat → Nat → Option Nat} (hR : RfH ρ) {v1 : Nat} {v2 : Int32} {v3 : Int32} {Q : Int32 → St → Prop} {QW : Int32 → Mem → Prop} (hQ : ∀ (r : Int32) (u : St), DK u → Q r u → QW r (emb ρ u)) {K5 : Int32 → St → Prop} {KW5 : Int32 → Mem → Prop} (hK5 : ∀ (x3 : Int32) (u : St), DK u → K5 x3 u → KW5 x3 (emb ρ u)) {u : St} (hd : DK u) (h : sX9_isSpelled_p5b v1 v2 Q K5 v3 u) : X9_isSpelled_p5b SH 1 v1 v2 QW KW5 v3 (emb ρ u) := by
  unfold X9_isSpelled_p5b
  unfold sX9_isSpelled_p5b at h
  refine ⟨on_1, ?_⟩
  refine ite_mono (fun hc h => ?_) (fun hc h => ?_) h
  · exact hQ _ _ hd h
  · refine ⟨_, rn_1_0 hR _, ?_⟩
    obtain ⟨x2, h⟩ := h
    refine ⟨ix_i (show SH[2]? = some (100, 1600) from rfl) x2, ?_⟩
    refine ⟨h.1, h.2.1, ?_⟩
    replace h := h.2.2
    refine ite_mono (fun hc h => ?_) (fun hc h => ?_) h
    · exact hK5 _ _ hd h
    · exact hQ _ _ hd h
set_option maxHeartbeats 4000000 in
set_option maxRecDepth 100000 in
theorem t_X9_isSpelled_p5n {ρ : Nat → Nat → Option Nat} (hR : RfH ρ) {v1 : Nat} {v2 : Int32} {Q : Int32 → St → Prop} {QW : Int32 → Mem → Prop} (hQ : ∀ (r : Int32) (u : St), DK u → Q r u → QW r (emb ρ u)) : ∀ (n : Nat) (v3 : Int32) (u : St), DK u → sX9_isSpelled_p5n v1 v2 Q n v3 u → X9_isSpelled_p5n SH 1 v1 v2 QW n v3 (emb ρ u)
  | 0, _, _,  _, h => h.elim
  | n + 1, v3,  u,  hd, h => t_X9_isSpelled_p5b hR hQ (fun v3 u  hd h => t_X9_isSpelled_p5n hR hQ n v3 u  hd h) hd h
set_option maxHeartbeats 4000000 in
set_option maxRecDepth 100000 in
theorem t_X9_isSpelled_p5 {ρ : Nat → Nat → Option Nat} (hR : RfH ρ) {v1 : Nat} {v2 : Int32} {v3 : Int32} {Q : Int32 → St → Prop} {QW : Int32 → Mem → Prop} (hQ : ∀ (r : Int32) (u : St), DK u → Q r u → QW r (emb ρ u)) {u : St} (hd : DK u) (h : sX9_isSpelled_p5 v1 v2 Q v3 u) : X9_isSpelled_p5 SH 1 v1 v2 QW v3 (emb ρ u) := h.elim (fun n h => ⟨n, t_X9_isSpelled_p5n hR hQ n _ _ hd h⟩)
set_option maxHeartbeats 4000000 in
set_option maxRecDepth 100000 in
theorem t_X9_isSpelled {ρ : Nat → Nat → Option Nat} (hR : RfH ρ) {v1 : Nat} {v2 : Int32} {Q : Int32 → St → Prop} {QW : Int32 → Mem → Prop} (hQ : ∀ (r : Int32) (u : St), DK u → Q r u → QW r (emb ρ u)) {u : St} (hd : DK u) (h : s_X9_isSpelled v1 v2 Q u) : wp_X9_isSpelled SH 1 v1 v2 QW (emb ρ u) := by
  unfold wp_X9_isSpelled
  unfold s_X9_isSpelled at h
  refine ⟨on_1, ?_⟩
  exact t_X9_isSpelled_p5 hR hQ hd h
/-! CalledRiver$Tape.letterOf -/
set_option maxHeartbeats 4000000 in
set_option maxRecDepth 100000 in
def s_X9_letterOf (v0 : Int32) (v1 : Int32) (Q : Int32 → St → Prop) (u : St) : Prop :=
  Q ((v0 >>> (((5 : Int32) * v1) &&& 31)) &&& (31 : Int32)) u
set_option maxHeartbeats 4000000 in
set_option maxRecDepth 100000 in
theorem t_X9_letterOf {ρ : Nat → Nat → Option Nat} (hR : RfH ρ) {v0 : Int32} {v1 : Int32} {Q : Int32 → St → Prop} {QW : Int32 → Mem → Prop} (hQ : ∀ (r : Int32) (u : St), DK u → Q r u → QW r (emb ρ u)) {u : St} (hd : DK u) (h : s_X9_letterOf v0 v1 Q u) : wp_X9_letterOf SH v0 v1 QW (emb ρ u) := by
  unfold wp_X9_letterOf
  unfold s_X9_letterOf at h
  exact hQ _ _ hd h
/-! CalledRiver$Tape.rewind -/
set_option maxHeartbeats 4000000 in
set_option maxRecDepth 100000 in
def s_X9_rewind (Q : St → Prop) (u : St) : Prop :=
  bnd (tI u 1 5 (0 : Int32)) (fun u1 => bnd (tI u1 1 6 (-1 : Int32)) (fun u2 => bnd (tI u2 1 2 (3 : Int32)) (fun u3 => bnd (tI u3 1 4 (0 : Int32)) (fun u4 => s_X9_advance  (fun u6 => Q u6) u4))))
set_option maxHeartbeats 4000000 in
set_option maxRecDepth 100000 in
theorem t_X9_rewind {ρ : Nat → Nat → Option Nat} (hR : RfH ρ) {Q : St → Prop} {QW : Mem → Prop} (hQ : ∀ (u : St), DK u → Q u → QW (emb ρ u)) {u : St} (hd : DK u) (h : s_X9_rewind Q u) : wp_X9_rewind SH 1 QW (emb ρ u) := by
  unfold wp_X9_rewind
  unfold s_X9_rewind at h
  refine ⟨on_1, ?_⟩
  refine bnd_I ?_
  replace h := bnd_e h
  refine bnd_I ?_
  replace h := bnd_e h
  refine bnd_I ?_
  replace h := bnd_e h
  refine bnd_I ?_
  replace h := bnd_e h
  refine t_X9_advance hR (fun u6 hd h => ?_) hd h
  exact hQ _ hd h
/-! CalledRiver$Tape.wordIn -/
set_option maxHeartbeats 4000000 in
set_option maxRecDepth 100000 in
def sX9_wordIn_p81 (v1 : Nat) (v2 : Int32) (v3 : Int32) (v4 : Int32) (Q : Int32 → St → Prop) (K17 : Int32 → Int32 → Int32 → St → Prop) (u : St) : Prop :=
  K17 v2 v3 (v4 + (1 : Int32)) u
set_option maxHeartbeats 4000000 in
set_option maxRecDepth 100000 in
def sX9_wordIn_p73 (v1 : Nat) (v2 : Int32) (v4 : Int32) (Q : Int32 → St → Prop) (K17 : Int32 → Int32 → Int32 → St → Prop) (u : St) : Prop :=
  sX9_wordIn_p81 v1 (v2 + (1 : Int32)) (v4 + (1 : Int32)) v4 Q K17 u
set_option maxHeartbeats 4000000 in
set_option maxRecDepth 100000 in
def sX9_wordIn_p46 (v1 : Nat) (v2 : Int32) (v3 : Int32) (v4 : Int32) (Q : Int32 → St → Prop) (K17 : Int32 → Int32 → Int32 → St → Prop) (u : St) : Prop :=
  if (v4 - v3) = ((u.1 1 4) - (u.1 1 3)) then (s_X9_isSpelled v1 v3 (fun r1 u2 => if r1 = 0 then (sX9_wordIn_p73 v1 v2 v4 Q K17 u2) else (Q v2 u2)) u) else (sX9_wordIn_p73 v1 v2 v4 Q K17 u)
set_option maxHeartbeats 4000000 in
set_option maxRecDepth 100000 in
def sX9_wordIn_p17b (v1 : Nat) (Q : Int32 → St → Prop) (K17 : Int32 → Int32 → Int32 → St → Prop) (v2 : Int32) (v3 : Int32) (v4 : Int32) (u : St) : Prop :=
  v1 < 19 ∧ (if (nI (slen.getD v1 0)) < v4 then (Q (-1 : Int32) u) else (v1 < 19 ∧ (if v4 = (nI (slen.getD v1 0)) then (sX9_wordIn_p46 v1 v2 v3 v4 Q K17 u) else (v1 < 19 ∧ vp_in v4 (slen.getD v1 0) ∧ (if (sch v1 v4) = (32 : Int32) then (sX9_wordIn_p46 v1 v2 v3 v4 Q K17 u) else (sX9_wordIn_p81 v1 v2 v3 v4 Q K17 u))))))
set_option maxHeartbeats 4000000 in
set_option maxRecDepth 100000 in
def sX9_wordIn_p17n (v1 : Nat) (Q : Int32 → St → Prop) : Nat → Int32 → Int32 → Int32 → St → Prop
  | 0 => fun _ _ _ _ => False
  | n + 1 => sX9_wordIn_p17b v1 Q (sX9_wordIn_p17n v1 Q n)
set_option maxHeartbeats 4000000 in
set_option maxRecDepth 100000 in
def sX9_wordIn_p17 (v1 : Nat) (Q : Int32 → St → Prop) (v2 : Int32) (v3 : Int32) (v4 : Int32) (u : St) : Prop := ∃ n, sX9_wordIn_p17n v1 Q n v2 v3 v4 u
set_option maxHeartbeats 4000000 in
set_option maxRecDepth 100000 in
def s_X9_wordIn (v1 : Nat) (Q : Int32 → St → Prop) (u : St) : Prop :=
  if (u.1 1 2) = (1 : Int32) then (sX9_wordIn_p17 v1 Q (0 : Int32) (0 : Int32) (0 : Int32) u) else (Q (-1 : Int32) u)
set_option maxHeartbeats 4000000 in
set_option maxRecDepth 100000 in
theorem t_X9_wordIn_p81 {ρ : Nat → Nat → Option Nat} (hR : RfH ρ) {v1 : Nat} {v2 : Int32} {v3 : Int32} {v4 : Int32} {Q : Int32 → St → Prop} {QW : Int32 → Mem → Prop} {K17 : Int32 → Int32 → Int32 → St → Prop} {KW17 : Int32 → Int32 → Int32 → Mem → Prop} (hQ : ∀ (r : Int32) (u : St), DK u → Q r u → QW r (emb ρ u)) (hK17 : ∀ (x2 : Int32) (x3 : Int32) (x4 : Int32) (u : St), DK u → K17 x2 x3 x4 u → KW17 x2 x3 x4 (emb ρ u)) {u : St} (hd : DK u) (h : sX9_wordIn_p81 v1 v2 v3 v4 Q K17 u) : X9_wordIn_p81 SH 1 v1 v2 v3 v4 QW KW17 (emb ρ u) := by
  unfold X9_wordIn_p81
  unfold sX9_wordIn_p81 at h
  exact hK17 _ _ _ _ hd h
set_option maxHeartbeats 4000000 in
set_option maxRecDepth 100000 in
theorem t_X9_wordIn_p73 {ρ : Nat → Nat → Option Nat} (hR : RfH ρ) {v1 : Nat} {v2 : Int32} {v4 : Int32} {Q : Int32 → St → Prop} {QW : Int32 → Mem → Prop} {K17 : Int32 → Int32 → Int32 → St → Prop} {KW17 : Int32 → Int32 → Int32 → Mem → Prop} (hQ : ∀ (r : Int32) (u : St), DK u → Q r u → QW r (emb ρ u)) (hK17 : ∀ (x2 : Int32) (x3 : Int32) (x4 : Int32) (u : St), DK u → K17 x2 x3 x4 u → KW17 x2 x3 x4 (emb ρ u)) {u : St} (hd : DK u) (h : sX9_wordIn_p73 v1 v2 v4 Q K17 u) : X9_wordIn_p73 SH 1 v1 v2 v4 QW KW17 (emb ρ u) := by
  unfold X9_wordIn_p73
  unfold sX9_wordIn_p73 at h
  exact t_X9_wordIn_p81 hR hQ hK17 hd h
set_option maxHeartbeats 4000000 in
set_option maxRecDepth 100000 in
theorem t_X9_wordIn_p46 {ρ : Nat → Nat → Option Nat} (hR : RfH ρ) {v1 : Nat} {v2 : Int32} {v3 : Int32} {v4 : Int32} {Q : Int32 → St → Prop} {QW : Int32 → Mem → Prop} {K17 : Int32 → Int32 → Int32 → St → Prop} {KW17 : Int32 → Int32 → Int32 → Mem → Prop} (hQ : ∀ (r : Int32) (u : St), DK u → Q r u → QW r (emb ρ u)) (hK17 : ∀ (x2 : Int32) (x3 : Int32) (x4 : Int32) (u : St), DK u → K17 x2 x3 x4 u → KW17 x2 x3 x4 (emb ρ u)) {u : St} (hd : DK u) (h : sX9_wordIn_p46 v1 v2 v3 v4 Q K17 u) : X9_wordIn_p46 SH 1 v1 v2 v3 v4 QW KW17 (emb ρ u) := by
  unfold X9_wordIn_p46
  unfold sX9_wordIn_p46 at h
  refine ⟨on_1, ?_⟩
  refine ite_mono (fun hc h => ?_) (fun hc h => ?_) h
  · refine t_X9_isSpelled hR (fun r1 u2 hd h => ?_) hd h
    refine ite_mono (fun hc h => ?_) (fun hc h => ?_) h
    · exact t_X9_wordIn_p73 hR hQ hK17 hd h
    · exact hQ _ _ hd h
  · exact t_X9_wordIn_p73 hR hQ hK17 hd h
set_option maxHeartbeats 4000000 in
set_option maxRecDepth 100000 in
theorem t_X9_wordIn_p17b {ρ : Nat → Nat → Option Nat} (hR : RfH ρ) {v1 : Nat} {v2 : Int32} {v3 : Int32} {v4 : Int32} {Q : Int32 → St → Prop} {QW : Int32 → Mem → Prop} (hQ : ∀ (r : Int32) (u : St), DK u → Q r u → QW r (emb ρ u)) {K17 : Int32 → Int32 → Int32 → St → Prop} {KW17 : Int32 → Int32 → Int32 → Mem → Prop} (hK17 : ∀ (x2 : Int32) (x3 : Int32) (x4 : Int32) (u : St), DK u → K17 x2 x3 x4 u → KW17 x2 x3 x4 (emb ρ u)) {u : St} (hd : DK u) (h : sX9_wordIn_p17b v1 Q K17 v2 v3 v4 u) : X9_wordIn_p17b SH 1 v1 QW KW17 v2 v3 v4 (emb ρ u) := by
  unfold X9_wordIn_p17b
  unfold sX9_wordIn_p17b at h
  refine ⟨h.1, ?_⟩
  replace h := h.2
  refine ite_mono (fun hc h => ?_) (fun hc h => ?_) h
  · exact hQ _ _ hd h
  · refine ⟨h.1, ?_⟩
    replace h := h.2
    refine ite_mono (fun hc h => ?_) (fun hc h => ?_) h
    · exact t_X9_wordIn_p46 hR hQ hK17 hd h
    · refine ⟨h.1, h.2.1, ?_⟩
      replace h := h.2.2
      refine ite_mono (fun hc h => ?_) (fun hc h => ?_) h
      · exact t_X9_wordIn_p46 hR hQ hK17 hd h
      · exact t_X9_wordIn_p81 hR hQ hK17 hd h
set_option maxHeartbeats 4000000 in
set_option maxRecDepth 100000 in
theorem t_X9_wordIn_p17n {ρ : Nat → Nat → Option Nat} (hR : RfH ρ) {v1 : Nat} {Q : Int32 → St → Prop} {QW : Int32 → Mem → Prop} (hQ : ∀ (r : Int32) (u : St), DK u → Q r u → QW r (emb ρ u)) : ∀ (n : Nat) (v2 : Int32) (v3 : Int32) (v4 : Int32) (u : St), DK u → sX9_wordIn_p17n v1 Q n v2 v3 v4 u → X9_wordIn_p17n SH 1 v1 QW n v2 v3 v4 (emb ρ u)
  | 0, _,_,_, _,  _, h => h.elim
  | n + 1, v2, v3, v4,  u,  hd, h => t_X9_wordIn_p17b hR hQ (fun v2 v3 v4 u  hd h => t_X9_wordIn_p17n hR hQ n v2 v3 v4 u  hd h) hd h
set_option maxHeartbeats 4000000 in
set_option maxRecDepth 100000 in
theorem t_X9_wordIn_p17 {ρ : Nat → Nat → Option Nat} (hR : RfH ρ) {v1 : Nat} {v2 : Int32} {v3 : Int32} {v4 : Int32} {Q : Int32 → St → Prop} {QW : Int32 → Mem → Prop} (hQ : ∀ (r : Int32) (u : St), DK u → Q r u → QW r (emb ρ u)) {u : St} (hd : DK u) (h : sX9_wordIn_p17 v1 Q v2 v3 v4 u) : X9_wordIn_p17 SH 1 v1 QW v2 v3 v4 (emb ρ u) := h.elim (fun n h => ⟨n, t_X9_wordIn_p17n hR hQ n _ _ _ _ hd h⟩)
set_option maxHeartbeats 4000000 in
set_option maxRecDepth 100000 in
theorem t_X9_wordIn {ρ : Nat → Nat → Option Nat} (hR : RfH ρ) {v1 : Nat} {Q : Int32 → St → Prop} {QW : Int32 → Mem → Prop} (hQ : ∀ (r : Int32) (u : St), DK u → Q r u → QW r (emb ρ u)) {u : St} (hd : DK u) (h : s_X9_wordIn v1 Q u) : wp_X9_wordIn SH 1 v1 QW (emb ρ u) := by
  unfold wp_X9_wordIn
  unfold s_X9_wordIn at h
  refine ⟨on_1, ?_⟩
  refine ite_mono (fun hc h => ?_) (fun hc h => ?_) h
  · exact t_X9_wordIn_p17 hR hQ hd h
  · exact hQ _ _ hd h
/-! CalledRiver$Tape.takeName -/
set_option maxHeartbeats 4000000 in
set_option maxRecDepth 100000 in
def sX9_takeName_p18 (Q : Int32 → St → Prop) (u : St) : Prop :=
  s_X9_fail (1 : Int32) (u.1 1 3) (fun u6 => Q (0 : Int32) u6) u
set_option maxHeartbeats 4000000 in
set_option maxRecDepth 100000 in
def sX9_takeName_p64b (Q : Int32 → St → Prop) (K64 : Int32 → Int32 → St → Prop) (v1 : Int32) (v2 : Int32) (u : St) : Prop :=
  if (u.1 1 4) ≤ v2 then (s_X9_advance  (fun u8 => Q v1 u8) u) else (vp_in v2 1600 ∧ (K64 (v1 ||| ((((u.1 2 v2.toNatClampNeg) - (97 : Int32)) + (1 : Int32)) <<< (((5 : Int32) * (v2 - (u.1 1 3))) &&& 31))) (v2 + (1 : Int32)) u))
set_option maxHeartbeats 4000000 in
set_option maxRecDepth 100000 in
def sX9_takeName_p64n (Q : Int32 → St → Prop) : Nat → Int32 → Int32 → St → Prop
  | 0 => fun _ _ _ => False
  | n + 1 => sX9_takeName_p64b Q (sX9_takeName_p64n Q n)
set_option maxHeartbeats 4000000 in
set_option maxRecDepth 100000 in
def sX9_takeName_p64 (Q : Int32 → St → Prop) (v1 : Int32) (v2 : Int32) (u : St) : Prop := ∃ n, sX9_takeName_p64n Q n v1 v2 u
set_option maxHeartbeats 4000000 in
set_option maxRecDepth 100000 in
def s_X9_takeName (Q : Int32 → St → Prop) (u : St) : Prop :=
  if (u.1 1 2) = (1 : Int32) then (s_X9_wordIn 3 (fun r1 u2 => if r1 = (-1 : Int32) then (if ((u2.1 1 4) - (u2.1 1 3)) ≤ (6 : Int32) then (sX9_takeName_p64 Q (0 : Int32) (u2.1 1 3) u2) else (s_X9_fail (1 : Int32) ((u2.1 1 3) + (6 : Int32)) (fun u4 => Q (0 : Int32) u4) u2)) else (sX9_takeName_p18 Q u2)) u) else (sX9_takeName_p18 Q u)
set_option maxHeartbeats 4000000 in
set_option maxRecDepth 100000 in
theorem t_X9_takeName_p18 {ρ : Nat → Nat → Option Nat} (hR : RfH ρ) {Q : Int32 → St → Prop} {QW : Int32 → Mem → Prop} (hQ : ∀ (r : Int32) (u : St), DK u → Q r u → QW r (emb ρ u)) {u : St} (hd : DK u) (h : sX9_takeName_p18 Q u) : X9_takeName_p18 SH 1 QW (emb ρ u) := by
  unfold X9_takeName_p18
  unfold sX9_takeName_p18 at h
  refine ⟨on_1, ?_⟩
  refine t_X9_fail hR (fun u6 hd h => ?_) hd h
  exact hQ _ _ hd h
set_option maxHeartbeats 4000000 in
set_option maxRecDepth 100000 in
theorem t_X9_takeName_p64b {ρ : Nat → Nat → Option Nat} (hR : RfH ρ) {v1 : Int32} {v2 : Int32} {Q : Int32 → St → Prop} {QW : Int32 → Mem → Prop} (hQ : ∀ (r : Int32) (u : St), DK u → Q r u → QW r (emb ρ u)) {K64 : Int32 → Int32 → St → Prop} {KW64 : Int32 → Int32 → Mem → Prop} (hK64 : ∀ (x1 : Int32) (x2 : Int32) (u : St), DK u → K64 x1 x2 u → KW64 x1 x2 (emb ρ u)) {u : St} (hd : DK u) (h : sX9_takeName_p64b Q K64 v1 v2 u) : X9_takeName_p64b SH 1 QW KW64 v1 v2 (emb ρ u) := by
  unfold X9_takeName_p64b
  unfold sX9_takeName_p64b at h
  refine ⟨on_1, ?_⟩
  refine ite_mono (fun hc h => ?_) (fun hc h => ?_) h
  · refine t_X9_advance hR (fun u8 hd h => ?_) hd h
    exact hQ _ _ hd h
  · refine ⟨_, rn_1_0 hR _, ?_⟩
    obtain ⟨x10, h⟩ := h
    refine ⟨ix_i (show SH[2]? = some (100, 1600) from rfl) x10, ?_⟩
    exact hK64 _ _ _ hd h
set_option maxHeartbeats 4000000 in
set_option maxRecDepth 100000 in
theorem t_X9_takeName_p64n {ρ : Nat → Nat → Option Nat} (hR : RfH ρ) {Q : Int32 → St → Prop} {QW : Int32 → Mem → Prop} (hQ : ∀ (r : Int32) (u : St), DK u → Q r u → QW r (emb ρ u)) : ∀ (n : Nat) (v1 : Int32) (v2 : Int32) (u : St), DK u → sX9_takeName_p64n Q n v1 v2 u → X9_takeName_p64n SH 1 QW n v1 v2 (emb ρ u)
  | 0, _,_, _,  _, h => h.elim
  | n + 1, v1, v2,  u,  hd, h => t_X9_takeName_p64b hR hQ (fun v1 v2 u  hd h => t_X9_takeName_p64n hR hQ n v1 v2 u  hd h) hd h
set_option maxHeartbeats 4000000 in
set_option maxRecDepth 100000 in
theorem t_X9_takeName_p64 {ρ : Nat → Nat → Option Nat} (hR : RfH ρ) {v1 : Int32} {v2 : Int32} {Q : Int32 → St → Prop} {QW : Int32 → Mem → Prop} (hQ : ∀ (r : Int32) (u : St), DK u → Q r u → QW r (emb ρ u)) {u : St} (hd : DK u) (h : sX9_takeName_p64 Q v1 v2 u) : X9_takeName_p64 SH 1 QW v1 v2 (emb ρ u) := h.elim (fun n h => ⟨n, t_X9_takeName_p64n hR hQ n _ _ _ hd h⟩)
set_option maxHeartbeats 4000000 in
set_option maxRecDepth 100000 in
theorem t_X9_takeName {ρ : Nat → Nat → Option Nat} (hR : RfH ρ) {Q : Int32 → St → Prop} {QW : Int32 → Mem → Prop} (hQ : ∀ (r : Int32) (u : St), DK u → Q r u → QW r (emb ρ u)) {u : St} (hd : DK u) (h : s_X9_takeName Q u) : wp_X9_takeName SH 1 QW (emb ρ u) := by
  unfold wp_X9_takeName
  unfold s_X9_takeName at h
  refine ⟨on_1, ?_⟩
  refine ite_mono (fun hc h => ?_) (fun hc h => ?_) h
  · refine t_X9_wordIn hR (fun r1 u2 hd h => ?_) hd h
    refine ite_mono (fun hc h => ?_) (fun hc h => ?_) h
    · refine ite_mono (fun hc h => ?_) (fun hc h => ?_) h
      · exact t_X9_takeName_p64 hR hQ hd h
      · refine t_X9_fail hR (fun u4 hd h => ?_) hd h
        exact hQ _ _ hd h
    · exact t_X9_takeName_p18 hR hQ hd h
  · exact t_X9_takeName_p18 hR hQ hd h
/-! CalledRiver$Tape.takeNumber -/
set_option maxHeartbeats 4000000 in
set_option maxRecDepth 100000 in
def sX9_takeNumber_p94 (v1 : Int32) (Q : Int32 → St → Prop) (u : St) : Prop :=
  s_X9_fail (2 : Int32) (u.1 1 3) (fun u10 => Q v1 u10) u
set_option maxHeartbeats 4000000 in
set_option maxRecDepth 100000 in
def sX9_takeNumber_p53b (v1 : Int32) (v2 : Int32) (Q : Int32 → St → Prop) (K53 : Int32 → Int32 → St → Prop) (v3 : Int32) (v4 : Int32) (u : St) : Prop :=
  if (u.1 1 4) ≤ v4 then (if v3 < v1 then (sX9_takeNumber_p94 v1 Q u) else (if v3 ≤ v2 then (s_X9_advance  (fun u6 => Q v3 u6) u) else (sX9_takeNumber_p94 v1 Q u))) else (vp_in v4 1600 ∧ (K53 ((((10 : Int32) * v3) + (u.1 2 v4.toNatClampNeg)) - (48 : Int32)) (v4 + (1 : Int32)) u))
set_option maxHeartbeats 4000000 in
set_option maxRecDepth 100000 in
def sX9_takeNumber_p53n (v1 : Int32) (v2 : Int32) (Q : Int32 → St → Prop) : Nat → Int32 → Int32 → St → Prop
  | 0 => fun _ _ _ => False
  | n + 1 => sX9_takeNumber_p53b v1 v2 Q (sX9_takeNumber_p53n v1 v2 Q n)
set_option maxHeartbeats 4000000 in
set_option maxRecDepth 100000 in
def sX9_takeNumber_p53 (v1 : Int32) (v2 : Int32) (Q : Int32 → St → Prop) (v3 : Int32) (v4 : Int32) (u : St) : Prop := ∃ n, sX9_takeNumber_p53n v1 v2 Q n v3 v4 u
set_option maxHeartbeats 4000000 in
set_option maxRecDepth 100000 in
def s_X9_takeNumber (v1 : Int32) (v2 : Int32) (Q : Int32 → St → Prop) (u : St) : Prop :=
  if (u.1 1 2) = (2 : Int32) then (if ((u.1 1 4) - (u.1 1 3)) ≤ (4 : Int32) then (sX9_takeNumber_p53 v1 v2 Q (0 : Int32) (u.1 1 3) u) else (s_X9_fail (1 : Int32) ((u.1 1 3) + (4 : Int32)) (fun u2 => Q v1 u2) u)) else (s_X9_fail (1 : Int32) (u.1 1 3) (fun u4 => Q v1 u4) u)
set_option maxHeartbeats 4000000 in
set_option maxRecDepth 100000 in
theorem t_X9_takeNumber_p94 {ρ : Nat → Nat → Option Nat} (hR : RfH ρ) {v1 : Int32} {Q : Int32 → St → Prop} {QW : Int32 → Mem → Prop} (hQ : ∀ (r : Int32) (u : St), DK u → Q r u → QW r (emb ρ u)) {u : St} (hd : DK u) (h : sX9_takeNumber_p94 v1 Q u) : X9_takeNumber_p94 SH 1 v1 QW (emb ρ u) := by
  unfold X9_takeNumber_p94
  unfold sX9_takeNumber_p94 at h
  refine ⟨on_1, ?_⟩
  refine t_X9_fail hR (fun u10 hd h => ?_) hd h
  exact hQ _ _ hd h
set_option maxHeartbeats 4000000 in
set_option maxRecDepth 100000 in
theorem t_X9_takeNumber_p53b {ρ : Nat → Nat → Option Nat} (hR : RfH ρ) {v1 : Int32} {v2 : Int32} {v3 : Int32} {v4 : Int32} {Q : Int32 → St → Prop} {QW : Int32 → Mem → Prop} (hQ : ∀ (r : Int32) (u : St), DK u → Q r u → QW r (emb ρ u)) {K53 : Int32 → Int32 → St → Prop} {KW53 : Int32 → Int32 → Mem → Prop} (hK53 : ∀ (x3 : Int32) (x4 : Int32) (u : St), DK u → K53 x3 x4 u → KW53 x3 x4 (emb ρ u)) {u : St} (hd : DK u) (h : sX9_takeNumber_p53b v1 v2 Q K53 v3 v4 u) : X9_takeNumber_p53b SH 1 v1 v2 QW KW53 v3 v4 (emb ρ u) := by
  unfold X9_takeNumber_p53b
  unfold sX9_takeNumber_p53b at h
  refine ⟨on_1, ?_⟩
  refine ite_mono (fun hc h => ?_) (fun hc h => ?_) h
  · refine ite_mono (fun hc h => ?_) (fun hc h => ?_) h
    · exact t_X9_takeNumber_p94 hR hQ hd h
    · refine ite_mono (fun hc h => ?_) (fun hc h => ?_) h
      · refine t_X9_advance hR (fun u6 hd h => ?_) hd h
        exact hQ _ _ hd h
      · exact t_X9_takeNumber_p94 hR hQ hd h
  · refine ⟨_, rn_1_0 hR _, ?_⟩
    obtain ⟨x8, h⟩ := h
    refine ⟨ix_i (show SH[2]? = some (100, 1600) from rfl) x8, ?_⟩
    exact hK53 _ _ _ hd h
set_option maxHeartbeats 4000000 in
set_option maxRecDepth 100000 in
theorem t_X9_takeNumber_p53n {ρ : Nat → Nat → Option Nat} (hR : RfH ρ) {v1 : Int32} {v2 : Int32} {Q : Int32 → St → Prop} {QW : Int32 → Mem → Prop} (hQ : ∀ (r : Int32) (u : St), DK u → Q r u → QW r (emb ρ u)) : ∀ (n : Nat) (v3 : Int32) (v4 : Int32) (u : St), DK u → sX9_takeNumber_p53n v1 v2 Q n v3 v4 u → X9_takeNumber_p53n SH 1 v1 v2 QW n v3 v4 (emb ρ u)
  | 0, _,_, _,  _, h => h.elim
  | n + 1, v3, v4,  u,  hd, h => t_X9_takeNumber_p53b hR hQ (fun v3 v4 u  hd h => t_X9_takeNumber_p53n hR hQ n v3 v4 u  hd h) hd h
set_option maxHeartbeats 4000000 in
set_option maxRecDepth 100000 in
theorem t_X9_takeNumber_p53 {ρ : Nat → Nat → Option Nat} (hR : RfH ρ) {v1 : Int32} {v2 : Int32} {v3 : Int32} {v4 : Int32} {Q : Int32 → St → Prop} {QW : Int32 → Mem → Prop} (hQ : ∀ (r : Int32) (u : St), DK u → Q r u → QW r (emb ρ u)) {u : St} (hd : DK u) (h : sX9_takeNumber_p53 v1 v2 Q v3 v4 u) : X9_takeNumber_p53 SH 1 v1 v2 QW v3 v4 (emb ρ u) := h.elim (fun n h => ⟨n, t_X9_takeNumber_p53n hR hQ n _ _ _ hd h⟩)
set_option maxHeartbeats 4000000 in
set_option maxRecDepth 100000 in
theorem t_X9_takeNumber {ρ : Nat → Nat → Option Nat} (hR : RfH ρ) {v1 : Int32} {v2 : Int32} {Q : Int32 → St → Prop} {QW : Int32 → Mem → Prop} (hQ : ∀ (r : Int32) (u : St), DK u → Q r u → QW r (emb ρ u)) {u : St} (hd : DK u) (h : s_X9_takeNumber v1 v2 Q u) : wp_X9_takeNumber SH 1 v1 v2 QW (emb ρ u) := by
  unfold wp_X9_takeNumber
  unfold s_X9_takeNumber at h
  refine ⟨on_1, ?_⟩
  refine ite_mono (fun hc h => ?_) (fun hc h => ?_) h
  · refine ite_mono (fun hc h => ?_) (fun hc h => ?_) h
    · exact t_X9_takeNumber_p53 hR hQ hd h
    · refine t_X9_fail hR (fun u2 hd h => ?_) hd h
      exact hQ _ _ hd h
  · refine t_X9_fail hR (fun u4 hd h => ?_) hd h
    exact hQ _ _ hd h
/-! CalledRiver$Tape.takeSign -/
set_option maxHeartbeats 4000000 in
set_option maxRecDepth 100000 in
def s_X9_takeSign (v1 : Int32) (Q : St → Prop) (u : St) : Prop :=
  s_X9_isSign v1 (fun r1 u2 => if r1 = 0 then (s_X9_fail (1 : Int32) (u2.1 1 3) (fun u4 => Q u4) u2) else (s_X9_advance  (fun u6 => Q u6) u2)) u
set_option maxHeartbeats 4000000 in
set_option maxRecDepth 100000 in
theorem t_X9_takeSign {ρ : Nat → Nat → Option Nat} (hR : RfH ρ) {v1 : Int32} {Q : St → Prop} {QW : Mem → Prop} (hQ : ∀ (u : St), DK u → Q u → QW (emb ρ u)) {u : St} (hd : DK u) (h : s_X9_takeSign v1 Q u) : wp_X9_takeSign SH 1 v1 QW (emb ρ u) := by
  unfold wp_X9_takeSign
  unfold s_X9_takeSign at h
  refine ⟨on_1, ?_⟩
  refine t_X9_isSign hR (fun r1 u2 hd h => ?_) hd h
  refine ite_mono (fun hc h => ?_) (fun hc h => ?_) h
  · refine t_X9_fail hR (fun u4 hd h => ?_) hd h
    exact hQ _ hd h
  · refine t_X9_advance hR (fun u6 hd h => ?_) hd h
    exact hQ _ hd h
/-! CalledRiver$Tape.takeWord -/
set_option maxHeartbeats 4000000 in
set_option maxRecDepth 100000 in
def s_X9_takeWord (v1 : Nat) (Q : St → Prop) (u : St) : Prop :=
  s_X9_wordIn v1 (fun r1 u2 => if r1 = 0 then (s_X9_advance  (fun u6 => Q u6) u2) else (s_X9_fail (1 : Int32) (u2.1 1 3) (fun u4 => Q u4) u2)) u
set_option maxHeartbeats 4000000 in
set_option maxRecDepth 100000 in
theorem t_X9_takeWord {ρ : Nat → Nat → Option Nat} (hR : RfH ρ) {v1 : Nat} {Q : St → Prop} {QW : Mem → Prop} (hQ : ∀ (u : St), DK u → Q u → QW (emb ρ u)) {u : St} (hd : DK u) (h : s_X9_takeWord v1 Q u) : wp_X9_takeWord SH 1 v1 QW (emb ρ u) := by
  unfold wp_X9_takeWord
  unfold s_X9_takeWord at h
  refine ⟨on_1, ?_⟩
  refine t_X9_wordIn hR (fun r1 u2 hd h => ?_) hd h
  refine ite_mono (fun hc h => ?_) (fun hc h => ?_) h
  · refine t_X9_advance hR (fun u6 hd h => ?_) hd h
    exact hQ _ hd h
  · refine t_X9_fail hR (fun u4 hd h => ?_) hd h
    exact hQ _ hd h
