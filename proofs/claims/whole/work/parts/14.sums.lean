/-! the readers that call one another: by the depth that is left -/
def frG (d : Nat) : Nat := 14 + d
def loG (d : Nat) : Nat := 600 + 60 * d
def GR (l : Launch) (G : Gl) (R : Nat → Shp → Nat → Int32 → (Mem → Prop) → Mem → Prop) (fr lo : Nat) : Prop :=
  (∀ {sh : Shp} {a : Nat} {x : Int32} {Q : Mem → Prop} {m : Mem}, R 0 sh a x Q m → Cnv l G yX8_readTest cX8_readTest 3 (none : Option FieldType) fr lo sh [.ref (G.1 + a), .int x] m Q) ∧
  (∀ {sh : Shp} {a : Nat} {x : Int32} {Q : Mem → Prop} {m : Mem}, R 1 sh a x Q m → Cnv l G yX8_readBoth cX8_readBoth 3 (none : Option FieldType) fr lo sh [.ref (G.1 + a), .int x] m Q) ∧
  (∀ {sh : Shp} {a : Nat} {x : Int32} {Q : Mem → Prop} {m : Mem}, R 2 sh a x Q m → Cnv l G yX8_readFact cX8_readFact 2 (none : Option FieldType) fr lo sh [.ref (G.1 + a), .int x] m Q) ∧
  (∀ {sh : Shp} {a : Nat} {x : Int32} {Q : Mem → Prop} {m : Mem}, R 3 sh a x Q m → Cnv l G yX8_readComparison cX8_readComparison 3 (none : Option FieldType) fr lo sh [.ref (G.1 + a), .int x] m Q) ∧
  (∀ {sh : Shp} {a : Nat} {x : Int32} {Q : Mem → Prop} {m : Mem}, R 4 sh a x Q m → Cnv l G yX8_readSum cX8_readSum 4 (none : Option FieldType) fr lo sh [.ref (G.1 + a), .int x] m Q) ∧
  (∀ {sh : Shp} {a : Nat} {x : Int32} {Q : Mem → Prop} {m : Mem}, R 5 sh a x Q m → Cnv l G yX8_readProduct cX8_readProduct 4 (none : Option FieldType) fr lo sh [.ref (G.1 + a), .int x] m Q) ∧
  (∀ {sh : Shp} {a : Nat} {x : Int32} {Q : Mem → Prop} {m : Mem}, R 6 sh a x Q m → Cnv l G yX8_readPart cX8_readPart 2 (none : Option FieldType) fr lo sh [.ref (G.1 + a), .int x] m Q) ∧
  (∀ {sh : Shp} {a : Nat} {x : Int32} {Q : Mem → Prop} {m : Mem}, R 7 sh a x Q m → Cnv l G yX8_readPair cX8_readPair 3 (none : Option FieldType) fr lo sh [.ref (G.1 + a), .int x] m Q) ∧
  (∀ {sh : Shp} {a : Nat} {x : Int32} {Q : Mem → Prop} {m : Mem}, R 8 sh a x Q m → Cnv l G yX8_readOfCaller cX8_readOfCaller 3 (none : Option FieldType) fr lo sh [.ref (G.1 + a), .int x] m Q)
/-! CalledRiver$SumReader.begin -/
theorem dX8_begin_0 : decode cX8_begin 0 = .ok (.aload_n 0, 1) := by decide +kernel
theorem dX8_begin_1 : decode cX8_begin 1 = .ok (.iload_n 1, 1) := by decide +kernel
theorem dX8_begin_2 : decode cX8_begin 2 = .ok (.putfield 55, 3) := by decide +kernel
theorem dX8_begin_5 : decode cX8_begin 5 = .ok (.aload_n 0, 1) := by decide +kernel
theorem dX8_begin_6 : decode cX8_begin 6 = .ok (.aload_n 2, 1) := by decide +kernel
theorem dX8_begin_7 : decode cX8_begin 7 = .ok (.putfield 15, 3) := by decide +kernel
theorem dX8_begin_10 : decode cX8_begin 10 = .ok (.aload_n 0, 1) := by decide +kernel
theorem dX8_begin_11 : decode cX8_begin 11 = .ok (.getfield 15, 3) := by decide +kernel
theorem dX8_begin_14 : decode cX8_begin 14 = .ok (.invokevirtual 58, 3) := by decide +kernel
theorem dX8_begin_17 : decode cX8_begin 17 = .ok (.return_, 1) := by decide +kernel
def wp_X8_begin (sh : Shp) (v0 : Nat) (v1 : Int32) (v2 : Nat) (Q : Mem → Prop) (m : Mem) : Prop :=
  Ob sh v0 8 ∧ bnd (sI m v0 2 v1) (fun m2 => bnd (sR m2 v0 1 (some v2)) (fun m3 => ∃ b4 : Nat, m3.2.2 v0 1 = some b4 ∧ (Ob sh b4 0 ∧ wp_X0_clear sh b4 (fun m7 => Q m7) m3)))
abbrev M_X8_begin : Mi := (cX8_begin, 3, RX8, (none : Option FieldType), "begin", 2, 80, 0, 0)
set_option maxHeartbeats 4000000 in
set_option maxRecDepth 100000 in
theorem c_X8_begin {l : Launch} {G : Gl} {sh : Shp} {v0 : Nat} {v1 : Int32} {v2 : Nat} {Q : Mem → Prop} {m : Mem} (h : wp_X8_begin sh v0 v1 v2 Q m) : Cnv l G yX8_begin cX8_begin 3 (none : Option FieldType) 2 80 sh [.ref (G.1 + v0), .int v1, .ref (G.1 + v2)] m Q := by
  refine con_v (ls := [(0, .ref (G.1 + v0)), (1, .int v1), (2, .ref (G.1 + v2))]) (by decide +kernel) rfl (Nat.le_of_ble_eq_true rfl) (fun F => ?_)
  show V G F M_X8_begin sh 0 0 (Zv G F sh Q) 0 [(0, .ref (G.1 + v0)), (1, .int v1), (2, .ref (G.1 + v2))] [] m
  unfold wp_X8_begin at h
  refine v_aload_n 0 0 dX8_begin_0 rfl rfl ?_
  refine v_iload_n 1 1 dX8_begin_1 rfl rfl ?_
  obtain ⟨o1, h⟩ := h
  refine v_pI 8 2 dX8_begin_2 fw_RX8_55 o1 ?_
  replace h := bnd_e h
  refine v_aload_n 0 0 dX8_begin_5 rfl rfl ?_
  refine v_aload_n 2 2 dX8_begin_6 rfl rfl ?_
  refine v_pR 8 1 dX8_begin_7 fw_RX8_15 o1 (fun _ => rfl) (fun _ => rfl) ?_
  replace h := bnd_e h
  refine v_aload_n 0 0 dX8_begin_10 rfl rfl ?_
  obtain ⟨b4, e5, h⟩ := h
  refine v_gR 8 1 dX8_begin_11 fg_RX8_15 o1 e5 ?_
  obtain ⟨o8, h⟩ := h
  refine v_cVv [] mv_X0_clear ml_RX8_58 ⟨_, _, rfl⟩ o8 rfl rfl (Nat.le_of_ble_eq_true rfl) (Nat.le_of_ble_eq_true rfl) (Nat.le_of_ble_eq_true rfl) (Nat.zero_le _) (Nat.zero_le _) dX8_begin_14 (c_X0_clear h) (fun m7 h => ?_)
  exact v_vret dX8_begin_17 rfl h
/-! CalledRiver$SumReader.opens -/
theorem dX8_opens_0 : decode cX8_opens 0 = .ok (.iload_n 1, 1) := by decide +kernel
theorem dX8_opens_1 : decode cX8_opens 1 = .ok (.bipush 6, 2) := by decide +kernel
theorem dX8_opens_3 : decode cX8_opens 3 = .ok (.if_icmp .lt 20, 3) := by decide +kernel
theorem dX8_opens_6 : decode cX8_opens 6 = .ok (.aload_n 0, 1) := by decide +kernel
theorem dX8_opens_7 : decode cX8_opens 7 = .ok (.getfield 9, 3) := by decide +kernel
theorem dX8_opens_10 : decode cX8_opens 10 = .ok (.iconst 4, 1) := by decide +kernel
theorem dX8_opens_11 : decode cX8_opens 11 = .ok (.aload_n 0, 1) := by decide +kernel
theorem dX8_opens_12 : decode cX8_opens 12 = .ok (.getfield 9, 3) := by decide +kernel
theorem dX8_opens_15 : decode cX8_opens 15 = .ok (.getfield 38, 3) := by decide +kernel
theorem dX8_opens_18 : decode cX8_opens 18 = .ok (.invokevirtual 42, 3) := by decide +kernel
theorem dX8_opens_21 : decode cX8_opens 21 = .ok (.iconst 0, 1) := by decide +kernel
theorem dX8_opens_22 : decode cX8_opens 22 = .ok (.ireturn, 1) := by decide +kernel
theorem dX8_opens_23 : decode cX8_opens 23 = .ok (.aload_n 0, 1) := by decide +kernel
theorem dX8_opens_24 : decode cX8_opens 24 = .ok (.getfield 9, 3) := by decide +kernel
theorem dX8_opens_27 : decode cX8_opens 27 = .ok (.invokevirtual 46, 3) := by decide +kernel
theorem dX8_opens_30 : decode cX8_opens 30 = .ok (.iconst 1, 1) := by decide +kernel
theorem dX8_opens_31 : decode cX8_opens 31 = .ok (.ireturn, 1) := by decide +kernel
def wp_X8_opens (sh : Shp) (v0 : Nat) (v1 : Int32) (Q : Int32 → Mem → Prop) (m : Mem) : Prop :=
  if v1 < (6 : Int32) then (Ob sh v0 8 ∧ ∃ b2 : Nat, m.2.2 v0 0 = some b2 ∧ (Ob sh b2 9 ∧ wp_X9_advance sh b2 (fun m5 => Q (1 : Int32) m5) m)) else (Ob sh v0 8 ∧ ∃ b8 : Nat, m.2.2 v0 0 = some b8 ∧ (Ob sh b8 9 ∧ (wp_X9_fail sh b8 (4 : Int32) (m.1 b8 3) (fun m12 => Q (0 : Int32) m12) m)))
abbrev M_X8_opens : Mi := (cX8_opens, 2, RX8, (Option.some FieldType.boolean), "opens", 3, 103, 0, 0)
set_option maxHeartbeats 4000000 in
set_option maxRecDepth 100000 in
theorem c_X8_opens {l : Launch} {G : Gl} {sh : Shp} {v0 : Nat} {v1 : Int32} {Q : Int32 → Mem → Prop} {m : Mem} (h : wp_X8_opens sh v0 v1 Q m) : Cni l G yX8_opens cX8_opens 2 (Option.some FieldType.boolean) 3 103 sh [.ref (G.1 + v0), .int v1] m Q := by
  refine con_i (ls := [(0, .ref (G.1 + v0)), (1, .int v1)]) (by decide +kernel) rfl (Nat.le_of_ble_eq_true rfl) (fun F => ?_)
  show V G F M_X8_opens sh 0 0 (Zi G F sh Q) 0 [(0, .ref (G.1 + v0)), (1, .int v1)] [] m
  unfold wp_X8_opens at h
  refine v_iload_n 1 1 dX8_opens_0 rfl rfl ?_
  refine v_bipush (6 : Int32) dX8_opens_1 (by decide) ?_
  refine v_icmp_lt 23 dX8_opens_3 (by decide) (fun hc => ?_) (fun hc => ?_)
  · replace h := Eq.mp (if_pos hc) h
    refine v_aload_n 0 0 dX8_opens_23 rfl rfl ?_
    obtain ⟨o1, h⟩ := h
    obtain ⟨b2, e3, h⟩ := h
    refine v_gR 8 0 dX8_opens_24 fg_RX8_9 o1 e3 ?_
    obtain ⟨o6, h⟩ := h
    refine v_cVv [] mv_X9_advance ml_RX8_46 ⟨_, _, rfl⟩ o6 rfl rfl (Nat.le_of_ble_eq_true rfl) (Nat.le_of_ble_eq_true rfl) (Nat.le_of_ble_eq_true rfl) (Nat.zero_le _) (Nat.zero_le _) dX8_opens_27 (c_X9_advance h) (fun m5 h => ?_)
    refine v_iconst (1 : Int32) dX8_opens_30 (by decide) ?_
    exact v_iret dX8_opens_31 rfl (by decide) h
  · replace h := Eq.mp (if_neg hc) h
    refine v_aload_n 0 0 dX8_opens_6 rfl rfl ?_
    obtain ⟨o7, h⟩ := h
    obtain ⟨b8, e9, h⟩ := h
    refine v_gR 8 0 dX8_opens_7 fg_RX8_9 o7 e9 ?_
    refine v_iconst (4 : Int32) dX8_opens_10 (by decide) ?_
    refine v_aload_n 0 0 dX8_opens_11 rfl rfl ?_
    refine v_gR 8 0 dX8_opens_12 fg_RX8_9 o7 e9 ?_
    obtain ⟨o10, h⟩ := h
    refine v_gI 9 3 dX8_opens_15 fg_RX8_38 o10 ?_
    refine v_cVv [.int _, .int _] mv_X9_fail ml_RX8_42 ⟨_, _, rfl⟩ o10 rfl rfl (Nat.le_of_ble_eq_true rfl) (Nat.le_of_ble_eq_true rfl) (Nat.le_of_ble_eq_true rfl) (Nat.zero_le _) (Nat.zero_le _) dX8_opens_18 (c_X9_fail h) (fun m12 h => ?_)
    refine v_iconst (0 : Int32) dX8_opens_21 (by decide) ?_
    exact v_iret dX8_opens_22 rfl (by decide) h
/-! CalledRiver$SumReader.readBoth -/
theorem dX8_readBoth_0 : decode cX8_readBoth 0 = .ok (.aload_n 0, 1) := by decide +kernel
theorem dX8_readBoth_1 : decode cX8_readBoth 1 = .ok (.iload_n 1, 1) := by decide +kernel
theorem dX8_readBoth_2 : decode cX8_readBoth 2 = .ok (.invokevirtual 71, 3) := by decide +kernel
theorem dX8_readBoth_5 : decode cX8_readBoth 5 = .ok (.iconst 0, 1) := by decide +kernel
theorem dX8_readBoth_6 : decode cX8_readBoth 6 = .ok (.istore_n 2, 1) := by decide +kernel
theorem dX8_readBoth_7 : decode cX8_readBoth 7 = .ok (.iload_n 2, 1) := by decide +kernel
theorem dX8_readBoth_8 : decode cX8_readBoth 8 = .ok (.sipush 1600, 3) := by decide +kernel
theorem dX8_readBoth_11 : decode cX8_readBoth 11 = .ok (.if_icmp .ge 43, 3) := by decide +kernel
theorem dX8_readBoth_14 : decode cX8_readBoth 14 = .ok (.aload_n 0, 1) := by decide +kernel
theorem dX8_readBoth_15 : decode cX8_readBoth 15 = .ok (.getfield 9, 3) := by decide +kernel
theorem dX8_readBoth_18 : decode cX8_readBoth 18 = .ok (.ldc 74, 2) := by decide +kernel
theorem dX8_readBoth_20 : decode cX8_readBoth 20 = .ok (.invokevirtual 34, 3) := by decide +kernel
theorem dX8_readBoth_23 : decode cX8_readBoth 23 = .ok (.ifCond .ne 31, 3) := by decide +kernel
theorem dX8_readBoth_26 : decode cX8_readBoth 26 = .ok (.aload_n 0, 1) := by decide +kernel
theorem dX8_readBoth_27 : decode cX8_readBoth 27 = .ok (.getfield 9, 3) := by decide +kernel
theorem dX8_readBoth_30 : decode cX8_readBoth 30 = .ok (.invokevirtual 46, 3) := by decide +kernel
theorem dX8_readBoth_33 : decode cX8_readBoth 33 = .ok (.aload_n 0, 1) := by decide +kernel
theorem dX8_readBoth_34 : decode cX8_readBoth 34 = .ok (.iload_n 1, 1) := by decide +kernel
theorem dX8_readBoth_35 : decode cX8_readBoth 35 = .ok (.invokevirtual 71, 3) := by decide +kernel
theorem dX8_readBoth_38 : decode cX8_readBoth 38 = .ok (.aload_n 0, 1) := by decide +kernel
theorem dX8_readBoth_39 : decode cX8_readBoth 39 = .ok (.getfield 15, 3) := by decide +kernel
theorem dX8_readBoth_42 : decode cX8_readBoth 42 = .ok (.sipush 10030, 3) := by decide +kernel
theorem dX8_readBoth_45 : decode cX8_readBoth 45 = .ok (.invokevirtual 68, 3) := by decide +kernel
theorem dX8_readBoth_48 : decode cX8_readBoth 48 = .ok (.iinc 2 1, 3) := by decide +kernel
theorem dX8_readBoth_51 : decode cX8_readBoth 51 = .ok (.goto (-44), 3) := by decide +kernel
theorem dX8_readBoth_54 : decode cX8_readBoth 54 = .ok (.return_, 1) := by decide +kernel
def X8_readBoth_p7b (R : Nat → Shp → Nat → Int32 → (Mem → Prop) → Mem → Prop) (sh : Shp) (v0 : Nat) (v1 : Int32) (Q : Mem → Prop) (K7 : Int32 → Mem → Prop) (v2 : Int32) (m : Mem) : Prop :=
  if (1600 : Int32) ≤ v2 then (Q m) else (Ob sh v0 8 ∧ ∃ b5 : Nat, m.2.2 v0 0 = some b5 ∧ (Ob sh b5 9 ∧ wp_X9_wordIn sh b5 17 (fun r7 m8 => if r7 = 0 then (∃ b10 : Nat, m8.2.2 v0 0 = some b10 ∧ (Ob sh b10 9 ∧ wp_X9_advance sh b10 (fun m13 => R 2 sh v0 v1 (fun m16 => ∃ b17 : Nat, m16.2.2 v0 1 = some b17 ∧ (Ob sh b17 0 ∧ wp_X0_add sh b17 (10030 : Int32) (fun m20 => K7 (v2 + (1 : Int32)) m20) m16)) m13) m8)) else (Q m8)) m))
def X8_readBoth_p7n (R : Nat → Shp → Nat → Int32 → (Mem → Prop) → Mem → Prop) (sh : Shp) (v0 : Nat) (v1 : Int32) (Q : Mem → Prop) : Nat → Int32 → Mem → Prop
  | 0 => fun _ _ => False
  | n + 1 => X8_readBoth_p7b R sh v0 v1 Q (X8_readBoth_p7n R sh v0 v1 Q n)
def X8_readBoth_p7 (R : Nat → Shp → Nat → Int32 → (Mem → Prop) → Mem → Prop) (sh : Shp) (v0 : Nat) (v1 : Int32) (Q : Mem → Prop) (v2 : Int32) (m : Mem) : Prop := ∃ n, X8_readBoth_p7n R sh v0 v1 Q n v2 m
def wp_X8_readBoth (R : Nat → Shp → Nat → Int32 → (Mem → Prop) → Mem → Prop) (sh : Shp) (v0 : Nat) (v1 : Int32) (Q : Mem → Prop) (m : Mem) : Prop :=
  Ob sh v0 8 ∧ R 2 sh v0 v1 (fun m2 => X8_readBoth_p7 R sh v0 v1 Q (0 : Int32) m2) m
abbrev M_X8_readBoth (d : Nat) : Mi := (cX8_readBoth, 3, RX8, (none : Option FieldType), "readBoth", frG (d + 1), loG (d + 1), 0, 0)
set_option maxHeartbeats 4000000 in
set_option maxRecDepth 100000 in
theorem v_X8_readBoth_p7b {G : Gl} {F : Fr} {d : Nat} {R : Nat → Shp → Nat → Int32 → (Mem → Prop) → Mem → Prop} {sh : Shp} {v0 : Nat} {v1 : Int32} {v2 : Int32} {Q : Mem → Prop} {K7 : Int32 → Mem → Prop} {m : Mem} (hR : GR (Fl F) G R (frG d) (loG d)) (hK7 : ∀ (x2 : Int32) (m : Mem), K7 x2 m → V G F (M_X8_readBoth d) sh 0 0 (Zv G F sh Q) 7 [(0, .ref (G.1 + v0)), (1, .int v1), (2, .int x2)] [] m) (h : X8_readBoth_p7b R sh v0 v1 Q K7 v2 m) : V G F (M_X8_readBoth d) sh 0 0 (Zv G F sh Q) 7 [(0, .ref (G.1 + v0)), (1, .int v1), (2, .int v2)] [] m := by
  unfold X8_readBoth_p7b at h
  refine v_iload_n 2 2 dX8_readBoth_7 rfl rfl ?_
  refine v_sipush (1600 : Int32) dX8_readBoth_8 (by decide) ?_
  refine v_icmp_ge 54 dX8_readBoth_11 (by decide) (fun hc => ?_) (fun hc => ?_)
  · replace h := Eq.mp (if_pos hc) h
    exact v_vret dX8_readBoth_54 rfl h
  · replace h := Eq.mp (if_neg hc) h
    refine v_aload_n 0 0 dX8_readBoth_14 rfl rfl ?_
    obtain ⟨o4, h⟩ := h
    obtain ⟨b5, e6, h⟩ := h
    refine v_gR 8 0 dX8_readBoth_15 fg_RX8_9 o4 e6 ?_
    refine v_ldcS (tx := "and") 17 dX8_readBoth_18 (List.mem_of_getElem? (i := 17) rfl) ?_
    obtain ⟨o9, h⟩ := h
    refine v_cVi [.ref _] mv_X9_wordIn ml_RX8_34 ⟨_, _, rfl⟩ o9 rfl rfl (Nat.le_of_ble_eq_true rfl) (by show _ ≤ frG (d + 1); simp only [frG]; omega) (by show _ ≤ loG (d + 1); simp only [loG]; omega) (Nat.zero_le _) (Nat.zero_le _) dX8_readBoth_20 (c_X9_wordIn h) (fun r7 m8 h => ?_)
    refine v_if_ne 54 dX8_readBoth_23 (by decide) (fun hc => ?_) (fun hc => ?_)
    · replace h := Eq.mp (if_neg hc) h
      exact v_vret dX8_readBoth_54 rfl h
    · replace h := Eq.mp (if_pos hc) h
      refine v_aload_n 0 0 dX8_readBoth_26 rfl rfl ?_
      obtain ⟨b10, e11, h⟩ := h
      refine v_gR 8 0 dX8_readBoth_27 fg_RX8_9 o4 e11 ?_
      obtain ⟨o14, h⟩ := h
      refine v_cVv [] mv_X9_advance ml_RX8_46 ⟨_, _, rfl⟩ o14 rfl rfl (Nat.le_of_ble_eq_true rfl) (by show _ ≤ frG (d + 1); simp only [frG]; omega) (by show _ ≤ loG (d + 1); simp only [loG]; omega) (Nat.zero_le _) (Nat.zero_le _) dX8_readBoth_30 (c_X9_advance h) (fun m13 h => ?_)
      refine v_aload_n 0 0 dX8_readBoth_33 rfl rfl ?_
      refine v_iload_n 1 1 dX8_readBoth_34 rfl rfl ?_
      refine v_cVv [.int _] mv_X8_readFact ml_RX8_71 ⟨_, _, rfl⟩ o4 rfl rfl (Nat.le_of_ble_eq_true rfl) (by show _ ≤ frG (d + 1); simp only [frG]; omega) (by show _ ≤ loG (d + 1); simp only [loG]; omega) (Nat.zero_le _) (Nat.zero_le _) dX8_readBoth_35 (hR.2.2.1 h) (fun m16 h => ?_)
      refine v_aload_n 0 0 dX8_readBoth_38 rfl rfl ?_
      obtain ⟨b17, e18, h⟩ := h
      refine v_gR 8 1 dX8_readBoth_39 fg_RX8_15 o4 e18 ?_
      refine v_sipush (10030 : Int32) dX8_readBoth_42 (by decide) ?_
      obtain ⟨o21, h⟩ := h
      refine v_cVv [.int _] mv_X0_add ml_RX8_68 ⟨_, _, rfl⟩ o21 rfl rfl (Nat.le_of_ble_eq_true rfl) (by show _ ≤ frG (d + 1); simp only [frG]; omega) (by show _ ≤ loG (d + 1); simp only [loG]; omega) (Nat.zero_le _) (Nat.zero_le _) dX8_readBoth_45 (c_X0_add h) (fun m20 h => ?_)
      refine v_iinc (ls' := [(2, .int _), (0, .ref _), (1, .int _)]) 2 2 dX8_readBoth_48 rfl (congrArg (HAdd.hAdd _) (by decide : Int32.ofInt (1) = (1 : Int32))) (Nat.le_of_ble_eq_true rfl) rfl ?_
      refine v_goto 7 dX8_readBoth_51 (by decide) ?_
      refine v_sub [1, 2, 0] rfl ?_
      exact hK7 _ _ h
set_option maxHeartbeats 4000000 in
set_option maxRecDepth 100000 in
theorem v_X8_readBoth_p7 {G : Gl} {F : Fr} {d : Nat} {R : Nat → Shp → Nat → Int32 → (Mem → Prop) → Mem → Prop} {sh : Shp} {v0 : Nat} {v1 : Int32} {v2 : Int32} {Q : Mem → Prop} {m : Mem} (hR : GR (Fl F) G R (frG d) (loG d)) (h : X8_readBoth_p7 R sh v0 v1 Q v2 m) : V G F (M_X8_readBoth d) sh 0 0 (Zv G F sh Q) 7 [(0, .ref (G.1 + v0)), (1, .int v1), (2, .int v2)] [] m := by
  obtain ⟨n, h⟩ := h
  induction n generalizing v2 m with
  | zero => exact h.elim
  | succ n ih => exact v_X8_readBoth_p7b hR (fun _ _ h => ih h) h
set_option maxHeartbeats 4000000 in
set_option maxRecDepth 100000 in
theorem c_X8_readBoth {l : Launch} {G : Gl} {d : Nat} {R : Nat → Shp → Nat → Int32 → (Mem → Prop) → Mem → Prop} (hR : GR l G R (frG d) (loG d)) {sh : Shp} {v0 : Nat} {v1 : Int32} {Q : Mem → Prop} {m : Mem} (h : wp_X8_readBoth R sh v0 v1 Q m) : Cnv l G yX8_readBoth cX8_readBoth 3 (none : Option FieldType) (frG (d + 1)) (loG (d + 1)) sh [.ref (G.1 + v0), .int v1] m Q := by
  refine con_vl (ls := [(0, .ref (G.1 + v0)), (1, .int v1)]) (by decide +kernel) rfl (Nat.le_of_ble_eq_true rfl) (fun F hl => ?_)
  subst hl
  show V G F (M_X8_readBoth d) sh 0 0 (Zv G F sh Q) 0 [(0, .ref (G.1 + v0)), (1, .int v1)] [] m
  unfold wp_X8_readBoth at h
  refine v_aload_n 0 0 dX8_readBoth_0 rfl rfl ?_
  refine v_iload_n 1 1 dX8_readBoth_1 rfl rfl ?_
  obtain ⟨o3, h⟩ := h
  refine v_cVv [.int _] mv_X8_readFact ml_RX8_71 ⟨_, _, rfl⟩ o3 rfl rfl (Nat.le_of_ble_eq_true rfl) (by show _ ≤ frG (d + 1); simp only [frG]; omega) (by show _ ≤ loG (d + 1); simp only [loG]; omega) (Nat.zero_le _) (Nat.zero_le _) dX8_readBoth_2 (hR.2.2.1 h) (fun m2 h => ?_)
  refine v_iconst (0 : Int32) dX8_readBoth_5 (by decide) ?_
  refine v_istore_n (ls' := [(2, .int _), (0, .ref _), (1, .int _)]) 2 dX8_readBoth_6 rfl (Nat.le_of_ble_eq_true rfl) rfl ?_
  refine v_sub [1, 2, 0] rfl ?_
  exact v_X8_readBoth_p7 hR h
/-! CalledRiver$SumReader.readComparison -/
theorem dX8_readComparison_0 : decode cX8_readComparison 0 = .ok (.aload_n 0, 1) := by decide +kernel
theorem dX8_readComparison_1 : decode cX8_readComparison 1 = .ok (.iload_n 1, 1) := by decide +kernel
theorem dX8_readComparison_2 : decode cX8_readComparison 2 = .ok (.invokevirtual 23, 3) := by decide +kernel
theorem dX8_readComparison_5 : decode cX8_readComparison 5 = .ok (.aload_n 0, 1) := by decide +kernel
theorem dX8_readComparison_6 : decode cX8_readComparison 6 = .ok (.getfield 9, 3) := by decide +kernel
theorem dX8_readComparison_9 : decode cX8_readComparison 9 = .ok (.bipush 60, 2) := by decide +kernel
theorem dX8_readComparison_11 : decode cX8_readComparison 11 = .ok (.invokevirtual 82, 3) := by decide +kernel
theorem dX8_readComparison_14 : decode cX8_readComparison 14 = .ok (.ifCond .eq 9, 3) := by decide +kernel
theorem dX8_readComparison_17 : decode cX8_readComparison 17 = .ok (.sipush 10032, 3) := by decide +kernel
theorem dX8_readComparison_20 : decode cX8_readComparison 20 = .ok (.goto 40, 3) := by decide +kernel
theorem dX8_readComparison_23 : decode cX8_readComparison 23 = .ok (.aload_n 0, 1) := by decide +kernel
theorem dX8_readComparison_24 : decode cX8_readComparison 24 = .ok (.getfield 9, 3) := by decide +kernel
theorem dX8_readComparison_27 : decode cX8_readComparison 27 = .ok (.bipush 62, 2) := by decide +kernel
theorem dX8_readComparison_29 : decode cX8_readComparison 29 = .ok (.invokevirtual 82, 3) := by decide +kernel
theorem dX8_readComparison_32 : decode cX8_readComparison 32 = .ok (.ifCond .eq 9, 3) := by decide +kernel
theorem dX8_readComparison_35 : decode cX8_readComparison 35 = .ok (.sipush 10033, 3) := by decide +kernel
theorem dX8_readComparison_38 : decode cX8_readComparison 38 = .ok (.goto 22, 3) := by decide +kernel
theorem dX8_readComparison_41 : decode cX8_readComparison 41 = .ok (.aload_n 0, 1) := by decide +kernel
theorem dX8_readComparison_42 : decode cX8_readComparison 42 = .ok (.getfield 9, 3) := by decide +kernel
theorem dX8_readComparison_45 : decode cX8_readComparison 45 = .ok (.bipush 61, 2) := by decide +kernel
theorem dX8_readComparison_47 : decode cX8_readComparison 47 = .ok (.invokevirtual 82, 3) := by decide +kernel
theorem dX8_readComparison_50 : decode cX8_readComparison 50 = .ok (.ifCond .eq 9, 3) := by decide +kernel
theorem dX8_readComparison_53 : decode cX8_readComparison 53 = .ok (.sipush 10034, 3) := by decide +kernel
theorem dX8_readComparison_56 : decode cX8_readComparison 56 = .ok (.goto 4, 3) := by decide +kernel
theorem dX8_readComparison_59 : decode cX8_readComparison 59 = .ok (.iconst (-1), 1) := by decide +kernel
theorem dX8_readComparison_60 : decode cX8_readComparison 60 = .ok (.istore_n 2, 1) := by decide +kernel
theorem dX8_readComparison_61 : decode cX8_readComparison 61 = .ok (.iload_n 2, 1) := by decide +kernel
theorem dX8_readComparison_62 : decode cX8_readComparison 62 = .ok (.iconst (-1), 1) := by decide +kernel
theorem dX8_readComparison_63 : decode cX8_readComparison 63 = .ok (.if_icmp .ne 19, 3) := by decide +kernel
theorem dX8_readComparison_66 : decode cX8_readComparison 66 = .ok (.aload_n 0, 1) := by decide +kernel
theorem dX8_readComparison_67 : decode cX8_readComparison 67 = .ok (.getfield 9, 3) := by decide +kernel
theorem dX8_readComparison_70 : decode cX8_readComparison 70 = .ok (.iconst 1, 1) := by decide +kernel
theorem dX8_readComparison_71 : decode cX8_readComparison 71 = .ok (.aload_n 0, 1) := by decide +kernel
theorem dX8_readComparison_72 : decode cX8_readComparison 72 = .ok (.getfield 9, 3) := by decide +kernel
theorem dX8_readComparison_75 : decode cX8_readComparison 75 = .ok (.getfield 38, 3) := by decide +kernel
theorem dX8_readComparison_78 : decode cX8_readComparison 78 = .ok (.invokevirtual 42, 3) := by decide +kernel
theorem dX8_readComparison_81 : decode cX8_readComparison 81 = .ok (.return_, 1) := by decide +kernel
theorem dX8_readComparison_82 : decode cX8_readComparison 82 = .ok (.aload_n 0, 1) := by decide +kernel
theorem dX8_readComparison_83 : decode cX8_readComparison 83 = .ok (.getfield 9, 3) := by decide +kernel
theorem dX8_readComparison_86 : decode cX8_readComparison 86 = .ok (.invokevirtual 46, 3) := by decide +kernel
theorem dX8_readComparison_89 : decode cX8_readComparison 89 = .ok (.aload_n 0, 1) := by decide +kernel
theorem dX8_readComparison_90 : decode cX8_readComparison 90 = .ok (.iload_n 1, 1) := by decide +kernel
theorem dX8_readComparison_91 : decode cX8_readComparison 91 = .ok (.invokevirtual 23, 3) := by decide +kernel
theorem dX8_readComparison_94 : decode cX8_readComparison 94 = .ok (.aload_n 0, 1) := by decide +kernel
theorem dX8_readComparison_95 : decode cX8_readComparison 95 = .ok (.getfield 15, 3) := by decide +kernel
theorem dX8_readComparison_98 : decode cX8_readComparison 98 = .ok (.iload_n 2, 1) := by decide +kernel
theorem dX8_readComparison_99 : decode cX8_readComparison 99 = .ok (.invokevirtual 68, 3) := by decide +kernel
theorem dX8_readComparison_102 : decode cX8_readComparison 102 = .ok (.return_, 1) := by decide +kernel
def X8_readComparison_p60 (R : Nat → Shp → Nat → Int32 → (Mem → Prop) → Mem → Prop) (sh : Shp) (v0 : Nat) (v1 : Int32) (s0 : Int32) (Q : Mem → Prop) (m : Mem) : Prop :=
  if s0 = (-1 : Int32) then (Ob sh v0 8 ∧ ∃ b33 : Nat, m.2.2 v0 0 = some b33 ∧ (Ob sh b33 9 ∧ (wp_X9_fail sh b33 (1 : Int32) (m.1 b33 3) (fun m37 => Q m37) m))) else (Ob sh v0 8 ∧ ∃ b20 : Nat, m.2.2 v0 0 = some b20 ∧ (Ob sh b20 9 ∧ wp_X9_advance sh b20 (fun m23 => R 4 sh v0 v1 (fun m26 => ∃ b27 : Nat, m26.2.2 v0 1 = some b27 ∧ (Ob sh b27 0 ∧ wp_X0_add sh b27 s0 (fun m30 => Q m30) m26)) m23) m))
def wp_X8_readComparison (R : Nat → Shp → Nat → Int32 → (Mem → Prop) → Mem → Prop) (sh : Shp) (v0 : Nat) (v1 : Int32) (Q : Mem → Prop) (m : Mem) : Prop :=
  Ob sh v0 8 ∧ R 4 sh v0 v1 (fun m2 => ∃ b4 : Nat, m2.2.2 v0 0 = some b4 ∧ (Ob sh b4 9 ∧ wp_X9_isSign sh b4 (60 : Int32) (fun r6 m7 => if r6 = 0 then (∃ b9 : Nat, m7.2.2 v0 0 = some b9 ∧ (Ob sh b9 9 ∧ wp_X9_isSign sh b9 (62 : Int32) (fun r11 m12 => if r11 = 0 then (∃ b14 : Nat, m12.2.2 v0 0 = some b14 ∧ (Ob sh b14 9 ∧ wp_X9_isSign sh b14 (61 : Int32) (fun r16 m17 => if r16 = 0 then (X8_readComparison_p60 R sh v0 v1 (-1 : Int32) Q m17) else (X8_readComparison_p60 R sh v0 v1 (10034 : Int32) Q m17)) m12)) else (X8_readComparison_p60 R sh v0 v1 (10033 : Int32) Q m12)) m7)) else (X8_readComparison_p60 R sh v0 v1 (10032 : Int32) Q m7)) m2)) m
abbrev M_X8_readComparison (d : Nat) : Mi := (cX8_readComparison, 3, RX8, (none : Option FieldType), "readComparison", frG (d + 1), loG (d + 1), 0, 0)
set_option maxHeartbeats 4000000 in
set_option maxRecDepth 100000 in
theorem v_X8_readComparison_p60 {G : Gl} {F : Fr} {d : Nat} {R : Nat → Shp → Nat → Int32 → (Mem → Prop) → Mem → Prop} {sh : Shp} {v0 : Nat} {v1 : Int32} {s0 : Int32} {Q : Mem → Prop} {m : Mem} (hR : GR (Fl F) G R (frG d) (loG d)) (h : X8_readComparison_p60 R sh v0 v1 s0 Q m) : V G F (M_X8_readComparison d) sh 0 0 (Zv G F sh Q) 60 [(0, .ref (G.1 + v0)), (1, .int v1)] [.int s0] m := by
  unfold X8_readComparison_p60 at h
  refine v_istore_n (ls' := [(2, .int _), (0, .ref _), (1, .int _)]) 2 dX8_readComparison_60 rfl (Nat.le_of_ble_eq_true rfl) rfl ?_
  refine v_iload_n 2 0 dX8_readComparison_61 rfl rfl ?_
  refine v_iconst (-1 : Int32) dX8_readComparison_62 (by decide) ?_
  refine v_icmp_ne 82 dX8_readComparison_63 (by decide) (fun hc => ?_) (fun hc => ?_)
  · replace h := Eq.mp (if_neg hc) h
    refine v_aload_n 0 1 dX8_readComparison_82 rfl rfl ?_
    obtain ⟨o19, h⟩ := h
    obtain ⟨b20, e21, h⟩ := h
    refine v_gR 8 0 dX8_readComparison_83 fg_RX8_9 o19 e21 ?_
    obtain ⟨o24, h⟩ := h
    refine v_cVv [] mv_X9_advance ml_RX8_46 ⟨_, _, rfl⟩ o24 rfl rfl (Nat.le_of_ble_eq_true rfl) (by show _ ≤ frG (d + 1); simp only [frG]; omega) (by show _ ≤ loG (d + 1); simp only [loG]; omega) (Nat.zero_le _) (Nat.zero_le _) dX8_readComparison_86 (c_X9_advance h) (fun m23 h => ?_)
    refine v_aload_n 0 1 dX8_readComparison_89 rfl rfl ?_
    refine v_iload_n 1 2 dX8_readComparison_90 rfl rfl ?_
    refine v_cVv [.int _] mv_X8_readSum ml_RX8_23 ⟨_, _, rfl⟩ o19 rfl rfl (Nat.le_of_ble_eq_true rfl) (by show _ ≤ frG (d + 1); simp only [frG]; omega) (by show _ ≤ loG (d + 1); simp only [loG]; omega) (Nat.zero_le _) (Nat.zero_le _) dX8_readComparison_91 (hR.2.2.2.2.1 h) (fun m26 h => ?_)
    refine v_aload_n 0 1 dX8_readComparison_94 rfl rfl ?_
    obtain ⟨b27, e28, h⟩ := h
    refine v_gR 8 1 dX8_readComparison_95 fg_RX8_15 o19 e28 ?_
    refine v_iload_n 2 0 dX8_readComparison_98 rfl rfl ?_
    obtain ⟨o31, h⟩ := h
    refine v_cVv [.int _] mv_X0_add ml_RX8_68 ⟨_, _, rfl⟩ o31 rfl rfl (Nat.le_of_ble_eq_true rfl) (by show _ ≤ frG (d + 1); simp only [frG]; omega) (by show _ ≤ loG (d + 1); simp only [loG]; omega) (Nat.zero_le _) (Nat.zero_le _) dX8_readComparison_99 (c_X0_add h) (fun m30 h => ?_)
    exact v_vret dX8_readComparison_102 rfl h
  · replace h := Eq.mp (if_pos hc) h
    refine v_aload_n 0 1 dX8_readComparison_66 rfl rfl ?_
    obtain ⟨o32, h⟩ := h
    obtain ⟨b33, e34, h⟩ := h
    refine v_gR 8 0 dX8_readComparison_67 fg_RX8_9 o32 e34 ?_
    refine v_iconst (1 : Int32) dX8_readComparison_70 (by decide) ?_
    refine v_aload_n 0 1 dX8_readComparison_71 rfl rfl ?_
    refine v_gR 8 0 dX8_readComparison_72 fg_RX8_9 o32 e34 ?_
    obtain ⟨o35, h⟩ := h
    refine v_gI 9 3 dX8_readComparison_75 fg_RX8_38 o35 ?_
    refine v_cVv [.int _, .int _] mv_X9_fail ml_RX8_42 ⟨_, _, rfl⟩ o35 rfl rfl (Nat.le_of_ble_eq_true rfl) (by show _ ≤ frG (d + 1); simp only [frG]; omega) (by show _ ≤ loG (d + 1); simp only [loG]; omega) (Nat.zero_le _) (Nat.zero_le _) dX8_readComparison_78 (c_X9_fail h) (fun m37 h => ?_)
    exact v_vret dX8_readComparison_81 rfl h
set_option maxHeartbeats 4000000 in
set_option maxRecDepth 100000 in
theorem c_X8_readComparison {l : Launch} {G : Gl} {d : Nat} {R : Nat → Shp → Nat → Int32 → (Mem → Prop) → Mem → Prop} (hR : GR l G R (frG d) (loG d)) {sh : Shp} {v0 : Nat} {v1 : Int32} {Q : Mem → Prop} {m : Mem} (h : wp_X8_readComparison R sh v0 v1 Q m) : Cnv l G yX8_readComparison cX8_readComparison 3 (none : Option FieldType) (frG (d + 1)) (loG (d + 1)) sh [.ref (G.1 + v0), .int v1] m Q := by
  refine con_vl (ls := [(0, .ref (G.1 + v0)), (1, .int v1)]) (by decide +kernel) rfl (Nat.le_of_ble_eq_true rfl) (fun F hl => ?_)
  subst hl
  show V G F (M_X8_readComparison d) sh 0 0 (Zv G F sh Q) 0 [(0, .ref (G.1 + v0)), (1, .int v1)] [] m
  unfold wp_X8_readComparison at h
  refine v_aload_n 0 0 dX8_readComparison_0 rfl rfl ?_
  refine v_iload_n 1 1 dX8_readComparison_1 rfl rfl ?_
  obtain ⟨o3, h⟩ := h
  refine v_cVv [.int _] mv_X8_readSum ml_RX8_23 ⟨_, _, rfl⟩ o3 rfl rfl (Nat.le_of_ble_eq_true rfl) (by show _ ≤ frG (d + 1); simp only [frG]; omega) (by show _ ≤ loG (d + 1); simp only [loG]; omega) (Nat.zero_le _) (Nat.zero_le _) dX8_readComparison_2 (hR.2.2.2.2.1 h) (fun m2 h => ?_)
  refine v_aload_n 0 0 dX8_readComparison_5 rfl rfl ?_
  obtain ⟨b4, e5, h⟩ := h
  refine v_gR 8 0 dX8_readComparison_6 fg_RX8_9 o3 e5 ?_
  refine v_bipush (60 : Int32) dX8_readComparison_9 (by decide) ?_
  obtain ⟨o8, h⟩ := h
  refine v_cVi [.int _] mv_X9_isSign ml_RX8_82 ⟨_, _, rfl⟩ o8 rfl rfl (Nat.le_of_ble_eq_true rfl) (by show _ ≤ frG (d + 1); simp only [frG]; omega) (by show _ ≤ loG (d + 1); simp only [loG]; omega) (Nat.zero_le _) (Nat.zero_le _) dX8_readComparison_11 (c_X9_isSign h) (fun r6 m7 h => ?_)
  refine v_if_eq 23 dX8_readComparison_14 (by decide) (fun hc => ?_) (fun hc => ?_)
  · replace h := Eq.mp (if_pos hc) h
    refine v_aload_n 0 0 dX8_readComparison_23 rfl rfl ?_
    obtain ⟨b9, e10, h⟩ := h
    refine v_gR 8 0 dX8_readComparison_24 fg_RX8_9 o3 e10 ?_
    refine v_bipush (62 : Int32) dX8_readComparison_27 (by decide) ?_
    obtain ⟨o13, h⟩ := h
    refine v_cVi [.int _] mv_X9_isSign ml_RX8_82 ⟨_, _, rfl⟩ o13 rfl rfl (Nat.le_of_ble_eq_true rfl) (by show _ ≤ frG (d + 1); simp only [frG]; omega) (by show _ ≤ loG (d + 1); simp only [loG]; omega) (Nat.zero_le _) (Nat.zero_le _) dX8_readComparison_29 (c_X9_isSign h) (fun r11 m12 h => ?_)
    refine v_if_eq 41 dX8_readComparison_32 (by decide) (fun hc => ?_) (fun hc => ?_)
    · replace h := Eq.mp (if_pos hc) h
      refine v_aload_n 0 0 dX8_readComparison_41 rfl rfl ?_
      obtain ⟨b14, e15, h⟩ := h
      refine v_gR 8 0 dX8_readComparison_42 fg_RX8_9 o3 e15 ?_
      refine v_bipush (61 : Int32) dX8_readComparison_45 (by decide) ?_
      obtain ⟨o18, h⟩ := h
      refine v_cVi [.int _] mv_X9_isSign ml_RX8_82 ⟨_, _, rfl⟩ o18 rfl rfl (Nat.le_of_ble_eq_true rfl) (by show _ ≤ frG (d + 1); simp only [frG]; omega) (by show _ ≤ loG (d + 1); simp only [loG]; omega) (Nat.zero_le _) (Nat.zero_le _) dX8_readComparison_47 (c_X9_isSign h) (fun r16 m17 h => ?_)
      refine v_if_eq 59 dX8_readComparison_50 (by decide) (fun hc => ?_) (fun hc => ?_)
      · replace h := Eq.mp (if_pos hc) h
        refine v_iconst (-1 : Int32) dX8_readComparison_59 (by decide) ?_
        refine v_sub [0, 1] rfl ?_
        exact v_X8_readComparison_p60 hR h
      · replace h := Eq.mp (if_neg hc) h
        refine v_sipush (10034 : Int32) dX8_readComparison_53 (by decide) ?_
        refine v_goto 60 dX8_readComparison_56 (by decide) ?_
        refine v_sub [0, 1] rfl ?_
        exact v_X8_readComparison_p60 hR h
    · replace h := Eq.mp (if_neg hc) h
      refine v_sipush (10033 : Int32) dX8_readComparison_35 (by decide) ?_
      refine v_goto 60 dX8_readComparison_38 (by decide) ?_
      refine v_sub [0, 1] rfl ?_
      exact v_X8_readComparison_p60 hR h
  · replace h := Eq.mp (if_neg hc) h
    refine v_sipush (10032 : Int32) dX8_readComparison_17 (by decide) ?_
    refine v_goto 60 dX8_readComparison_20 (by decide) ?_
    refine v_sub [0, 1] rfl ?_
    exact v_X8_readComparison_p60 hR h
/-! CalledRiver$SumReader.readFact -/
theorem dX8_readFact_0 : decode cX8_readFact 0 = .ok (.aload_n 0, 1) := by decide +kernel
theorem dX8_readFact_1 : decode cX8_readFact 1 = .ok (.getfield 9, 3) := by decide +kernel
theorem dX8_readFact_4 : decode cX8_readFact 4 = .ok (.ldc 76, 2) := by decide +kernel
theorem dX8_readFact_6 : decode cX8_readFact 6 = .ok (.invokevirtual 34, 3) := by decide +kernel
theorem dX8_readFact_9 : decode cX8_readFact 9 = .ok (.ifCond .ne 31, 3) := by decide +kernel
theorem dX8_readFact_12 : decode cX8_readFact 12 = .ok (.aload_n 0, 1) := by decide +kernel
theorem dX8_readFact_13 : decode cX8_readFact 13 = .ok (.iload_n 1, 1) := by decide +kernel
theorem dX8_readFact_14 : decode cX8_readFact 14 = .ok (.invokevirtual 78, 3) := by decide +kernel
theorem dX8_readFact_17 : decode cX8_readFact 17 = .ok (.ifCond .eq 97, 3) := by decide +kernel
theorem dX8_readFact_20 : decode cX8_readFact 20 = .ok (.aload_n 0, 1) := by decide +kernel
theorem dX8_readFact_21 : decode cX8_readFact 21 = .ok (.iload_n 1, 1) := by decide +kernel
theorem dX8_readFact_22 : decode cX8_readFact 22 = .ok (.iconst 1, 1) := by decide +kernel
theorem dX8_readFact_23 : decode cX8_readFact 23 = .ok (.iadd, 1) := by decide +kernel
theorem dX8_readFact_24 : decode cX8_readFact 24 = .ok (.invokevirtual 71, 3) := by decide +kernel
theorem dX8_readFact_27 : decode cX8_readFact 27 = .ok (.aload_n 0, 1) := by decide +kernel
theorem dX8_readFact_28 : decode cX8_readFact 28 = .ok (.getfield 15, 3) := by decide +kernel
theorem dX8_readFact_31 : decode cX8_readFact 31 = .ok (.sipush 10023, 3) := by decide +kernel
theorem dX8_readFact_34 : decode cX8_readFact 34 = .ok (.invokevirtual 68, 3) := by decide +kernel
theorem dX8_readFact_37 : decode cX8_readFact 37 = .ok (.goto 77, 3) := by decide +kernel
theorem dX8_readFact_40 : decode cX8_readFact 40 = .ok (.aload_n 0, 1) := by decide +kernel
theorem dX8_readFact_41 : decode cX8_readFact 41 = .ok (.getfield 9, 3) := by decide +kernel
theorem dX8_readFact_44 : decode cX8_readFact 44 = .ok (.bipush 91, 2) := by decide +kernel
theorem dX8_readFact_46 : decode cX8_readFact 46 = .ok (.invokevirtual 82, 3) := by decide +kernel
theorem dX8_readFact_49 : decode cX8_readFact 49 = .ok (.ifCond .eq 30, 3) := by decide +kernel
theorem dX8_readFact_52 : decode cX8_readFact 52 = .ok (.aload_n 0, 1) := by decide +kernel
theorem dX8_readFact_53 : decode cX8_readFact 53 = .ok (.iload_n 1, 1) := by decide +kernel
theorem dX8_readFact_54 : decode cX8_readFact 54 = .ok (.invokevirtual 78, 3) := by decide +kernel
theorem dX8_readFact_57 : decode cX8_readFact 57 = .ok (.ifCond .eq 57, 3) := by decide +kernel
theorem dX8_readFact_60 : decode cX8_readFact 60 = .ok (.aload_n 0, 1) := by decide +kernel
theorem dX8_readFact_61 : decode cX8_readFact 61 = .ok (.iload_n 1, 1) := by decide +kernel
theorem dX8_readFact_62 : decode cX8_readFact 62 = .ok (.iconst 1, 1) := by decide +kernel
theorem dX8_readFact_63 : decode cX8_readFact 63 = .ok (.iadd, 1) := by decide +kernel
theorem dX8_readFact_64 : decode cX8_readFact 64 = .ok (.invokevirtual 49, 3) := by decide +kernel
theorem dX8_readFact_67 : decode cX8_readFact 67 = .ok (.aload_n 0, 1) := by decide +kernel
theorem dX8_readFact_68 : decode cX8_readFact 68 = .ok (.getfield 9, 3) := by decide +kernel
theorem dX8_readFact_71 : decode cX8_readFact 71 = .ok (.bipush 93, 2) := by decide +kernel
theorem dX8_readFact_73 : decode cX8_readFact 73 = .ok (.invokevirtual 86, 3) := by decide +kernel
theorem dX8_readFact_76 : decode cX8_readFact 76 = .ok (.goto 38, 3) := by decide +kernel
theorem dX8_readFact_79 : decode cX8_readFact 79 = .ok (.aload_n 0, 1) := by decide +kernel
theorem dX8_readFact_80 : decode cX8_readFact 80 = .ok (.getfield 9, 3) := by decide +kernel
theorem dX8_readFact_83 : decode cX8_readFact 83 = .ok (.ldc 90, 2) := by decide +kernel
theorem dX8_readFact_85 : decode cX8_readFact 85 = .ok (.invokevirtual 34, 3) := by decide +kernel
theorem dX8_readFact_88 : decode cX8_readFact 88 = .ok (.ifCond .ne 21, 3) := by decide +kernel
theorem dX8_readFact_91 : decode cX8_readFact 91 = .ok (.aload_n 0, 1) := by decide +kernel
theorem dX8_readFact_92 : decode cX8_readFact 92 = .ok (.getfield 9, 3) := by decide +kernel
theorem dX8_readFact_95 : decode cX8_readFact 95 = .ok (.invokevirtual 46, 3) := by decide +kernel
theorem dX8_readFact_98 : decode cX8_readFact 98 = .ok (.aload_n 0, 1) := by decide +kernel
theorem dX8_readFact_99 : decode cX8_readFact 99 = .ok (.getfield 15, 3) := by decide +kernel
theorem dX8_readFact_102 : decode cX8_readFact 102 = .ok (.iconst 1, 1) := by decide +kernel
theorem dX8_readFact_103 : decode cX8_readFact 103 = .ok (.invokevirtual 68, 3) := by decide +kernel
theorem dX8_readFact_106 : decode cX8_readFact 106 = .ok (.goto 8, 3) := by decide +kernel
theorem dX8_readFact_109 : decode cX8_readFact 109 = .ok (.aload_n 0, 1) := by decide +kernel
theorem dX8_readFact_110 : decode cX8_readFact 110 = .ok (.iload_n 1, 1) := by decide +kernel
theorem dX8_readFact_111 : decode cX8_readFact 111 = .ok (.invokevirtual 92, 3) := by decide +kernel
theorem dX8_readFact_114 : decode cX8_readFact 114 = .ok (.return_, 1) := by decide +kernel
def wp_X8_readFact (R : Nat → Shp → Nat → Int32 → (Mem → Prop) → Mem → Prop) (sh : Shp) (v0 : Nat) (v1 : Int32) (Q : Mem → Prop) (m : Mem) : Prop :=
  Ob sh v0 8 ∧ ∃ b2 : Nat, m.2.2 v0 0 = some b2 ∧ (Ob sh b2 9 ∧ wp_X9_wordIn sh b2 15 (fun r4 m5 => if r4 = 0 then (wp_X8_opens sh v0 v1 (fun r38 m39 => if r38 = 0 then (Q m39) else (R 2 sh v0 (v1 + (1 : Int32)) (fun m41 => ∃ b42 : Nat, m41.2.2 v0 1 = some b42 ∧ (Ob sh b42 0 ∧ wp_X0_add sh b42 (10023 : Int32) (fun m45 => Q m45) m41)) m39)) m5) else (∃ b7 : Nat, m5.2.2 v0 0 = some b7 ∧ (Ob sh b7 9 ∧ wp_X9_isSign sh b7 (91 : Int32) (fun r9 m10 => if r9 = 0 then (∃ b12 : Nat, m10.2.2 v0 0 = some b12 ∧ (Ob sh b12 9 ∧ wp_X9_wordIn sh b12 16 (fun r14 m15 => if r14 = 0 then (∃ b19 : Nat, m15.2.2 v0 0 = some b19 ∧ (Ob sh b19 9 ∧ wp_X9_advance sh b19 (fun m22 => ∃ b24 : Nat, m22.2.2 v0 1 = some b24 ∧ (Ob sh b24 0 ∧ wp_X0_add sh b24 (1 : Int32) (fun m27 => Q m27) m22)) m15)) else (R 3 sh v0 v1 (fun m18 => Q m18) m15)) m10)) else (wp_X8_opens sh v0 v1 (fun r29 m30 => if r29 = 0 then (Q m30) else (R 0 sh v0 (v1 + (1 : Int32)) (fun m32 => ∃ b33 : Nat, m32.2.2 v0 0 = some b33 ∧ (Ob sh b33 9 ∧ wp_X9_takeSign sh b33 (93 : Int32) (fun m36 => Q m36) m32)) m30)) m10)) m5))) m)
abbrev M_X8_readFact (d : Nat) : Mi := (cX8_readFact, 2, RX8, (none : Option FieldType), "readFact", frG (d + 1), loG (d + 1), 0, 0)
set_option maxHeartbeats 4000000 in
set_option maxRecDepth 100000 in
theorem c_X8_readFact {l : Launch} {G : Gl} {d : Nat} {R : Nat → Shp → Nat → Int32 → (Mem → Prop) → Mem → Prop} (hR : GR l G R (frG d) (loG d)) {sh : Shp} {v0 : Nat} {v1 : Int32} {Q : Mem → Prop} {m : Mem} (h : wp_X8_readFact R sh v0 v1 Q m) : Cnv l G yX8_readFact cX8_readFact 2 (none : Option FieldType) (frG (d + 1)) (loG (d + 1)) sh [.ref (G.1 + v0), .int v1] m Q := by
  refine con_vl (ls := [(0, .ref (G.1 + v0)), (1, .int v1)]) (by decide +kernel) rfl (Nat.le_of_ble_eq_true rfl) (fun F hl => ?_)
  subst hl
  show V G F (M_X8_readFact d) sh 0 0 (Zv G F sh Q) 0 [(0, .ref (G.1 + v0)), (1, .int v1)] [] m
  unfold wp_X8_readFact at h
  refine v_aload_n 0 0 dX8_readFact_0 rfl rfl ?_
  obtain ⟨o1, h⟩ := h
  obtain ⟨b2, e3, h⟩ := h
  refine v_gR 8 0 dX8_readFact_1 fg_RX8_9 o1 e3 ?_
  refine v_ldcS (tx := "not") 15 dX8_readFact_4 (List.mem_of_getElem? (i := 15) rfl) ?_
  obtain ⟨o6, h⟩ := h
  refine v_cVi [.ref _] mv_X9_wordIn ml_RX8_34 ⟨_, _, rfl⟩ o6 rfl rfl (Nat.le_of_ble_eq_true rfl) (by show _ ≤ frG (d + 1); simp only [frG]; omega) (by show _ ≤ loG (d + 1); simp only [loG]; omega) (Nat.zero_le _) (Nat.zero_le _) dX8_readFact_6 (c_X9_wordIn h) (fun r4 m5 h => ?_)
  refine v_if_ne 40 dX8_readFact_9 (by decide) (fun hc => ?_) (fun hc => ?_)
  · replace h := Eq.mp (if_neg hc) h
    refine v_aload_n 0 0 dX8_readFact_40 rfl rfl ?_
    obtain ⟨b7, e8, h⟩ := h
    refine v_gR 8 0 dX8_readFact_41 fg_RX8_9 o1 e8 ?_
    refine v_bipush (91 : Int32) dX8_readFact_44 (by decide) ?_
    obtain ⟨o11, h⟩ := h
    refine v_cVi [.int _] mv_X9_isSign ml_RX8_82 ⟨_, _, rfl⟩ o11 rfl rfl (Nat.le_of_ble_eq_true rfl) (by show _ ≤ frG (d + 1); simp only [frG]; omega) (by show _ ≤ loG (d + 1); simp only [loG]; omega) (Nat.zero_le _) (Nat.zero_le _) dX8_readFact_46 (c_X9_isSign h) (fun r9 m10 h => ?_)
    refine v_if_eq 79 dX8_readFact_49 (by decide) (fun hc => ?_) (fun hc => ?_)
    · replace h := Eq.mp (if_pos hc) h
      refine v_aload_n 0 0 dX8_readFact_79 rfl rfl ?_
      obtain ⟨b12, e13, h⟩ := h
      refine v_gR 8 0 dX8_readFact_80 fg_RX8_9 o1 e13 ?_
      refine v_ldcS (tx := "all") 16 dX8_readFact_83 (List.mem_of_getElem? (i := 16) rfl) ?_
      obtain ⟨o16, h⟩ := h
      refine v_cVi [.ref _] mv_X9_wordIn ml_RX8_34 ⟨_, _, rfl⟩ o16 rfl rfl (Nat.le_of_ble_eq_true rfl) (by show _ ≤ frG (d + 1); simp only [frG]; omega) (by show _ ≤ loG (d + 1); simp only [loG]; omega) (Nat.zero_le _) (Nat.zero_le _) dX8_readFact_85 (c_X9_wordIn h) (fun r14 m15 h => ?_)
      refine v_if_ne 109 dX8_readFact_88 (by decide) (fun hc => ?_) (fun hc => ?_)
      · replace h := Eq.mp (if_neg hc) h
        refine v_aload_n 0 0 dX8_readFact_109 rfl rfl ?_
        refine v_iload_n 1 1 dX8_readFact_110 rfl rfl ?_
        refine v_cVv [.int _] mv_X8_readComparison ml_RX8_92 ⟨_, _, rfl⟩ o1 rfl rfl (Nat.le_of_ble_eq_true rfl) (by show _ ≤ frG (d + 1); simp only [frG]; omega) (by show _ ≤ loG (d + 1); simp only [loG]; omega) (Nat.zero_le _) (Nat.zero_le _) dX8_readFact_111 (hR.2.2.2.1 h) (fun m18 h => ?_)
        exact v_vret dX8_readFact_114 rfl h
      · replace h := Eq.mp (if_pos hc) h
        refine v_aload_n 0 0 dX8_readFact_91 rfl rfl ?_
        obtain ⟨b19, e20, h⟩ := h
        refine v_gR 8 0 dX8_readFact_92 fg_RX8_9 o1 e20 ?_
        obtain ⟨o23, h⟩ := h
        refine v_cVv [] mv_X9_advance ml_RX8_46 ⟨_, _, rfl⟩ o23 rfl rfl (Nat.le_of_ble_eq_true rfl) (by show _ ≤ frG (d + 1); simp only [frG]; omega) (by show _ ≤ loG (d + 1); simp only [loG]; omega) (Nat.zero_le _) (Nat.zero_le _) dX8_readFact_95 (c_X9_advance h) (fun m22 h => ?_)
        refine v_aload_n 0 0 dX8_readFact_98 rfl rfl ?_
        obtain ⟨b24, e25, h⟩ := h
        refine v_gR 8 1 dX8_readFact_99 fg_RX8_15 o1 e25 ?_
        refine v_iconst (1 : Int32) dX8_readFact_102 (by decide) ?_
        obtain ⟨o28, h⟩ := h
        refine v_cVv [.int _] mv_X0_add ml_RX8_68 ⟨_, _, rfl⟩ o28 rfl rfl (Nat.le_of_ble_eq_true rfl) (by show _ ≤ frG (d + 1); simp only [frG]; omega) (by show _ ≤ loG (d + 1); simp only [loG]; omega) (Nat.zero_le _) (Nat.zero_le _) dX8_readFact_103 (c_X0_add h) (fun m27 h => ?_)
        refine v_goto 114 dX8_readFact_106 (by decide) ?_
        exact v_vret dX8_readFact_114 rfl h
    · replace h := Eq.mp (if_neg hc) h
      refine v_aload_n 0 0 dX8_readFact_52 rfl rfl ?_
      refine v_iload_n 1 1 dX8_readFact_53 rfl rfl ?_
      refine v_cVi [.int _] mv_X8_opens ml_RX8_78 ⟨_, _, rfl⟩ o1 rfl rfl (Nat.le_of_ble_eq_true rfl) (by show _ ≤ frG (d + 1); simp only [frG]; omega) (by show _ ≤ loG (d + 1); simp only [loG]; omega) (Nat.zero_le _) (Nat.zero_le _) dX8_readFact_54 (c_X8_opens h) (fun r29 m30 h => ?_)
      refine v_if_eq 114 dX8_readFact_57 (by decide) (fun hc => ?_) (fun hc => ?_)
      · replace h := Eq.mp (if_pos hc) h
        exact v_vret dX8_readFact_114 rfl h
      · replace h := Eq.mp (if_neg hc) h
        refine v_aload_n 0 0 dX8_readFact_60 rfl rfl ?_
        refine v_iload_n 1 1 dX8_readFact_61 rfl rfl ?_
        refine v_iconst (1 : Int32) dX8_readFact_62 (by decide) ?_
        refine v_iadd dX8_readFact_63 ?_
        refine v_cVv [.int _] mv_X8_readTest ml_RX8_49 ⟨_, _, rfl⟩ o1 rfl rfl (Nat.le_of_ble_eq_true rfl) (by show _ ≤ frG (d + 1); simp only [frG]; omega) (by show _ ≤ loG (d + 1); simp only [loG]; omega) (Nat.zero_le _) (Nat.zero_le _) dX8_readFact_64 (hR.1 h) (fun m32 h => ?_)
        refine v_aload_n 0 0 dX8_readFact_67 rfl rfl ?_
        obtain ⟨b33, e34, h⟩ := h
        refine v_gR 8 0 dX8_readFact_68 fg_RX8_9 o1 e34 ?_
        refine v_bipush (93 : Int32) dX8_readFact_71 (by decide) ?_
        obtain ⟨o37, h⟩ := h
        refine v_cVv [.int _] mv_X9_takeSign ml_RX8_86 ⟨_, _, rfl⟩ o37 rfl rfl (Nat.le_of_ble_eq_true rfl) (by show _ ≤ frG (d + 1); simp only [frG]; omega) (by show _ ≤ loG (d + 1); simp only [loG]; omega) (Nat.zero_le _) (Nat.zero_le _) dX8_readFact_73 (c_X9_takeSign h) (fun m36 h => ?_)
        refine v_goto 114 dX8_readFact_76 (by decide) ?_
        exact v_vret dX8_readFact_114 rfl h
  · replace h := Eq.mp (if_pos hc) h
    refine v_aload_n 0 0 dX8_readFact_12 rfl rfl ?_
    refine v_iload_n 1 1 dX8_readFact_13 rfl rfl ?_
    refine v_cVi [.int _] mv_X8_opens ml_RX8_78 ⟨_, _, rfl⟩ o1 rfl rfl (Nat.le_of_ble_eq_true rfl) (by show _ ≤ frG (d + 1); simp only [frG]; omega) (by show _ ≤ loG (d + 1); simp only [loG]; omega) (Nat.zero_le _) (Nat.zero_le _) dX8_readFact_14 (c_X8_opens h) (fun r38 m39 h => ?_)
    refine v_if_eq 114 dX8_readFact_17 (by decide) (fun hc => ?_) (fun hc => ?_)
    · replace h := Eq.mp (if_pos hc) h
      exact v_vret dX8_readFact_114 rfl h
    · replace h := Eq.mp (if_neg hc) h
      refine v_aload_n 0 0 dX8_readFact_20 rfl rfl ?_
      refine v_iload_n 1 1 dX8_readFact_21 rfl rfl ?_
      refine v_iconst (1 : Int32) dX8_readFact_22 (by decide) ?_
      refine v_iadd dX8_readFact_23 ?_
      refine v_cVv [.int _] mv_X8_readFact ml_RX8_71 ⟨_, _, rfl⟩ o1 rfl rfl (Nat.le_of_ble_eq_true rfl) (by show _ ≤ frG (d + 1); simp only [frG]; omega) (by show _ ≤ loG (d + 1); simp only [loG]; omega) (Nat.zero_le _) (Nat.zero_le _) dX8_readFact_24 (hR.2.2.1 h) (fun m41 h => ?_)
      refine v_aload_n 0 0 dX8_readFact_27 rfl rfl ?_
      obtain ⟨b42, e43, h⟩ := h
      refine v_gR 8 1 dX8_readFact_28 fg_RX8_15 o1 e43 ?_
      refine v_sipush (10023 : Int32) dX8_readFact_31 (by decide) ?_
      obtain ⟨o46, h⟩ := h
      refine v_cVv [.int _] mv_X0_add ml_RX8_68 ⟨_, _, rfl⟩ o46 rfl rfl (Nat.le_of_ble_eq_true rfl) (by show _ ≤ frG (d + 1); simp only [frG]; omega) (by show _ ≤ loG (d + 1); simp only [loG]; omega) (Nat.zero_le _) (Nat.zero_le _) dX8_readFact_34 (c_X0_add h) (fun m45 h => ?_)
      refine v_goto 114 dX8_readFact_37 (by decide) ?_
      exact v_vret dX8_readFact_114 rfl h
/-! CalledRiver$SumReader.readNamedFact -/
theorem dX8_readNamedFact_0 : decode cX8_readNamedFact 0 = .ok (.aload_n 0, 1) := by decide +kernel
theorem dX8_readNamedFact_1 : decode cX8_readNamedFact 1 = .ok (.getfield 9, 3) := by decide +kernel
theorem dX8_readNamedFact_4 : decode cX8_readNamedFact 4 = .ok (.ldc 122, 2) := by decide +kernel
theorem dX8_readNamedFact_6 : decode cX8_readNamedFact 6 = .ok (.invokevirtual 34, 3) := by decide +kernel
theorem dX8_readNamedFact_9 : decode cX8_readNamedFact 9 = .ok (.istore_n 1, 1) := by decide +kernel
theorem dX8_readNamedFact_10 : decode cX8_readNamedFact 10 = .ok (.iload_n 1, 1) := by decide +kernel
theorem dX8_readNamedFact_11 : decode cX8_readNamedFact 11 = .ok (.iconst (-1), 1) := by decide +kernel
theorem dX8_readNamedFact_12 : decode cX8_readNamedFact 12 = .ok (.if_icmp .eq 14, 3) := by decide +kernel
theorem dX8_readNamedFact_15 : decode cX8_readNamedFact 15 = .ok (.aload_n 0, 1) := by decide +kernel
theorem dX8_readNamedFact_16 : decode cX8_readNamedFact 16 = .ok (.getfield 55, 3) := by decide +kernel
theorem dX8_readNamedFact_19 : decode cX8_readNamedFact 19 = .ok (.iload_n 1, 1) := by decide +kernel
theorem dX8_readNamedFact_20 : decode cX8_readNamedFact 20 = .ok (.ishr, 1) := by decide +kernel
theorem dX8_readNamedFact_21 : decode cX8_readNamedFact 21 = .ok (.iconst 1, 1) := by decide +kernel
theorem dX8_readNamedFact_22 : decode cX8_readNamedFact 22 = .ok (.iand, 1) := by decide +kernel
theorem dX8_readNamedFact_23 : decode cX8_readNamedFact 23 = .ok (.ifCond .ne 19, 3) := by decide +kernel
theorem dX8_readNamedFact_26 : decode cX8_readNamedFact 26 = .ok (.aload_n 0, 1) := by decide +kernel
theorem dX8_readNamedFact_27 : decode cX8_readNamedFact 27 = .ok (.getfield 9, 3) := by decide +kernel
theorem dX8_readNamedFact_30 : decode cX8_readNamedFact 30 = .ok (.iconst 1, 1) := by decide +kernel
theorem dX8_readNamedFact_31 : decode cX8_readNamedFact 31 = .ok (.aload_n 0, 1) := by decide +kernel
theorem dX8_readNamedFact_32 : decode cX8_readNamedFact 32 = .ok (.getfield 9, 3) := by decide +kernel
theorem dX8_readNamedFact_35 : decode cX8_readNamedFact 35 = .ok (.getfield 38, 3) := by decide +kernel
theorem dX8_readNamedFact_38 : decode cX8_readNamedFact 38 = .ok (.invokevirtual 42, 3) := by decide +kernel
theorem dX8_readNamedFact_41 : decode cX8_readNamedFact 41 = .ok (.return_, 1) := by decide +kernel
theorem dX8_readNamedFact_42 : decode cX8_readNamedFact 42 = .ok (.aload_n 0, 1) := by decide +kernel
theorem dX8_readNamedFact_43 : decode cX8_readNamedFact 43 = .ok (.getfield 9, 3) := by decide +kernel
theorem dX8_readNamedFact_46 : decode cX8_readNamedFact 46 = .ok (.invokevirtual 46, 3) := by decide +kernel
theorem dX8_readNamedFact_49 : decode cX8_readNamedFact 49 = .ok (.aload_n 0, 1) := by decide +kernel
theorem dX8_readNamedFact_50 : decode cX8_readNamedFact 50 = .ok (.getfield 15, 3) := by decide +kernel
theorem dX8_readNamedFact_53 : decode cX8_readNamedFact 53 = .ok (.sipush 10000, 3) := by decide +kernel
theorem dX8_readNamedFact_56 : decode cX8_readNamedFact 56 = .ok (.iload_n 1, 1) := by decide +kernel
theorem dX8_readNamedFact_57 : decode cX8_readNamedFact 57 = .ok (.iadd, 1) := by decide +kernel
theorem dX8_readNamedFact_58 : decode cX8_readNamedFact 58 = .ok (.invokevirtual 68, 3) := by decide +kernel
theorem dX8_readNamedFact_61 : decode cX8_readNamedFact 61 = .ok (.return_, 1) := by decide +kernel
def X8_readNamedFact_p26 (sh : Shp) (v0 : Nat) (Q : Mem → Prop) (m : Mem) : Prop :=
  Ob sh v0 8 ∧ ∃ b18 : Nat, m.2.2 v0 0 = some b18 ∧ (Ob sh b18 9 ∧ (wp_X9_fail sh b18 (1 : Int32) (m.1 b18 3) (fun m22 => Q m22) m))
def wp_X8_readNamedFact (sh : Shp) (v0 : Nat) (Q : Mem → Prop) (m : Mem) : Prop :=
  Ob sh v0 8 ∧ ∃ b2 : Nat, m.2.2 v0 0 = some b2 ∧ (Ob sh b2 9 ∧ wp_X9_wordIn sh b2 13 (fun r4 m5 => if r4 = (-1 : Int32) then (X8_readNamedFact_p26 sh v0 Q m5) else (if (((m5.1 v0 2) >>> (r4 &&& 31)) &&& (1 : Int32)) = 0 then (X8_readNamedFact_p26 sh v0 Q m5) else (∃ b7 : Nat, m5.2.2 v0 0 = some b7 ∧ (Ob sh b7 9 ∧ wp_X9_advance sh b7 (fun m10 => ∃ b12 : Nat, m10.2.2 v0 1 = some b12 ∧ (Ob sh b12 0 ∧ wp_X0_add sh b12 ((10000 : Int32) + r4) (fun m15 => Q m15) m10)) m5)))) m)
abbrev M_X8_readNamedFact : Mi := (cX8_readNamedFact, 2, RX8, (none : Option FieldType), "readNamedFact", 11, 368, 0, 0)
set_option maxHeartbeats 4000000 in
set_option maxRecDepth 100000 in
theorem v_X8_readNamedFact_p26 {G : Gl} {F : Fr} {sh : Shp} {v0 : Nat} {Q : Mem → Prop} {m : Mem} (h : X8_readNamedFact_p26 sh v0 Q m) : V G F M_X8_readNamedFact sh 0 0 (Zv G F sh Q) 26 [(0, .ref (G.1 + v0))] [] m := by
  unfold X8_readNamedFact_p26 at h
  refine v_aload_n 0 0 dX8_readNamedFact_26 rfl rfl ?_
  obtain ⟨o17, h⟩ := h
  obtain ⟨b18, e19, h⟩ := h
  refine v_gR 8 0 dX8_readNamedFact_27 fg_RX8_9 o17 e19 ?_
  refine v_iconst (1 : Int32) dX8_readNamedFact_30 (by decide) ?_
  refine v_aload_n 0 0 dX8_readNamedFact_31 rfl rfl ?_
  refine v_gR 8 0 dX8_readNamedFact_32 fg_RX8_9 o17 e19 ?_
  obtain ⟨o20, h⟩ := h
  refine v_gI 9 3 dX8_readNamedFact_35 fg_RX8_38 o20 ?_
  refine v_cVv [.int _, .int _] mv_X9_fail ml_RX8_42 ⟨_, _, rfl⟩ o20 rfl rfl (Nat.le_of_ble_eq_true rfl) (Nat.le_of_ble_eq_true rfl) (Nat.le_of_ble_eq_true rfl) (Nat.zero_le _) (Nat.zero_le _) dX8_readNamedFact_38 (c_X9_fail h) (fun m22 h => ?_)
  exact v_vret dX8_readNamedFact_41 rfl h
set_option maxHeartbeats 4000000 in
set_option maxRecDepth 100000 in
theorem c_X8_readNamedFact {l : Launch} {G : Gl} {sh : Shp} {v0 : Nat} {Q : Mem → Prop} {m : Mem} (h : wp_X8_readNamedFact sh v0 Q m) : Cnv l G yX8_readNamedFact cX8_readNamedFact 2 (none : Option FieldType) 11 368 sh [.ref (G.1 + v0)] m Q := by
  refine con_v (ls := [(0, .ref (G.1 + v0))]) (by decide +kernel) rfl (Nat.le_of_ble_eq_true rfl) (fun F => ?_)
  show V G F M_X8_readNamedFact sh 0 0 (Zv G F sh Q) 0 [(0, .ref (G.1 + v0))] [] m
  unfold wp_X8_readNamedFact at h
  refine v_aload_n 0 0 dX8_readNamedFact_0 rfl rfl ?_
  obtain ⟨o1, h⟩ := h
  obtain ⟨b2, e3, h⟩ := h
  refine v_gR 8 0 dX8_readNamedFact_1 fg_RX8_9 o1 e3 ?_
  refine v_ldcS (tx := "year pie been bold kind height down step wet number column row day") 13 dX8_readNamedFact_4 (List.mem_of_getElem? (i := 13) rfl) ?_
  obtain ⟨o6, h⟩ := h
  refine v_cVi [.ref _] mv_X9_wordIn ml_RX8_34 ⟨_, _, rfl⟩ o6 rfl rfl (Nat.le_of_ble_eq_true rfl) (Nat.le_of_ble_eq_true rfl) (Nat.le_of_ble_eq_true rfl) (Nat.zero_le _) (Nat.zero_le _) dX8_readNamedFact_6 (c_X9_wordIn h) (fun r4 m5 h => ?_)
  refine v_istore_n (ls' := [(1, .int _), (0, .ref _)]) 1 dX8_readNamedFact_9 rfl (Nat.le_of_ble_eq_true rfl) rfl ?_
  refine v_iload_n 1 0 dX8_readNamedFact_10 rfl rfl ?_
  refine v_iconst (-1 : Int32) dX8_readNamedFact_11 (by decide) ?_
  refine v_icmp_eq 26 dX8_readNamedFact_12 (by decide) (fun hc => ?_) (fun hc => ?_)
  · replace h := Eq.mp (if_pos hc) h
    refine v_sub [1] rfl ?_
    exact v_X8_readNamedFact_p26 h
  · replace h := Eq.mp (if_neg hc) h
    refine v_aload_n 0 1 dX8_readNamedFact_15 rfl rfl ?_
    refine v_gI 8 2 dX8_readNamedFact_16 fg_RX8_55 o1 ?_
    refine v_iload_n 1 0 dX8_readNamedFact_19 rfl rfl ?_
    refine v_ishr dX8_readNamedFact_20 ?_
    refine v_iconst (1 : Int32) dX8_readNamedFact_21 (by decide) ?_
    refine v_iand dX8_readNamedFact_22 ?_
    refine v_if_ne 42 dX8_readNamedFact_23 (by decide) (fun hc => ?_) (fun hc => ?_)
    · replace h := Eq.mp (if_neg hc) h
      refine v_aload_n 0 1 dX8_readNamedFact_42 rfl rfl ?_
      obtain ⟨b7, e8, h⟩ := h
      refine v_gR 8 0 dX8_readNamedFact_43 fg_RX8_9 o1 e8 ?_
      obtain ⟨o11, h⟩ := h
      refine v_cVv [] mv_X9_advance ml_RX8_46 ⟨_, _, rfl⟩ o11 rfl rfl (Nat.le_of_ble_eq_true rfl) (Nat.le_of_ble_eq_true rfl) (Nat.le_of_ble_eq_true rfl) (Nat.zero_le _) (Nat.zero_le _) dX8_readNamedFact_46 (c_X9_advance h) (fun m10 h => ?_)
      refine v_aload_n 0 1 dX8_readNamedFact_49 rfl rfl ?_
      obtain ⟨b12, e13, h⟩ := h
      refine v_gR 8 1 dX8_readNamedFact_50 fg_RX8_15 o1 e13 ?_
      refine v_sipush (10000 : Int32) dX8_readNamedFact_53 (by decide) ?_
      refine v_iload_n 1 0 dX8_readNamedFact_56 rfl rfl ?_
      refine v_iadd dX8_readNamedFact_57 ?_
      obtain ⟨o16, h⟩ := h
      refine v_cVv [.int _] mv_X0_add ml_RX8_68 ⟨_, _, rfl⟩ o16 rfl rfl (Nat.le_of_ble_eq_true rfl) (Nat.le_of_ble_eq_true rfl) (Nat.le_of_ble_eq_true rfl) (Nat.zero_le _) (Nat.zero_le _) dX8_readNamedFact_58 (c_X0_add h) (fun m15 h => ?_)
      exact v_vret dX8_readNamedFact_61 rfl h
    · replace h := Eq.mp (if_pos hc) h
      refine v_sub [1] rfl ?_
      exact v_X8_readNamedFact_p26 h
/-! CalledRiver$SumReader.readOfCaller -/
theorem dX8_readOfCaller_0 : decode cX8_readOfCaller 0 = .ok (.aload_n 0, 1) := by decide +kernel
theorem dX8_readOfCaller_1 : decode cX8_readOfCaller 1 = .ok (.getfield 9, 3) := by decide +kernel
theorem dX8_readOfCaller_4 : decode cX8_readOfCaller 4 = .ok (.ldc 120, 2) := by decide +kernel
theorem dX8_readOfCaller_6 : decode cX8_readOfCaller 6 = .ok (.invokevirtual 34, 3) := by decide +kernel
theorem dX8_readOfCaller_9 : decode cX8_readOfCaller 9 = .ok (.ifCond .ne 9, 3) := by decide +kernel
theorem dX8_readOfCaller_12 : decode cX8_readOfCaller 12 = .ok (.sipush 10024, 3) := by decide +kernel
theorem dX8_readOfCaller_15 : decode cX8_readOfCaller 15 = .ok (.goto 6, 3) := by decide +kernel
theorem dX8_readOfCaller_18 : decode cX8_readOfCaller 18 = .ok (.sipush 10025, 3) := by decide +kernel
theorem dX8_readOfCaller_21 : decode cX8_readOfCaller 21 = .ok (.istore_n 2, 1) := by decide +kernel
theorem dX8_readOfCaller_22 : decode cX8_readOfCaller 22 = .ok (.aload_n 0, 1) := by decide +kernel
theorem dX8_readOfCaller_23 : decode cX8_readOfCaller 23 = .ok (.iload_n 1, 1) := by decide +kernel
theorem dX8_readOfCaller_24 : decode cX8_readOfCaller 24 = .ok (.invokevirtual 78, 3) := by decide +kernel
theorem dX8_readOfCaller_27 : decode cX8_readOfCaller 27 = .ok (.ifCond .eq 18, 3) := by decide +kernel
theorem dX8_readOfCaller_30 : decode cX8_readOfCaller 30 = .ok (.aload_n 0, 1) := by decide +kernel
theorem dX8_readOfCaller_31 : decode cX8_readOfCaller 31 = .ok (.iload_n 1, 1) := by decide +kernel
theorem dX8_readOfCaller_32 : decode cX8_readOfCaller 32 = .ok (.iconst 1, 1) := by decide +kernel
theorem dX8_readOfCaller_33 : decode cX8_readOfCaller 33 = .ok (.iadd, 1) := by decide +kernel
theorem dX8_readOfCaller_34 : decode cX8_readOfCaller 34 = .ok (.invokevirtual 98, 3) := by decide +kernel
theorem dX8_readOfCaller_37 : decode cX8_readOfCaller 37 = .ok (.aload_n 0, 1) := by decide +kernel
theorem dX8_readOfCaller_38 : decode cX8_readOfCaller 38 = .ok (.getfield 15, 3) := by decide +kernel
theorem dX8_readOfCaller_41 : decode cX8_readOfCaller 41 = .ok (.iload_n 2, 1) := by decide +kernel
theorem dX8_readOfCaller_42 : decode cX8_readOfCaller 42 = .ok (.invokevirtual 68, 3) := by decide +kernel
theorem dX8_readOfCaller_45 : decode cX8_readOfCaller 45 = .ok (.return_, 1) := by decide +kernel
def X8_readOfCaller_p21 (R : Nat → Shp → Nat → Int32 → (Mem → Prop) → Mem → Prop) (sh : Shp) (v0 : Nat) (v1 : Int32) (s0 : Int32) (Q : Mem → Prop) (m : Mem) : Prop :=
  Ob sh v0 8 ∧ wp_X8_opens sh v0 v1 (fun r7 m8 => if r7 = 0 then (Q m8) else (R 6 sh v0 (v1 + (1 : Int32)) (fun m11 => ∃ b12 : Nat, m11.2.2 v0 1 = some b12 ∧ (Ob sh b12 0 ∧ wp_X0_add sh b12 s0 (fun m15 => Q m15) m11)) m8)) m
def wp_X8_readOfCaller (R : Nat → Shp → Nat → Int32 → (Mem → Prop) → Mem → Prop) (sh : Shp) (v0 : Nat) (v1 : Int32) (Q : Mem → Prop) (m : Mem) : Prop :=
  Ob sh v0 8 ∧ ∃ b2 : Nat, m.2.2 v0 0 = some b2 ∧ (Ob sh b2 9 ∧ wp_X9_wordIn sh b2 12 (fun r4 m5 => if r4 = 0 then (X8_readOfCaller_p21 R sh v0 v1 (10024 : Int32) Q m5) else (X8_readOfCaller_p21 R sh v0 v1 (10025 : Int32) Q m5)) m)
abbrev M_X8_readOfCaller (d : Nat) : Mi := (cX8_readOfCaller, 3, RX8, (none : Option FieldType), "readOfCaller", frG (d + 1), loG (d + 1), 0, 0)
set_option maxHeartbeats 4000000 in
set_option maxRecDepth 100000 in
theorem v_X8_readOfCaller_p21 {G : Gl} {F : Fr} {d : Nat} {R : Nat → Shp → Nat → Int32 → (Mem → Prop) → Mem → Prop} {sh : Shp} {v0 : Nat} {v1 : Int32} {s0 : Int32} {Q : Mem → Prop} {m : Mem} (hR : GR (Fl F) G R (frG d) (loG d)) (h : X8_readOfCaller_p21 R sh v0 v1 s0 Q m) : V G F (M_X8_readOfCaller d) sh 0 0 (Zv G F sh Q) 21 [(0, .ref (G.1 + v0)), (1, .int v1)] [.int s0] m := by
  unfold X8_readOfCaller_p21 at h
  refine v_istore_n (ls' := [(2, .int _), (0, .ref _), (1, .int _)]) 2 dX8_readOfCaller_21 rfl (Nat.le_of_ble_eq_true rfl) rfl ?_
  refine v_aload_n 0 1 dX8_readOfCaller_22 rfl rfl ?_
  refine v_iload_n 1 2 dX8_readOfCaller_23 rfl rfl ?_
  obtain ⟨o9, h⟩ := h
  refine v_cVi [.int _] mv_X8_opens ml_RX8_78 ⟨_, _, rfl⟩ o9 rfl rfl (Nat.le_of_ble_eq_true rfl) (by show _ ≤ frG (d + 1); simp only [frG]; omega) (by show _ ≤ loG (d + 1); simp only [loG]; omega) (Nat.zero_le _) (Nat.zero_le _) dX8_readOfCaller_24 (c_X8_opens h) (fun r7 m8 h => ?_)
  refine v_if_eq 45 dX8_readOfCaller_27 (by decide) (fun hc => ?_) (fun hc => ?_)
  · replace h := Eq.mp (if_pos hc) h
    exact v_vret dX8_readOfCaller_45 rfl h
  · replace h := Eq.mp (if_neg hc) h
    refine v_aload_n 0 1 dX8_readOfCaller_30 rfl rfl ?_
    refine v_iload_n 1 2 dX8_readOfCaller_31 rfl rfl ?_
    refine v_iconst (1 : Int32) dX8_readOfCaller_32 (by decide) ?_
    refine v_iadd dX8_readOfCaller_33 ?_
    refine v_cVv [.int _] mv_X8_readPart ml_RX8_98 ⟨_, _, rfl⟩ o9 rfl rfl (Nat.le_of_ble_eq_true rfl) (by show _ ≤ frG (d + 1); simp only [frG]; omega) (by show _ ≤ loG (d + 1); simp only [loG]; omega) (Nat.zero_le _) (Nat.zero_le _) dX8_readOfCaller_34 (hR.2.2.2.2.2.2.1 h) (fun m11 h => ?_)
    refine v_aload_n 0 1 dX8_readOfCaller_37 rfl rfl ?_
    obtain ⟨b12, e13, h⟩ := h
    refine v_gR 8 1 dX8_readOfCaller_38 fg_RX8_15 o9 e13 ?_
    refine v_iload_n 2 0 dX8_readOfCaller_41 rfl rfl ?_
    obtain ⟨o16, h⟩ := h
    refine v_cVv [.int _] mv_X0_add ml_RX8_68 ⟨_, _, rfl⟩ o16 rfl rfl (Nat.le_of_ble_eq_true rfl) (by show _ ≤ frG (d + 1); simp only [frG]; omega) (by show _ ≤ loG (d + 1); simp only [loG]; omega) (Nat.zero_le _) (Nat.zero_le _) dX8_readOfCaller_42 (c_X0_add h) (fun m15 h => ?_)
    exact v_vret dX8_readOfCaller_45 rfl h
set_option maxHeartbeats 4000000 in
set_option maxRecDepth 100000 in
theorem c_X8_readOfCaller {l : Launch} {G : Gl} {d : Nat} {R : Nat → Shp → Nat → Int32 → (Mem → Prop) → Mem → Prop} (hR : GR l G R (frG d) (loG d)) {sh : Shp} {v0 : Nat} {v1 : Int32} {Q : Mem → Prop} {m : Mem} (h : wp_X8_readOfCaller R sh v0 v1 Q m) : Cnv l G yX8_readOfCaller cX8_readOfCaller 3 (none : Option FieldType) (frG (d + 1)) (loG (d + 1)) sh [.ref (G.1 + v0), .int v1] m Q := by
  refine con_vl (ls := [(0, .ref (G.1 + v0)), (1, .int v1)]) (by decide +kernel) rfl (Nat.le_of_ble_eq_true rfl) (fun F hl => ?_)
  subst hl
  show V G F (M_X8_readOfCaller d) sh 0 0 (Zv G F sh Q) 0 [(0, .ref (G.1 + v0)), (1, .int v1)] [] m
  unfold wp_X8_readOfCaller at h
  refine v_aload_n 0 0 dX8_readOfCaller_0 rfl rfl ?_
  obtain ⟨o1, h⟩ := h
  obtain ⟨b2, e3, h⟩ := h
  refine v_gR 8 0 dX8_readOfCaller_1 fg_RX8_9 o1 e3 ?_
  refine v_ldcS (tx := "wet") 12 dX8_readOfCaller_4 (List.mem_of_getElem? (i := 12) rfl) ?_
  obtain ⟨o6, h⟩ := h
  refine v_cVi [.ref _] mv_X9_wordIn ml_RX8_34 ⟨_, _, rfl⟩ o6 rfl rfl (Nat.le_of_ble_eq_true rfl) (by show _ ≤ frG (d + 1); simp only [frG]; omega) (by show _ ≤ loG (d + 1); simp only [loG]; omega) (Nat.zero_le _) (Nat.zero_le _) dX8_readOfCaller_6 (c_X9_wordIn h) (fun r4 m5 h => ?_)
  refine v_if_ne 18 dX8_readOfCaller_9 (by decide) (fun hc => ?_) (fun hc => ?_)
  · replace h := Eq.mp (if_neg hc) h
    refine v_sipush (10025 : Int32) dX8_readOfCaller_18 (by decide) ?_
    refine v_sub [0, 1] rfl ?_
    exact v_X8_readOfCaller_p21 hR h
  · replace h := Eq.mp (if_pos hc) h
    refine v_sipush (10024 : Int32) dX8_readOfCaller_12 (by decide) ?_
    refine v_goto 21 dX8_readOfCaller_15 (by decide) ?_
    refine v_sub [0, 1] rfl ?_
    exact v_X8_readOfCaller_p21 hR h
/-! CalledRiver$SumReader.readPair -/
theorem dX8_readPair_0 : decode cX8_readPair 0 = .ok (.aload_n 0, 1) := by decide +kernel
theorem dX8_readPair_1 : decode cX8_readPair 1 = .ok (.getfield 9, 3) := by decide +kernel
theorem dX8_readPair_4 : decode cX8_readPair 4 = .ok (.ldc 118, 2) := by decide +kernel
theorem dX8_readPair_6 : decode cX8_readPair 6 = .ok (.invokevirtual 34, 3) := by decide +kernel
theorem dX8_readPair_9 : decode cX8_readPair 9 = .ok (.ifCond .ne 9, 3) := by decide +kernel
theorem dX8_readPair_12 : decode cX8_readPair 12 = .ok (.sipush 10030, 3) := by decide +kernel
theorem dX8_readPair_15 : decode cX8_readPair 15 = .ok (.goto 6, 3) := by decide +kernel
theorem dX8_readPair_18 : decode cX8_readPair 18 = .ok (.sipush 10031, 3) := by decide +kernel
theorem dX8_readPair_21 : decode cX8_readPair 21 = .ok (.istore_n 2, 1) := by decide +kernel
theorem dX8_readPair_22 : decode cX8_readPair 22 = .ok (.aload_n 0, 1) := by decide +kernel
theorem dX8_readPair_23 : decode cX8_readPair 23 = .ok (.getfield 9, 3) := by decide +kernel
theorem dX8_readPair_26 : decode cX8_readPair 26 = .ok (.invokevirtual 46, 3) := by decide +kernel
theorem dX8_readPair_29 : decode cX8_readPair 29 = .ok (.aload_n 0, 1) := by decide +kernel
theorem dX8_readPair_30 : decode cX8_readPair 30 = .ok (.getfield 9, 3) := by decide +kernel
theorem dX8_readPair_33 : decode cX8_readPair 33 = .ok (.bipush 40, 2) := by decide +kernel
theorem dX8_readPair_35 : decode cX8_readPair 35 = .ok (.invokevirtual 82, 3) := by decide +kernel
theorem dX8_readPair_38 : decode cX8_readPair 38 = .ok (.ifCond .ne 21, 3) := by decide +kernel
theorem dX8_readPair_41 : decode cX8_readPair 41 = .ok (.aload_n 0, 1) := by decide +kernel
theorem dX8_readPair_42 : decode cX8_readPair 42 = .ok (.getfield 9, 3) := by decide +kernel
theorem dX8_readPair_45 : decode cX8_readPair 45 = .ok (.iconst 1, 1) := by decide +kernel
theorem dX8_readPair_46 : decode cX8_readPair 46 = .ok (.aload_n 0, 1) := by decide +kernel
theorem dX8_readPair_47 : decode cX8_readPair 47 = .ok (.getfield 9, 3) := by decide +kernel
theorem dX8_readPair_50 : decode cX8_readPair 50 = .ok (.getfield 38, 3) := by decide +kernel
theorem dX8_readPair_53 : decode cX8_readPair 53 = .ok (.invokevirtual 42, 3) := by decide +kernel
theorem dX8_readPair_56 : decode cX8_readPair 56 = .ok (.goto 51, 3) := by decide +kernel
theorem dX8_readPair_59 : decode cX8_readPair 59 = .ok (.aload_n 0, 1) := by decide +kernel
theorem dX8_readPair_60 : decode cX8_readPair 60 = .ok (.iload_n 1, 1) := by decide +kernel
theorem dX8_readPair_61 : decode cX8_readPair 61 = .ok (.invokevirtual 78, 3) := by decide +kernel
theorem dX8_readPair_64 : decode cX8_readPair 64 = .ok (.ifCond .eq 43, 3) := by decide +kernel
theorem dX8_readPair_67 : decode cX8_readPair 67 = .ok (.aload_n 0, 1) := by decide +kernel
theorem dX8_readPair_68 : decode cX8_readPair 68 = .ok (.iload_n 1, 1) := by decide +kernel
theorem dX8_readPair_69 : decode cX8_readPair 69 = .ok (.iconst 1, 1) := by decide +kernel
theorem dX8_readPair_70 : decode cX8_readPair 70 = .ok (.iadd, 1) := by decide +kernel
theorem dX8_readPair_71 : decode cX8_readPair 71 = .ok (.invokevirtual 23, 3) := by decide +kernel
theorem dX8_readPair_74 : decode cX8_readPair 74 = .ok (.aload_n 0, 1) := by decide +kernel
theorem dX8_readPair_75 : decode cX8_readPair 75 = .ok (.getfield 9, 3) := by decide +kernel
theorem dX8_readPair_78 : decode cX8_readPair 78 = .ok (.bipush 44, 2) := by decide +kernel
theorem dX8_readPair_80 : decode cX8_readPair 80 = .ok (.invokevirtual 86, 3) := by decide +kernel
theorem dX8_readPair_83 : decode cX8_readPair 83 = .ok (.aload_n 0, 1) := by decide +kernel
theorem dX8_readPair_84 : decode cX8_readPair 84 = .ok (.iload_n 1, 1) := by decide +kernel
theorem dX8_readPair_85 : decode cX8_readPair 85 = .ok (.iconst 1, 1) := by decide +kernel
theorem dX8_readPair_86 : decode cX8_readPair 86 = .ok (.iadd, 1) := by decide +kernel
theorem dX8_readPair_87 : decode cX8_readPair 87 = .ok (.invokevirtual 23, 3) := by decide +kernel
theorem dX8_readPair_90 : decode cX8_readPair 90 = .ok (.aload_n 0, 1) := by decide +kernel
theorem dX8_readPair_91 : decode cX8_readPair 91 = .ok (.getfield 9, 3) := by decide +kernel
theorem dX8_readPair_94 : decode cX8_readPair 94 = .ok (.bipush 41, 2) := by decide +kernel
theorem dX8_readPair_96 : decode cX8_readPair 96 = .ok (.invokevirtual 86, 3) := by decide +kernel
theorem dX8_readPair_99 : decode cX8_readPair 99 = .ok (.aload_n 0, 1) := by decide +kernel
theorem dX8_readPair_100 : decode cX8_readPair 100 = .ok (.getfield 15, 3) := by decide +kernel
theorem dX8_readPair_103 : decode cX8_readPair 103 = .ok (.iload_n 2, 1) := by decide +kernel
theorem dX8_readPair_104 : decode cX8_readPair 104 = .ok (.invokevirtual 68, 3) := by decide +kernel
theorem dX8_readPair_107 : decode cX8_readPair 107 = .ok (.return_, 1) := by decide +kernel
def X8_readPair_p21 (R : Nat → Shp → Nat → Int32 → (Mem → Prop) → Mem → Prop) (sh : Shp) (v0 : Nat) (v1 : Int32) (s0 : Int32) (Q : Mem → Prop) (m : Mem) : Prop :=
  Ob sh v0 8 ∧ ∃ b8 : Nat, m.2.2 v0 0 = some b8 ∧ (Ob sh b8 9 ∧ wp_X9_advance sh b8 (fun m11 => ∃ b13 : Nat, m11.2.2 v0 0 = some b13 ∧ (Ob sh b13 9 ∧ wp_X9_isSign sh b13 (40 : Int32) (fun r15 m16 => if r15 = 0 then (∃ b39 : Nat, m16.2.2 v0 0 = some b39 ∧ (Ob sh b39 9 ∧ (wp_X9_fail sh b39 (1 : Int32) (m16.1 b39 3) (fun m43 => Q m43) m16))) else (wp_X8_opens sh v0 v1 (fun r18 m19 => if r18 = 0 then (Q m19) else (R 4 sh v0 (v1 + (1 : Int32)) (fun m21 => ∃ b22 : Nat, m21.2.2 v0 0 = some b22 ∧ (Ob sh b22 9 ∧ wp_X9_takeSign sh b22 (44 : Int32) (fun m25 => R 4 sh v0 (v1 + (1 : Int32)) (fun m28 => ∃ b29 : Nat, m28.2.2 v0 0 = some b29 ∧ (Ob sh b29 9 ∧ wp_X9_takeSign sh b29 (41 : Int32) (fun m32 => ∃ b34 : Nat, m32.2.2 v0 1 = some b34 ∧ (Ob sh b34 0 ∧ wp_X0_add sh b34 s0 (fun m37 => Q m37) m32)) m28)) m25) m21)) m19)) m16)) m11)) m)
def wp_X8_readPair (R : Nat → Shp → Nat → Int32 → (Mem → Prop) → Mem → Prop) (sh : Shp) (v0 : Nat) (v1 : Int32) (Q : Mem → Prop) (m : Mem) : Prop :=
  Ob sh v0 8 ∧ ∃ b2 : Nat, m.2.2 v0 0 = some b2 ∧ (Ob sh b2 9 ∧ wp_X9_wordIn sh b2 10 (fun r4 m5 => if r4 = 0 then (X8_readPair_p21 R sh v0 v1 (10030 : Int32) Q m5) else (X8_readPair_p21 R sh v0 v1 (10031 : Int32) Q m5)) m)
abbrev M_X8_readPair (d : Nat) : Mi := (cX8_readPair, 3, RX8, (none : Option FieldType), "readPair", frG (d + 1), loG (d + 1), 0, 0)
set_option maxHeartbeats 4000000 in
set_option maxRecDepth 100000 in
theorem v_X8_readPair_p21 {G : Gl} {F : Fr} {d : Nat} {R : Nat → Shp → Nat → Int32 → (Mem → Prop) → Mem → Prop} {sh : Shp} {v0 : Nat} {v1 : Int32} {s0 : Int32} {Q : Mem → Prop} {m : Mem} (hR : GR (Fl F) G R (frG d) (loG d)) (h : X8_readPair_p21 R sh v0 v1 s0 Q m) : V G F (M_X8_readPair d) sh 0 0 (Zv G F sh Q) 21 [(0, .ref (G.1 + v0)), (1, .int v1)] [.int s0] m := by
  unfold X8_readPair_p21 at h
  refine v_istore_n (ls' := [(2, .int _), (0, .ref _), (1, .int _)]) 2 dX8_readPair_21 rfl (Nat.le_of_ble_eq_true rfl) rfl ?_
  refine v_aload_n 0 1 dX8_readPair_22 rfl rfl ?_
  obtain ⟨o7, h⟩ := h
  obtain ⟨b8, e9, h⟩ := h
  refine v_gR 8 0 dX8_readPair_23 fg_RX8_9 o7 e9 ?_
  obtain ⟨o12, h⟩ := h
  refine v_cVv [] mv_X9_advance ml_RX8_46 ⟨_, _, rfl⟩ o12 rfl rfl (Nat.le_of_ble_eq_true rfl) (by show _ ≤ frG (d + 1); simp only [frG]; omega) (by show _ ≤ loG (d + 1); simp only [loG]; omega) (Nat.zero_le _) (Nat.zero_le _) dX8_readPair_26 (c_X9_advance h) (fun m11 h => ?_)
  refine v_aload_n 0 1 dX8_readPair_29 rfl rfl ?_
  obtain ⟨b13, e14, h⟩ := h
  refine v_gR 8 0 dX8_readPair_30 fg_RX8_9 o7 e14 ?_
  refine v_bipush (40 : Int32) dX8_readPair_33 (by decide) ?_
  obtain ⟨o17, h⟩ := h
  refine v_cVi [.int _] mv_X9_isSign ml_RX8_82 ⟨_, _, rfl⟩ o17 rfl rfl (Nat.le_of_ble_eq_true rfl) (by show _ ≤ frG (d + 1); simp only [frG]; omega) (by show _ ≤ loG (d + 1); simp only [loG]; omega) (Nat.zero_le _) (Nat.zero_le _) dX8_readPair_35 (c_X9_isSign h) (fun r15 m16 h => ?_)
  refine v_if_ne 59 dX8_readPair_38 (by decide) (fun hc => ?_) (fun hc => ?_)
  · replace h := Eq.mp (if_neg hc) h
    refine v_aload_n 0 1 dX8_readPair_59 rfl rfl ?_
    refine v_iload_n 1 2 dX8_readPair_60 rfl rfl ?_
    refine v_cVi [.int _] mv_X8_opens ml_RX8_78 ⟨_, _, rfl⟩ o7 rfl rfl (Nat.le_of_ble_eq_true rfl) (by show _ ≤ frG (d + 1); simp only [frG]; omega) (by show _ ≤ loG (d + 1); simp only [loG]; omega) (Nat.zero_le _) (Nat.zero_le _) dX8_readPair_61 (c_X8_opens h) (fun r18 m19 h => ?_)
    refine v_if_eq 107 dX8_readPair_64 (by decide) (fun hc => ?_) (fun hc => ?_)
    · replace h := Eq.mp (if_pos hc) h
      exact v_vret dX8_readPair_107 rfl h
    · replace h := Eq.mp (if_neg hc) h
      refine v_aload_n 0 1 dX8_readPair_67 rfl rfl ?_
      refine v_iload_n 1 2 dX8_readPair_68 rfl rfl ?_
      refine v_iconst (1 : Int32) dX8_readPair_69 (by decide) ?_
      refine v_iadd dX8_readPair_70 ?_
      refine v_cVv [.int _] mv_X8_readSum ml_RX8_23 ⟨_, _, rfl⟩ o7 rfl rfl (Nat.le_of_ble_eq_true rfl) (by show _ ≤ frG (d + 1); simp only [frG]; omega) (by show _ ≤ loG (d + 1); simp only [loG]; omega) (Nat.zero_le _) (Nat.zero_le _) dX8_readPair_71 (hR.2.2.2.2.1 h) (fun m21 h => ?_)
      refine v_aload_n 0 1 dX8_readPair_74 rfl rfl ?_
      obtain ⟨b22, e23, h⟩ := h
      refine v_gR 8 0 dX8_readPair_75 fg_RX8_9 o7 e23 ?_
      refine v_bipush (44 : Int32) dX8_readPair_78 (by decide) ?_
      obtain ⟨o26, h⟩ := h
      refine v_cVv [.int _] mv_X9_takeSign ml_RX8_86 ⟨_, _, rfl⟩ o26 rfl rfl (Nat.le_of_ble_eq_true rfl) (by show _ ≤ frG (d + 1); simp only [frG]; omega) (by show _ ≤ loG (d + 1); simp only [loG]; omega) (Nat.zero_le _) (Nat.zero_le _) dX8_readPair_80 (c_X9_takeSign h) (fun m25 h => ?_)
      refine v_aload_n 0 1 dX8_readPair_83 rfl rfl ?_
      refine v_iload_n 1 2 dX8_readPair_84 rfl rfl ?_
      refine v_iconst (1 : Int32) dX8_readPair_85 (by decide) ?_
      refine v_iadd dX8_readPair_86 ?_
      refine v_cVv [.int _] mv_X8_readSum ml_RX8_23 ⟨_, _, rfl⟩ o7 rfl rfl (Nat.le_of_ble_eq_true rfl) (by show _ ≤ frG (d + 1); simp only [frG]; omega) (by show _ ≤ loG (d + 1); simp only [loG]; omega) (Nat.zero_le _) (Nat.zero_le _) dX8_readPair_87 (hR.2.2.2.2.1 h) (fun m28 h => ?_)
      refine v_aload_n 0 1 dX8_readPair_90 rfl rfl ?_
      obtain ⟨b29, e30, h⟩ := h
      refine v_gR 8 0 dX8_readPair_91 fg_RX8_9 o7 e30 ?_
      refine v_bipush (41 : Int32) dX8_readPair_94 (by decide) ?_
      obtain ⟨o33, h⟩ := h
      refine v_cVv [.int _] mv_X9_takeSign ml_RX8_86 ⟨_, _, rfl⟩ o33 rfl rfl (Nat.le_of_ble_eq_true rfl) (by show _ ≤ frG (d + 1); simp only [frG]; omega) (by show _ ≤ loG (d + 1); simp only [loG]; omega) (Nat.zero_le _) (Nat.zero_le _) dX8_readPair_96 (c_X9_takeSign h) (fun m32 h => ?_)
      refine v_aload_n 0 1 dX8_readPair_99 rfl rfl ?_
      obtain ⟨b34, e35, h⟩ := h
      refine v_gR 8 1 dX8_readPair_100 fg_RX8_15 o7 e35 ?_
      refine v_iload_n 2 0 dX8_readPair_103 rfl rfl ?_
      obtain ⟨o38, h⟩ := h
      refine v_cVv [.int _] mv_X0_add ml_RX8_68 ⟨_, _, rfl⟩ o38 rfl rfl (Nat.le_of_ble_eq_true rfl) (by show _ ≤ frG (d + 1); simp only [frG]; omega) (by show _ ≤ loG (d + 1); simp only [loG]; omega) (Nat.zero_le _) (Nat.zero_le _) dX8_readPair_104 (c_X0_add h) (fun m37 h => ?_)
      exact v_vret dX8_readPair_107 rfl h
  · replace h := Eq.mp (if_pos hc) h
    refine v_aload_n 0 1 dX8_readPair_41 rfl rfl ?_
    obtain ⟨b39, e40, h⟩ := h
    refine v_gR 8 0 dX8_readPair_42 fg_RX8_9 o7 e40 ?_
    refine v_iconst (1 : Int32) dX8_readPair_45 (by decide) ?_
    refine v_aload_n 0 1 dX8_readPair_46 rfl rfl ?_
    refine v_gR 8 0 dX8_readPair_47 fg_RX8_9 o7 e40 ?_
    obtain ⟨o41, h⟩ := h
    refine v_gI 9 3 dX8_readPair_50 fg_RX8_38 o41 ?_
    refine v_cVv [.int _, .int _] mv_X9_fail ml_RX8_42 ⟨_, _, rfl⟩ o41 rfl rfl (Nat.le_of_ble_eq_true rfl) (by show _ ≤ frG (d + 1); simp only [frG]; omega) (by show _ ≤ loG (d + 1); simp only [loG]; omega) (Nat.zero_le _) (Nat.zero_le _) dX8_readPair_53 (c_X9_fail h) (fun m43 h => ?_)
    refine v_goto 107 dX8_readPair_56 (by decide) ?_
    exact v_vret dX8_readPair_107 rfl h
set_option maxHeartbeats 4000000 in
set_option maxRecDepth 100000 in
theorem c_X8_readPair {l : Launch} {G : Gl} {d : Nat} {R : Nat → Shp → Nat → Int32 → (Mem → Prop) → Mem → Prop} (hR : GR l G R (frG d) (loG d)) {sh : Shp} {v0 : Nat} {v1 : Int32} {Q : Mem → Prop} {m : Mem} (h : wp_X8_readPair R sh v0 v1 Q m) : Cnv l G yX8_readPair cX8_readPair 3 (none : Option FieldType) (frG (d + 1)) (loG (d + 1)) sh [.ref (G.1 + v0), .int v1] m Q := by
  refine con_vl (ls := [(0, .ref (G.1 + v0)), (1, .int v1)]) (by decide +kernel) rfl (Nat.le_of_ble_eq_true rfl) (fun F hl => ?_)
  subst hl
  show V G F (M_X8_readPair d) sh 0 0 (Zv G F sh Q) 0 [(0, .ref (G.1 + v0)), (1, .int v1)] [] m
  unfold wp_X8_readPair at h
  refine v_aload_n 0 0 dX8_readPair_0 rfl rfl ?_
  obtain ⟨o1, h⟩ := h
  obtain ⟨b2, e3, h⟩ := h
  refine v_gR 8 0 dX8_readPair_1 fg_RX8_9 o1 e3 ?_
  refine v_ldcS (tx := "min") 10 dX8_readPair_4 (List.mem_of_getElem? (i := 10) rfl) ?_
  obtain ⟨o6, h⟩ := h
  refine v_cVi [.ref _] mv_X9_wordIn ml_RX8_34 ⟨_, _, rfl⟩ o6 rfl rfl (Nat.le_of_ble_eq_true rfl) (by show _ ≤ frG (d + 1); simp only [frG]; omega) (by show _ ≤ loG (d + 1); simp only [loG]; omega) (Nat.zero_le _) (Nat.zero_le _) dX8_readPair_6 (c_X9_wordIn h) (fun r4 m5 h => ?_)
  refine v_if_ne 18 dX8_readPair_9 (by decide) (fun hc => ?_) (fun hc => ?_)
  · replace h := Eq.mp (if_neg hc) h
    refine v_sipush (10031 : Int32) dX8_readPair_18 (by decide) ?_
    refine v_sub [0, 1] rfl ?_
    exact v_X8_readPair_p21 hR h
  · replace h := Eq.mp (if_pos hc) h
    refine v_sipush (10030 : Int32) dX8_readPair_12 (by decide) ?_
    refine v_goto 21 dX8_readPair_15 (by decide) ?_
    refine v_sub [0, 1] rfl ?_
    exact v_X8_readPair_p21 hR h
/-! CalledRiver$SumReader.readPart -/
theorem dX8_readPart_0 : decode cX8_readPart 0 = .ok (.aload_n 0, 1) := by decide +kernel
theorem dX8_readPart_1 : decode cX8_readPart 1 = .ok (.getfield 9, 3) := by decide +kernel
theorem dX8_readPart_4 : decode cX8_readPart 4 = .ok (.getfield 52, 3) := by decide +kernel
theorem dX8_readPart_7 : decode cX8_readPart 7 = .ok (.iconst 2, 1) := by decide +kernel
theorem dX8_readPart_8 : decode cX8_readPart 8 = .ok (.if_icmp .ne 24, 3) := by decide +kernel
theorem dX8_readPart_11 : decode cX8_readPart 11 = .ok (.aload_n 0, 1) := by decide +kernel
theorem dX8_readPart_12 : decode cX8_readPart 12 = .ok (.getfield 15, 3) := by decide +kernel
theorem dX8_readPart_15 : decode cX8_readPart 15 = .ok (.aload_n 0, 1) := by decide +kernel
theorem dX8_readPart_16 : decode cX8_readPart 16 = .ok (.getfield 9, 3) := by decide +kernel
theorem dX8_readPart_19 : decode cX8_readPart 19 = .ok (.iconst 0, 1) := by decide +kernel
theorem dX8_readPart_20 : decode cX8_readPart 20 = .ok (.sipush 9999, 3) := by decide +kernel
theorem dX8_readPart_23 : decode cX8_readPart 23 = .ok (.invokevirtual 101, 3) := by decide +kernel
theorem dX8_readPart_26 : decode cX8_readPart 26 = .ok (.invokevirtual 68, 3) := by decide +kernel
theorem dX8_readPart_29 : decode cX8_readPart 29 = .ok (.goto 98, 3) := by decide +kernel
theorem dX8_readPart_32 : decode cX8_readPart 32 = .ok (.aload_n 0, 1) := by decide +kernel
theorem dX8_readPart_33 : decode cX8_readPart 33 = .ok (.getfield 9, 3) := by decide +kernel
theorem dX8_readPart_36 : decode cX8_readPart 36 = .ok (.bipush 40, 2) := by decide +kernel
theorem dX8_readPart_38 : decode cX8_readPart 38 = .ok (.invokevirtual 82, 3) := by decide +kernel
theorem dX8_readPart_41 : decode cX8_readPart 41 = .ok (.ifCond .eq 30, 3) := by decide +kernel
theorem dX8_readPart_44 : decode cX8_readPart 44 = .ok (.aload_n 0, 1) := by decide +kernel
theorem dX8_readPart_45 : decode cX8_readPart 45 = .ok (.iload_n 1, 1) := by decide +kernel
theorem dX8_readPart_46 : decode cX8_readPart 46 = .ok (.invokevirtual 78, 3) := by decide +kernel
theorem dX8_readPart_49 : decode cX8_readPart 49 = .ok (.ifCond .eq 78, 3) := by decide +kernel
theorem dX8_readPart_52 : decode cX8_readPart 52 = .ok (.aload_n 0, 1) := by decide +kernel
theorem dX8_readPart_53 : decode cX8_readPart 53 = .ok (.iload_n 1, 1) := by decide +kernel
theorem dX8_readPart_54 : decode cX8_readPart 54 = .ok (.iconst 1, 1) := by decide +kernel
theorem dX8_readPart_55 : decode cX8_readPart 55 = .ok (.iadd, 1) := by decide +kernel
theorem dX8_readPart_56 : decode cX8_readPart 56 = .ok (.invokevirtual 23, 3) := by decide +kernel
theorem dX8_readPart_59 : decode cX8_readPart 59 = .ok (.aload_n 0, 1) := by decide +kernel
theorem dX8_readPart_60 : decode cX8_readPart 60 = .ok (.getfield 9, 3) := by decide +kernel
theorem dX8_readPart_63 : decode cX8_readPart 63 = .ok (.bipush 41, 2) := by decide +kernel
theorem dX8_readPart_65 : decode cX8_readPart 65 = .ok (.invokevirtual 86, 3) := by decide +kernel
theorem dX8_readPart_68 : decode cX8_readPart 68 = .ok (.goto 59, 3) := by decide +kernel
theorem dX8_readPart_71 : decode cX8_readPart 71 = .ok (.aload_n 0, 1) := by decide +kernel
theorem dX8_readPart_72 : decode cX8_readPart 72 = .ok (.getfield 9, 3) := by decide +kernel
theorem dX8_readPart_75 : decode cX8_readPart 75 = .ok (.ldc 105, 2) := by decide +kernel
theorem dX8_readPart_77 : decode cX8_readPart 77 = .ok (.invokevirtual 34, 3) := by decide +kernel
theorem dX8_readPart_80 : decode cX8_readPart 80 = .ok (.iconst (-1), 1) := by decide +kernel
theorem dX8_readPart_81 : decode cX8_readPart 81 = .ok (.if_icmp .eq 11, 3) := by decide +kernel
theorem dX8_readPart_84 : decode cX8_readPart 84 = .ok (.aload_n 0, 1) := by decide +kernel
theorem dX8_readPart_85 : decode cX8_readPart 85 = .ok (.iload_n 1, 1) := by decide +kernel
theorem dX8_readPart_86 : decode cX8_readPart 86 = .ok (.invokevirtual 107, 3) := by decide +kernel
theorem dX8_readPart_89 : decode cX8_readPart 89 = .ok (.goto 38, 3) := by decide +kernel
theorem dX8_readPart_92 : decode cX8_readPart 92 = .ok (.aload_n 0, 1) := by decide +kernel
theorem dX8_readPart_93 : decode cX8_readPart 93 = .ok (.getfield 55, 3) := by decide +kernel
theorem dX8_readPart_96 : decode cX8_readPart 96 = .ok (.sipush 7719, 3) := by decide +kernel
theorem dX8_readPart_99 : decode cX8_readPart 99 = .ok (.if_icmp .ne 24, 3) := by decide +kernel
theorem dX8_readPart_102 : decode cX8_readPart 102 = .ok (.aload_n 0, 1) := by decide +kernel
theorem dX8_readPart_103 : decode cX8_readPart 103 = .ok (.getfield 9, 3) := by decide +kernel
theorem dX8_readPart_106 : decode cX8_readPart 106 = .ok (.ldc 110, 2) := by decide +kernel
theorem dX8_readPart_108 : decode cX8_readPart 108 = .ok (.invokevirtual 34, 3) := by decide +kernel
theorem dX8_readPart_111 : decode cX8_readPart 111 = .ok (.iconst (-1), 1) := by decide +kernel
theorem dX8_readPart_112 : decode cX8_readPart 112 = .ok (.if_icmp .eq 11, 3) := by decide +kernel
theorem dX8_readPart_115 : decode cX8_readPart 115 = .ok (.aload_n 0, 1) := by decide +kernel
theorem dX8_readPart_116 : decode cX8_readPart 116 = .ok (.iload_n 1, 1) := by decide +kernel
theorem dX8_readPart_117 : decode cX8_readPart 117 = .ok (.invokevirtual 112, 3) := by decide +kernel
theorem dX8_readPart_120 : decode cX8_readPart 120 = .ok (.goto 7, 3) := by decide +kernel
theorem dX8_readPart_123 : decode cX8_readPart 123 = .ok (.aload_n 0, 1) := by decide +kernel
theorem dX8_readPart_124 : decode cX8_readPart 124 = .ok (.invokevirtual 115, 3) := by decide +kernel
theorem dX8_readPart_127 : decode cX8_readPart 127 = .ok (.return_, 1) := by decide +kernel
def X8_readPart_p123 (R : Nat → Shp → Nat → Int32 → (Mem → Prop) → Mem → Prop) (sh : Shp) (v0 : Nat) (Q : Mem → Prop) (m : Mem) : Prop :=
  Ob sh v0 8 ∧ wp_X8_readNamedFact sh v0 (fun m38 => Q m38) m
def wp_X8_readPart (R : Nat → Shp → Nat → Int32 → (Mem → Prop) → Mem → Prop) (sh : Shp) (v0 : Nat) (v1 : Int32) (Q : Mem → Prop) (m : Mem) : Prop :=
  Ob sh v0 8 ∧ ∃ b2 : Nat, m.2.2 v0 0 = some b2 ∧ (Ob sh b2 9 ∧ (if (m.1 b2 2) = (2 : Int32) then (∃ b30 : Nat, m.2.2 v0 1 = some b30 ∧ (wp_X9_takeNumber sh b2 (0 : Int32) (9999 : Int32) (fun r32 m33 => Ob sh b30 0 ∧ wp_X0_add sh b30 r32 (fun m35 => Q m35) m33) m)) else (wp_X9_isSign sh b2 (40 : Int32) (fun r5 m6 => if r5 = 0 then (∃ b7 : Nat, m6.2.2 v0 0 = some b7 ∧ (Ob sh b7 9 ∧ wp_X9_wordIn sh b7 9 (fun r9 m10 => if r9 = (-1 : Int32) then (if (m10.1 v0 2) = (7719 : Int32) then (∃ b12 : Nat, m10.2.2 v0 0 = some b12 ∧ (Ob sh b12 9 ∧ wp_X9_wordIn sh b12 11 (fun r14 m15 => if r14 = (-1 : Int32) then (X8_readPart_p123 R sh v0 Q m15) else (R 8 sh v0 v1 (fun m18 => Q m18) m15)) m10)) else (X8_readPart_p123 R sh v0 Q m10)) else (R 7 sh v0 v1 (fun m20 => Q m20) m10)) m6)) else (wp_X8_opens sh v0 v1 (fun r21 m22 => if r21 = 0 then (Q m22) else (R 4 sh v0 (v1 + (1 : Int32)) (fun m24 => ∃ b25 : Nat, m24.2.2 v0 0 = some b25 ∧ (Ob sh b25 9 ∧ wp_X9_takeSign sh b25 (41 : Int32) (fun m28 => Q m28) m24)) m22)) m6)) m)))
abbrev M_X8_readPart (d : Nat) : Mi := (cX8_readPart, 2, RX8, (none : Option FieldType), "readPart", frG (d + 1), loG (d + 1), 0, 0)
set_option maxHeartbeats 4000000 in
set_option maxRecDepth 100000 in
theorem v_X8_readPart_p123 {G : Gl} {F : Fr} {d : Nat} {R : Nat → Shp → Nat → Int32 → (Mem → Prop) → Mem → Prop} {sh : Shp} {v0 : Nat} {Q : Mem → Prop} {m : Mem} (hR : GR (Fl F) G R (frG d) (loG d)) (h : X8_readPart_p123 R sh v0 Q m) : V G F (M_X8_readPart d) sh 0 0 (Zv G F sh Q) 123 [(0, .ref (G.1 + v0))] [] m := by
  unfold X8_readPart_p123 at h
  refine v_aload_n 0 0 dX8_readPart_123 rfl rfl ?_
  obtain ⟨o39, h⟩ := h
  refine v_cVv [] mv_X8_readNamedFact ml_RX8_115 ⟨_, _, rfl⟩ o39 rfl rfl (Nat.le_of_ble_eq_true rfl) (by show _ ≤ frG (d + 1); simp only [frG]; omega) (by show _ ≤ loG (d + 1); simp only [loG]; omega) (Nat.zero_le _) (Nat.zero_le _) dX8_readPart_124 (c_X8_readNamedFact h) (fun m38 h => ?_)
  exact v_vret dX8_readPart_127 rfl h
set_option maxHeartbeats 4000000 in
set_option maxRecDepth 100000 in
theorem c_X8_readPart {l : Launch} {G : Gl} {d : Nat} {R : Nat → Shp → Nat → Int32 → (Mem → Prop) → Mem → Prop} (hR : GR l G R (frG d) (loG d)) {sh : Shp} {v0 : Nat} {v1 : Int32} {Q : Mem → Prop} {m : Mem} (h : wp_X8_readPart R sh v0 v1 Q m) : Cnv l G yX8_readPart cX8_readPart 2 (none : Option FieldType) (frG (d + 1)) (loG (d + 1)) sh [.ref (G.1 + v0), .int v1] m Q := by
  refine con_vl (ls := [(0, .ref (G.1 + v0)), (1, .int v1)]) (by decide +kernel) rfl (Nat.le_of_ble_eq_true rfl) (fun F hl => ?_)
  subst hl
  show V G F (M_X8_readPart d) sh 0 0 (Zv G F sh Q) 0 [(0, .ref (G.1 + v0)), (1, .int v1)] [] m
  unfold wp_X8_readPart at h
  refine v_aload_n 0 0 dX8_readPart_0 rfl rfl ?_
  obtain ⟨o1, h⟩ := h
  obtain ⟨b2, e3, h⟩ := h
  refine v_gR 8 0 dX8_readPart_1 fg_RX8_9 o1 e3 ?_
  obtain ⟨o4, h⟩ := h
  refine v_gI 9 2 dX8_readPart_4 fg_RX8_52 o4 ?_
  refine v_iconst (2 : Int32) dX8_readPart_7 (by decide) ?_
  refine v_icmp_ne 32 dX8_readPart_8 (by decide) (fun hc => ?_) (fun hc => ?_)
  · replace h := Eq.mp (if_neg hc) h
    refine v_aload_n 0 0 dX8_readPart_32 rfl rfl ?_
    refine v_gR 8 0 dX8_readPart_33 fg_RX8_9 o1 e3 ?_
    refine v_bipush (40 : Int32) dX8_readPart_36 (by decide) ?_
    refine v_cVi [.int _] mv_X9_isSign ml_RX8_82 ⟨_, _, rfl⟩ o4 rfl rfl (Nat.le_of_ble_eq_true rfl) (by show _ ≤ frG (d + 1); simp only [frG]; omega) (by show _ ≤ loG (d + 1); simp only [loG]; omega) (Nat.zero_le _) (Nat.zero_le _) dX8_readPart_38 (c_X9_isSign h) (fun r5 m6 h => ?_)
    refine v_if_eq 71 dX8_readPart_41 (by decide) (fun hc => ?_) (fun hc => ?_)
    · replace h := Eq.mp (if_pos hc) h
      refine v_aload_n 0 0 dX8_readPart_71 rfl rfl ?_
      obtain ⟨b7, e8, h⟩ := h
      refine v_gR 8 0 dX8_readPart_72 fg_RX8_9 o1 e8 ?_
      refine v_ldcS (tx := "min max") 9 dX8_readPart_75 (List.mem_of_getElem? (i := 9) rfl) ?_
      obtain ⟨o11, h⟩ := h
      refine v_cVi [.ref _] mv_X9_wordIn ml_RX8_34 ⟨_, _, rfl⟩ o11 rfl rfl (Nat.le_of_ble_eq_true rfl) (by show _ ≤ frG (d + 1); simp only [frG]; omega) (by show _ ≤ loG (d + 1); simp only [loG]; omega) (Nat.zero_le _) (Nat.zero_le _) dX8_readPart_77 (c_X9_wordIn h) (fun r9 m10 h => ?_)
      refine v_iconst (-1 : Int32) dX8_readPart_80 (by decide) ?_
      refine v_icmp_eq 92 dX8_readPart_81 (by decide) (fun hc => ?_) (fun hc => ?_)
      · replace h := Eq.mp (if_pos hc) h
        refine v_aload_n 0 0 dX8_readPart_92 rfl rfl ?_
        refine v_gI 8 2 dX8_readPart_93 fg_RX8_55 o1 ?_
        refine v_sipush (7719 : Int32) dX8_readPart_96 (by decide) ?_
        refine v_icmp_ne 123 dX8_readPart_99 (by decide) (fun hc => ?_) (fun hc => ?_)
        · replace h := Eq.mp (if_neg hc) h
          refine v_sub [0] rfl ?_
          exact v_X8_readPart_p123 hR h
        · replace h := Eq.mp (if_pos hc) h
          refine v_aload_n 0 0 dX8_readPart_102 rfl rfl ?_
          obtain ⟨b12, e13, h⟩ := h
          refine v_gR 8 0 dX8_readPart_103 fg_RX8_9 o1 e13 ?_
          refine v_ldcS (tx := "wet step") 11 dX8_readPart_106 (List.mem_of_getElem? (i := 11) rfl) ?_
          obtain ⟨o16, h⟩ := h
          refine v_cVi [.ref _] mv_X9_wordIn ml_RX8_34 ⟨_, _, rfl⟩ o16 rfl rfl (Nat.le_of_ble_eq_true rfl) (by show _ ≤ frG (d + 1); simp only [frG]; omega) (by show _ ≤ loG (d + 1); simp only [loG]; omega) (Nat.zero_le _) (Nat.zero_le _) dX8_readPart_108 (c_X9_wordIn h) (fun r14 m15 h => ?_)
          refine v_iconst (-1 : Int32) dX8_readPart_111 (by decide) ?_
          refine v_icmp_eq 123 dX8_readPart_112 (by decide) (fun hc => ?_) (fun hc => ?_)
          · replace h := Eq.mp (if_pos hc) h
            refine v_sub [0] rfl ?_
            exact v_X8_readPart_p123 hR h
          · replace h := Eq.mp (if_neg hc) h
            refine v_aload_n 0 0 dX8_readPart_115 rfl rfl ?_
            refine v_iload_n 1 1 dX8_readPart_116 rfl rfl ?_
            refine v_cVv [.int _] mv_X8_readOfCaller ml_RX8_112 ⟨_, _, rfl⟩ o1 rfl rfl (Nat.le_of_ble_eq_true rfl) (by show _ ≤ frG (d + 1); simp only [frG]; omega) (by show _ ≤ loG (d + 1); simp only [loG]; omega) (Nat.zero_le _) (Nat.zero_le _) dX8_readPart_117 (hR.2.2.2.2.2.2.2.2 h) (fun m18 h => ?_)
            refine v_goto 127 dX8_readPart_120 (by decide) ?_
            exact v_vret dX8_readPart_127 rfl h
      · replace h := Eq.mp (if_neg hc) h
        refine v_aload_n 0 0 dX8_readPart_84 rfl rfl ?_
        refine v_iload_n 1 1 dX8_readPart_85 rfl rfl ?_
        refine v_cVv [.int _] mv_X8_readPair ml_RX8_107 ⟨_, _, rfl⟩ o1 rfl rfl (Nat.le_of_ble_eq_true rfl) (by show _ ≤ frG (d + 1); simp only [frG]; omega) (by show _ ≤ loG (d + 1); simp only [loG]; omega) (Nat.zero_le _) (Nat.zero_le _) dX8_readPart_86 (hR.2.2.2.2.2.2.2.1 h) (fun m20 h => ?_)
        refine v_goto 127 dX8_readPart_89 (by decide) ?_
        exact v_vret dX8_readPart_127 rfl h
    · replace h := Eq.mp (if_neg hc) h
      refine v_aload_n 0 0 dX8_readPart_44 rfl rfl ?_
      refine v_iload_n 1 1 dX8_readPart_45 rfl rfl ?_
      refine v_cVi [.int _] mv_X8_opens ml_RX8_78 ⟨_, _, rfl⟩ o1 rfl rfl (Nat.le_of_ble_eq_true rfl) (by show _ ≤ frG (d + 1); simp only [frG]; omega) (by show _ ≤ loG (d + 1); simp only [loG]; omega) (Nat.zero_le _) (Nat.zero_le _) dX8_readPart_46 (c_X8_opens h) (fun r21 m22 h => ?_)
      refine v_if_eq 127 dX8_readPart_49 (by decide) (fun hc => ?_) (fun hc => ?_)
      · replace h := Eq.mp (if_pos hc) h
        exact v_vret dX8_readPart_127 rfl h
      · replace h := Eq.mp (if_neg hc) h
        refine v_aload_n 0 0 dX8_readPart_52 rfl rfl ?_
        refine v_iload_n 1 1 dX8_readPart_53 rfl rfl ?_
        refine v_iconst (1 : Int32) dX8_readPart_54 (by decide) ?_
        refine v_iadd dX8_readPart_55 ?_
        refine v_cVv [.int _] mv_X8_readSum ml_RX8_23 ⟨_, _, rfl⟩ o1 rfl rfl (Nat.le_of_ble_eq_true rfl) (by show _ ≤ frG (d + 1); simp only [frG]; omega) (by show _ ≤ loG (d + 1); simp only [loG]; omega) (Nat.zero_le _) (Nat.zero_le _) dX8_readPart_56 (hR.2.2.2.2.1 h) (fun m24 h => ?_)
        refine v_aload_n 0 0 dX8_readPart_59 rfl rfl ?_
        obtain ⟨b25, e26, h⟩ := h
        refine v_gR 8 0 dX8_readPart_60 fg_RX8_9 o1 e26 ?_
        refine v_bipush (41 : Int32) dX8_readPart_63 (by decide) ?_
        obtain ⟨o29, h⟩ := h
        refine v_cVv [.int _] mv_X9_takeSign ml_RX8_86 ⟨_, _, rfl⟩ o29 rfl rfl (Nat.le_of_ble_eq_true rfl) (by show _ ≤ frG (d + 1); simp only [frG]; omega) (by show _ ≤ loG (d + 1); simp only [loG]; omega) (Nat.zero_le _) (Nat.zero_le _) dX8_readPart_65 (c_X9_takeSign h) (fun m28 h => ?_)
        refine v_goto 127 dX8_readPart_68 (by decide) ?_
        exact v_vret dX8_readPart_127 rfl h
  · replace h := Eq.mp (if_pos hc) h
    refine v_aload_n 0 0 dX8_readPart_11 rfl rfl ?_
    obtain ⟨b30, e31, h⟩ := h
    refine v_gR 8 1 dX8_readPart_12 fg_RX8_15 o1 e31 ?_
    refine v_aload_n 0 0 dX8_readPart_15 rfl rfl ?_
    refine v_gR 8 0 dX8_readPart_16 fg_RX8_9 o1 e3 ?_
    refine v_iconst (0 : Int32) dX8_readPart_19 (by decide) ?_
    refine v_sipush (9999 : Int32) dX8_readPart_20 (by decide) ?_
    refine v_cVi [.int _, .int _] mv_X9_takeNumber ml_RX8_101 ⟨_, _, rfl⟩ o4 rfl rfl (Nat.le_of_ble_eq_true rfl) (by show _ ≤ frG (d + 1); simp only [frG]; omega) (by show _ ≤ loG (d + 1); simp only [loG]; omega) (Nat.zero_le _) (Nat.zero_le _) dX8_readPart_23 (c_X9_takeNumber h) (fun r32 m33 h => ?_)
    obtain ⟨o36, h⟩ := h
    refine v_cVv [.int _] mv_X0_add ml_RX8_68 ⟨_, _, rfl⟩ o36 rfl rfl (Nat.le_of_ble_eq_true rfl) (by show _ ≤ frG (d + 1); simp only [frG]; omega) (by show _ ≤ loG (d + 1); simp only [loG]; omega) (Nat.zero_le _) (Nat.zero_le _) dX8_readPart_26 (c_X0_add h) (fun m35 h => ?_)
    refine v_goto 127 dX8_readPart_29 (by decide) ?_
    exact v_vret dX8_readPart_127 rfl h
/-! CalledRiver$SumReader.readProduct -/
theorem dX8_readProduct_0 : decode cX8_readProduct 0 = .ok (.aload_n 0, 1) := by decide +kernel
theorem dX8_readProduct_1 : decode cX8_readProduct 1 = .ok (.iload_n 1, 1) := by decide +kernel
theorem dX8_readProduct_2 : decode cX8_readProduct 2 = .ok (.invokevirtual 98, 3) := by decide +kernel
theorem dX8_readProduct_5 : decode cX8_readProduct 5 = .ok (.iconst 0, 1) := by decide +kernel
theorem dX8_readProduct_6 : decode cX8_readProduct 6 = .ok (.istore_n 2, 1) := by decide +kernel
theorem dX8_readProduct_7 : decode cX8_readProduct 7 = .ok (.iload_n 2, 1) := by decide +kernel
theorem dX8_readProduct_8 : decode cX8_readProduct 8 = .ok (.sipush 1600, 3) := by decide +kernel
theorem dX8_readProduct_11 : decode cX8_readProduct 11 = .ok (.if_icmp .ge 75, 3) := by decide +kernel
theorem dX8_readProduct_14 : decode cX8_readProduct 14 = .ok (.aload_n 0, 1) := by decide +kernel
theorem dX8_readProduct_15 : decode cX8_readProduct 15 = .ok (.getfield 9, 3) := by decide +kernel
theorem dX8_readProduct_18 : decode cX8_readProduct 18 = .ok (.bipush 42, 2) := by decide +kernel
theorem dX8_readProduct_20 : decode cX8_readProduct 20 = .ok (.invokevirtual 82, 3) := by decide +kernel
theorem dX8_readProduct_23 : decode cX8_readProduct 23 = .ok (.ifCond .ne 15, 3) := by decide +kernel
theorem dX8_readProduct_26 : decode cX8_readProduct 26 = .ok (.aload_n 0, 1) := by decide +kernel
theorem dX8_readProduct_27 : decode cX8_readProduct 27 = .ok (.getfield 9, 3) := by decide +kernel
theorem dX8_readProduct_30 : decode cX8_readProduct 30 = .ok (.bipush 47, 2) := by decide +kernel
theorem dX8_readProduct_32 : decode cX8_readProduct 32 = .ok (.invokevirtual 82, 3) := by decide +kernel
theorem dX8_readProduct_35 : decode cX8_readProduct 35 = .ok (.ifCond .eq 51, 3) := by decide +kernel
theorem dX8_readProduct_38 : decode cX8_readProduct 38 = .ok (.aload_n 0, 1) := by decide +kernel
theorem dX8_readProduct_39 : decode cX8_readProduct 39 = .ok (.getfield 9, 3) := by decide +kernel
theorem dX8_readProduct_42 : decode cX8_readProduct 42 = .ok (.bipush 42, 2) := by decide +kernel
theorem dX8_readProduct_44 : decode cX8_readProduct 44 = .ok (.invokevirtual 82, 3) := by decide +kernel
theorem dX8_readProduct_47 : decode cX8_readProduct 47 = .ok (.ifCond .eq 9, 3) := by decide +kernel
theorem dX8_readProduct_50 : decode cX8_readProduct 50 = .ok (.sipush 10028, 3) := by decide +kernel
theorem dX8_readProduct_53 : decode cX8_readProduct 53 = .ok (.goto 6, 3) := by decide +kernel
theorem dX8_readProduct_56 : decode cX8_readProduct 56 = .ok (.sipush 10029, 3) := by decide +kernel
theorem dX8_readProduct_59 : decode cX8_readProduct 59 = .ok (.istore_n 3, 1) := by decide +kernel
theorem dX8_readProduct_60 : decode cX8_readProduct 60 = .ok (.aload_n 0, 1) := by decide +kernel
theorem dX8_readProduct_61 : decode cX8_readProduct 61 = .ok (.getfield 9, 3) := by decide +kernel
theorem dX8_readProduct_64 : decode cX8_readProduct 64 = .ok (.invokevirtual 46, 3) := by decide +kernel
theorem dX8_readProduct_67 : decode cX8_readProduct 67 = .ok (.aload_n 0, 1) := by decide +kernel
theorem dX8_readProduct_68 : decode cX8_readProduct 68 = .ok (.iload_n 1, 1) := by decide +kernel
theorem dX8_readProduct_69 : decode cX8_readProduct 69 = .ok (.invokevirtual 98, 3) := by decide +kernel
theorem dX8_readProduct_72 : decode cX8_readProduct 72 = .ok (.aload_n 0, 1) := by decide +kernel
theorem dX8_readProduct_73 : decode cX8_readProduct 73 = .ok (.getfield 15, 3) := by decide +kernel
theorem dX8_readProduct_76 : decode cX8_readProduct 76 = .ok (.iload_n 3, 1) := by decide +kernel
theorem dX8_readProduct_77 : decode cX8_readProduct 77 = .ok (.invokevirtual 68, 3) := by decide +kernel
theorem dX8_readProduct_80 : decode cX8_readProduct 80 = .ok (.iinc 2 1, 3) := by decide +kernel
theorem dX8_readProduct_83 : decode cX8_readProduct 83 = .ok (.goto (-76), 3) := by decide +kernel
theorem dX8_readProduct_86 : decode cX8_readProduct 86 = .ok (.return_, 1) := by decide +kernel
def X8_readProduct_p59 (R : Nat → Shp → Nat → Int32 → (Mem → Prop) → Mem → Prop) (sh : Shp) (v0 : Nat) (v1 : Int32) (v2 : Int32) (s0 : Int32) (Q : Mem → Prop) (K7 : Int32 → Mem → Prop) (m : Mem) : Prop :=
  Ob sh v0 8 ∧ ∃ b22 : Nat, m.2.2 v0 0 = some b22 ∧ (Ob sh b22 9 ∧ wp_X9_advance sh b22 (fun m25 => R 6 sh v0 v1 (fun m28 => ∃ b29 : Nat, m28.2.2 v0 1 = some b29 ∧ (Ob sh b29 0 ∧ wp_X0_add sh b29 s0 (fun m32 => K7 (v2 + (1 : Int32)) m32) m28)) m25) m)
def X8_readProduct_p38 (R : Nat → Shp → Nat → Int32 → (Mem → Prop) → Mem → Prop) (sh : Shp) (v0 : Nat) (v1 : Int32) (v2 : Int32) (Q : Mem → Prop) (K7 : Int32 → Mem → Prop) (m : Mem) : Prop :=
  Ob sh v0 8 ∧ ∃ b16 : Nat, m.2.2 v0 0 = some b16 ∧ (Ob sh b16 9 ∧ wp_X9_isSign sh b16 (42 : Int32) (fun r18 m19 => if r18 = 0 then (X8_readProduct_p59 R sh v0 v1 v2 (10029 : Int32) Q K7 m19) else (X8_readProduct_p59 R sh v0 v1 v2 (10028 : Int32) Q K7 m19)) m)
def X8_readProduct_p7b (R : Nat → Shp → Nat → Int32 → (Mem → Prop) → Mem → Prop) (sh : Shp) (v0 : Nat) (v1 : Int32) (Q : Mem → Prop) (K7 : Int32 → Mem → Prop) (v2 : Int32) (m : Mem) : Prop :=
  if (1600 : Int32) ≤ v2 then (Q m) else (Ob sh v0 8 ∧ ∃ b5 : Nat, m.2.2 v0 0 = some b5 ∧ (Ob sh b5 9 ∧ wp_X9_isSign sh b5 (42 : Int32) (fun r7 m8 => if r7 = 0 then (∃ b10 : Nat, m8.2.2 v0 0 = some b10 ∧ (Ob sh b10 9 ∧ wp_X9_isSign sh b10 (47 : Int32) (fun r12 m13 => if r12 = 0 then (Q m13) else (X8_readProduct_p38 R sh v0 v1 v2 Q K7 m13)) m8)) else (X8_readProduct_p38 R sh v0 v1 v2 Q K7 m8)) m))
def X8_readProduct_p7n (R : Nat → Shp → Nat → Int32 → (Mem → Prop) → Mem → Prop) (sh : Shp) (v0 : Nat) (v1 : Int32) (Q : Mem → Prop) : Nat → Int32 → Mem → Prop
  | 0 => fun _ _ => False
  | n + 1 => X8_readProduct_p7b R sh v0 v1 Q (X8_readProduct_p7n R sh v0 v1 Q n)
def X8_readProduct_p7 (R : Nat → Shp → Nat → Int32 → (Mem → Prop) → Mem → Prop) (sh : Shp) (v0 : Nat) (v1 : Int32) (Q : Mem → Prop) (v2 : Int32) (m : Mem) : Prop := ∃ n, X8_readProduct_p7n R sh v0 v1 Q n v2 m
def wp_X8_readProduct (R : Nat → Shp → Nat → Int32 → (Mem → Prop) → Mem → Prop) (sh : Shp) (v0 : Nat) (v1 : Int32) (Q : Mem → Prop) (m : Mem) : Prop :=
  Ob sh v0 8 ∧ R 6 sh v0 v1 (fun m2 => X8_readProduct_p7 R sh v0 v1 Q (0 : Int32) m2) m
abbrev M_X8_readProduct (d : Nat) : Mi := (cX8_readProduct, 4, RX8, (none : Option FieldType), "readProduct", frG (d + 1), loG (d + 1), 0, 0)
set_option maxHeartbeats 4000000 in
set_option maxRecDepth 100000 in
theorem v_X8_readProduct_p59 {G : Gl} {F : Fr} {d : Nat} {R : Nat → Shp → Nat → Int32 → (Mem → Prop) → Mem → Prop} {sh : Shp} {v0 : Nat} {v1 : Int32} {v2 : Int32} {s0 : Int32} {Q : Mem → Prop} {K7 : Int32 → Mem → Prop} {m : Mem} (hR : GR (Fl F) G R (frG d) (loG d)) (hK7 : ∀ (x2 : Int32) (m : Mem), K7 x2 m → V G F (M_X8_readProduct d) sh 0 0 (Zv G F sh Q) 7 [(0, .ref (G.1 + v0)), (1, .int v1), (2, .int x2)] [] m) (h : X8_readProduct_p59 R sh v0 v1 v2 s0 Q K7 m) : V G F (M_X8_readProduct d) sh 0 0 (Zv G F sh Q) 59 [(0, .ref (G.1 + v0)), (1, .int v1), (2, .int v2)] [.int s0] m := by
  unfold X8_readProduct_p59 at h
  refine v_istore_n (ls' := [(3, .int _), (0, .ref _), (1, .int _), (2, .int _)]) 3 dX8_readProduct_59 rfl (Nat.le_of_ble_eq_true rfl) rfl ?_
  refine v_aload_n 0 1 dX8_readProduct_60 rfl rfl ?_
  obtain ⟨o21, h⟩ := h
  obtain ⟨b22, e23, h⟩ := h
  refine v_gR 8 0 dX8_readProduct_61 fg_RX8_9 o21 e23 ?_
  obtain ⟨o26, h⟩ := h
  refine v_cVv [] mv_X9_advance ml_RX8_46 ⟨_, _, rfl⟩ o26 rfl rfl (Nat.le_of_ble_eq_true rfl) (by show _ ≤ frG (d + 1); simp only [frG]; omega) (by show _ ≤ loG (d + 1); simp only [loG]; omega) (Nat.zero_le _) (Nat.zero_le _) dX8_readProduct_64 (c_X9_advance h) (fun m25 h => ?_)
  refine v_aload_n 0 1 dX8_readProduct_67 rfl rfl ?_
  refine v_iload_n 1 2 dX8_readProduct_68 rfl rfl ?_
  refine v_cVv [.int _] mv_X8_readPart ml_RX8_98 ⟨_, _, rfl⟩ o21 rfl rfl (Nat.le_of_ble_eq_true rfl) (by show _ ≤ frG (d + 1); simp only [frG]; omega) (by show _ ≤ loG (d + 1); simp only [loG]; omega) (Nat.zero_le _) (Nat.zero_le _) dX8_readProduct_69 (hR.2.2.2.2.2.2.1 h) (fun m28 h => ?_)
  refine v_aload_n 0 1 dX8_readProduct_72 rfl rfl ?_
  obtain ⟨b29, e30, h⟩ := h
  refine v_gR 8 1 dX8_readProduct_73 fg_RX8_15 o21 e30 ?_
  refine v_iload_n 3 0 dX8_readProduct_76 rfl rfl ?_
  obtain ⟨o33, h⟩ := h
  refine v_cVv [.int _] mv_X0_add ml_RX8_68 ⟨_, _, rfl⟩ o33 rfl rfl (Nat.le_of_ble_eq_true rfl) (by show _ ≤ frG (d + 1); simp only [frG]; omega) (by show _ ≤ loG (d + 1); simp only [loG]; omega) (Nat.zero_le _) (Nat.zero_le _) dX8_readProduct_77 (c_X0_add h) (fun m32 h => ?_)
  refine v_iinc (ls' := [(2, .int _), (3, .int _), (0, .ref _), (1, .int _)]) 2 3 dX8_readProduct_80 rfl (congrArg (HAdd.hAdd _) (by decide : Int32.ofInt (1) = (1 : Int32))) (Nat.le_of_ble_eq_true rfl) rfl ?_
  refine v_goto 7 dX8_readProduct_83 (by decide) ?_
  refine v_sub [2, 3, 0] rfl ?_
  exact hK7 _ _ h
set_option maxHeartbeats 4000000 in
set_option maxRecDepth 100000 in
theorem v_X8_readProduct_p38 {G : Gl} {F : Fr} {d : Nat} {R : Nat → Shp → Nat → Int32 → (Mem → Prop) → Mem → Prop} {sh : Shp} {v0 : Nat} {v1 : Int32} {v2 : Int32} {Q : Mem → Prop} {K7 : Int32 → Mem → Prop} {m : Mem} (hR : GR (Fl F) G R (frG d) (loG d)) (hK7 : ∀ (x2 : Int32) (m : Mem), K7 x2 m → V G F (M_X8_readProduct d) sh 0 0 (Zv G F sh Q) 7 [(0, .ref (G.1 + v0)), (1, .int v1), (2, .int x2)] [] m) (h : X8_readProduct_p38 R sh v0 v1 v2 Q K7 m) : V G F (M_X8_readProduct d) sh 0 0 (Zv G F sh Q) 38 [(0, .ref (G.1 + v0)), (1, .int v1), (2, .int v2)] [] m := by
  unfold X8_readProduct_p38 at h
  refine v_aload_n 0 0 dX8_readProduct_38 rfl rfl ?_
  obtain ⟨o15, h⟩ := h
  obtain ⟨b16, e17, h⟩ := h
  refine v_gR 8 0 dX8_readProduct_39 fg_RX8_9 o15 e17 ?_
  refine v_bipush (42 : Int32) dX8_readProduct_42 (by decide) ?_
  obtain ⟨o20, h⟩ := h
  refine v_cVi [.int _] mv_X9_isSign ml_RX8_82 ⟨_, _, rfl⟩ o20 rfl rfl (Nat.le_of_ble_eq_true rfl) (by show _ ≤ frG (d + 1); simp only [frG]; omega) (by show _ ≤ loG (d + 1); simp only [loG]; omega) (Nat.zero_le _) (Nat.zero_le _) dX8_readProduct_44 (c_X9_isSign h) (fun r18 m19 h => ?_)
  refine v_if_eq 56 dX8_readProduct_47 (by decide) (fun hc => ?_) (fun hc => ?_)
  · replace h := Eq.mp (if_pos hc) h
    refine v_sipush (10029 : Int32) dX8_readProduct_56 (by decide) ?_
    refine v_sub [0, 1, 2] rfl ?_
    exact v_X8_readProduct_p59 hR hK7 h
  · replace h := Eq.mp (if_neg hc) h
    refine v_sipush (10028 : Int32) dX8_readProduct_50 (by decide) ?_
    refine v_goto 59 dX8_readProduct_53 (by decide) ?_
    refine v_sub [0, 1, 2] rfl ?_
    exact v_X8_readProduct_p59 hR hK7 h
set_option maxHeartbeats 4000000 in
set_option maxRecDepth 100000 in
theorem v_X8_readProduct_p7b {G : Gl} {F : Fr} {d : Nat} {R : Nat → Shp → Nat → Int32 → (Mem → Prop) → Mem → Prop} {sh : Shp} {v0 : Nat} {v1 : Int32} {v2 : Int32} {Q : Mem → Prop} {K7 : Int32 → Mem → Prop} {m : Mem} (hR : GR (Fl F) G R (frG d) (loG d)) (hK7 : ∀ (x2 : Int32) (m : Mem), K7 x2 m → V G F (M_X8_readProduct d) sh 0 0 (Zv G F sh Q) 7 [(0, .ref (G.1 + v0)), (1, .int v1), (2, .int x2)] [] m) (h : X8_readProduct_p7b R sh v0 v1 Q K7 v2 m) : V G F (M_X8_readProduct d) sh 0 0 (Zv G F sh Q) 7 [(0, .ref (G.1 + v0)), (1, .int v1), (2, .int v2)] [] m := by
  unfold X8_readProduct_p7b at h
  refine v_iload_n 2 2 dX8_readProduct_7 rfl rfl ?_
  refine v_sipush (1600 : Int32) dX8_readProduct_8 (by decide) ?_
  refine v_icmp_ge 86 dX8_readProduct_11 (by decide) (fun hc => ?_) (fun hc => ?_)
  · replace h := Eq.mp (if_pos hc) h
    exact v_vret dX8_readProduct_86 rfl h
  · replace h := Eq.mp (if_neg hc) h
    refine v_aload_n 0 0 dX8_readProduct_14 rfl rfl ?_
    obtain ⟨o4, h⟩ := h
    obtain ⟨b5, e6, h⟩ := h
    refine v_gR 8 0 dX8_readProduct_15 fg_RX8_9 o4 e6 ?_
    refine v_bipush (42 : Int32) dX8_readProduct_18 (by decide) ?_
    obtain ⟨o9, h⟩ := h
    refine v_cVi [.int _] mv_X9_isSign ml_RX8_82 ⟨_, _, rfl⟩ o9 rfl rfl (Nat.le_of_ble_eq_true rfl) (by show _ ≤ frG (d + 1); simp only [frG]; omega) (by show _ ≤ loG (d + 1); simp only [loG]; omega) (Nat.zero_le _) (Nat.zero_le _) dX8_readProduct_20 (c_X9_isSign h) (fun r7 m8 h => ?_)
    refine v_if_ne 38 dX8_readProduct_23 (by decide) (fun hc => ?_) (fun hc => ?_)
    · replace h := Eq.mp (if_neg hc) h
      refine v_sub [0, 1, 2] rfl ?_
      exact v_X8_readProduct_p38 hR hK7 h
    · replace h := Eq.mp (if_pos hc) h
      refine v_aload_n 0 0 dX8_readProduct_26 rfl rfl ?_
      obtain ⟨b10, e11, h⟩ := h
      refine v_gR 8 0 dX8_readProduct_27 fg_RX8_9 o4 e11 ?_
      refine v_bipush (47 : Int32) dX8_readProduct_30 (by decide) ?_
      obtain ⟨o14, h⟩ := h
      refine v_cVi [.int _] mv_X9_isSign ml_RX8_82 ⟨_, _, rfl⟩ o14 rfl rfl (Nat.le_of_ble_eq_true rfl) (by show _ ≤ frG (d + 1); simp only [frG]; omega) (by show _ ≤ loG (d + 1); simp only [loG]; omega) (Nat.zero_le _) (Nat.zero_le _) dX8_readProduct_32 (c_X9_isSign h) (fun r12 m13 h => ?_)
      refine v_if_eq 86 dX8_readProduct_35 (by decide) (fun hc => ?_) (fun hc => ?_)
      · replace h := Eq.mp (if_pos hc) h
        exact v_vret dX8_readProduct_86 rfl h
      · replace h := Eq.mp (if_neg hc) h
        refine v_sub [0, 1, 2] rfl ?_
        exact v_X8_readProduct_p38 hR hK7 h
set_option maxHeartbeats 4000000 in
set_option maxRecDepth 100000 in
theorem v_X8_readProduct_p7 {G : Gl} {F : Fr} {d : Nat} {R : Nat → Shp → Nat → Int32 → (Mem → Prop) → Mem → Prop} {sh : Shp} {v0 : Nat} {v1 : Int32} {v2 : Int32} {Q : Mem → Prop} {m : Mem} (hR : GR (Fl F) G R (frG d) (loG d)) (h : X8_readProduct_p7 R sh v0 v1 Q v2 m) : V G F (M_X8_readProduct d) sh 0 0 (Zv G F sh Q) 7 [(0, .ref (G.1 + v0)), (1, .int v1), (2, .int v2)] [] m := by
  obtain ⟨n, h⟩ := h
  induction n generalizing v2 m with
  | zero => exact h.elim
  | succ n ih => exact v_X8_readProduct_p7b hR (fun _ _ h => ih h) h
set_option maxHeartbeats 4000000 in
set_option maxRecDepth 100000 in
theorem c_X8_readProduct {l : Launch} {G : Gl} {d : Nat} {R : Nat → Shp → Nat → Int32 → (Mem → Prop) → Mem → Prop} (hR : GR l G R (frG d) (loG d)) {sh : Shp} {v0 : Nat} {v1 : Int32} {Q : Mem → Prop} {m : Mem} (h : wp_X8_readProduct R sh v0 v1 Q m) : Cnv l G yX8_readProduct cX8_readProduct 4 (none : Option FieldType) (frG (d + 1)) (loG (d + 1)) sh [.ref (G.1 + v0), .int v1] m Q := by
  refine con_vl (ls := [(0, .ref (G.1 + v0)), (1, .int v1)]) (by decide +kernel) rfl (Nat.le_of_ble_eq_true rfl) (fun F hl => ?_)
  subst hl
  show V G F (M_X8_readProduct d) sh 0 0 (Zv G F sh Q) 0 [(0, .ref (G.1 + v0)), (1, .int v1)] [] m
  unfold wp_X8_readProduct at h
  refine v_aload_n 0 0 dX8_readProduct_0 rfl rfl ?_
  refine v_iload_n 1 1 dX8_readProduct_1 rfl rfl ?_
  obtain ⟨o3, h⟩ := h
  refine v_cVv [.int _] mv_X8_readPart ml_RX8_98 ⟨_, _, rfl⟩ o3 rfl rfl (Nat.le_of_ble_eq_true rfl) (by show _ ≤ frG (d + 1); simp only [frG]; omega) (by show _ ≤ loG (d + 1); simp only [loG]; omega) (Nat.zero_le _) (Nat.zero_le _) dX8_readProduct_2 (hR.2.2.2.2.2.2.1 h) (fun m2 h => ?_)
  refine v_iconst (0 : Int32) dX8_readProduct_5 (by decide) ?_
  refine v_istore_n (ls' := [(2, .int _), (0, .ref _), (1, .int _)]) 2 dX8_readProduct_6 rfl (Nat.le_of_ble_eq_true rfl) rfl ?_
  refine v_sub [1, 2, 0] rfl ?_
  exact v_X8_readProduct_p7 hR h
/-! CalledRiver$SumReader.readSum -/
theorem dX8_readSum_0 : decode cX8_readSum 0 = .ok (.aload_n 0, 1) := by decide +kernel
theorem dX8_readSum_1 : decode cX8_readSum 1 = .ok (.iload_n 1, 1) := by decide +kernel
theorem dX8_readSum_2 : decode cX8_readSum 2 = .ok (.invokevirtual 95, 3) := by decide +kernel
theorem dX8_readSum_5 : decode cX8_readSum 5 = .ok (.iconst 0, 1) := by decide +kernel
theorem dX8_readSum_6 : decode cX8_readSum 6 = .ok (.istore_n 2, 1) := by decide +kernel
theorem dX8_readSum_7 : decode cX8_readSum 7 = .ok (.iload_n 2, 1) := by decide +kernel
theorem dX8_readSum_8 : decode cX8_readSum 8 = .ok (.sipush 1600, 3) := by decide +kernel
theorem dX8_readSum_11 : decode cX8_readSum 11 = .ok (.if_icmp .ge 75, 3) := by decide +kernel
theorem dX8_readSum_14 : decode cX8_readSum 14 = .ok (.aload_n 0, 1) := by decide +kernel
theorem dX8_readSum_15 : decode cX8_readSum 15 = .ok (.getfield 9, 3) := by decide +kernel
theorem dX8_readSum_18 : decode cX8_readSum 18 = .ok (.bipush 43, 2) := by decide +kernel
theorem dX8_readSum_20 : decode cX8_readSum 20 = .ok (.invokevirtual 82, 3) := by decide +kernel
theorem dX8_readSum_23 : decode cX8_readSum 23 = .ok (.ifCond .ne 15, 3) := by decide +kernel
theorem dX8_readSum_26 : decode cX8_readSum 26 = .ok (.aload_n 0, 1) := by decide +kernel
theorem dX8_readSum_27 : decode cX8_readSum 27 = .ok (.getfield 9, 3) := by decide +kernel
theorem dX8_readSum_30 : decode cX8_readSum 30 = .ok (.bipush 45, 2) := by decide +kernel
theorem dX8_readSum_32 : decode cX8_readSum 32 = .ok (.invokevirtual 82, 3) := by decide +kernel
theorem dX8_readSum_35 : decode cX8_readSum 35 = .ok (.ifCond .eq 51, 3) := by decide +kernel
theorem dX8_readSum_38 : decode cX8_readSum 38 = .ok (.aload_n 0, 1) := by decide +kernel
theorem dX8_readSum_39 : decode cX8_readSum 39 = .ok (.getfield 9, 3) := by decide +kernel
theorem dX8_readSum_42 : decode cX8_readSum 42 = .ok (.bipush 43, 2) := by decide +kernel
theorem dX8_readSum_44 : decode cX8_readSum 44 = .ok (.invokevirtual 82, 3) := by decide +kernel
theorem dX8_readSum_47 : decode cX8_readSum 47 = .ok (.ifCond .eq 9, 3) := by decide +kernel
theorem dX8_readSum_50 : decode cX8_readSum 50 = .ok (.sipush 10026, 3) := by decide +kernel
theorem dX8_readSum_53 : decode cX8_readSum 53 = .ok (.goto 6, 3) := by decide +kernel
theorem dX8_readSum_56 : decode cX8_readSum 56 = .ok (.sipush 10027, 3) := by decide +kernel
theorem dX8_readSum_59 : decode cX8_readSum 59 = .ok (.istore_n 3, 1) := by decide +kernel
theorem dX8_readSum_60 : decode cX8_readSum 60 = .ok (.aload_n 0, 1) := by decide +kernel
theorem dX8_readSum_61 : decode cX8_readSum 61 = .ok (.getfield 9, 3) := by decide +kernel
theorem dX8_readSum_64 : decode cX8_readSum 64 = .ok (.invokevirtual 46, 3) := by decide +kernel
theorem dX8_readSum_67 : decode cX8_readSum 67 = .ok (.aload_n 0, 1) := by decide +kernel
theorem dX8_readSum_68 : decode cX8_readSum 68 = .ok (.iload_n 1, 1) := by decide +kernel
theorem dX8_readSum_69 : decode cX8_readSum 69 = .ok (.invokevirtual 95, 3) := by decide +kernel
theorem dX8_readSum_72 : decode cX8_readSum 72 = .ok (.aload_n 0, 1) := by decide +kernel
theorem dX8_readSum_73 : decode cX8_readSum 73 = .ok (.getfield 15, 3) := by decide +kernel
theorem dX8_readSum_76 : decode cX8_readSum 76 = .ok (.iload_n 3, 1) := by decide +kernel
theorem dX8_readSum_77 : decode cX8_readSum 77 = .ok (.invokevirtual 68, 3) := by decide +kernel
theorem dX8_readSum_80 : decode cX8_readSum 80 = .ok (.iinc 2 1, 3) := by decide +kernel
theorem dX8_readSum_83 : decode cX8_readSum 83 = .ok (.goto (-76), 3) := by decide +kernel
theorem dX8_readSum_86 : decode cX8_readSum 86 = .ok (.return_, 1) := by decide +kernel
def X8_readSum_p59 (R : Nat → Shp → Nat → Int32 → (Mem → Prop) → Mem → Prop) (sh : Shp) (v0 : Nat) (v1 : Int32) (v2 : Int32) (s0 : Int32) (Q : Mem → Prop) (K7 : Int32 → Mem → Prop) (m : Mem) : Prop :=
  Ob sh v0 8 ∧ ∃ b22 : Nat, m.2.2 v0 0 = some b22 ∧ (Ob sh b22 9 ∧ wp_X9_advance sh b22 (fun m25 => R 5 sh v0 v1 (fun m28 => ∃ b29 : Nat, m28.2.2 v0 1 = some b29 ∧ (Ob sh b29 0 ∧ wp_X0_add sh b29 s0 (fun m32 => K7 (v2 + (1 : Int32)) m32) m28)) m25) m)
def X8_readSum_p38 (R : Nat → Shp → Nat → Int32 → (Mem → Prop) → Mem → Prop) (sh : Shp) (v0 : Nat) (v1 : Int32) (v2 : Int32) (Q : Mem → Prop) (K7 : Int32 → Mem → Prop) (m : Mem) : Prop :=
  Ob sh v0 8 ∧ ∃ b16 : Nat, m.2.2 v0 0 = some b16 ∧ (Ob sh b16 9 ∧ wp_X9_isSign sh b16 (43 : Int32) (fun r18 m19 => if r18 = 0 then (X8_readSum_p59 R sh v0 v1 v2 (10027 : Int32) Q K7 m19) else (X8_readSum_p59 R sh v0 v1 v2 (10026 : Int32) Q K7 m19)) m)
def X8_readSum_p7b (R : Nat → Shp → Nat → Int32 → (Mem → Prop) → Mem → Prop) (sh : Shp) (v0 : Nat) (v1 : Int32) (Q : Mem → Prop) (K7 : Int32 → Mem → Prop) (v2 : Int32) (m : Mem) : Prop :=
  if (1600 : Int32) ≤ v2 then (Q m) else (Ob sh v0 8 ∧ ∃ b5 : Nat, m.2.2 v0 0 = some b5 ∧ (Ob sh b5 9 ∧ wp_X9_isSign sh b5 (43 : Int32) (fun r7 m8 => if r7 = 0 then (∃ b10 : Nat, m8.2.2 v0 0 = some b10 ∧ (Ob sh b10 9 ∧ wp_X9_isSign sh b10 (45 : Int32) (fun r12 m13 => if r12 = 0 then (Q m13) else (X8_readSum_p38 R sh v0 v1 v2 Q K7 m13)) m8)) else (X8_readSum_p38 R sh v0 v1 v2 Q K7 m8)) m))
def X8_readSum_p7n (R : Nat → Shp → Nat → Int32 → (Mem → Prop) → Mem → Prop) (sh : Shp) (v0 : Nat) (v1 : Int32) (Q : Mem → Prop) : Nat → Int32 → Mem → Prop
  | 0 => fun _ _ => False
  | n + 1 => X8_readSum_p7b R sh v0 v1 Q (X8_readSum_p7n R sh v0 v1 Q n)
def X8_readSum_p7 (R : Nat → Shp → Nat → Int32 → (Mem → Prop) → Mem → Prop) (sh : Shp) (v0 : Nat) (v1 : Int32) (Q : Mem → Prop) (v2 : Int32) (m : Mem) : Prop := ∃ n, X8_readSum_p7n R sh v0 v1 Q n v2 m
def wp_X8_readSum (R : Nat → Shp → Nat → Int32 → (Mem → Prop) → Mem → Prop) (sh : Shp) (v0 : Nat) (v1 : Int32) (Q : Mem → Prop) (m : Mem) : Prop :=
  Ob sh v0 8 ∧ R 5 sh v0 v1 (fun m2 => X8_readSum_p7 R sh v0 v1 Q (0 : Int32) m2) m
abbrev M_X8_readSum (d : Nat) : Mi := (cX8_readSum, 4, RX8, (none : Option FieldType), "readSum", frG (d + 1), loG (d + 1), 0, 0)
set_option maxHeartbeats 4000000 in
set_option maxRecDepth 100000 in
theorem v_X8_readSum_p59 {G : Gl} {F : Fr} {d : Nat} {R : Nat → Shp → Nat → Int32 → (Mem → Prop) → Mem → Prop} {sh : Shp} {v0 : Nat} {v1 : Int32} {v2 : Int32} {s0 : Int32} {Q : Mem → Prop} {K7 : Int32 → Mem → Prop} {m : Mem} (hR : GR (Fl F) G R (frG d) (loG d)) (hK7 : ∀ (x2 : Int32) (m : Mem), K7 x2 m → V G F (M_X8_readSum d) sh 0 0 (Zv G F sh Q) 7 [(0, .ref (G.1 + v0)), (1, .int v1), (2, .int x2)] [] m) (h : X8_readSum_p59 R sh v0 v1 v2 s0 Q K7 m) : V G F (M_X8_readSum d) sh 0 0 (Zv G F sh Q) 59 [(0, .ref (G.1 + v0)), (1, .int v1), (2, .int v2)] [.int s0] m := by
  unfold X8_readSum_p59 at h
  refine v_istore_n (ls' := [(3, .int _), (0, .ref _), (1, .int _), (2, .int _)]) 3 dX8_readSum_59 rfl (Nat.le_of_ble_eq_true rfl) rfl ?_
  refine v_aload_n 0 1 dX8_readSum_60 rfl rfl ?_
  obtain ⟨o21, h⟩ := h
  obtain ⟨b22, e23, h⟩ := h
  refine v_gR 8 0 dX8_readSum_61 fg_RX8_9 o21 e23 ?_
  obtain ⟨o26, h⟩ := h
  refine v_cVv [] mv_X9_advance ml_RX8_46 ⟨_, _, rfl⟩ o26 rfl rfl (Nat.le_of_ble_eq_true rfl) (by show _ ≤ frG (d + 1); simp only [frG]; omega) (by show _ ≤ loG (d + 1); simp only [loG]; omega) (Nat.zero_le _) (Nat.zero_le _) dX8_readSum_64 (c_X9_advance h) (fun m25 h => ?_)
  refine v_aload_n 0 1 dX8_readSum_67 rfl rfl ?_
  refine v_iload_n 1 2 dX8_readSum_68 rfl rfl ?_
  refine v_cVv [.int _] mv_X8_readProduct ml_RX8_95 ⟨_, _, rfl⟩ o21 rfl rfl (Nat.le_of_ble_eq_true rfl) (by show _ ≤ frG (d + 1); simp only [frG]; omega) (by show _ ≤ loG (d + 1); simp only [loG]; omega) (Nat.zero_le _) (Nat.zero_le _) dX8_readSum_69 (hR.2.2.2.2.2.1 h) (fun m28 h => ?_)
  refine v_aload_n 0 1 dX8_readSum_72 rfl rfl ?_
  obtain ⟨b29, e30, h⟩ := h
  refine v_gR 8 1 dX8_readSum_73 fg_RX8_15 o21 e30 ?_
  refine v_iload_n 3 0 dX8_readSum_76 rfl rfl ?_
  obtain ⟨o33, h⟩ := h
  refine v_cVv [.int _] mv_X0_add ml_RX8_68 ⟨_, _, rfl⟩ o33 rfl rfl (Nat.le_of_ble_eq_true rfl) (by show _ ≤ frG (d + 1); simp only [frG]; omega) (by show _ ≤ loG (d + 1); simp only [loG]; omega) (Nat.zero_le _) (Nat.zero_le _) dX8_readSum_77 (c_X0_add h) (fun m32 h => ?_)
  refine v_iinc (ls' := [(2, .int _), (3, .int _), (0, .ref _), (1, .int _)]) 2 3 dX8_readSum_80 rfl (congrArg (HAdd.hAdd _) (by decide : Int32.ofInt (1) = (1 : Int32))) (Nat.le_of_ble_eq_true rfl) rfl ?_
  refine v_goto 7 dX8_readSum_83 (by decide) ?_
  refine v_sub [2, 3, 0] rfl ?_
  exact hK7 _ _ h
set_option maxHeartbeats 4000000 in
set_option maxRecDepth 100000 in
theorem v_X8_readSum_p38 {G : Gl} {F : Fr} {d : Nat} {R : Nat → Shp → Nat → Int32 → (Mem → Prop) → Mem → Prop} {sh : Shp} {v0 : Nat} {v1 : Int32} {v2 : Int32} {Q : Mem → Prop} {K7 : Int32 → Mem → Prop} {m : Mem} (hR : GR (Fl F) G R (frG d) (loG d)) (hK7 : ∀ (x2 : Int32) (m : Mem), K7 x2 m → V G F (M_X8_readSum d) sh 0 0 (Zv G F sh Q) 7 [(0, .ref (G.1 + v0)), (1, .int v1), (2, .int x2)] [] m) (h : X8_readSum_p38 R sh v0 v1 v2 Q K7 m) : V G F (M_X8_readSum d) sh 0 0 (Zv G F sh Q) 38 [(0, .ref (G.1 + v0)), (1, .int v1), (2, .int v2)] [] m := by
  unfold X8_readSum_p38 at h
  refine v_aload_n 0 0 dX8_readSum_38 rfl rfl ?_
  obtain ⟨o15, h⟩ := h
  obtain ⟨b16, e17, h⟩ := h
  refine v_gR 8 0 dX8_readSum_39 fg_RX8_9 o15 e17 ?_
  refine v_bipush (43 : Int32) dX8_readSum_42 (by decide) ?_
  obtain ⟨o20, h⟩ := h
  refine v_cVi [.int _] mv_X9_isSign ml_RX8_82 ⟨_, _, rfl⟩ o20 rfl rfl (Nat.le_of_ble_eq_true rfl) (by show _ ≤ frG (d + 1); simp only [frG]; omega) (by show _ ≤ loG (d + 1); simp only [loG]; omega) (Nat.zero_le _) (Nat.zero_le _) dX8_readSum_44 (c_X9_isSign h) (fun r18 m19 h => ?_)
  refine v_if_eq 56 dX8_readSum_47 (by decide) (fun hc => ?_) (fun hc => ?_)
  · replace h := Eq.mp (if_pos hc) h
    refine v_sipush (10027 : Int32) dX8_readSum_56 (by decide) ?_
    refine v_sub [0, 1, 2] rfl ?_
    exact v_X8_readSum_p59 hR hK7 h
  · replace h := Eq.mp (if_neg hc) h
    refine v_sipush (10026 : Int32) dX8_readSum_50 (by decide) ?_
    refine v_goto 59 dX8_readSum_53 (by decide) ?_
    refine v_sub [0, 1, 2] rfl ?_
    exact v_X8_readSum_p59 hR hK7 h
set_option maxHeartbeats 4000000 in
set_option maxRecDepth 100000 in
theorem v_X8_readSum_p7b {G : Gl} {F : Fr} {d : Nat} {R : Nat → Shp → Nat → Int32 → (Mem → Prop) → Mem → Prop} {sh : Shp} {v0 : Nat} {v1 : Int32} {v2 : Int32} {Q : Mem → Prop} {K7 : Int32 → Mem → Prop} {m : Mem} (hR : GR (Fl F) G R (frG d) (loG d)) (hK7 : ∀ (x2 : Int32) (m : Mem), K7 x2 m → V G F (M_X8_readSum d) sh 0 0 (Zv G F sh Q) 7 [(0, .ref (G.1 + v0)), (1, .int v1), (2, .int x2)] [] m) (h : X8_readSum_p7b R sh v0 v1 Q K7 v2 m) : V G F (M_X8_readSum d) sh 0 0 (Zv G F sh Q) 7 [(0, .ref (G.1 + v0)), (1, .int v1), (2, .int v2)] [] m := by
  unfold X8_readSum_p7b at h
  refine v_iload_n 2 2 dX8_readSum_7 rfl rfl ?_
  refine v_sipush (1600 : Int32) dX8_readSum_8 (by decide) ?_
  refine v_icmp_ge 86 dX8_readSum_11 (by decide) (fun hc => ?_) (fun hc => ?_)
  · replace h := Eq.mp (if_pos hc) h
    exact v_vret dX8_readSum_86 rfl h
  · replace h := Eq.mp (if_neg hc) h
    refine v_aload_n 0 0 dX8_readSum_14 rfl rfl ?_
    obtain ⟨o4, h⟩ := h
    obtain ⟨b5, e6, h⟩ := h
    refine v_gR 8 0 dX8_readSum_15 fg_RX8_9 o4 e6 ?_
    refine v_bipush (43 : Int32) dX8_readSum_18 (by decide) ?_
    obtain ⟨o9, h⟩ := h
    refine v_cVi [.int _] mv_X9_isSign ml_RX8_82 ⟨_, _, rfl⟩ o9 rfl rfl (Nat.le_of_ble_eq_true rfl) (by show _ ≤ frG (d + 1); simp only [frG]; omega) (by show _ ≤ loG (d + 1); simp only [loG]; omega) (Nat.zero_le _) (Nat.zero_le _) dX8_readSum_20 (c_X9_isSign h) (fun r7 m8 h => ?_)
    refine v_if_ne 38 dX8_readSum_23 (by decide) (fun hc => ?_) (fun hc => ?_)
    · replace h := Eq.mp (if_neg hc) h
      refine v_sub [0, 1, 2] rfl ?_
      exact v_X8_readSum_p38 hR hK7 h
    · replace h := Eq.mp (if_pos hc) h
      refine v_aload_n 0 0 dX8_readSum_26 rfl rfl ?_
      obtain ⟨b10, e11, h⟩ := h
      refine v_gR 8 0 dX8_readSum_27 fg_RX8_9 o4 e11 ?_
      refine v_bipush (45 : Int32) dX8_readSum_30 (by decide) ?_
      obtain ⟨o14, h⟩ := h
      refine v_cVi [.int _] mv_X9_isSign ml_RX8_82 ⟨_, _, rfl⟩ o14 rfl rfl (Nat.le_of_ble_eq_true rfl) (by show _ ≤ frG (d + 1); simp only [frG]; omega) (by show _ ≤ loG (d + 1); simp only [loG]; omega) (Nat.zero_le _) (Nat.zero_le _) dX8_readSum_32 (c_X9_isSign h) (fun r12 m13 h => ?_)
      refine v_if_eq 86 dX8_readSum_35 (by decide) (fun hc => ?_) (fun hc => ?_)
      · replace h := Eq.mp (if_pos hc) h
        exact v_vret dX8_readSum_86 rfl h
      · replace h := Eq.mp (if_neg hc) h
        refine v_sub [0, 1, 2] rfl ?_
        exact v_X8_readSum_p38 hR hK7 h
set_option maxHeartbeats 4000000 in
set_option maxRecDepth 100000 in
theorem v_X8_readSum_p7 {G : Gl} {F : Fr} {d : Nat} {R : Nat → Shp → Nat → Int32 → (Mem → Prop) → Mem → Prop} {sh : Shp} {v0 : Nat} {v1 : Int32} {v2 : Int32} {Q : Mem → Prop} {m : Mem} (hR : GR (Fl F) G R (frG d) (loG d)) (h : X8_readSum_p7 R sh v0 v1 Q v2 m) : V G F (M_X8_readSum d) sh 0 0 (Zv G F sh Q) 7 [(0, .ref (G.1 + v0)), (1, .int v1), (2, .int v2)] [] m := by
  obtain ⟨n, h⟩ := h
  induction n generalizing v2 m with
  | zero => exact h.elim
  | succ n ih => exact v_X8_readSum_p7b hR (fun _ _ h => ih h) h
set_option maxHeartbeats 4000000 in
set_option maxRecDepth 100000 in
theorem c_X8_readSum {l : Launch} {G : Gl} {d : Nat} {R : Nat → Shp → Nat → Int32 → (Mem → Prop) → Mem → Prop} (hR : GR l G R (frG d) (loG d)) {sh : Shp} {v0 : Nat} {v1 : Int32} {Q : Mem → Prop} {m : Mem} (h : wp_X8_readSum R sh v0 v1 Q m) : Cnv l G yX8_readSum cX8_readSum 4 (none : Option FieldType) (frG (d + 1)) (loG (d + 1)) sh [.ref (G.1 + v0), .int v1] m Q := by
  refine con_vl (ls := [(0, .ref (G.1 + v0)), (1, .int v1)]) (by decide +kernel) rfl (Nat.le_of_ble_eq_true rfl) (fun F hl => ?_)
  subst hl
  show V G F (M_X8_readSum d) sh 0 0 (Zv G F sh Q) 0 [(0, .ref (G.1 + v0)), (1, .int v1)] [] m
  unfold wp_X8_readSum at h
  refine v_aload_n 0 0 dX8_readSum_0 rfl rfl ?_
  refine v_iload_n 1 1 dX8_readSum_1 rfl rfl ?_
  obtain ⟨o3, h⟩ := h
  refine v_cVv [.int _] mv_X8_readProduct ml_RX8_95 ⟨_, _, rfl⟩ o3 rfl rfl (Nat.le_of_ble_eq_true rfl) (by show _ ≤ frG (d + 1); simp only [frG]; omega) (by show _ ≤ loG (d + 1); simp only [loG]; omega) (Nat.zero_le _) (Nat.zero_le _) dX8_readSum_2 (hR.2.2.2.2.2.1 h) (fun m2 h => ?_)
  refine v_iconst (0 : Int32) dX8_readSum_5 (by decide) ?_
  refine v_istore_n (ls' := [(2, .int _), (0, .ref _), (1, .int _)]) 2 dX8_readSum_6 rfl (Nat.le_of_ble_eq_true rfl) rfl ?_
  refine v_sub [1, 2, 0] rfl ?_
  exact v_X8_readSum_p7 hR h
/-! CalledRiver$SumReader.readTest -/
theorem dX8_readTest_0 : decode cX8_readTest 0 = .ok (.aload_n 0, 1) := by decide +kernel
theorem dX8_readTest_1 : decode cX8_readTest 1 = .ok (.iload_n 1, 1) := by decide +kernel
theorem dX8_readTest_2 : decode cX8_readTest 2 = .ok (.invokevirtual 63, 3) := by decide +kernel
theorem dX8_readTest_5 : decode cX8_readTest 5 = .ok (.iconst 0, 1) := by decide +kernel
theorem dX8_readTest_6 : decode cX8_readTest 6 = .ok (.istore_n 2, 1) := by decide +kernel
theorem dX8_readTest_7 : decode cX8_readTest 7 = .ok (.iload_n 2, 1) := by decide +kernel
theorem dX8_readTest_8 : decode cX8_readTest 8 = .ok (.sipush 1600, 3) := by decide +kernel
theorem dX8_readTest_11 : decode cX8_readTest 11 = .ok (.if_icmp .ge 43, 3) := by decide +kernel
theorem dX8_readTest_14 : decode cX8_readTest 14 = .ok (.aload_n 0, 1) := by decide +kernel
theorem dX8_readTest_15 : decode cX8_readTest 15 = .ok (.getfield 9, 3) := by decide +kernel
theorem dX8_readTest_18 : decode cX8_readTest 18 = .ok (.ldc 66, 2) := by decide +kernel
theorem dX8_readTest_20 : decode cX8_readTest 20 = .ok (.invokevirtual 34, 3) := by decide +kernel
theorem dX8_readTest_23 : decode cX8_readTest 23 = .ok (.ifCond .ne 31, 3) := by decide +kernel
theorem dX8_readTest_26 : decode cX8_readTest 26 = .ok (.aload_n 0, 1) := by decide +kernel
theorem dX8_readTest_27 : decode cX8_readTest 27 = .ok (.getfield 9, 3) := by decide +kernel
theorem dX8_readTest_30 : decode cX8_readTest 30 = .ok (.invokevirtual 46, 3) := by decide +kernel
theorem dX8_readTest_33 : decode cX8_readTest 33 = .ok (.aload_n 0, 1) := by decide +kernel
theorem dX8_readTest_34 : decode cX8_readTest 34 = .ok (.iload_n 1, 1) := by decide +kernel
theorem dX8_readTest_35 : decode cX8_readTest 35 = .ok (.invokevirtual 63, 3) := by decide +kernel
theorem dX8_readTest_38 : decode cX8_readTest 38 = .ok (.aload_n 0, 1) := by decide +kernel
theorem dX8_readTest_39 : decode cX8_readTest 39 = .ok (.getfield 15, 3) := by decide +kernel
theorem dX8_readTest_42 : decode cX8_readTest 42 = .ok (.sipush 10031, 3) := by decide +kernel
theorem dX8_readTest_45 : decode cX8_readTest 45 = .ok (.invokevirtual 68, 3) := by decide +kernel
theorem dX8_readTest_48 : decode cX8_readTest 48 = .ok (.iinc 2 1, 3) := by decide +kernel
theorem dX8_readTest_51 : decode cX8_readTest 51 = .ok (.goto (-44), 3) := by decide +kernel
theorem dX8_readTest_54 : decode cX8_readTest 54 = .ok (.return_, 1) := by decide +kernel
def X8_readTest_p7b (R : Nat → Shp → Nat → Int32 → (Mem → Prop) → Mem → Prop) (sh : Shp) (v0 : Nat) (v1 : Int32) (Q : Mem → Prop) (K7 : Int32 → Mem → Prop) (v2 : Int32) (m : Mem) : Prop :=
  if (1600 : Int32) ≤ v2 then (Q m) else (Ob sh v0 8 ∧ ∃ b5 : Nat, m.2.2 v0 0 = some b5 ∧ (Ob sh b5 9 ∧ wp_X9_wordIn sh b5 18 (fun r7 m8 => if r7 = 0 then (∃ b10 : Nat, m8.2.2 v0 0 = some b10 ∧ (Ob sh b10 9 ∧ wp_X9_advance sh b10 (fun m13 => R 1 sh v0 v1 (fun m16 => ∃ b17 : Nat, m16.2.2 v0 1 = some b17 ∧ (Ob sh b17 0 ∧ wp_X0_add sh b17 (10031 : Int32) (fun m20 => K7 (v2 + (1 : Int32)) m20) m16)) m13) m8)) else (Q m8)) m))
def X8_readTest_p7n (R : Nat → Shp → Nat → Int32 → (Mem → Prop) → Mem → Prop) (sh : Shp) (v0 : Nat) (v1 : Int32) (Q : Mem → Prop) : Nat → Int32 → Mem → Prop
  | 0 => fun _ _ => False
  | n + 1 => X8_readTest_p7b R sh v0 v1 Q (X8_readTest_p7n R sh v0 v1 Q n)
def X8_readTest_p7 (R : Nat → Shp → Nat → Int32 → (Mem → Prop) → Mem → Prop) (sh : Shp) (v0 : Nat) (v1 : Int32) (Q : Mem → Prop) (v2 : Int32) (m : Mem) : Prop := ∃ n, X8_readTest_p7n R sh v0 v1 Q n v2 m
def wp_X8_readTest (R : Nat → Shp → Nat → Int32 → (Mem → Prop) → Mem → Prop) (sh : Shp) (v0 : Nat) (v1 : Int32) (Q : Mem → Prop) (m : Mem) : Prop :=
  Ob sh v0 8 ∧ R 1 sh v0 v1 (fun m2 => X8_readTest_p7 R sh v0 v1 Q (0 : Int32) m2) m
abbrev M_X8_readTest (d : Nat) : Mi := (cX8_readTest, 3, RX8, (none : Option FieldType), "readTest", frG (d + 1), loG (d + 1), 0, 0)
set_option maxHeartbeats 4000000 in
set_option maxRecDepth 100000 in
theorem v_X8_readTest_p7b {G : Gl} {F : Fr} {d : Nat} {R : Nat → Shp → Nat → Int32 → (Mem → Prop) → Mem → Prop} {sh : Shp} {v0 : Nat} {v1 : Int32} {v2 : Int32} {Q : Mem → Prop} {K7 : Int32 → Mem → Prop} {m : Mem} (hR : GR (Fl F) G R (frG d) (loG d)) (hK7 : ∀ (x2 : Int32) (m : Mem), K7 x2 m → V G F (M_X8_readTest d) sh 0 0 (Zv G F sh Q) 7 [(0, .ref (G.1 + v0)), (1, .int v1), (2, .int x2)] [] m) (h : X8_readTest_p7b R sh v0 v1 Q K7 v2 m) : V G F (M_X8_readTest d) sh 0 0 (Zv G F sh Q) 7 [(0, .ref (G.1 + v0)), (1, .int v1), (2, .int v2)] [] m := by
  unfold X8_readTest_p7b at h
  refine v_iload_n 2 2 dX8_readTest_7 rfl rfl ?_
  refine v_sipush (1600 : Int32) dX8_readTest_8 (by decide) ?_
  refine v_icmp_ge 54 dX8_readTest_11 (by decide) (fun hc => ?_) (fun hc => ?_)
  · replace h := Eq.mp (if_pos hc) h
    exact v_vret dX8_readTest_54 rfl h
  · replace h := Eq.mp (if_neg hc) h
    refine v_aload_n 0 0 dX8_readTest_14 rfl rfl ?_
    obtain ⟨o4, h⟩ := h
    obtain ⟨b5, e6, h⟩ := h
    refine v_gR 8 0 dX8_readTest_15 fg_RX8_9 o4 e6 ?_
    refine v_ldcS (tx := "or") 18 dX8_readTest_18 (List.mem_of_getElem? (i := 18) rfl) ?_
    obtain ⟨o9, h⟩ := h
    refine v_cVi [.ref _] mv_X9_wordIn ml_RX8_34 ⟨_, _, rfl⟩ o9 rfl rfl (Nat.le_of_ble_eq_true rfl) (by show _ ≤ frG (d + 1); simp only [frG]; omega) (by show _ ≤ loG (d + 1); simp only [loG]; omega) (Nat.zero_le _) (Nat.zero_le _) dX8_readTest_20 (c_X9_wordIn h) (fun r7 m8 h => ?_)
    refine v_if_ne 54 dX8_readTest_23 (by decide) (fun hc => ?_) (fun hc => ?_)
    · replace h := Eq.mp (if_neg hc) h
      exact v_vret dX8_readTest_54 rfl h
    · replace h := Eq.mp (if_pos hc) h
      refine v_aload_n 0 0 dX8_readTest_26 rfl rfl ?_
      obtain ⟨b10, e11, h⟩ := h
      refine v_gR 8 0 dX8_readTest_27 fg_RX8_9 o4 e11 ?_
      obtain ⟨o14, h⟩ := h
      refine v_cVv [] mv_X9_advance ml_RX8_46 ⟨_, _, rfl⟩ o14 rfl rfl (Nat.le_of_ble_eq_true rfl) (by show _ ≤ frG (d + 1); simp only [frG]; omega) (by show _ ≤ loG (d + 1); simp only [loG]; omega) (Nat.zero_le _) (Nat.zero_le _) dX8_readTest_30 (c_X9_advance h) (fun m13 h => ?_)
      refine v_aload_n 0 0 dX8_readTest_33 rfl rfl ?_
      refine v_iload_n 1 1 dX8_readTest_34 rfl rfl ?_
      refine v_cVv [.int _] mv_X8_readBoth ml_RX8_63 ⟨_, _, rfl⟩ o4 rfl rfl (Nat.le_of_ble_eq_true rfl) (by show _ ≤ frG (d + 1); simp only [frG]; omega) (by show _ ≤ loG (d + 1); simp only [loG]; omega) (Nat.zero_le _) (Nat.zero_le _) dX8_readTest_35 (hR.2.1 h) (fun m16 h => ?_)
      refine v_aload_n 0 0 dX8_readTest_38 rfl rfl ?_
      obtain ⟨b17, e18, h⟩ := h
      refine v_gR 8 1 dX8_readTest_39 fg_RX8_15 o4 e18 ?_
      refine v_sipush (10031 : Int32) dX8_readTest_42 (by decide) ?_
      obtain ⟨o21, h⟩ := h
      refine v_cVv [.int _] mv_X0_add ml_RX8_68 ⟨_, _, rfl⟩ o21 rfl rfl (Nat.le_of_ble_eq_true rfl) (by show _ ≤ frG (d + 1); simp only [frG]; omega) (by show _ ≤ loG (d + 1); simp only [loG]; omega) (Nat.zero_le _) (Nat.zero_le _) dX8_readTest_45 (c_X0_add h) (fun m20 h => ?_)
      refine v_iinc (ls' := [(2, .int _), (0, .ref _), (1, .int _)]) 2 2 dX8_readTest_48 rfl (congrArg (HAdd.hAdd _) (by decide : Int32.ofInt (1) = (1 : Int32))) (Nat.le_of_ble_eq_true rfl) rfl ?_
      refine v_goto 7 dX8_readTest_51 (by decide) ?_
      refine v_sub [1, 2, 0] rfl ?_
      exact hK7 _ _ h
set_option maxHeartbeats 4000000 in
set_option maxRecDepth 100000 in
theorem v_X8_readTest_p7 {G : Gl} {F : Fr} {d : Nat} {R : Nat → Shp → Nat → Int32 → (Mem → Prop) → Mem → Prop} {sh : Shp} {v0 : Nat} {v1 : Int32} {v2 : Int32} {Q : Mem → Prop} {m : Mem} (hR : GR (Fl F) G R (frG d) (loG d)) (h : X8_readTest_p7 R sh v0 v1 Q v2 m) : V G F (M_X8_readTest d) sh 0 0 (Zv G F sh Q) 7 [(0, .ref (G.1 + v0)), (1, .int v1), (2, .int v2)] [] m := by
  obtain ⟨n, h⟩ := h
  induction n generalizing v2 m with
  | zero => exact h.elim
  | succ n ih => exact v_X8_readTest_p7b hR (fun _ _ h => ih h) h
set_option maxHeartbeats 4000000 in
set_option maxRecDepth 100000 in
theorem c_X8_readTest {l : Launch} {G : Gl} {d : Nat} {R : Nat → Shp → Nat → Int32 → (Mem → Prop) → Mem → Prop} (hR : GR l G R (frG d) (loG d)) {sh : Shp} {v0 : Nat} {v1 : Int32} {Q : Mem → Prop} {m : Mem} (h : wp_X8_readTest R sh v0 v1 Q m) : Cnv l G yX8_readTest cX8_readTest 3 (none : Option FieldType) (frG (d + 1)) (loG (d + 1)) sh [.ref (G.1 + v0), .int v1] m Q := by
  refine con_vl (ls := [(0, .ref (G.1 + v0)), (1, .int v1)]) (by decide +kernel) rfl (Nat.le_of_ble_eq_true rfl) (fun F hl => ?_)
  subst hl
  show V G F (M_X8_readTest d) sh 0 0 (Zv G F sh Q) 0 [(0, .ref (G.1 + v0)), (1, .int v1)] [] m
  unfold wp_X8_readTest at h
  refine v_aload_n 0 0 dX8_readTest_0 rfl rfl ?_
  refine v_iload_n 1 1 dX8_readTest_1 rfl rfl ?_
  obtain ⟨o3, h⟩ := h
  refine v_cVv [.int _] mv_X8_readBoth ml_RX8_63 ⟨_, _, rfl⟩ o3 rfl rfl (Nat.le_of_ble_eq_true rfl) (by show _ ≤ frG (d + 1); simp only [frG]; omega) (by show _ ≤ loG (d + 1); simp only [loG]; omega) (Nat.zero_le _) (Nat.zero_le _) dX8_readTest_2 (hR.2.1 h) (fun m2 h => ?_)
  refine v_iconst (0 : Int32) dX8_readTest_5 (by decide) ?_
  refine v_istore_n (ls' := [(2, .int _), (0, .ref _), (1, .int _)]) 2 dX8_readTest_6 rfl (Nat.le_of_ble_eq_true rfl) rfl ?_
  refine v_sub [1, 2, 0] rfl ?_
  exact v_X8_readTest_p7 hR h
def wpG : Nat → Nat → Shp → Nat → Int32 → (Mem → Prop) → Mem → Prop
  | 0, _ => fun _ _ _ _ _ => False
  | d + 1, w => if w = 0 then wp_X8_readTest (wpG d) else if w = 1 then wp_X8_readBoth (wpG d) else if w = 2 then wp_X8_readFact (wpG d) else if w = 3 then wp_X8_readComparison (wpG d) else if w = 4 then wp_X8_readSum (wpG d) else if w = 5 then wp_X8_readProduct (wpG d) else if w = 6 then wp_X8_readPart (wpG d) else if w = 7 then wp_X8_readPair (wpG d) else wp_X8_readOfCaller (wpG d)
theorem gr_all {l : Launch} {G : Gl} : ∀ d, GR l G (wpG d) (frG d) (loG d)
  | 0 => ⟨fun h => h.elim, fun h => h.elim, fun h => h.elim, fun h => h.elim, fun h => h.elim, fun h => h.elim, fun h => h.elim, fun h => h.elim, fun h => h.elim⟩
  | d + 1 => ⟨fun h => c_X8_readTest (gr_all d) h, fun h => c_X8_readBoth (gr_all d) h, fun h => c_X8_readFact (gr_all d) h, fun h => c_X8_readComparison (gr_all d) h, fun h => c_X8_readSum (gr_all d) h, fun h => c_X8_readProduct (gr_all d) h, fun h => c_X8_readPart (gr_all d) h, fun h => c_X8_readPair (gr_all d) h, fun h => c_X8_readOfCaller (gr_all d) h⟩
