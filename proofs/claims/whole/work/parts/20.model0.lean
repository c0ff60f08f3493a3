/-! CalledRiverModel.isIn -/
theorem dX12_isIn_0 : decode cX12_isIn 0 = .ok (.lload_n 0, 1) := by decide +kernel
theorem dX12_isIn_1 : decode cX12_isIn 1 = .ok (.lload_n 2, 1) := by decide +kernel
theorem dX12_isIn_2 : decode cX12_isIn 2 = .ok (.lcmp, 1) := by decide +kernel
theorem dX12_isIn_3 : decode cX12_isIn 3 = .ok (.ifCond .lt 14, 3) := by decide +kernel
theorem dX12_isIn_6 : decode cX12_isIn 6 = .ok (.lload_n 0, 1) := by decide +kernel
theorem dX12_isIn_7 : decode cX12_isIn 7 = .ok (.lload 4, 2) := by decide +kernel
theorem dX12_isIn_9 : decode cX12_isIn 9 = .ok (.lcmp, 1) := by decide +kernel
theorem dX12_isIn_10 : decode cX12_isIn 10 = .ok (.ifCond .gt 7, 3) := by decide +kernel
theorem dX12_isIn_13 : decode cX12_isIn 13 = .ok (.iconst 1, 1) := by decide +kernel
theorem dX12_isIn_14 : decode cX12_isIn 14 = .ok (.goto 4, 3) := by decide +kernel
theorem dX12_isIn_17 : decode cX12_isIn 17 = .ok (.iconst 0, 1) := by decide +kernel
theorem dX12_isIn_18 : decode cX12_isIn 18 = .ok (.ireturn, 1) := by decide +kernel
def wp_X12_isIn (sh : Shp) (v0 : Int64) (v2 : Int64) (v4 : Int64) (Q : Int32 → Mem → Prop) (m : Mem) : Prop :=
  if (lg_cmp v0 v2) < 0 then (Q (0 : Int32) m) else (if 0 < (lg_cmp v0 v4) then (Q (0 : Int32) m) else (Q (1 : Int32) m))
abbrev M_X12_isIn : Mi := (cX12_isIn, 6, RX12, (Option.some FieldType.boolean), "isIn", 1, 60, 0, 0)
set_option maxHeartbeats 4000000 in
set_option maxRecDepth 100000 in
theorem c_X12_isIn {l : Launch} {G : Gl} {sh : Shp} {v0 : Int64} {v2 : Int64} {v4 : Int64} {Q : Int32 → Mem → Prop} {m : Mem} (h : wp_X12_isIn sh v0 v2 v4 Q m) : Cni l G yX12_isIn cX12_isIn 6 (Option.some FieldType.boolean) 1 60 sh [.long v0, .long v2, .long v4] m Q := by
  refine con_i (ls := [(0, .long v0), (2, .long v2), (4, .long v4)]) (by decide +kernel) rfl (Nat.le_of_ble_eq_true rfl) (fun F => ?_)
  show V G F M_X12_isIn sh 0 0 (Zi G F sh Q) 0 [(0, .long v0), (2, .long v2), (4, .long v4)] [] m
  unfold wp_X12_isIn at h
  refine v_lload_n 0 0 dX12_isIn_0 rfl rfl ?_
  refine v_lload_n 2 1 dX12_isIn_1 rfl rfl ?_
  refine v_lcmp dX12_isIn_2 ?_
  refine v_if_lt 17 dX12_isIn_3 (by decide) (fun hc => ?_) (fun hc => ?_)
  · replace h := Eq.mp (if_pos hc) h
    refine v_iconst (0 : Int32) dX12_isIn_17 (by decide) ?_
    exact v_iret dX12_isIn_18 rfl (by decide) h
  · replace h := Eq.mp (if_neg hc) h
    refine v_lload_n 0 0 dX12_isIn_6 rfl rfl ?_
    refine v_lload 4 2 dX12_isIn_7 rfl ?_
    refine v_lcmp dX12_isIn_9 ?_
    refine v_if_gt 17 dX12_isIn_10 (by decide) (fun hc => ?_) (fun hc => ?_)
    · replace h := Eq.mp (if_pos hc) h
      refine v_iconst (0 : Int32) dX12_isIn_17 (by decide) ?_
      exact v_iret dX12_isIn_18 rfl (by decide) h
    · replace h := Eq.mp (if_neg hc) h
      refine v_iconst (1 : Int32) dX12_isIn_13 (by decide) ?_
      refine v_goto 18 dX12_isIn_14 (by decide) ?_
      exact v_iret dX12_isIn_18 rfl (by decide) h
/-! CalledRiverModel.cellAt -/
theorem dX12_cellAt_0 : decode cX12_cellAt 0 = .ok (.aload_n 0, 1) := by decide +kernel
theorem dX12_cellAt_1 : decode cX12_cellAt 1 = .ok (.getfield 423, 3) := by decide +kernel
theorem dX12_cellAt_4 : decode cX12_cellAt 4 = .ok (.ifCond .eq 48, 3) := by decide +kernel
theorem dX12_cellAt_7 : decode cX12_cellAt 7 = .ok (.iload_n 1, 1) := by decide +kernel
theorem dX12_cellAt_8 : decode cX12_cellAt 8 = .ok (.i2l, 1) := by decide +kernel
theorem dX12_cellAt_9 : decode cX12_cellAt 9 = .ok (.lconst 0, 1) := by decide +kernel
theorem dX12_cellAt_10 : decode cX12_cellAt 10 = .ok (.aload_n 0, 1) := by decide +kernel
theorem dX12_cellAt_11 : decode cX12_cellAt 11 = .ok (.getfield 111, 3) := by decide +kernel
theorem dX12_cellAt_14 : decode cX12_cellAt 14 = .ok (.iconst 2, 1) := by decide +kernel
theorem dX12_cellAt_15 : decode cX12_cellAt 15 = .ok (.iaload, 1) := by decide +kernel
theorem dX12_cellAt_16 : decode cX12_cellAt 16 = .ok (.iconst 1, 1) := by decide +kernel
theorem dX12_cellAt_17 : decode cX12_cellAt 17 = .ok (.isub, 1) := by decide +kernel
theorem dX12_cellAt_18 : decode cX12_cellAt 18 = .ok (.i2l, 1) := by decide +kernel
theorem dX12_cellAt_19 : decode cX12_cellAt 19 = .ok (.invokestatic 328, 3) := by decide +kernel
theorem dX12_cellAt_22 : decode cX12_cellAt 22 = .ok (.ifCond .eq 30, 3) := by decide +kernel
theorem dX12_cellAt_25 : decode cX12_cellAt 25 = .ok (.iload_n 2, 1) := by decide +kernel
theorem dX12_cellAt_26 : decode cX12_cellAt 26 = .ok (.i2l, 1) := by decide +kernel
theorem dX12_cellAt_27 : decode cX12_cellAt 27 = .ok (.lconst 0, 1) := by decide +kernel
theorem dX12_cellAt_28 : decode cX12_cellAt 28 = .ok (.aload_n 0, 1) := by decide +kernel
theorem dX12_cellAt_29 : decode cX12_cellAt 29 = .ok (.getfield 111, 3) := by decide +kernel
theorem dX12_cellAt_32 : decode cX12_cellAt 32 = .ok (.iconst 3, 1) := by decide +kernel
theorem dX12_cellAt_33 : decode cX12_cellAt 33 = .ok (.iaload, 1) := by decide +kernel
theorem dX12_cellAt_34 : decode cX12_cellAt 34 = .ok (.iconst 1, 1) := by decide +kernel
theorem dX12_cellAt_35 : decode cX12_cellAt 35 = .ok (.isub, 1) := by decide +kernel
theorem dX12_cellAt_36 : decode cX12_cellAt 36 = .ok (.i2l, 1) := by decide +kernel
theorem dX12_cellAt_37 : decode cX12_cellAt 37 = .ok (.invokestatic 328, 3) := by decide +kernel
theorem dX12_cellAt_40 : decode cX12_cellAt 40 = .ok (.ifCond .eq 12, 3) := by decide +kernel
theorem dX12_cellAt_43 : decode cX12_cellAt 43 = .ok (.iload_n 1, 1) := by decide +kernel
theorem dX12_cellAt_44 : decode cX12_cellAt 44 = .ok (.bipush 6, 2) := by decide +kernel
theorem dX12_cellAt_46 : decode cX12_cellAt 46 = .ok (.iload_n 2, 1) := by decide +kernel
theorem dX12_cellAt_47 : decode cX12_cellAt 47 = .ok (.imul, 1) := by decide +kernel
theorem dX12_cellAt_48 : decode cX12_cellAt 48 = .ok (.iadd, 1) := by decide +kernel
theorem dX12_cellAt_49 : decode cX12_cellAt 49 = .ok (.goto 4, 3) := by decide +kernel
theorem dX12_cellAt_52 : decode cX12_cellAt 52 = .ok (.iconst (-1), 1) := by decide +kernel
theorem dX12_cellAt_53 : decode cX12_cellAt 53 = .ok (.ireturn, 1) := by decide +kernel
def wp_X12_cellAt (sh : Shp) (v0 : Nat) (v1 : Int32) (v2 : Int32) (Q : Int32 → Mem → Prop) (m : Mem) : Prop :=
  Ob sh v0 12 ∧ (if (m.1 v0 56) = 0 then (Q (-1 : Int32) m) else (∃ b2 : Nat, m.2.2 v0 42 = some b2 ∧ (Ix sh b2 100 (2 : Int32) ∧ (wp_X12_isIn sh v1.toInt64 (0 : Int64) ((m.1 b2 (2 : Int32).toNatClampNeg) - (1 : Int32)).toInt64 (fun r5 m6 => if r5 = 0 then (Q (-1 : Int32) m6) else (∃ b7 : Nat, m6.2.2 v0 42 = some b7 ∧ (Ix sh b7 100 (3 : Int32) ∧ (wp_X12_isIn sh v2.toInt64 (0 : Int64) ((m6.1 b7 (3 : Int32).toNatClampNeg) - (1 : Int32)).toInt64 (fun r10 m11 => if r10 = 0 then (Q (-1 : Int32) m11) else (Q (v1 + ((6 : Int32) * v2)) m11)) m6)))) m))))
abbrev M_X12_cellAt : Mi := (cX12_cellAt, 3, RX12, (Option.some FieldType.int), "cellAt", 2, 85, 0, 0)
set_option maxHeartbeats 4000000 in
set_option maxRecDepth 100000 in
theorem c_X12_cellAt {l : Launch} {G : Gl} {sh : Shp} {v0 : Nat} {v1 : Int32} {v2 : Int32} {Q : Int32 → Mem → Prop} {m : Mem} (h : wp_X12_cellAt sh v0 v1 v2 Q m) : Cni l G yX12_cellAt cX12_cellAt 3 (Option.some FieldType.int) 2 85 sh [.ref (G.1 + v0), .int v1, .int v2] m Q := by
  refine con_i (ls := [(0, .ref (G.1 + v0)), (1, .int v1), (2, .int v2)]) (by decide +kernel) rfl (Nat.le_of_ble_eq_true rfl) (fun F => ?_)
  show V G F M_X12_cellAt sh 0 0 (Zi G F sh Q) 0 [(0, .ref (G.1 + v0)), (1, .int v1), (2, .int v2)] [] m
  unfold wp_X12_cellAt at h
  refine v_aload_n 0 0 dX12_cellAt_0 rfl rfl ?_
  obtain ⟨o1, h⟩ := h
  refine v_gI 12 56 dX12_cellAt_1 fg_RX12_423 o1 ?_
  refine v_if_eq 52 dX12_cellAt_4 (by decide) (fun hc => ?_) (fun hc => ?_)
  · replace h := Eq.mp (if_pos hc) h
    refine v_iconst (-1 : Int32) dX12_cellAt_52 (by decide) ?_
    exact v_iret dX12_cellAt_53 rfl rfl h
  · replace h := Eq.mp (if_neg hc) h
    refine v_iload_n 1 1 dX12_cellAt_7 rfl rfl ?_
    refine v_i2l dX12_cellAt_8 ?_
    refine v_lconst (0 : Int64) dX12_cellAt_9 (by decide) ?_
    refine v_aload_n 0 0 dX12_cellAt_10 rfl rfl ?_
    obtain ⟨b2, e3, h⟩ := h
    refine v_gR 12 42 dX12_cellAt_11 fg_RX12_111 o1 e3 ?_
    refine v_iconst (2 : Int32) dX12_cellAt_14 (by decide) ?_
    obtain ⟨i4, h⟩ := h
    refine v_iald dX12_cellAt_15 i4 ?_
    refine v_iconst (1 : Int32) dX12_cellAt_16 (by decide) ?_
    refine v_isub dX12_cellAt_17 ?_
    refine v_i2l dX12_cellAt_18 ?_
    refine v_cSi [.long _, .long _, .long _] mv_X12_isIn ml_RX12_328 rfl rfl (Nat.le_of_ble_eq_true rfl) (Nat.le_of_ble_eq_true rfl) (Nat.le_of_ble_eq_true rfl) (Nat.zero_le _) (Nat.zero_le _) dX12_cellAt_19 (c_X12_isIn h) (fun r5 m6 h => ?_)
    refine v_if_eq 52 dX12_cellAt_22 (by decide) (fun hc => ?_) (fun hc => ?_)
    · replace h := Eq.mp (if_pos hc) h
      refine v_iconst (-1 : Int32) dX12_cellAt_52 (by decide) ?_
      exact v_iret dX12_cellAt_53 rfl rfl h
    · replace h := Eq.mp (if_neg hc) h
      refine v_iload_n 2 2 dX12_cellAt_25 rfl rfl ?_
      refine v_i2l dX12_cellAt_26 ?_
      refine v_lconst (0 : Int64) dX12_cellAt_27 (by decide) ?_
      refine v_aload_n 0 0 dX12_cellAt_28 rfl rfl ?_
      obtain ⟨b7, e8, h⟩ := h
      refine v_gR 12 42 dX12_cellAt_29 fg_RX12_111 o1 e8 ?_
      refine v_iconst (3 : Int32) dX12_cellAt_32 (by decide) ?_
      obtain ⟨i9, h⟩ := h
      refine v_iald dX12_cellAt_33 i9 ?_
      refine v_iconst (1 : Int32) dX12_cellAt_34 (by decide) ?_
      refine v_isub dX12_cellAt_35 ?_
      refine v_i2l dX12_cellAt_36 ?_
      refine v_cSi [.long _, .long _, .long _] mv_X12_isIn ml_RX12_328 rfl rfl (Nat.le_of_ble_eq_true rfl) (Nat.le_of_ble_eq_true rfl) (Nat.le_of_ble_eq_true rfl) (Nat.zero_le _) (Nat.zero_le _) dX12_cellAt_37 (c_X12_isIn h) (fun r10 m11 h => ?_)
      refine v_if_eq 52 dX12_cellAt_40 (by decide) (fun hc => ?_) (fun hc => ?_)
      · replace h := Eq.mp (if_pos hc) h
        refine v_iconst (-1 : Int32) dX12_cellAt_52 (by decide) ?_
        exact v_iret dX12_cellAt_53 rfl rfl h
      · replace h := Eq.mp (if_neg hc) h
        refine v_iload_n 1 1 dX12_cellAt_43 rfl rfl ?_
        refine v_bipush (6 : Int32) dX12_cellAt_44 (by decide) ?_
        refine v_iload_n 2 2 dX12_cellAt_46 rfl rfl ?_
        refine v_imul dX12_cellAt_47 ?_
        refine v_iadd dX12_cellAt_48 ?_
        refine v_goto 53 dX12_cellAt_49 (by decide) ?_
        exact v_iret dX12_cellAt_53 rfl rfl h
/-! CalledRiverModel.beside -/
theorem dX12_beside_0 : decode cX12_beside 0 = .ok (.iload_n 1, 1) := by decide +kernel
theorem dX12_beside_1 : decode cX12_beside 1 = .ok (.bipush 6, 2) := by decide +kernel
theorem dX12_beside_3 : decode cX12_beside 3 = .ok (.irem, 1) := by decide +kernel
theorem dX12_beside_4 : decode cX12_beside 4 = .ok (.iload_n 2, 1) := by decide +kernel
theorem dX12_beside_5 : decode cX12_beside 5 = .ok (.ifCond .ne 7, 3) := by decide +kernel
theorem dX12_beside_8 : decode cX12_beside 8 = .ok (.iconst (-1), 1) := by decide +kernel
theorem dX12_beside_9 : decode cX12_beside 9 = .ok (.goto 13, 3) := by decide +kernel
theorem dX12_beside_12 : decode cX12_beside 12 = .ok (.iload_n 2, 1) := by decide +kernel
theorem dX12_beside_13 : decode cX12_beside 13 = .ok (.iconst 1, 1) := by decide +kernel
theorem dX12_beside_14 : decode cX12_beside 14 = .ok (.if_icmp .ne 7, 3) := by decide +kernel
theorem dX12_beside_17 : decode cX12_beside 17 = .ok (.iconst 1, 1) := by decide +kernel
theorem dX12_beside_18 : decode cX12_beside 18 = .ok (.goto 4, 3) := by decide +kernel
theorem dX12_beside_21 : decode cX12_beside 21 = .ok (.iconst 0, 1) := by decide +kernel
theorem dX12_beside_22 : decode cX12_beside 22 = .ok (.iadd, 1) := by decide +kernel
theorem dX12_beside_23 : decode cX12_beside 23 = .ok (.istore_n 3, 1) := by decide +kernel
theorem dX12_beside_24 : decode cX12_beside 24 = .ok (.iload_n 1, 1) := by decide +kernel
theorem dX12_beside_25 : decode cX12_beside 25 = .ok (.bipush 6, 2) := by decide +kernel
theorem dX12_beside_27 : decode cX12_beside 27 = .ok (.idiv, 1) := by decide +kernel
theorem dX12_beside_28 : decode cX12_beside 28 = .ok (.iload_n 2, 1) := by decide +kernel
theorem dX12_beside_29 : decode cX12_beside 29 = .ok (.iconst 2, 1) := by decide +kernel
theorem dX12_beside_30 : decode cX12_beside 30 = .ok (.if_icmp .ne 7, 3) := by decide +kernel
theorem dX12_beside_33 : decode cX12_beside 33 = .ok (.iconst (-1), 1) := by decide +kernel
theorem dX12_beside_34 : decode cX12_beside 34 = .ok (.goto 13, 3) := by decide +kernel
theorem dX12_beside_37 : decode cX12_beside 37 = .ok (.iload_n 2, 1) := by decide +kernel
theorem dX12_beside_38 : decode cX12_beside 38 = .ok (.iconst 3, 1) := by decide +kernel
theorem dX12_beside_39 : decode cX12_beside 39 = .ok (.if_icmp .ne 7, 3) := by decide +kernel
theorem dX12_beside_42 : decode cX12_beside 42 = .ok (.iconst 1, 1) := by decide +kernel
theorem dX12_beside_43 : decode cX12_beside 43 = .ok (.goto 4, 3) := by decide +kernel
theorem dX12_beside_46 : decode cX12_beside 46 = .ok (.iconst 0, 1) := by decide +kernel
theorem dX12_beside_47 : decode cX12_beside 47 = .ok (.iadd, 1) := by decide +kernel
theorem dX12_beside_48 : decode cX12_beside 48 = .ok (.istore 4, 2) := by decide +kernel
theorem dX12_beside_50 : decode cX12_beside 50 = .ok (.aload_n 0, 1) := by decide +kernel
theorem dX12_beside_51 : decode cX12_beside 51 = .ok (.iload_n 3, 1) := by decide +kernel
theorem dX12_beside_52 : decode cX12_beside 52 = .ok (.iload 4, 2) := by decide +kernel
theorem dX12_beside_54 : decode cX12_beside 54 = .ok (.invokevirtual 452, 3) := by decide +kernel
theorem dX12_beside_57 : decode cX12_beside 57 = .ok (.ireturn, 1) := by decide +kernel
def X12_beside_p47 (sh : Shp) (v0 : Nat) (v3 : Int32) (s1 : Int32) (s0 : Int32) (Q : Int32 → Mem → Prop) (m : Mem) : Prop :=
  Ob sh v0 12 ∧ wp_X12_cellAt sh v0 v3 (s0 + s1) (fun r1 m2 => Q r1 m2) m
def X12_beside_p22 (sh : Shp) (v0 : Nat) (v1 : Int32) (v2 : Int32) (s1 : Int32) (s0 : Int32) (Q : Int32 → Mem → Prop) (m : Mem) : Prop :=
  if v2 = (2 : Int32) then (X12_beside_p47 sh v0 (s0 + s1) (-1 : Int32) (v1 / (6 : Int32)) Q m) else (if v2 = (3 : Int32) then (X12_beside_p47 sh v0 (s0 + s1) (1 : Int32) (v1 / (6 : Int32)) Q m) else (X12_beside_p47 sh v0 (s0 + s1) (0 : Int32) (v1 / (6 : Int32)) Q m))
def wp_X12_beside (sh : Shp) (v0 : Nat) (v1 : Int32) (v2 : Int32) (Q : Int32 → Mem → Prop) (m : Mem) : Prop :=
  if v2 = 0 then (X12_beside_p22 sh v0 v1 v2 (-1 : Int32) (v1 - v1 / (6 : Int32) * (6 : Int32)) Q m) else (if v2 = (1 : Int32) then (X12_beside_p22 sh v0 v1 v2 (1 : Int32) (v1 - v1 / (6 : Int32) * (6 : Int32)) Q m) else (X12_beside_p22 sh v0 v1 v2 (0 : Int32) (v1 - v1 / (6 : Int32) * (6 : Int32)) Q m))
abbrev M_X12_beside : Mi := (cX12_beside, 5, RX12, (Option.some FieldType.int), "beside", 3, 107, 0, 0)
set_option maxHeartbeats 4000000 in
set_option maxRecDepth 100000 in
theorem v_X12_beside_p47 {G : Gl} {F : Fr} {sh : Shp} {v0 : Nat} {v3 : Int32} {s0 : Int32} {s1 : Int32} {Q : Int32 → Mem → Prop} {m : Mem} (h : X12_beside_p47 sh v0 v3 s1 s0 Q m) : V G F M_X12_beside sh 0 0 (Zi G F sh Q) 47 [(0, .ref (G.1 + v0)), (3, .int v3)] [.int s1, .int s0] m := by
  unfold X12_beside_p47 at h
  refine v_iadd dX12_beside_47 ?_
  refine v_istore (ls' := [(4, .int _), (0, .ref _), (3, .int _)]) 4 dX12_beside_48 (Nat.le_of_ble_eq_true rfl) rfl ?_
  refine v_aload_n 0 1 dX12_beside_50 rfl rfl ?_
  refine v_iload_n 3 2 dX12_beside_51 rfl rfl ?_
  refine v_iload 4 0 dX12_beside_52 rfl ?_
  obtain ⟨o3, h⟩ := h
  refine v_cVi [.int _, .int _] mv_X12_cellAt ml_RX12_452 ⟨_, _, rfl⟩ o3 rfl rfl (Nat.le_of_ble_eq_true rfl) (Nat.le_of_ble_eq_true rfl) (Nat.le_of_ble_eq_true rfl) (Nat.zero_le _) (Nat.zero_le _) dX12_beside_54 (c_X12_cellAt h) (fun r1 m2 h => ?_)
  exact v_iret dX12_beside_57 rfl rfl h
set_option maxHeartbeats 4000000 in
set_option maxRecDepth 100000 in
theorem v_X12_beside_p22 {G : Gl} {F : Fr} {sh : Shp} {v0 : Nat} {v1 : Int32} {v2 : Int32} {s0 : Int32} {s1 : Int32} {Q : Int32 → Mem → Prop} {m : Mem} (h : X12_beside_p22 sh v0 v1 v2 s1 s0 Q m) : V G F M_X12_beside sh 0 0 (Zi G F sh Q) 22 [(0, .ref (G.1 + v0)), (1, .int v1), (2, .int v2)] [.int s1, .int s0] m := by
  unfold X12_beside_p22 at h
  refine v_iadd dX12_beside_22 ?_
  refine v_istore_n (ls' := [(3, .int _), (0, .ref _), (1, .int _), (2, .int _)]) 3 dX12_beside_23 rfl (Nat.le_of_ble_eq_true rfl) rfl ?_
  refine v_iload_n 1 2 dX12_beside_24 rfl rfl ?_
  refine v_bipush (6 : Int32) dX12_beside_25 (by decide) ?_
  refine v_idiv dX12_beside_27 (by decide) ?_
  refine v_iload_n 2 3 dX12_beside_28 rfl rfl ?_
  refine v_iconst (2 : Int32) dX12_beside_29 (by decide) ?_
  refine v_icmp_ne 37 dX12_beside_30 (by decide) (fun hc => ?_) (fun hc => ?_)
  · replace h := Eq.mp (if_neg hc) h
    refine v_iload_n 2 3 dX12_beside_37 rfl rfl ?_
    refine v_iconst (3 : Int32) dX12_beside_38 (by decide) ?_
    refine v_icmp_ne 46 dX12_beside_39 (by decide) (fun hc => ?_) (fun hc => ?_)
    · replace h := Eq.mp (if_neg hc) h
      refine v_iconst (0 : Int32) dX12_beside_46 (by decide) ?_
      refine v_sub [1, 0] rfl ?_
      exact v_X12_beside_p47 h
    · replace h := Eq.mp (if_pos hc) h
      refine v_iconst (1 : Int32) dX12_beside_42 (by decide) ?_
      refine v_goto 47 dX12_beside_43 (by decide) ?_
      refine v_sub [1, 0] rfl ?_
      exact v_X12_beside_p47 h
  · replace h := Eq.mp (if_pos hc) h
    refine v_iconst (-1 : Int32) dX12_beside_33 (by decide) ?_
    refine v_goto 47 dX12_beside_34 (by decide) ?_
    refine v_sub [1, 0] rfl ?_
    exact v_X12_beside_p47 h
set_option maxHeartbeats 4000000 in
set_option maxRecDepth 100000 in
theorem c_X12_beside {l : Launch} {G : Gl} {sh : Shp} {v0 : Nat} {v1 : Int32} {v2 : Int32} {Q : Int32 → Mem → Prop} {m : Mem} (h : wp_X12_beside sh v0 v1 v2 Q m) : Cni l G yX12_beside cX12_beside 5 (Option.some FieldType.int) 3 107 sh [.ref (G.1 + v0), .int v1, .int v2] m Q := by
  refine con_i (ls := [(0, .ref (G.1 + v0)), (1, .int v1), (2, .int v2)]) (by decide +kernel) rfl (Nat.le_of_ble_eq_true rfl) (fun F => ?_)
  show V G F M_X12_beside sh 0 0 (Zi G F sh Q) 0 [(0, .ref (G.1 + v0)), (1, .int v1), (2, .int v2)] [] m
  unfold wp_X12_beside at h
  refine v_iload_n 1 1 dX12_beside_0 rfl rfl ?_
  refine v_bipush (6 : Int32) dX12_beside_1 (by decide) ?_
  refine v_irem dX12_beside_3 (by decide) ?_
  refine v_iload_n 2 2 dX12_beside_4 rfl rfl ?_
  refine v_if_ne 12 dX12_beside_5 (by decide) (fun hc => ?_) (fun hc => ?_)
  · replace h := Eq.mp (if_neg hc) h
    refine v_iload_n 2 2 dX12_beside_12 rfl rfl ?_
    refine v_iconst (1 : Int32) dX12_beside_13 (by decide) ?_
    refine v_icmp_ne 21 dX12_beside_14 (by decide) (fun hc => ?_) (fun hc => ?_)
    · replace h := Eq.mp (if_neg hc) h
      refine v_iconst (0 : Int32) dX12_beside_21 (by decide) ?_
      refine v_sub [0, 1, 2] rfl ?_
      exact v_X12_beside_p22 h
    · replace h := Eq.mp (if_pos hc) h
      refine v_iconst (1 : Int32) dX12_beside_17 (by decide) ?_
      refine v_goto 22 dX12_beside_18 (by decide) ?_
      refine v_sub [0, 1, 2] rfl ?_
      exact v_X12_beside_p22 h
  · replace h := Eq.mp (if_pos hc) h
    refine v_iconst (-1 : Int32) dX12_beside_8 (by decide) ?_
    refine v_goto 22 dX12_beside_9 (by decide) ?_
    refine v_sub [0, 1, 2] rfl ?_
    exact v_X12_beside_p22 h
/-! CalledRiverModel.areBeside -/
theorem dX12_areBeside_0 : decode cX12_areBeside 0 = .ok (.iconst 0, 1) := by decide +kernel
theorem dX12_areBeside_1 : decode cX12_areBeside 1 = .ok (.istore_n 3, 1) := by decide +kernel
theorem dX12_areBeside_2 : decode cX12_areBeside 2 = .ok (.iload_n 3, 1) := by decide +kernel
theorem dX12_areBeside_3 : decode cX12_areBeside 3 = .ok (.iconst 4, 1) := by decide +kernel
theorem dX12_areBeside_4 : decode cX12_areBeside 4 = .ok (.if_icmp .ge 21, 3) := by decide +kernel
theorem dX12_areBeside_7 : decode cX12_areBeside 7 = .ok (.aload_n 0, 1) := by decide +kernel
theorem dX12_areBeside_8 : decode cX12_areBeside 8 = .ok (.iload_n 1, 1) := by decide +kernel
theorem dX12_areBeside_9 : decode cX12_areBeside 9 = .ok (.iload_n 3, 1) := by decide +kernel
theorem dX12_areBeside_10 : decode cX12_areBeside 10 = .ok (.invokevirtual 503, 3) := by decide +kernel
theorem dX12_areBeside_13 : decode cX12_areBeside 13 = .ok (.iload_n 2, 1) := by decide +kernel
theorem dX12_areBeside_14 : decode cX12_areBeside 14 = .ok (.if_icmp .ne 5, 3) := by decide +kernel
theorem dX12_areBeside_17 : decode cX12_areBeside 17 = .ok (.iconst 1, 1) := by decide +kernel
theorem dX12_areBeside_18 : decode cX12_areBeside 18 = .ok (.ireturn, 1) := by decide +kernel
theorem dX12_areBeside_19 : decode cX12_areBeside 19 = .ok (.iinc 3 1, 3) := by decide +kernel
theorem dX12_areBeside_22 : decode cX12_areBeside 22 = .ok (.goto (-20), 3) := by decide +kernel
theorem dX12_areBeside_25 : decode cX12_areBeside 25 = .ok (.iconst 0, 1) := by decide +kernel
theorem dX12_areBeside_26 : decode cX12_areBeside 26 = .ok (.ireturn, 1) := by decide +kernel
def X12_areBeside_p2b (sh : Shp) (v0 : Nat) (v1 : Int32) (v2 : Int32) (Q : Int32 → Mem → Prop) (K2 : Int32 → Mem → Prop) (v3 : Int32) (m : Mem) : Prop :=
  if (4 : Int32) ≤ v3 then (Q (0 : Int32) m) else (Ob sh v0 12 ∧ wp_X12_beside sh v0 v1 v3 (fun r1 m2 => if r1 = v2 then (Q (1 : Int32) m2) else (K2 (v3 + (1 : Int32)) m2)) m)
def X12_areBeside_p2n (sh : Shp) (v0 : Nat) (v1 : Int32) (v2 : Int32) (Q : Int32 → Mem → Prop) : Nat → Int32 → Mem → Prop
  | 0 => fun _ _ => False
  | n + 1 => X12_areBeside_p2b sh v0 v1 v2 Q (X12_areBeside_p2n sh v0 v1 v2 Q n)
def X12_areBeside_p2 (sh : Shp) (v0 : Nat) (v1 : Int32) (v2 : Int32) (Q : Int32 → Mem → Prop) (v3 : Int32) (m : Mem) : Prop := ∃ n, X12_areBeside_p2n sh v0 v1 v2 Q n v3 m
def wp_X12_areBeside (sh : Shp) (v0 : Nat) (v1 : Int32) (v2 : Int32) (Q : Int32 → Mem → Prop) (m : Mem) : Prop :=
  X12_areBeside_p2 sh v0 v1 v2 Q (0 : Int32) m
abbrev M_X12_areBeside : Mi := (cX12_areBeside, 4, RX12, (Option.some FieldType.boolean), "areBeside", 4, 131, 0, 0)
set_option maxHeartbeats 4000000 in
set_option maxRecDepth 100000 in
theorem v_X12_areBeside_p2b {G : Gl} {F : Fr} {sh : Shp} {v0 : Nat} {v1 : Int32} {v2 : Int32} {v3 : Int32} {Q : Int32 → Mem → Prop} {K2 : Int32 → Mem → Prop} {m : Mem} (hK2 : ∀ (x3 : Int32) (m : Mem), K2 x3 m → V G F M_X12_areBeside sh 0 0 (Zi G F sh Q) 2 [(0, .ref (G.1 + v0)), (1, .int v1), (2, .int v2), (3, .int x3)] [] m) (h : X12_areBeside_p2b sh v0 v1 v2 Q K2 v3 m) : V G F M_X12_areBeside sh 0 0 (Zi G F sh Q) 2 [(0, .ref (G.1 + v0)), (1, .int v1), (2, .int v2), (3, .int v3)] [] m := by
  unfold X12_areBeside_p2b at h
  refine v_iload_n 3 3 dX12_areBeside_2 rfl rfl ?_
  refine v_iconst (4 : Int32) dX12_areBeside_3 (by decide) ?_
  refine v_icmp_ge 25 dX12_areBeside_4 (by decide) (fun hc => ?_) (fun hc => ?_)
  · replace h := Eq.mp (if_pos hc) h
    refine v_iconst (0 : Int32) dX12_areBeside_25 (by decide) ?_
    exact v_iret dX12_areBeside_26 rfl (by decide) h
  · replace h := Eq.mp (if_neg hc) h
    refine v_aload_n 0 0 dX12_areBeside_7 rfl rfl ?_
    refine v_iload_n 1 1 dX12_areBeside_8 rfl rfl ?_
    refine v_iload_n 3 3 dX12_areBeside_9 rfl rfl ?_
    obtain ⟨o3, h⟩ := h
    refine v_cVi [.int _, .int _] mv_X12_beside ml_RX12_503 ⟨_, _, rfl⟩ o3 rfl rfl (Nat.le_of_ble_eq_true rfl) (Nat.le_of_ble_eq_true rfl) (Nat.le_of_ble_eq_true rfl) (Nat.zero_le _) (Nat.zero_le _) dX12_areBeside_10 (c_X12_beside h) (fun r1 m2 h => ?_)
    refine v_iload_n 2 2 dX12_areBeside_13 rfl rfl ?_
    refine v_icmp_ne 19 dX12_areBeside_14 (by decide) (fun hc => ?_) (fun hc => ?_)
    · replace h := Eq.mp (if_neg hc) h
      refine v_iinc (ls' := [(3, .int _), (0, .ref _), (1, .int _), (2, .int _)]) 3 3 dX12_areBeside_19 rfl (congrArg (HAdd.hAdd _) (by decide : Int32.ofInt (1) = (1 : Int32))) (Nat.le_of_ble_eq_true rfl) rfl ?_
      refine v_goto 2 dX12_areBeside_22 (by decide) ?_
      refine v_sub [1, 2, 3, 0] rfl ?_
      exact hK2 _ _ h
    · replace h := Eq.mp (if_pos hc) h
      refine v_iconst (1 : Int32) dX12_areBeside_17 (by decide) ?_
      exact v_iret dX12_areBeside_18 rfl (by decide) h
set_option maxHeartbeats 4000000 in
set_option maxRecDepth 100000 in
theorem v_X12_areBeside_p2 {G : Gl} {F : Fr} {sh : Shp} {v0 : Nat} {v1 : Int32} {v2 : Int32} {v3 : Int32} {Q : Int32 → Mem → Prop} {m : Mem} (h : X12_areBeside_p2 sh v0 v1 v2 Q v3 m) : V G F M_X12_areBeside sh 0 0 (Zi G F sh Q) 2 [(0, .ref (G.1 + v0)), (1, .int v1), (2, .int v2), (3, .int v3)] [] m := by
  obtain ⟨n, h⟩ := h
  induction n generalizing v3 m with
  | zero => exact h.elim
  | succ n ih => exact v_X12_areBeside_p2b (fun _ _ h => ih h) h
set_option maxHeartbeats 4000000 in
set_option maxRecDepth 100000 in
theorem c_X12_areBeside {l : Launch} {G : Gl} {sh : Shp} {v0 : Nat} {v1 : Int32} {v2 : Int32} {Q : Int32 → Mem → Prop} {m : Mem} (h : wp_X12_areBeside sh v0 v1 v2 Q m) : Cni l G yX12_areBeside cX12_areBeside 4 (Option.some FieldType.boolean) 4 131 sh [.ref (G.1 + v0), .int v1, .int v2] m Q := by
  refine con_i (ls := [(0, .ref (G.1 + v0)), (1, .int v1), (2, .int v2)]) (by decide +kernel) rfl (Nat.le_of_ble_eq_true rfl) (fun F => ?_)
  show V G F M_X12_areBeside sh 0 0 (Zi G F sh Q) 0 [(0, .ref (G.1 + v0)), (1, .int v1), (2, .int v2)] [] m
  unfold wp_X12_areBeside at h
  refine v_iconst (0 : Int32) dX12_areBeside_0 (by decide) ?_
  refine v_istore_n (ls' := [(3, .int _), (0, .ref _), (1, .int _), (2, .int _)]) 3 dX12_areBeside_1 rfl (Nat.le_of_ble_eq_true rfl) rfl ?_
  refine v_sub [1, 2, 3, 0] rfl ?_
  exact v_X12_areBeside_p2 h
/-! CalledRiverModel.fail -/
theorem dX12_fail_0 : decode cX12_fail 0 = .ok (.aload_n 0, 1) := by decide +kernel
theorem dX12_fail_1 : decode cX12_fail 1 = .ok (.getfield 285, 3) := by decide +kernel
theorem dX12_fail_4 : decode cX12_fail 4 = .ok (.ifCond .eq 4, 3) := by decide +kernel
theorem dX12_fail_7 : decode cX12_fail 7 = .ok (.return_, 1) := by decide +kernel
theorem dX12_fail_8 : decode cX12_fail 8 = .ok (.aload_n 0, 1) := by decide +kernel
theorem dX12_fail_9 : decode cX12_fail 9 = .ok (.iload_n 1, 1) := by decide +kernel
theorem dX12_fail_10 : decode cX12_fail 10 = .ok (.putfield 285, 3) := by decide +kernel
theorem dX12_fail_13 : decode cX12_fail 13 = .ok (.aload_n 0, 1) := by decide +kernel
theorem dX12_fail_14 : decode cX12_fail 14 = .ok (.iload_n 2, 1) := by decide +kernel
theorem dX12_fail_15 : decode cX12_fail 15 = .ok (.putfield 288, 3) := by decide +kernel
theorem dX12_fail_18 : decode cX12_fail 18 = .ok (.return_, 1) := by decide +kernel
def wp_X12_fail (sh : Shp) (v0 : Nat) (v1 : Int32) (v2 : Int32) (Q : Mem → Prop) (m : Mem) : Prop :=
  Ob sh v0 12 ∧ (if (m.1 v0 5) = 0 then (bnd (sI m v0 5 v1) (fun m2 => bnd (sI m2 v0 6 v2) (fun m3 => Q m3))) else (Q m))
abbrev M_X12_fail : Mi := (cX12_fail, 3, RX12, (none : Option FieldType), "fail", 1, 60, 0, 0)
set_option maxHeartbeats 4000000 in
set_option maxRecDepth 100000 in
theorem c_X12_fail {l : Launch} {G : Gl} {sh : Shp} {v0 : Nat} {v1 : Int32} {v2 : Int32} {Q : Mem → Prop} {m : Mem} (h : wp_X12_fail sh v0 v1 v2 Q m) : Cnv l G yX12_fail cX12_fail 3 (none : Option FieldType) 1 60 sh [.ref (G.1 + v0), .int v1, .int v2] m Q := by
  refine con_v (ls := [(0, .ref (G.1 + v0)), (1, .int v1), (2, .int v2)]) (by decide +kernel) rfl (Nat.le_of_ble_eq_true rfl) (fun F => ?_)
  show V G F M_X12_fail sh 0 0 (Zv G F sh Q) 0 [(0, .ref (G.1 + v0)), (1, .int v1), (2, .int v2)] [] m
  unfold wp_X12_fail at h
  refine v_aload_n 0 0 dX12_fail_0 rfl rfl ?_
  obtain ⟨o1, h⟩ := h
  refine v_gI 12 5 dX12_fail_1 fg_RX12_285 o1 ?_
  refine v_if_eq 8 dX12_fail_4 (by decide) (fun hc => ?_) (fun hc => ?_)
  · replace h := Eq.mp (if_pos hc) h
    refine v_aload_n 0 0 dX12_fail_8 rfl rfl ?_
    refine v_iload_n 1 1 dX12_fail_9 rfl rfl ?_
    refine v_pI 12 5 dX12_fail_10 fw_RX12_285 o1 ?_
    replace h := bnd_e h
    refine v_aload_n 0 0 dX12_fail_13 rfl rfl ?_
    refine v_iload_n 2 2 dX12_fail_14 rfl rfl ?_
    refine v_pI 12 6 dX12_fail_15 fw_RX12_288 o1 ?_
    replace h := bnd_e h
    exact v_vret dX12_fail_18 rfl h
  · replace h := Eq.mp (if_neg hc) h
    exact v_vret dX12_fail_7 rfl h
/-! CalledRiverModel.isLetter -/
theorem dX12_isLetter_0 : decode cX12_isLetter 0 = .ok (.iload_n 0, 1) := by decide +kernel
theorem dX12_isLetter_1 : decode cX12_isLetter 1 = .ok (.bipush 97, 2) := by decide +kernel
theorem dX12_isLetter_3 : decode cX12_isLetter 3 = .ok (.if_icmp .lt 13, 3) := by decide +kernel
theorem dX12_isLetter_6 : decode cX12_isLetter 6 = .ok (.iload_n 0, 1) := by decide +kernel
theorem dX12_isLetter_7 : decode cX12_isLetter 7 = .ok (.bipush 122, 2) := by decide +kernel
theorem dX12_isLetter_9 : decode cX12_isLetter 9 = .ok (.if_icmp .gt 7, 3) := by decide +kernel
theorem dX12_isLetter_12 : decode cX12_isLetter 12 = .ok (.iconst 1, 1) := by decide +kernel
theorem dX12_isLetter_13 : decode cX12_isLetter 13 = .ok (.goto 4, 3) := by decide +kernel
theorem dX12_isLetter_16 : decode cX12_isLetter 16 = .ok (.iconst 0, 1) := by decide +kernel
theorem dX12_isLetter_17 : decode cX12_isLetter 17 = .ok (.ireturn, 1) := by decide +kernel
def wp_X12_isLetter (sh : Shp) (v0 : Int32) (Q : Int32 → Mem → Prop) (m : Mem) : Prop :=
  if v0 < (97 : Int32) then (Q (0 : Int32) m) else (if (122 : Int32) < v0 then (Q (0 : Int32) m) else (Q (1 : Int32) m))
abbrev M_X12_isLetter : Mi := (cX12_isLetter, 1, RX12, (Option.some FieldType.boolean), "isLetter", 1, 60, 0, 0)
set_option maxHeartbeats 4000000 in
set_option maxRecDepth 100000 in
theorem c_X12_isLetter {l : Launch} {G : Gl} {sh : Shp} {v0 : Int32} {Q : Int32 → Mem → Prop} {m : Mem} (h : wp_X12_isLetter sh v0 Q m) : Cni l G yX12_isLetter cX12_isLetter 1 (Option.some FieldType.boolean) 1 60 sh [.int v0] m Q := by
  refine con_i (ls := [(0, .int v0)]) (by decide +kernel) rfl (Nat.le_of_ble_eq_true rfl) (fun F => ?_)
  show V G F M_X12_isLetter sh 0 0 (Zi G F sh Q) 0 [(0, .int v0)] [] m
  unfold wp_X12_isLetter at h
  refine v_iload_n 0 0 dX12_isLetter_0 rfl rfl ?_
  refine v_bipush (97 : Int32) dX12_isLetter_1 (by decide) ?_
  refine v_icmp_lt 16 dX12_isLetter_3 (by decide) (fun hc => ?_) (fun hc => ?_)
  · replace h := Eq.mp (if_pos hc) h
    refine v_iconst (0 : Int32) dX12_isLetter_16 (by decide) ?_
    exact v_iret dX12_isLetter_17 rfl (by decide) h
  · replace h := Eq.mp (if_neg hc) h
    refine v_iload_n 0 0 dX12_isLetter_6 rfl rfl ?_
    refine v_bipush (122 : Int32) dX12_isLetter_7 (by decide) ?_
    refine v_icmp_gt 16 dX12_isLetter_9 (by decide) (fun hc => ?_) (fun hc => ?_)
    · replace h := Eq.mp (if_pos hc) h
      refine v_iconst (0 : Int32) dX12_isLetter_16 (by decide) ?_
      exact v_iret dX12_isLetter_17 rfl (by decide) h
    · replace h := Eq.mp (if_neg hc) h
      refine v_iconst (1 : Int32) dX12_isLetter_12 (by decide) ?_
      refine v_goto 17 dX12_isLetter_13 (by decide) ?_
      exact v_iret dX12_isLetter_17 rfl (by decide) h
/-! CalledRiverModel.look -/
theorem dX12_look_0 : decode cX12_look 0 = .ok (.aload_n 0, 1) := by decide +kernel
theorem dX12_look_1 : decode cX12_look 1 = .ok (.getfield 291, 3) := by decide +kernel
theorem dX12_look_4 : decode cX12_look 4 = .ok (.aload_n 0, 1) := by decide +kernel
theorem dX12_look_5 : decode cX12_look 5 = .ok (.getfield 294, 3) := by decide +kernel
theorem dX12_look_8 : decode cX12_look 8 = .ok (.if_icmp .ge 44, 3) := by decide +kernel
theorem dX12_look_11 : decode cX12_look 11 = .ok (.aload_n 0, 1) := by decide +kernel
theorem dX12_look_12 : decode cX12_look 12 = .ok (.getfield 7, 3) := by decide +kernel
theorem dX12_look_15 : decode cX12_look 15 = .ok (.aload_n 0, 1) := by decide +kernel
theorem dX12_look_16 : decode cX12_look 16 = .ok (.getfield 291, 3) := by decide +kernel
theorem dX12_look_19 : decode cX12_look 19 = .ok (.iaload, 1) := by decide +kernel
theorem dX12_look_20 : decode cX12_look 20 = .ok (.bipush 10, 2) := by decide +kernel
theorem dX12_look_22 : decode cX12_look 22 = .ok (.if_icmp .eq 17, 3) := by decide +kernel
theorem dX12_look_25 : decode cX12_look 25 = .ok (.aload_n 0, 1) := by decide +kernel
theorem dX12_look_26 : decode cX12_look 26 = .ok (.getfield 7, 3) := by decide +kernel
theorem dX12_look_29 : decode cX12_look 29 = .ok (.aload_n 0, 1) := by decide +kernel
theorem dX12_look_30 : decode cX12_look 30 = .ok (.getfield 291, 3) := by decide +kernel
theorem dX12_look_33 : decode cX12_look 33 = .ok (.iaload, 1) := by decide +kernel
theorem dX12_look_34 : decode cX12_look 34 = .ok (.bipush 32, 2) := by decide +kernel
theorem dX12_look_36 : decode cX12_look 36 = .ok (.if_icmp .ne 16, 3) := by decide +kernel
theorem dX12_look_39 : decode cX12_look 39 = .ok (.aload_n 0, 1) := by decide +kernel
theorem dX12_look_40 : decode cX12_look 40 = .ok (.dup, 1) := by decide +kernel
theorem dX12_look_41 : decode cX12_look 41 = .ok (.getfield 291, 3) := by decide +kernel
theorem dX12_look_44 : decode cX12_look 44 = .ok (.iconst 1, 1) := by decide +kernel
theorem dX12_look_45 : decode cX12_look 45 = .ok (.iadd, 1) := by decide +kernel
theorem dX12_look_46 : decode cX12_look 46 = .ok (.putfield 291, 3) := by decide +kernel
theorem dX12_look_49 : decode cX12_look 49 = .ok (.goto (-49), 3) := by decide +kernel
theorem dX12_look_52 : decode cX12_look 52 = .ok (.aload_n 0, 1) := by decide +kernel
theorem dX12_look_53 : decode cX12_look 53 = .ok (.getfield 291, 3) := by decide +kernel
theorem dX12_look_56 : decode cX12_look 56 = .ok (.aload_n 0, 1) := by decide +kernel
theorem dX12_look_57 : decode cX12_look 57 = .ok (.getfield 294, 3) := by decide +kernel
theorem dX12_look_60 : decode cX12_look 60 = .ok (.if_icmp .ge 15, 3) := by decide +kernel
theorem dX12_look_63 : decode cX12_look 63 = .ok (.aload_n 0, 1) := by decide +kernel
theorem dX12_look_64 : decode cX12_look 64 = .ok (.getfield 7, 3) := by decide +kernel
theorem dX12_look_67 : decode cX12_look 67 = .ok (.aload_n 0, 1) := by decide +kernel
theorem dX12_look_68 : decode cX12_look 68 = .ok (.getfield 291, 3) := by decide +kernel
theorem dX12_look_71 : decode cX12_look 71 = .ok (.iaload, 1) := by decide +kernel
theorem dX12_look_72 : decode cX12_look 72 = .ok (.goto 4, 3) := by decide +kernel
theorem dX12_look_75 : decode cX12_look 75 = .ok (.iconst (-1), 1) := by decide +kernel
theorem dX12_look_76 : decode cX12_look 76 = .ok (.ireturn, 1) := by decide +kernel
def X12_look_p39 (sh : Shp) (v0 : Nat) (Q : Int32 → Mem → Prop) (K0 : Mem → Prop) (m : Mem) : Prop :=
  Ob sh v0 12 ∧ (bnd (sI m v0 2 ((m.1 v0 2) + (1 : Int32))) (fun m10 => K0 m10))
def X12_look_p52 (sh : Shp) (v0 : Nat) (Q : Int32 → Mem → Prop) (m : Mem) : Prop :=
  Ob sh v0 12 ∧ (if (m.1 v0 3) ≤ (m.1 v0 2) then (Q (-1 : Int32) m) else (∃ b6 : Nat, m.2.2 v0 0 = some b6 ∧ (Ix sh b6 100 (m.1 v0 2) ∧ (Q (m.1 b6 (m.1 v0 2).toNatClampNeg) m))))
def X12_look_p0b (sh : Shp) (v0 : Nat) (Q : Int32 → Mem → Prop) (K0 : Mem → Prop) (m : Mem) : Prop :=
  Ob sh v0 12 ∧ (if (m.1 v0 3) ≤ (m.1 v0 2) then (X12_look_p52 sh v0 Q m) else (∃ b2 : Nat, m.2.2 v0 0 = some b2 ∧ (Ix sh b2 100 (m.1 v0 2) ∧ (if (m.1 b2 (m.1 v0 2).toNatClampNeg) = (10 : Int32) then (X12_look_p39 sh v0 Q K0 m) else (if (m.1 b2 (m.1 v0 2).toNatClampNeg) = (32 : Int32) then (X12_look_p39 sh v0 Q K0 m) else (X12_look_p52 sh v0 Q m))))))
def X12_look_p0n (sh : Shp) (v0 : Nat) (Q : Int32 → Mem → Prop) : Nat → Mem → Prop
  | 0 => fun _ => False
  | n + 1 => X12_look_p0b sh v0 Q (X12_look_p0n sh v0 Q n)
def X12_look_p0 (sh : Shp) (v0 : Nat) (Q : Int32 → Mem → Prop) (m : Mem) : Prop := ∃ n, X12_look_p0n sh v0 Q n m
def wp_X12_look (sh : Shp) (v0 : Nat) (Q : Int32 → Mem → Prop) (m : Mem) : Prop :=
  X12_look_p0 sh v0 Q m
abbrev M_X12_look : Mi := (cX12_look, 1, RX12, (Option.some FieldType.int), "look", 1, 60, 0, 0)
set_option maxHeartbeats 4000000 in
set_option maxRecDepth 100000 in
theorem v_X12_look_p39 {G : Gl} {F : Fr} {sh : Shp} {v0 : Nat} {Q : Int32 → Mem → Prop} {K0 : Mem → Prop} {m : Mem} (hK0 : ∀ (m : Mem), K0 m → V G F M_X12_look sh 0 0 (Zi G F sh Q) 0 [(0, .ref (G.1 + v0))] [] m) (h : X12_look_p39 sh v0 Q K0 m) : V G F M_X12_look sh 0 0 (Zi G F sh Q) 39 [(0, .ref (G.1 + v0))] [] m := by
  unfold X12_look_p39 at h
  refine v_aload_n 0 0 dX12_look_39 rfl rfl ?_
  refine v_dup dX12_look_40 rfl ?_
  obtain ⟨o9, h⟩ := h
  refine v_gI 12 2 dX12_look_41 fg_RX12_291 o9 ?_
  refine v_iconst (1 : Int32) dX12_look_44 (by decide) ?_
  refine v_iadd dX12_look_45 ?_
  refine v_pI 12 2 dX12_look_46 fw_RX12_291 o9 ?_
  replace h := bnd_e h
  refine v_goto 0 dX12_look_49 (by decide) ?_
  refine v_sub [0] rfl ?_
  exact hK0  _ h
set_option maxHeartbeats 4000000 in
set_option maxRecDepth 100000 in
theorem v_X12_look_p52 {G : Gl} {F : Fr} {sh : Shp} {v0 : Nat} {Q : Int32 → Mem → Prop} {m : Mem} (h : X12_look_p52 sh v0 Q m) : V G F M_X12_look sh 0 0 (Zi G F sh Q) 52 [(0, .ref (G.1 + v0))] [] m := by
  unfold X12_look_p52 at h
  refine v_aload_n 0 0 dX12_look_52 rfl rfl ?_
  obtain ⟨o5, h⟩ := h
  refine v_gI 12 2 dX12_look_53 fg_RX12_291 o5 ?_
  refine v_aload_n 0 0 dX12_look_56 rfl rfl ?_
  refine v_gI 12 3 dX12_look_57 fg_RX12_294 o5 ?_
  refine v_icmp_ge 75 dX12_look_60 (by decide) (fun hc => ?_) (fun hc => ?_)
  · replace h := Eq.mp (if_pos hc) h
    refine v_iconst (-1 : Int32) dX12_look_75 (by decide) ?_
    exact v_iret dX12_look_76 rfl rfl h
  · replace h := Eq.mp (if_neg hc) h
    refine v_aload_n 0 0 dX12_look_63 rfl rfl ?_
    obtain ⟨b6, e7, h⟩ := h
    refine v_gR 12 0 dX12_look_64 fg_RX12_7 o5 e7 ?_
    refine v_aload_n 0 0 dX12_look_67 rfl rfl ?_
    refine v_gI 12 2 dX12_look_68 fg_RX12_291 o5 ?_
    obtain ⟨i8, h⟩ := h
    refine v_iald dX12_look_71 i8 ?_
    refine v_goto 76 dX12_look_72 (by decide) ?_
    exact v_iret dX12_look_76 rfl rfl h
set_option maxHeartbeats 4000000 in
set_option maxRecDepth 100000 in
theorem v_X12_look_p0b {G : Gl} {F : Fr} {sh : Shp} {v0 : Nat} {Q : Int32 → Mem → Prop} {K0 : Mem → Prop} {m : Mem} (hK0 : ∀ (m : Mem), K0 m → V G F M_X12_look sh 0 0 (Zi G F sh Q) 0 [(0, .ref (G.1 + v0))] [] m) (h : X12_look_p0b sh v0 Q K0 m) : V G F M_X12_look sh 0 0 (Zi G F sh Q) 0 [(0, .ref (G.1 + v0))] [] m := by
  unfold X12_look_p0b at h
  refine v_aload_n 0 0 dX12_look_0 rfl rfl ?_
  obtain ⟨o1, h⟩ := h
  refine v_gI 12 2 dX12_look_1 fg_RX12_291 o1 ?_
  refine v_aload_n 0 0 dX12_look_4 rfl rfl ?_
  refine v_gI 12 3 dX12_look_5 fg_RX12_294 o1 ?_
  refine v_icmp_ge 52 dX12_look_8 (by decide) (fun hc => ?_) (fun hc => ?_)
  · replace h := Eq.mp (if_pos hc) h
    refine v_sub [0] rfl ?_
    exact v_X12_look_p52 h
  · replace h := Eq.mp (if_neg hc) h
    refine v_aload_n 0 0 dX12_look_11 rfl rfl ?_
    obtain ⟨b2, e3, h⟩ := h
    refine v_gR 12 0 dX12_look_12 fg_RX12_7 o1 e3 ?_
    refine v_aload_n 0 0 dX12_look_15 rfl rfl ?_
    refine v_gI 12 2 dX12_look_16 fg_RX12_291 o1 ?_
    obtain ⟨i4, h⟩ := h
    refine v_iald dX12_look_19 i4 ?_
    refine v_bipush (10 : Int32) dX12_look_20 (by decide) ?_
    refine v_icmp_eq 39 dX12_look_22 (by decide) (fun hc => ?_) (fun hc => ?_)
    · replace h := Eq.mp (if_pos hc) h
      refine v_sub [0] rfl ?_
      exact v_X12_look_p39 hK0 h
    · replace h := Eq.mp (if_neg hc) h
      refine v_aload_n 0 0 dX12_look_25 rfl rfl ?_
      refine v_gR 12 0 dX12_look_26 fg_RX12_7 o1 e3 ?_
      refine v_aload_n 0 0 dX12_look_29 rfl rfl ?_
      refine v_gI 12 2 dX12_look_30 fg_RX12_291 o1 ?_
      refine v_iald dX12_look_33 i4 ?_
      refine v_bipush (32 : Int32) dX12_look_34 (by decide) ?_
      refine v_icmp_ne 52 dX12_look_36 (by decide) (fun hc => ?_) (fun hc => ?_)
      · replace h := Eq.mp (if_neg hc) h
        refine v_sub [0] rfl ?_
        exact v_X12_look_p52 h
      · replace h := Eq.mp (if_pos hc) h
        refine v_sub [0] rfl ?_
        exact v_X12_look_p39 hK0 h
set_option maxHeartbeats 4000000 in
set_option maxRecDepth 100000 in
theorem v_X12_look_p0 {G : Gl} {F : Fr} {sh : Shp} {v0 : Nat} {Q : Int32 → Mem → Prop} {m : Mem} (h : X12_look_p0 sh v0 Q m) : V G F M_X12_look sh 0 0 (Zi G F sh Q) 0 [(0, .ref (G.1 + v0))] [] m := by
  obtain ⟨n, h⟩ := h
  induction n generalizing  m with
  | zero => exact h.elim
  | succ n ih => exact v_X12_look_p0b (fun  _ h => ih h) h
set_option maxHeartbeats 4000000 in
set_option maxRecDepth 100000 in
theorem c_X12_look {l : Launch} {G : Gl} {sh : Shp} {v0 : Nat} {Q : Int32 → Mem → Prop} {m : Mem} (h : wp_X12_look sh v0 Q m) : Cni l G yX12_look cX12_look 1 (Option.some FieldType.int) 1 60 sh [.ref (G.1 + v0)] m Q := by
  refine con_i (ls := [(0, .ref (G.1 + v0))]) (by decide +kernel) rfl (Nat.le_of_ble_eq_true rfl) (fun F => ?_)
  show V G F M_X12_look sh 0 0 (Zi G F sh Q) 0 [(0, .ref (G.1 + v0))] [] m
  unfold wp_X12_look at h
  refine v_sub [0] rfl ?_
  exact v_X12_look_p0 h
/-! CalledRiverModel.isHere -/
theorem dX12_isHere_0 : decode cX12_isHere 0 = .ok (.aload_n 0, 1) := by decide +kernel
theorem dX12_isHere_1 : decode cX12_isHere 1 = .ok (.getfield 285, 3) := by decide +kernel
theorem dX12_isHere_4 : decode cX12_isHere 4 = .ok (.ifCond .ne 24, 3) := by decide +kernel
theorem dX12_isHere_7 : decode cX12_isHere 7 = .ok (.aload_n 0, 1) := by decide +kernel
theorem dX12_isHere_8 : decode cX12_isHere 8 = .ok (.invokevirtual 297, 3) := by decide +kernel
theorem dX12_isHere_11 : decode cX12_isHere 11 = .ok (.invokestatic 301, 3) := by decide +kernel
theorem dX12_isHere_14 : decode cX12_isHere 14 = .ok (.ifCond .eq 14, 3) := by decide +kernel
theorem dX12_isHere_17 : decode cX12_isHere 17 = .ok (.aload_n 0, 1) := by decide +kernel
theorem dX12_isHere_18 : decode cX12_isHere 18 = .ok (.getfield 291, 3) := by decide +kernel
theorem dX12_isHere_21 : decode cX12_isHere 21 = .ok (.aload_n 0, 1) := by decide +kernel
theorem dX12_isHere_22 : decode cX12_isHere 22 = .ok (.getfield 305, 3) := by decide +kernel
theorem dX12_isHere_25 : decode cX12_isHere 25 = .ok (.if_icmp .ne 5, 3) := by decide +kernel
theorem dX12_isHere_28 : decode cX12_isHere 28 = .ok (.iconst 0, 1) := by decide +kernel
theorem dX12_isHere_29 : decode cX12_isHere 29 = .ok (.ireturn, 1) := by decide +kernel
theorem dX12_isHere_30 : decode cX12_isHere 30 = .ok (.aload_n 0, 1) := by decide +kernel
theorem dX12_isHere_31 : decode cX12_isHere 31 = .ok (.getfield 291, 3) := by decide +kernel
theorem dX12_isHere_34 : decode cX12_isHere 34 = .ok (.istore_n 2, 1) := by decide +kernel
theorem dX12_isHere_35 : decode cX12_isHere 35 = .ok (.iload_n 2, 1) := by decide +kernel
theorem dX12_isHere_36 : decode cX12_isHere 36 = .ok (.aload_n 0, 1) := by decide +kernel
theorem dX12_isHere_37 : decode cX12_isHere 37 = .ok (.getfield 294, 3) := by decide +kernel
theorem dX12_isHere_40 : decode cX12_isHere 40 = .ok (.if_icmp .ge 21, 3) := by decide +kernel
theorem dX12_isHere_43 : decode cX12_isHere 43 = .ok (.aload_n 0, 1) := by decide +kernel
theorem dX12_isHere_44 : decode cX12_isHere 44 = .ok (.getfield 7, 3) := by decide +kernel
theorem dX12_isHere_47 : decode cX12_isHere 47 = .ok (.iload_n 2, 1) := by decide +kernel
theorem dX12_isHere_48 : decode cX12_isHere 48 = .ok (.iaload, 1) := by decide +kernel
theorem dX12_isHere_49 : decode cX12_isHere 49 = .ok (.invokestatic 301, 3) := by decide +kernel
theorem dX12_isHere_52 : decode cX12_isHere 52 = .ok (.ifCond .eq 9, 3) := by decide +kernel
theorem dX12_isHere_55 : decode cX12_isHere 55 = .ok (.iinc 2 1, 3) := by decide +kernel
theorem dX12_isHere_58 : decode cX12_isHere 58 = .ok (.goto (-23), 3) := by decide +kernel
theorem dX12_isHere_61 : decode cX12_isHere 61 = .ok (.iload_n 2, 1) := by decide +kernel
theorem dX12_isHere_62 : decode cX12_isHere 62 = .ok (.aload_n 0, 1) := by decide +kernel
theorem dX12_isHere_63 : decode cX12_isHere 63 = .ok (.getfield 291, 3) := by decide +kernel
theorem dX12_isHere_66 : decode cX12_isHere 66 = .ok (.isub, 1) := by decide +kernel
theorem dX12_isHere_67 : decode cX12_isHere 67 = .ok (.aload_n 1, 1) := by decide +kernel
theorem dX12_isHere_68 : decode cX12_isHere 68 = .ok (.arraylength, 1) := by decide +kernel
theorem dX12_isHere_69 : decode cX12_isHere 69 = .ok (.if_icmp .eq 5, 3) := by decide +kernel
theorem dX12_isHere_72 : decode cX12_isHere 72 = .ok (.iconst 0, 1) := by decide +kernel
theorem dX12_isHere_73 : decode cX12_isHere 73 = .ok (.ireturn, 1) := by decide +kernel
theorem dX12_isHere_74 : decode cX12_isHere 74 = .ok (.iconst 0, 1) := by decide +kernel
theorem dX12_isHere_75 : decode cX12_isHere 75 = .ok (.istore_n 3, 1) := by decide +kernel
theorem dX12_isHere_76 : decode cX12_isHere 76 = .ok (.iload_n 3, 1) := by decide +kernel
theorem dX12_isHere_77 : decode cX12_isHere 77 = .ok (.aload_n 1, 1) := by decide +kernel
theorem dX12_isHere_78 : decode cX12_isHere 78 = .ok (.arraylength, 1) := by decide +kernel
theorem dX12_isHere_79 : decode cX12_isHere 79 = .ok (.if_icmp .ge 28, 3) := by decide +kernel
theorem dX12_isHere_82 : decode cX12_isHere 82 = .ok (.aload_n 0, 1) := by decide +kernel
theorem dX12_isHere_83 : decode cX12_isHere 83 = .ok (.getfield 7, 3) := by decide +kernel
theorem dX12_isHere_86 : decode cX12_isHere 86 = .ok (.aload_n 0, 1) := by decide +kernel
theorem dX12_isHere_87 : decode cX12_isHere 87 = .ok (.getfield 291, 3) := by decide +kernel
theorem dX12_isHere_90 : decode cX12_isHere 90 = .ok (.iload_n 3, 1) := by decide +kernel
theorem dX12_isHere_91 : decode cX12_isHere 91 = .ok (.iadd, 1) := by decide +kernel
theorem dX12_isHere_92 : decode cX12_isHere 92 = .ok (.iaload, 1) := by decide +kernel
theorem dX12_isHere_93 : decode cX12_isHere 93 = .ok (.aload_n 1, 1) := by decide +kernel
theorem dX12_isHere_94 : decode cX12_isHere 94 = .ok (.iload_n 3, 1) := by decide +kernel
theorem dX12_isHere_95 : decode cX12_isHere 95 = .ok (.caload, 1) := by decide +kernel
theorem dX12_isHere_96 : decode cX12_isHere 96 = .ok (.if_icmp .eq 5, 3) := by decide +kernel
theorem dX12_isHere_99 : decode cX12_isHere 99 = .ok (.iconst 0, 1) := by decide +kernel
theorem dX12_isHere_100 : decode cX12_isHere 100 = .ok (.ireturn, 1) := by decide +kernel
theorem dX12_isHere_101 : decode cX12_isHere 101 = .ok (.iinc 3 1, 3) := by decide +kernel
theorem dX12_isHere_104 : decode cX12_isHere 104 = .ok (.goto (-28), 3) := by decide +kernel
theorem dX12_isHere_107 : decode cX12_isHere 107 = .ok (.iconst 1, 1) := by decide +kernel
theorem dX12_isHere_108 : decode cX12_isHere 108 = .ok (.ireturn, 1) := by decide +kernel
def X12_isHere_p76b (sh : Shp) (v0 : Nat) (v1 : Nat) (Q : Int32 → Mem → Prop) (K76 : Int32 → Mem → Prop) (v3 : Int32) (m : Mem) : Prop :=
  ∃ n15 : Nat, Ar sh v1 101 n15 ∧ (if (nI n15) ≤ v3 then (Q (1 : Int32) m) else (Ob sh v0 12 ∧ ∃ b18 : Nat, m.2.2 v0 0 = some b18 ∧ (Ix sh b18 100 ((m.1 v0 2) + v3) ∧ (Ix sh v1 101 v3 ∧ (if (m.1 b18 ((m.1 v0 2) + v3).toNatClampNeg) = (m.1 v1 v3.toNatClampNeg) then (K76 (v3 + (1 : Int32)) m) else (Q (0 : Int32) m))))))
def X12_isHere_p76n (sh : Shp) (v0 : Nat) (v1 : Nat) (Q : Int32 → Mem → Prop) : Nat → Int32 → Mem → Prop
  | 0 => fun _ _ => False
  | n + 1 => X12_isHere_p76b sh v0 v1 Q (X12_isHere_p76n sh v0 v1 Q n)
def X12_isHere_p76 (sh : Shp) (v0 : Nat) (v1 : Nat) (Q : Int32 → Mem → Prop) (v3 : Int32) (m : Mem) : Prop := ∃ n, X12_isHere_p76n sh v0 v1 Q n v3 m
def X12_isHere_p61 (sh : Shp) (v0 : Nat) (v1 : Nat) (v2 : Int32) (Q : Int32 → Mem → Prop) (m : Mem) : Prop :=
  Ob sh v0 12 ∧ (∃ n13 : Nat, Ar sh v1 101 n13 ∧ (if (v2 - (m.1 v0 2)) = (nI n13) then (X12_isHere_p76 sh v0 v1 Q (0 : Int32) m) else (Q (0 : Int32) m)))
def X12_isHere_p35b (sh : Shp) (v0 : Nat) (v1 : Nat) (Q : Int32 → Mem → Prop) (K35 : Int32 → Mem → Prop) (v2 : Int32) (m : Mem) : Prop :=
  Ob sh v0 12 ∧ (if (m.1 v0 3) ≤ v2 then (X12_isHere_p61 sh v0 v1 v2 Q m) else (∃ b7 : Nat, m.2.2 v0 0 = some b7 ∧ (Ix sh b7 100 v2 ∧ (wp_X12_isLetter sh (m.1 b7 v2.toNatClampNeg) (fun r10 m11 => if r10 = 0 then (X12_isHere_p61 sh v0 v1 v2 Q m11) else (K35 (v2 + (1 : Int32)) m11)) m))))
def X12_isHere_p35n (sh : Shp) (v0 : Nat) (v1 : Nat) (Q : Int32 → Mem → Prop) : Nat → Int32 → Mem → Prop
  | 0 => fun _ _ => False
  | n + 1 => X12_isHere_p35b sh v0 v1 Q (X12_isHere_p35n sh v0 v1 Q n)
def X12_isHere_p35 (sh : Shp) (v0 : Nat) (v1 : Nat) (Q : Int32 → Mem → Prop) (v2 : Int32) (m : Mem) : Prop := ∃ n, X12_isHere_p35n sh v0 v1 Q n v2 m
def wp_X12_isHere (sh : Shp) (v0 : Nat) (v1 : Nat) (Q : Int32 → Mem → Prop) (m : Mem) : Prop :=
  Ob sh v0 12 ∧ (if (m.1 v0 5) = 0 then (wp_X12_look sh v0 (fun r2 m3 => wp_X12_isLetter sh r2 (fun r4 m5 => if r4 = 0 then (Q (0 : Int32) m5) else (if (m5.1 v0 2) = (m5.1 v0 4) then (Q (0 : Int32) m5) else (X12_isHere_p35 sh v0 v1 Q (m5.1 v0 2) m5))) m3) m) else (Q (0 : Int32) m))
abbrev M_X12_isHere : Mi := (cX12_isHere, 4, RX12, (Option.some FieldType.boolean), "isHere", 2, 80, 0, 0)
set_option maxHeartbeats 4000000 in
set_option maxRecDepth 100000 in
theorem v_X12_isHere_p76b {G : Gl} {F : Fr} {sh : Shp} {v0 : Nat} {v1 : Nat} {v3 : Int32} {Q : Int32 → Mem → Prop} {K76 : Int32 → Mem → Prop} {m : Mem} (hK76 : ∀ (x3 : Int32) (m : Mem), K76 x3 m → V G F M_X12_isHere sh 0 0 (Zi G F sh Q) 76 [(0, .ref (G.1 + v0)), (1, .ref (G.1 + v1)), (3, .int x3)] [] m) (h : X12_isHere_p76b sh v0 v1 Q K76 v3 m) : V G F M_X12_isHere sh 0 0 (Zi G F sh Q) 76 [(0, .ref (G.1 + v0)), (1, .ref (G.1 + v1)), (3, .int v3)] [] m := by
  unfold X12_isHere_p76b at h
  refine v_iload_n 3 2 dX12_isHere_76 rfl rfl ?_
  refine v_aload_n 1 1 dX12_isHere_77 rfl rfl ?_
  obtain ⟨n15, l16, h⟩ := h
  refine v_alen dX12_isHere_78 l16 (by decide) ?_
  refine v_icmp_ge 107 dX12_isHere_79 (by decide) (fun hc => ?_) (fun hc => ?_)
  · replace h := Eq.mp (if_pos hc) h
    refine v_iconst (1 : Int32) dX12_isHere_107 (by decide) ?_
    exact v_iret dX12_isHere_108 rfl (by decide) h
  · replace h := Eq.mp (if_neg hc) h
    refine v_aload_n 0 0 dX12_isHere_82 rfl rfl ?_
    obtain ⟨o17, h⟩ := h
    obtain ⟨b18, e19, h⟩ := h
    refine v_gR 12 0 dX12_isHere_83 fg_RX12_7 o17 e19 ?_
    refine v_aload_n 0 0 dX12_isHere_86 rfl rfl ?_
    refine v_gI 12 2 dX12_isHere_87 fg_RX12_291 o17 ?_
    refine v_iload_n 3 2 dX12_isHere_90 rfl rfl ?_
    refine v_iadd dX12_isHere_91 ?_
    obtain ⟨i20, h⟩ := h
    refine v_iald dX12_isHere_92 i20 ?_
    refine v_aload_n 1 1 dX12_isHere_93 rfl rfl ?_
    refine v_iload_n 3 2 dX12_isHere_94 rfl rfl ?_
    obtain ⟨i21, h⟩ := h
    refine v_cald dX12_isHere_95 i21 ?_
    refine v_icmp_eq 101 dX12_isHere_96 (by decide) (fun hc => ?_) (fun hc => ?_)
    · replace h := Eq.mp (if_pos hc) h
      refine v_iinc (ls' := [(3, .int _), (0, .ref _), (1, .ref _)]) 3 2 dX12_isHere_101 rfl (congrArg (HAdd.hAdd _) (by decide : Int32.ofInt (1) = (1 : Int32))) (Nat.le_of_ble_eq_true rfl) rfl ?_
      refine v_goto 76 dX12_isHere_104 (by decide) ?_
      refine v_sub [1, 2, 0] rfl ?_
      exact hK76 _ _ h
    · replace h := Eq.mp (if_neg hc) h
      refine v_iconst (0 : Int32) dX12_isHere_99 (by decide) ?_
      exact v_iret dX12_isHere_100 rfl (by decide) h
set_option maxHeartbeats 4000000 in
set_option maxRecDepth 100000 in
theorem v_X12_isHere_p76 {G : Gl} {F : Fr} {sh : Shp} {v0 : Nat} {v1 : Nat} {v3 : Int32} {Q : Int32 → Mem → Prop} {m : Mem} (h : X12_isHere_p76 sh v0 v1 Q v3 m) : V G F M_X12_isHere sh 0 0 (Zi G F sh Q) 76 [(0, .ref (G.1 + v0)), (1, .ref (G.1 + v1)), (3, .int v3)] [] m := by
  obtain ⟨n, h⟩ := h
  induction n generalizing v3 m with
  | zero => exact h.elim
  | succ n ih => exact v_X12_isHere_p76b (fun _ _ h => ih h) h
set_option maxHeartbeats 4000000 in
set_option maxRecDepth 100000 in
theorem v_X12_isHere_p61 {G : Gl} {F : Fr} {sh : Shp} {v0 : Nat} {v1 : Nat} {v2 : Int32} {Q : Int32 → Mem → Prop} {m : Mem} (h : X12_isHere_p61 sh v0 v1 v2 Q m) : V G F M_X12_isHere sh 0 0 (Zi G F sh Q) 61 [(0, .ref (G.1 + v0)), (1, .ref (G.1 + v1)), (2, .int v2)] [] m := by
  unfold X12_isHere_p61 at h
  refine v_iload_n 2 2 dX12_isHere_61 rfl rfl ?_
  refine v_aload_n 0 0 dX12_isHere_62 rfl rfl ?_
  obtain ⟨o12, h⟩ := h
  refine v_gI 12 2 dX12_isHere_63 fg_RX12_291 o12 ?_
  refine v_isub dX12_isHere_66 ?_
  refine v_aload_n 1 1 dX12_isHere_67 rfl rfl ?_
  obtain ⟨n13, l14, h⟩ := h
  refine v_alen dX12_isHere_68 l14 (by decide) ?_
  refine v_icmp_eq 74 dX12_isHere_69 (by decide) (fun hc => ?_) (fun hc => ?_)
  · replace h := Eq.mp (if_pos hc) h
    refine v_iconst (0 : Int32) dX12_isHere_74 (by decide) ?_
    refine v_istore_n (ls' := [(3, .int _), (0, .ref _), (1, .ref _), (2, .int _)]) 3 dX12_isHere_75 rfl (Nat.le_of_ble_eq_true rfl) rfl ?_
    refine v_sub [1, 2, 0] rfl ?_
    exact v_X12_isHere_p76 h
  · replace h := Eq.mp (if_neg hc) h
    refine v_iconst (0 : Int32) dX12_isHere_72 (by decide) ?_
    exact v_iret dX12_isHere_73 rfl (by decide) h
set_option maxHeartbeats 4000000 in
set_option maxRecDepth 100000 in
theorem v_X12_isHere_p35b {G : Gl} {F : Fr} {sh : Shp} {v0 : Nat} {v1 : Nat} {v2 : Int32} {Q : Int32 → Mem → Prop} {K35 : Int32 → Mem → Prop} {m : Mem} (hK35 : ∀ (x2 : Int32) (m : Mem), K35 x2 m → V G F M_X12_isHere sh 0 0 (Zi G F sh Q) 35 [(0, .ref (G.1 + v0)), (1, .ref (G.1 + v1)), (2, .int x2)] [] m) (h : X12_isHere_p35b sh v0 v1 Q K35 v2 m) : V G F M_X12_isHere sh 0 0 (Zi G F sh Q) 35 [(0, .ref (G.1 + v0)), (1, .ref (G.1 + v1)), (2, .int v2)] [] m := by
  unfold X12_isHere_p35b at h
  refine v_iload_n 2 2 dX12_isHere_35 rfl rfl ?_
  refine v_aload_n 0 0 dX12_isHere_36 rfl rfl ?_
  obtain ⟨o6, h⟩ := h
  refine v_gI 12 3 dX12_isHere_37 fg_RX12_294 o6 ?_
  refine v_icmp_ge 61 dX12_isHere_40 (by decide) (fun hc => ?_) (fun hc => ?_)
  · replace h := Eq.mp (if_pos hc) h
    refine v_sub [0, 1, 2] rfl ?_
    exact v_X12_isHere_p61 h
  · replace h := Eq.mp (if_neg hc) h
    refine v_aload_n 0 0 dX12_isHere_43 rfl rfl ?_
    obtain ⟨b7, e8, h⟩ := h
    refine v_gR 12 0 dX12_isHere_44 fg_RX12_7 o6 e8 ?_
    refine v_iload_n 2 2 dX12_isHere_47 rfl rfl ?_
    obtain ⟨i9, h⟩ := h
    refine v_iald dX12_isHere_48 i9 ?_
    refine v_cSi [.int _] mv_X12_isLetter ml_RX12_301 rfl rfl (Nat.le_of_ble_eq_true rfl) (Nat.le_of_ble_eq_true rfl) (Nat.le_of_ble_eq_true rfl) (Nat.zero_le _) (Nat.zero_le _) dX12_isHere_49 (c_X12_isLetter h) (fun r10 m11 h => ?_)
    refine v_if_eq 61 dX12_isHere_52 (by decide) (fun hc => ?_) (fun hc => ?_)
    · replace h := Eq.mp (if_pos hc) h
      refine v_sub [0, 1, 2] rfl ?_
      exact v_X12_isHere_p61 h
    · replace h := Eq.mp (if_neg hc) h
      refine v_iinc (ls' := [(2, .int _), (0, .ref _), (1, .ref _)]) 2 2 dX12_isHere_55 rfl (congrArg (HAdd.hAdd _) (by decide : Int32.ofInt (1) = (1 : Int32))) (Nat.le_of_ble_eq_true rfl) rfl ?_
      refine v_goto 35 dX12_isHere_58 (by decide) ?_
      refine v_sub [1, 2, 0] rfl ?_
      exact hK35 _ _ h
set_option maxHeartbeats 4000000 in
set_option maxRecDepth 100000 in
theorem v_X12_isHere_p35 {G : Gl} {F : Fr} {sh : Shp} {v0 : Nat} {v1 : Nat} {v2 : Int32} {Q : Int32 → Mem → Prop} {m : Mem} (h : X12_isHere_p35 sh v0 v1 Q v2 m) : V G F M_X12_isHere sh 0 0 (Zi G F sh Q) 35 [(0, .ref (G.1 + v0)), (1, .ref (G.1 + v1)), (2, .int v2)] [] m := by
  obtain ⟨n, h⟩ := h
  induction n generalizing v2 m with
  | zero => exact h.elim
  | succ n ih => exact v_X12_isHere_p35b (fun _ _ h => ih h) h
set_option maxHeartbeats 4000000 in
set_option maxRecDepth 100000 in
theorem c_X12_isHere {l : Launch} {G : Gl} {sh : Shp} {v0 : Nat} {v1 : Nat} {Q : Int32 → Mem → Prop} {m : Mem} (h : wp_X12_isHere sh v0 v1 Q m) : Cni l G yX12_isHere cX12_isHere 4 (Option.some FieldType.boolean) 2 80 sh [.ref (G.1 + v0), .ref (G.1 + v1)] m Q := by
  refine con_i (ls := [(0, .ref (G.1 + v0)), (1, .ref (G.1 + v1))]) (by decide +kernel) rfl (Nat.le_of_ble_eq_true rfl) (fun F => ?_)
  show V G F M_X12_isHere sh 0 0 (Zi G F sh Q) 0 [(0, .ref (G.1 + v0)), (1, .ref (G.1 + v1))] [] m
  unfold wp_X12_isHere at h
  refine v_aload_n 0 0 dX12_isHere_0 rfl rfl ?_
  obtain ⟨o1, h⟩ := h
  refine v_gI 12 5 dX12_isHere_1 fg_RX12_285 o1 ?_
  refine v_if_ne 28 dX12_isHere_4 (by decide) (fun hc => ?_) (fun hc => ?_)
  · replace h := Eq.mp (if_neg hc) h
    refine v_iconst (0 : Int32) dX12_isHere_28 (by decide) ?_
    exact v_iret dX12_isHere_29 rfl (by decide) h
  · replace h := Eq.mp (if_pos hc) h
    refine v_aload_n 0 0 dX12_isHere_7 rfl rfl ?_
    refine v_cVi [] mv_X12_look ml_RX12_297 ⟨_, _, rfl⟩ o1 rfl rfl (Nat.le_of_ble_eq_true rfl) (Nat.le_of_ble_eq_true rfl) (Nat.le_of_ble_eq_true rfl) (Nat.zero_le _) (Nat.zero_le _) dX12_isHere_8 (c_X12_look h) (fun r2 m3 h => ?_)
    refine v_cSi [.int _] mv_X12_isLetter ml_RX12_301 rfl rfl (Nat.le_of_ble_eq_true rfl) (Nat.le_of_ble_eq_true rfl) (Nat.le_of_ble_eq_true rfl) (Nat.zero_le _) (Nat.zero_le _) dX12_isHere_11 (c_X12_isLetter h) (fun r4 m5 h => ?_)
    refine v_if_eq 28 dX12_isHere_14 (by decide) (fun hc => ?_) (fun hc => ?_)
    · replace h := Eq.mp (if_pos hc) h
      refine v_iconst (0 : Int32) dX12_isHere_28 (by decide) ?_
      exact v_iret dX12_isHere_29 rfl (by decide) h
    · replace h := Eq.mp (if_neg hc) h
      refine v_aload_n 0 0 dX12_isHere_17 rfl rfl ?_
      refine v_gI 12 2 dX12_isHere_18 fg_RX12_291 o1 ?_
      refine v_aload_n 0 0 dX12_isHere_21 rfl rfl ?_
      refine v_gI 12 4 dX12_isHere_22 fg_RX12_305 o1 ?_
      refine v_icmp_ne 30 dX12_isHere_25 (by decide) (fun hc => ?_) (fun hc => ?_)
      · replace h := Eq.mp (if_neg hc) h
        refine v_aload_n 0 0 dX12_isHere_30 rfl rfl ?_
        refine v_gI 12 2 dX12_isHere_31 fg_RX12_291 o1 ?_
        refine v_istore_n (ls' := [(2, .int _), (0, .ref _), (1, .ref _)]) 2 dX12_isHere_34 rfl (Nat.le_of_ble_eq_true rfl) rfl ?_
        refine v_sub [1, 2, 0] rfl ?_
        exact v_X12_isHere_p35 h
      · replace h := Eq.mp (if_pos hc) h
        refine v_iconst (0 : Int32) dX12_isHere_28 (by decide) ?_
        exact v_iret dX12_isHere_29 rfl (by decide) h
/-! CalledRiverModel.takes -/
theorem dX12_takes_0 : decode cX12_takes 0 = .ok (.aload_n 0, 1) := by decide +kernel
theorem dX12_takes_1 : decode cX12_takes 1 = .ok (.aload_n 1, 1) := by decide +kernel
theorem dX12_takes_2 : decode cX12_takes 2 = .ok (.invokevirtual 308, 3) := by decide +kernel
theorem dX12_takes_5 : decode cX12_takes 5 = .ok (.ifCond .ne 5, 3) := by decide +kernel
theorem dX12_takes_8 : decode cX12_takes 8 = .ok (.iconst 0, 1) := by decide +kernel
theorem dX12_takes_9 : decode cX12_takes 9 = .ok (.ireturn, 1) := by decide +kernel
theorem dX12_takes_10 : decode cX12_takes 10 = .ok (.aload_n 0, 1) := by decide +kernel
theorem dX12_takes_11 : decode cX12_takes 11 = .ok (.dup, 1) := by decide +kernel
theorem dX12_takes_12 : decode cX12_takes 12 = .ok (.getfield 291, 3) := by decide +kernel
theorem dX12_takes_15 : decode cX12_takes 15 = .ok (.aload_n 1, 1) := by decide +kernel
theorem dX12_takes_16 : decode cX12_takes 16 = .ok (.arraylength, 1) := by decide +kernel
theorem dX12_takes_17 : decode cX12_takes 17 = .ok (.iadd, 1) := by decide +kernel
theorem dX12_takes_18 : decode cX12_takes 18 = .ok (.putfield 291, 3) := by decide +kernel
theorem dX12_takes_21 : decode cX12_takes 21 = .ok (.aload_n 0, 1) := by decide +kernel
theorem dX12_takes_22 : decode cX12_takes 22 = .ok (.aload_n 0, 1) := by decide +kernel
theorem dX12_takes_23 : decode cX12_takes 23 = .ok (.getfield 291, 3) := by decide +kernel
theorem dX12_takes_26 : decode cX12_takes 26 = .ok (.putfield 305, 3) := by decide +kernel
theorem dX12_takes_29 : decode cX12_takes 29 = .ok (.iconst 1, 1) := by decide +kernel
theorem dX12_takes_30 : decode cX12_takes 30 = .ok (.ireturn, 1) := by decide +kernel
def wp_X12_takes (sh : Shp) (v0 : Nat) (v1 : Nat) (Q : Int32 → Mem → Prop) (m : Mem) : Prop :=
  Ob sh v0 12 ∧ wp_X12_isHere sh v0 v1 (fun r1 m2 => if r1 = 0 then (Q (0 : Int32) m2) else (∃ n4 : Nat, Ar sh v1 101 n4 ∧ (bnd (sI m2 v0 2 ((m2.1 v0 2) + (nI n4))) (fun m6 => bnd (sI m6 v0 4 (m6.1 v0 2)) (fun m7 => Q (1 : Int32) m7))))) m
abbrev M_X12_takes : Mi := (cX12_takes, 2, RX12, (Option.some FieldType.boolean), "takes", 3, 103, 0, 0)
set_option maxHeartbeats 4000000 in
set_option maxRecDepth 100000 in
theorem c_X12_takes {l : Launch} {G : Gl} {sh : Shp} {v0 : Nat} {v1 : Nat} {Q : Int32 → Mem → Prop} {m : Mem} (h : wp_X12_takes sh v0 v1 Q m) : Cni l G yX12_takes cX12_takes 2 (Option.some FieldType.boolean) 3 103 sh [.ref (G.1 + v0), .ref (G.1 + v1)] m Q := by
  refine con_i (ls := [(0, .ref (G.1 + v0)), (1, .ref (G.1 + v1))]) (by decide +kernel) rfl (Nat.le_of_ble_eq_true rfl) (fun F => ?_)
  show V G F M_X12_takes sh 0 0 (Zi G F sh Q) 0 [(0, .ref (G.1 + v0)), (1, .ref (G.1 + v1))] [] m
  unfold wp_X12_takes at h
  refine v_aload_n 0 0 dX12_takes_0 rfl rfl ?_
  refine v_aload_n 1 1 dX12_takes_1 rfl rfl ?_
  obtain ⟨o3, h⟩ := h
  refine v_cVi [.ref _] mv_X12_isHere ml_RX12_308 ⟨_, _, rfl⟩ o3 rfl rfl (Nat.le_of_ble_eq_true rfl) (Nat.le_of_ble_eq_true rfl) (Nat.le_of_ble_eq_true rfl) (Nat.zero_le _) (Nat.zero_le _) dX12_takes_2 (c_X12_isHere h) (fun r1 m2 h => ?_)
  refine v_if_ne 10 dX12_takes_5 (by decide) (fun hc => ?_) (fun hc => ?_)
  · replace h := Eq.mp (if_neg hc) h
    refine v_aload_n 0 0 dX12_takes_10 rfl rfl ?_
    refine v_dup dX12_takes_11 rfl ?_
    refine v_gI 12 2 dX12_takes_12 fg_RX12_291 o3 ?_
    refine v_aload_n 1 1 dX12_takes_15 rfl rfl ?_
    obtain ⟨n4, l5, h⟩ := h
    refine v_alen dX12_takes_16 l5 (by decide) ?_
    refine v_iadd dX12_takes_17 ?_
    refine v_pI 12 2 dX12_takes_18 fw_RX12_291 o3 ?_
    replace h := bnd_e h
    refine v_aload_n 0 0 dX12_takes_21 rfl rfl ?_
    refine v_aload_n 0 0 dX12_takes_22 rfl rfl ?_
    refine v_gI 12 2 dX12_takes_23 fg_RX12_291 o3 ?_
    refine v_pI 12 4 dX12_takes_26 fw_RX12_305 o3 ?_
    replace h := bnd_e h
    refine v_iconst (1 : Int32) dX12_takes_29 (by decide) ?_
    exact v_iret dX12_takes_30 rfl (by decide) h
  · replace h := Eq.mp (if_pos hc) h
    refine v_iconst (0 : Int32) dX12_takes_8 (by decide) ?_
    exact v_iret dX12_takes_9 rfl (by decide) h
/-! CalledRiverModel.asks -/
theorem dX12_asks_0 : decode cX12_asks 0 = .ok (.aload_n 0, 1) := by decide +kernel
theorem dX12_asks_1 : decode cX12_asks 1 = .ok (.getfield 285, 3) := by decide +kernel
theorem dX12_asks_4 : decode cX12_asks 4 = .ok (.ifCond .ne 20, 3) := by decide +kernel
theorem dX12_asks_7 : decode cX12_asks 7 = .ok (.aload_n 0, 1) := by decide +kernel
theorem dX12_asks_8 : decode cX12_asks 8 = .ok (.aload_n 1, 1) := by decide +kernel
theorem dX12_asks_9 : decode cX12_asks 9 = .ok (.invokevirtual 312, 3) := by decide +kernel
theorem dX12_asks_12 : decode cX12_asks 12 = .ok (.ifCond .ne 12, 3) := by decide +kernel
theorem dX12_asks_15 : decode cX12_asks 15 = .ok (.aload_n 0, 1) := by decide +kernel
theorem dX12_asks_16 : decode cX12_asks 16 = .ok (.iconst 1, 1) := by decide +kernel
theorem dX12_asks_17 : decode cX12_asks 17 = .ok (.aload_n 0, 1) := by decide +kernel
theorem dX12_asks_18 : decode cX12_asks 18 = .ok (.getfield 291, 3) := by decide +kernel
theorem dX12_asks_21 : decode cX12_asks 21 = .ok (.invokevirtual 315, 3) := by decide +kernel
theorem dX12_asks_24 : decode cX12_asks 24 = .ok (.return_, 1) := by decide +kernel
def wp_X12_asks (sh : Shp) (v0 : Nat) (v1 : Nat) (Q : Mem → Prop) (m : Mem) : Prop :=
  Ob sh v0 12 ∧ (if (m.1 v0 5) = 0 then (wp_X12_takes sh v0 v1 (fun r2 m3 => if r2 = 0 then (wp_X12_fail sh v0 (1 : Int32) (m3.1 v0 2) (fun m5 => Q m5) m3) else (Q m3)) m) else (Q m))
abbrev M_X12_asks : Mi := (cX12_asks, 2, RX12, (none : Option FieldType), "asks", 4, 124, 0, 0)
set_option maxHeartbeats 4000000 in
set_option maxRecDepth 100000 in
theorem c_X12_asks {l : Launch} {G : Gl} {sh : Shp} {v0 : Nat} {v1 : Nat} {Q : Mem → Prop} {m : Mem} (h : wp_X12_asks sh v0 v1 Q m) : Cnv l G yX12_asks cX12_asks 2 (none : Option FieldType) 4 124 sh [.ref (G.1 + v0), .ref (G.1 + v1)] m Q := by
  refine con_v (ls := [(0, .ref (G.1 + v0)), (1, .ref (G.1 + v1))]) (by decide +kernel) rfl (Nat.le_of_ble_eq_true rfl) (fun F => ?_)
  show V G F M_X12_asks sh 0 0 (Zv G F sh Q) 0 [(0, .ref (G.1 + v0)), (1, .ref (G.1 + v1))] [] m
  unfold wp_X12_asks at h
  refine v_aload_n 0 0 dX12_asks_0 rfl rfl ?_
  obtain ⟨o1, h⟩ := h
  refine v_gI 12 5 dX12_asks_1 fg_RX12_285 o1 ?_
  refine v_if_ne 24 dX12_asks_4 (by decide) (fun hc => ?_) (fun hc => ?_)
  · replace h := Eq.mp (if_neg hc) h
    exact v_vret dX12_asks_24 rfl h
  · replace h := Eq.mp (if_pos hc) h
    refine v_aload_n 0 0 dX12_asks_7 rfl rfl ?_
    refine v_aload_n 1 1 dX12_asks_8 rfl rfl ?_
    refine v_cVi [.ref _] mv_X12_takes ml_RX12_312 ⟨_, _, rfl⟩ o1 rfl rfl (Nat.le_of_ble_eq_true rfl) (Nat.le_of_ble_eq_true rfl) (Nat.le_of_ble_eq_true rfl) (Nat.zero_le _) (Nat.zero_le _) dX12_asks_9 (c_X12_takes h) (fun r2 m3 h => ?_)
    refine v_if_ne 24 dX12_asks_12 (by decide) (fun hc => ?_) (fun hc => ?_)
    · replace h := Eq.mp (if_neg hc) h
      exact v_vret dX12_asks_24 rfl h
    · replace h := Eq.mp (if_pos hc) h
      refine v_aload_n 0 0 dX12_asks_15 rfl rfl ?_
      refine v_iconst (1 : Int32) dX12_asks_16 (by decide) ?_
      refine v_aload_n 0 0 dX12_asks_17 rfl rfl ?_
      refine v_gI 12 2 dX12_asks_18 fg_RX12_291 o1 ?_
      refine v_cVv [.int _, .int _] mv_X12_fail ml_RX12_315 ⟨_, _, rfl⟩ o1 rfl rfl (Nat.le_of_ble_eq_true rfl) (Nat.le_of_ble_eq_true rfl) (Nat.le_of_ble_eq_true rfl) (Nat.zero_le _) (Nat.zero_le _) dX12_asks_21 (c_X12_fail h) (fun m5 h => ?_)
      exact v_vret dX12_asks_24 rfl h
/-! CalledRiverModel.takesSign -/
theorem dX12_takesSign_0 : decode cX12_takesSign 0 = .ok (.aload_n 0, 1) := by decide +kernel
theorem dX12_takesSign_1 : decode cX12_takesSign 1 = .ok (.getfield 285, 3) := by decide +kernel
theorem dX12_takesSign_4 : decode cX12_takesSign 4 = .ok (.ifCond .ne 11, 3) := by decide +kernel
theorem dX12_takesSign_7 : decode cX12_takesSign 7 = .ok (.aload_n 0, 1) := by decide +kernel
theorem dX12_takesSign_8 : decode cX12_takesSign 8 = .ok (.invokevirtual 297, 3) := by decide +kernel
theorem dX12_takesSign_11 : decode cX12_takesSign 11 = .ok (.iload_n 1, 1) := by decide +kernel
theorem dX12_takesSign_12 : decode cX12_takesSign 12 = .ok (.if_icmp .eq 5, 3) := by decide +kernel
theorem dX12_takesSign_15 : decode cX12_takesSign 15 = .ok (.iconst 0, 1) := by decide +kernel
theorem dX12_takesSign_16 : decode cX12_takesSign 16 = .ok (.ireturn, 1) := by decide +kernel
theorem dX12_takesSign_17 : decode cX12_takesSign 17 = .ok (.aload_n 0, 1) := by decide +kernel
theorem dX12_takesSign_18 : decode cX12_takesSign 18 = .ok (.dup, 1) := by decide +kernel
theorem dX12_takesSign_19 : decode cX12_takesSign 19 = .ok (.getfield 291, 3) := by decide +kernel
theorem dX12_takesSign_22 : decode cX12_takesSign 22 = .ok (.iconst 1, 1) := by decide +kernel
theorem dX12_takesSign_23 : decode cX12_takesSign 23 = .ok (.iadd, 1) := by decide +kernel
theorem dX12_takesSign_24 : decode cX12_takesSign 24 = .ok (.putfield 291, 3) := by decide +kernel
theorem dX12_takesSign_27 : decode cX12_takesSign 27 = .ok (.iconst 1, 1) := by decide +kernel
theorem dX12_takesSign_28 : decode cX12_takesSign 28 = .ok (.ireturn, 1) := by decide +kernel
def wp_X12_takesSign (sh : Shp) (v0 : Nat) (v1 : Int32) (Q : Int32 → Mem → Prop) (m : Mem) : Prop :=
  Ob sh v0 12 ∧ (if (m.1 v0 5) = 0 then (wp_X12_look sh v0 (fun r2 m3 => if r2 = v1 then (bnd (sI m3 v0 2 ((m3.1 v0 2) + (1 : Int32))) (fun m4 => Q (1 : Int32) m4)) else (Q (0 : Int32) m3)) m) else (Q (0 : Int32) m))
abbrev M_X12_takesSign : Mi := (cX12_takesSign, 2, RX12, (Option.some FieldType.boolean), "takesSign", 2, 80, 0, 0)
set_option maxHeartbeats 4000000 in
set_option maxRecDepth 100000 in
theorem c_X12_takesSign {l : Launch} {G : Gl} {sh : Shp} {v0 : Nat} {v1 : Int32} {Q : Int32 → Mem → Prop} {m : Mem} (h : wp_X12_takesSign sh v0 v1 Q m) : Cni l G yX12_takesSign cX12_takesSign 2 (Option.some FieldType.boolean) 2 80 sh [.ref (G.1 + v0), .int v1] m Q := by
  refine con_i (ls := [(0, .ref (G.1 + v0)), (1, .int v1)]) (by decide +kernel) rfl (Nat.le_of_ble_eq_true rfl) (fun F => ?_)
  show V G F M_X12_takesSign sh 0 0 (Zi G F sh Q) 0 [(0, .ref (G.1 + v0)), (1, .int v1)] [] m
  unfold wp_X12_takesSign at h
  refine v_aload_n 0 0 dX12_takesSign_0 rfl rfl ?_
  obtain ⟨o1, h⟩ := h
  refine v_gI 12 5 dX12_takesSign_1 fg_RX12_285 o1 ?_
  refine v_if_ne 15 dX12_takesSign_4 (by decide) (fun hc => ?_) (fun hc => ?_)
  · replace h := Eq.mp (if_neg hc) h
    refine v_iconst (0 : Int32) dX12_takesSign_15 (by decide) ?_
    exact v_iret dX12_takesSign_16 rfl (by decide) h
  · replace h := Eq.mp (if_pos hc) h
    refine v_aload_n 0 0 dX12_takesSign_7 rfl rfl ?_
    refine v_cVi [] mv_X12_look ml_RX12_297 ⟨_, _, rfl⟩ o1 rfl rfl (Nat.le_of_ble_eq_true rfl) (Nat.le_of_ble_eq_true rfl) (Nat.le_of_ble_eq_true rfl) (Nat.zero_le _) (Nat.zero_le _) dX12_takesSign_8 (c_X12_look h) (fun r2 m3 h => ?_)
    refine v_iload_n 1 1 dX12_takesSign_11 rfl rfl ?_
    refine v_icmp_eq 17 dX12_takesSign_12 (by decide) (fun hc => ?_) (fun hc => ?_)
    · replace h := Eq.mp (if_pos hc) h
      refine v_aload_n 0 0 dX12_takesSign_17 rfl rfl ?_
      refine v_dup dX12_takesSign_18 rfl ?_
      refine v_gI 12 2 dX12_takesSign_19 fg_RX12_291 o1 ?_
      refine v_iconst (1 : Int32) dX12_takesSign_22 (by decide) ?_
      refine v_iadd dX12_takesSign_23 ?_
      refine v_pI 12 2 dX12_takesSign_24 fw_RX12_291 o1 ?_
      replace h := bnd_e h
      refine v_iconst (1 : Int32) dX12_takesSign_27 (by decide) ?_
      exact v_iret dX12_takesSign_28 rfl (by decide) h
    · replace h := Eq.mp (if_neg hc) h
      refine v_iconst (0 : Int32) dX12_takesSign_15 (by decide) ?_
      exact v_iret dX12_takesSign_16 rfl (by decide) h
/-! CalledRiverModel.asksSign -/
theorem dX12_asksSign_0 : decode cX12_asksSign 0 = .ok (.aload_n 0, 1) := by decide +kernel
theorem dX12_asksSign_1 : decode cX12_asksSign 1 = .ok (.getfield 285, 3) := by decide +kernel
theorem dX12_asksSign_4 : decode cX12_asksSign 4 = .ok (.ifCond .ne 20, 3) := by decide +kernel
theorem dX12_asksSign_7 : decode cX12_asksSign 7 = .ok (.aload_n 0, 1) := by decide +kernel
theorem dX12_asksSign_8 : decode cX12_asksSign 8 = .ok (.iload_n 1, 1) := by decide +kernel
theorem dX12_asksSign_9 : decode cX12_asksSign 9 = .ok (.invokevirtual 319, 3) := by decide +kernel
theorem dX12_asksSign_12 : decode cX12_asksSign 12 = .ok (.ifCond .ne 12, 3) := by decide +kernel
theorem dX12_asksSign_15 : decode cX12_asksSign 15 = .ok (.aload_n 0, 1) := by decide +kernel
theorem dX12_asksSign_16 : decode cX12_asksSign 16 = .ok (.iconst 1, 1) := by decide +kernel
theorem dX12_asksSign_17 : decode cX12_asksSign 17 = .ok (.aload_n 0, 1) := by decide +kernel
theorem dX12_asksSign_18 : decode cX12_asksSign 18 = .ok (.getfield 291, 3) := by decide +kernel
theorem dX12_asksSign_21 : decode cX12_asksSign 21 = .ok (.invokevirtual 315, 3) := by decide +kernel
theorem dX12_asksSign_24 : decode cX12_asksSign 24 = .ok (.return_, 1) := by decide +kernel
def wp_X12_asksSign (sh : Shp) (v0 : Nat) (v1 : Int32) (Q : Mem → Prop) (m : Mem) : Prop :=
  Ob sh v0 12 ∧ (if (m.1 v0 5) = 0 then (wp_X12_takesSign sh v0 v1 (fun r2 m3 => if r2 = 0 then (wp_X12_fail sh v0 (1 : Int32) (m3.1 v0 2) (fun m5 => Q m5) m3) else (Q m3)) m) else (Q m))
abbrev M_X12_asksSign : Mi := (cX12_asksSign, 2, RX12, (none : Option FieldType), "asksSign", 3, 101, 0, 0)
set_option maxHeartbeats 4000000 in
set_option maxRecDepth 100000 in
theorem c_X12_asksSign {l : Launch} {G : Gl} {sh : Shp} {v0 : Nat} {v1 : Int32} {Q : Mem → Prop} {m : Mem} (h : wp_X12_asksSign sh v0 v1 Q m) : Cnv l G yX12_asksSign cX12_asksSign 2 (none : Option FieldType) 3 101 sh [.ref (G.1 + v0), .int v1] m Q := by
  refine con_v (ls := [(0, .ref (G.1 + v0)), (1, .int v1)]) (by decide +kernel) rfl (Nat.le_of_ble_eq_true rfl) (fun F => ?_)
  show V G F M_X12_asksSign sh 0 0 (Zv G F sh Q) 0 [(0, .ref (G.1 + v0)), (1, .int v1)] [] m
  unfold wp_X12_asksSign at h
  refine v_aload_n 0 0 dX12_asksSign_0 rfl rfl ?_
  obtain ⟨o1, h⟩ := h
  refine v_gI 12 5 dX12_asksSign_1 fg_RX12_285 o1 ?_
  refine v_if_ne 24 dX12_asksSign_4 (by decide) (fun hc => ?_) (fun hc => ?_)
  · replace h := Eq.mp (if_neg hc) h
    exact v_vret dX12_asksSign_24 rfl h
  · replace h := Eq.mp (if_pos hc) h
    refine v_aload_n 0 0 dX12_asksSign_7 rfl rfl ?_
    refine v_iload_n 1 1 dX12_asksSign_8 rfl rfl ?_
    refine v_cVi [.int _] mv_X12_takesSign ml_RX12_319 ⟨_, _, rfl⟩ o1 rfl rfl (Nat.le_of_ble_eq_true rfl) (Nat.le_of_ble_eq_true rfl) (Nat.le_of_ble_eq_true rfl) (Nat.zero_le _) (Nat.zero_le _) dX12_asksSign_9 (c_X12_takesSign h) (fun r2 m3 h => ?_)
    refine v_if_ne 24 dX12_asksSign_12 (by decide) (fun hc => ?_) (fun hc => ?_)
    · replace h := Eq.mp (if_neg hc) h
      exact v_vret dX12_asksSign_24 rfl h
    · replace h := Eq.mp (if_pos hc) h
      refine v_aload_n 0 0 dX12_asksSign_15 rfl rfl ?_
      refine v_iconst (1 : Int32) dX12_asksSign_16 (by decide) ?_
      refine v_aload_n 0 0 dX12_asksSign_17 rfl rfl ?_
      refine v_gI 12 2 dX12_asksSign_18 fg_RX12_291 o1 ?_
      refine v_cVv [.int _, .int _] mv_X12_fail ml_RX12_315 ⟨_, _, rfl⟩ o1 rfl rfl (Nat.le_of_ble_eq_true rfl) (Nat.le_of_ble_eq_true rfl) (Nat.le_of_ble_eq_true rfl) (Nat.zero_le _) (Nat.zero_le _) dX12_asksSign_21 (c_X12_fail h) (fun m5 h => ?_)
      exact v_vret dX12_asksSign_24 rfl h
/-! CalledRiverModel.beenOf -/
theorem dX12_beenOf_0 : decode cX12_beenOf 0 = .ok (.aload_n 0, 1) := by decide +kernel
theorem dX12_beenOf_1 : decode cX12_beenOf 1 = .ok (.getfield 143, 3) := by decide +kernel
theorem dX12_beenOf_4 : decode cX12_beenOf 4 = .ok (.iconst 3, 1) := by decide +kernel
theorem dX12_beenOf_5 : decode cX12_beenOf 5 = .ok (.iconst 3, 1) := by decide +kernel
theorem dX12_beenOf_6 : decode cX12_beenOf 6 = .ok (.iload_n 1, 1) := by decide +kernel
theorem dX12_beenOf_7 : decode cX12_beenOf 7 = .ok (.imul, 1) := by decide +kernel
theorem dX12_beenOf_8 : decode cX12_beenOf 8 = .ok (.iadd, 1) := by decide +kernel
theorem dX12_beenOf_9 : decode cX12_beenOf 9 = .ok (.iaload, 1) := by decide +kernel
theorem dX12_beenOf_10 : decode cX12_beenOf 10 = .ok (.ireturn, 1) := by decide +kernel
def wp_X12_beenOf (sh : Shp) (v0 : Nat) (v1 : Int32) (Q : Int32 → Mem → Prop) (m : Mem) : Prop :=
  Ob sh v0 12 ∧ ∃ b2 : Nat, m.2.2 v0 58 = some b2 ∧ (Ix sh b2 100 ((3 : Int32) + ((3 : Int32) * v1)) ∧ (Q (m.1 b2 ((3 : Int32) + ((3 : Int32) * v1)).toNatClampNeg) m))
abbrev M_X12_beenOf : Mi := (cX12_beenOf, 2, RX12, (Option.some FieldType.int), "beenOf", 1, 60, 0, 0)
set_option maxHeartbeats 4000000 in
set_option maxRecDepth 100000 in
theorem c_X12_beenOf {l : Launch} {G : Gl} {sh : Shp} {v0 : Nat} {v1 : Int32} {Q : Int32 → Mem → Prop} {m : Mem} (h : wp_X12_beenOf sh v0 v1 Q m) : Cni l G yX12_beenOf cX12_beenOf 2 (Option.some FieldType.int) 1 60 sh [.ref (G.1 + v0), .int v1] m Q := by
  refine con_i (ls := [(0, .ref (G.1 + v0)), (1, .int v1)]) (by decide +kernel) rfl (Nat.le_of_ble_eq_true rfl) (fun F => ?_)
  show V G F M_X12_beenOf sh 0 0 (Zi G F sh Q) 0 [(0, .ref (G.1 + v0)), (1, .int v1)] [] m
  unfold wp_X12_beenOf at h
  refine v_aload_n 0 0 dX12_beenOf_0 rfl rfl ?_
  obtain ⟨o1, h⟩ := h
  obtain ⟨b2, e3, h⟩ := h
  refine v_gR 12 58 dX12_beenOf_1 fg_RX12_143 o1 e3 ?_
  refine v_iconst (3 : Int32) dX12_beenOf_4 (by decide) ?_
  refine v_iconst (3 : Int32) dX12_beenOf_5 (by decide) ?_
  refine v_iload_n 1 1 dX12_beenOf_6 rfl rfl ?_
  refine v_imul dX12_beenOf_7 ?_
  refine v_iadd dX12_beenOf_8 ?_
  obtain ⟨i4, h⟩ := h
  refine v_iald dX12_beenOf_9 i4 ?_
  exact v_iret dX12_beenOf_10 rfl rfl h
/-! CalledRiverModel.callerMany -/
theorem dX12_callerMany_0 : decode cX12_callerMany 0 = .ok (.aload_n 0, 1) := by decide +kernel
theorem dX12_callerMany_1 : decode cX12_callerMany 1 = .ok (.getfield 114, 3) := by decide +kernel
theorem dX12_callerMany_4 : decode cX12_callerMany 4 = .ok (.iconst 3, 1) := by decide +kernel
theorem dX12_callerMany_5 : decode cX12_callerMany 5 = .ok (.iaload, 1) := by decide +kernel
theorem dX12_callerMany_6 : decode cX12_callerMany 6 = .ok (.ireturn, 1) := by decide +kernel
def wp_X12_callerMany (sh : Shp) (v0 : Nat) (Q : Int32 → Mem → Prop) (m : Mem) : Prop :=
  Ob sh v0 12 ∧ ∃ b2 : Nat, m.2.2 v0 45 = some b2 ∧ (Ix sh b2 100 (3 : Int32) ∧ (Q (m.1 b2 (3 : Int32).toNatClampNeg) m))
abbrev M_X12_callerMany : Mi := (cX12_callerMany, 1, RX12, (Option.some FieldType.int), "callerMany", 1, 60, 0, 0)
set_option maxHeartbeats 4000000 in
set_option maxRecDepth 100000 in
theorem c_X12_callerMany {l : Launch} {G : Gl} {sh : Shp} {v0 : Nat} {Q : Int32 → Mem → Prop} {m : Mem} (h : wp_X12_callerMany sh v0 Q m) : Cni l G yX12_callerMany cX12_callerMany 1 (Option.some FieldType.int) 1 60 sh [.ref (G.1 + v0)] m Q := by
  refine con_i (ls := [(0, .ref (G.1 + v0))]) (by decide +kernel) rfl (Nat.le_of_ble_eq_true rfl) (fun F => ?_)
  show V G F M_X12_callerMany sh 0 0 (Zi G F sh Q) 0 [(0, .ref (G.1 + v0))] [] m
  unfold wp_X12_callerMany at h
  refine v_aload_n 0 0 dX12_callerMany_0 rfl rfl ?_
  obtain ⟨o1, h⟩ := h
  obtain ⟨b2, e3, h⟩ := h
  refine v_gR 12 45 dX12_callerMany_1 fg_RX12_114 o1 e3 ?_
  refine v_iconst (3 : Int32) dX12_callerMany_4 (by decide) ?_
  obtain ⟨i4, h⟩ := h
  refine v_iald dX12_callerMany_5 i4 ?_
  exact v_iret dX12_callerMany_6 rfl rfl h
/-! CalledRiverModel.heightOf -/
theorem dX12_heightOf_0 : decode cX12_heightOf 0 = .ok (.aload_n 0, 1) := by decide +kernel
theorem dX12_heightOf_1 : decode cX12_heightOf 1 = .ok (.getfield 143, 3) := by decide +kernel
theorem dX12_heightOf_4 : decode cX12_heightOf 4 = .ok (.iconst 1, 1) := by decide +kernel
theorem dX12_heightOf_5 : decode cX12_heightOf 5 = .ok (.iconst 3, 1) := by decide +kernel
theorem dX12_heightOf_6 : decode cX12_heightOf 6 = .ok (.iload_n 1, 1) := by decide +kernel
theorem dX12_heightOf_7 : decode cX12_heightOf 7 = .ok (.imul, 1) := by decide +kernel
theorem dX12_heightOf_8 : decode cX12_heightOf 8 = .ok (.iadd, 1) := by decide +kernel
theorem dX12_heightOf_9 : decode cX12_heightOf 9 = .ok (.iaload, 1) := by decide +kernel
theorem dX12_heightOf_10 : decode cX12_heightOf 10 = .ok (.ireturn, 1) := by decide +kernel
def wp_X12_heightOf (sh : Shp) (v0 : Nat) (v1 : Int32) (Q : Int32 → Mem → Prop) (m : Mem) : Prop :=
  Ob sh v0 12 ∧ ∃ b2 : Nat, m.2.2 v0 58 = some b2 ∧ (Ix sh b2 100 ((1 : Int32) + ((3 : Int32) * v1)) ∧ (Q (m.1 b2 ((1 : Int32) + ((3 : Int32) * v1)).toNatClampNeg) m))
abbrev M_X12_heightOf : Mi := (cX12_heightOf, 2, RX12, (Option.some FieldType.int), "heightOf", 1, 60, 0, 0)
set_option maxHeartbeats 4000000 in
set_option maxRecDepth 100000 in
theorem c_X12_heightOf {l : Launch} {G : Gl} {sh : Shp} {v0 : Nat} {v1 : Int32} {Q : Int32 → Mem → Prop} {m : Mem} (h : wp_X12_heightOf sh v0 v1 Q m) : Cni l G yX12_heightOf cX12_heightOf 2 (Option.some FieldType.int) 1 60 sh [.ref (G.1 + v0), .int v1] m Q := by
  refine con_i (ls := [(0, .ref (G.1 + v0)), (1, .int v1)]) (by decide +kernel) rfl (Nat.le_of_ble_eq_true rfl) (fun F => ?_)
  show V G F M_X12_heightOf sh 0 0 (Zi G F sh Q) 0 [(0, .ref (G.1 + v0)), (1, .int v1)] [] m
  unfold wp_X12_heightOf at h
  refine v_aload_n 0 0 dX12_heightOf_0 rfl rfl ?_
  obtain ⟨o1, h⟩ := h
  obtain ⟨b2, e3, h⟩ := h
  refine v_gR 12 58 dX12_heightOf_1 fg_RX12_143 o1 e3 ?_
  refine v_iconst (1 : Int32) dX12_heightOf_4 (by decide) ?_
  refine v_iconst (3 : Int32) dX12_heightOf_5 (by decide) ?_
  refine v_iload_n 1 1 dX12_heightOf_6 rfl rfl ?_
  refine v_imul dX12_heightOf_7 ?_
  refine v_iadd dX12_heightOf_8 ?_
  obtain ⟨i4, h⟩ := h
  refine v_iald dX12_heightOf_9 i4 ?_
  exact v_iret dX12_heightOf_10 rfl rfl h
/-! CalledRiverModel.isStone -/
theorem dX12_isStone_0 : decode cX12_isStone 0 = .ok (.aload_n 0, 1) := by decide +kernel
theorem dX12_isStone_1 : decode cX12_isStone 1 = .ok (.getfield 143, 3) := by decide +kernel
theorem dX12_isStone_4 : decode cX12_isStone 4 = .ok (.iconst 2, 1) := by decide +kernel
theorem dX12_isStone_5 : decode cX12_isStone 5 = .ok (.iconst 3, 1) := by decide +kernel
theorem dX12_isStone_6 : decode cX12_isStone 6 = .ok (.iload_n 1, 1) := by decide +kernel
theorem dX12_isStone_7 : decode cX12_isStone 7 = .ok (.imul, 1) := by decide +kernel
theorem dX12_isStone_8 : decode cX12_isStone 8 = .ok (.iadd, 1) := by decide +kernel
theorem dX12_isStone_9 : decode cX12_isStone 9 = .ok (.iaload, 1) := by decide +kernel
theorem dX12_isStone_10 : decode cX12_isStone 10 = .ok (.iconst 1, 1) := by decide +kernel
theorem dX12_isStone_11 : decode cX12_isStone 11 = .ok (.if_icmp .ne 7, 3) := by decide +kernel
theorem dX12_isStone_14 : decode cX12_isStone 14 = .ok (.iconst 1, 1) := by decide +kernel
theorem dX12_isStone_15 : decode cX12_isStone 15 = .ok (.goto 4, 3) := by decide +kernel
theorem dX12_isStone_18 : decode cX12_isStone 18 = .ok (.iconst 0, 1) := by decide +kernel
theorem dX12_isStone_19 : decode cX12_isStone 19 = .ok (.ireturn, 1) := by decide +kernel
def wp_X12_isStone (sh : Shp) (v0 : Nat) (v1 : Int32) (Q : Int32 → Mem → Prop) (m : Mem) : Prop :=
  Ob sh v0 12 ∧ ∃ b2 : Nat, m.2.2 v0 58 = some b2 ∧ (Ix sh b2 100 ((2 : Int32) + ((3 : Int32) * v1)) ∧ (if (m.1 b2 ((2 : Int32) + ((3 : Int32) * v1)).toNatClampNeg) = (1 : Int32) then (Q (1 : Int32) m) else (Q (0 : Int32) m)))
abbrev M_X12_isStone : Mi := (cX12_isStone, 2, RX12, (Option.some FieldType.boolean), "isStone", 1, 60, 0, 0)
set_option maxHeartbeats 4000000 in
set_option maxRecDepth 100000 in
theorem c_X12_isStone {l : Launch} {G : Gl} {sh : Shp} {v0 : Nat} {v1 : Int32} {Q : Int32 → Mem → Prop} {m : Mem} (h : wp_X12_isStone sh v0 v1 Q m) : Cni l G yX12_isStone cX12_isStone 2 (Option.some FieldType.boolean) 1 60 sh [.ref (G.1 + v0), .int v1] m Q := by
  refine con_i (ls := [(0, .ref (G.1 + v0)), (1, .int v1)]) (by decide +kernel) rfl (Nat.le_of_ble_eq_true rfl) (fun F => ?_)
  show V G F M_X12_isStone sh 0 0 (Zi G F sh Q) 0 [(0, .ref (G.1 + v0)), (1, .int v1)] [] m
  unfold wp_X12_isStone at h
  refine v_aload_n 0 0 dX12_isStone_0 rfl rfl ?_
  obtain ⟨o1, h⟩ := h
  obtain ⟨b2, e3, h⟩ := h
  refine v_gR 12 58 dX12_isStone_1 fg_RX12_143 o1 e3 ?_
  refine v_iconst (2 : Int32) dX12_isStone_4 (by decide) ?_
  refine v_iconst (3 : Int32) dX12_isStone_5 (by decide) ?_
  refine v_iload_n 1 1 dX12_isStone_6 rfl rfl ?_
  refine v_imul dX12_isStone_7 ?_
  refine v_iadd dX12_isStone_8 ?_
  obtain ⟨i4, h⟩ := h
  refine v_iald dX12_isStone_9 i4 ?_
  refine v_iconst (1 : Int32) dX12_isStone_10 (by decide) ?_
  refine v_icmp_ne 18 dX12_isStone_11 (by decide) (fun hc => ?_) (fun hc => ?_)
  · replace h := Eq.mp (if_neg hc) h
    refine v_iconst (0 : Int32) dX12_isStone_18 (by decide) ?_
    exact v_iret dX12_isStone_19 rfl (by decide) h
  · replace h := Eq.mp (if_pos hc) h
    refine v_iconst (1 : Int32) dX12_isStone_14 (by decide) ?_
    refine v_goto 19 dX12_isStone_15 (by decide) ?_
    exact v_iret dX12_isStone_19 rfl (by decide) h
/-! CalledRiverModel.canFlow -/
theorem dX12_canFlow_0 : decode cX12_canFlow 0 = .ok (.iload_n 2, 1) := by decide +kernel
theorem dX12_canFlow_1 : decode cX12_canFlow 1 = .ok (.iconst (-1), 1) := by decide +kernel
theorem dX12_canFlow_2 : decode cX12_canFlow 2 = .ok (.if_icmp .eq 28, 3) := by decide +kernel
theorem dX12_canFlow_5 : decode cX12_canFlow 5 = .ok (.aload_n 0, 1) := by decide +kernel
theorem dX12_canFlow_6 : decode cX12_canFlow 6 = .ok (.iload_n 2, 1) := by decide +kernel
theorem dX12_canFlow_7 : decode cX12_canFlow 7 = .ok (.invokevirtual 455, 3) := by decide +kernel
theorem dX12_canFlow_10 : decode cX12_canFlow 10 = .ok (.ifCond .ne 20, 3) := by decide +kernel
theorem dX12_canFlow_13 : decode cX12_canFlow 13 = .ok (.aload_n 0, 1) := by decide +kernel
theorem dX12_canFlow_14 : decode cX12_canFlow 14 = .ok (.iload_n 2, 1) := by decide +kernel
theorem dX12_canFlow_15 : decode cX12_canFlow 15 = .ok (.invokevirtual 458, 3) := by decide +kernel
theorem dX12_canFlow_18 : decode cX12_canFlow 18 = .ok (.aload_n 0, 1) := by decide +kernel
theorem dX12_canFlow_19 : decode cX12_canFlow 19 = .ok (.iload_n 1, 1) := by decide +kernel
theorem dX12_canFlow_20 : decode cX12_canFlow 20 = .ok (.invokevirtual 458, 3) := by decide +kernel
theorem dX12_canFlow_23 : decode cX12_canFlow 23 = .ok (.if_icmp .gt 7, 3) := by decide +kernel
theorem dX12_canFlow_26 : decode cX12_canFlow 26 = .ok (.iconst 1, 1) := by decide +kernel
theorem dX12_canFlow_27 : decode cX12_canFlow 27 = .ok (.goto 4, 3) := by decide +kernel
theorem dX12_canFlow_30 : decode cX12_canFlow 30 = .ok (.iconst 0, 1) := by decide +kernel
theorem dX12_canFlow_31 : decode cX12_canFlow 31 = .ok (.ireturn, 1) := by decide +kernel
def wp_X12_canFlow (sh : Shp) (v0 : Nat) (v1 : Int32) (v2 : Int32) (Q : Int32 → Mem → Prop) (m : Mem) : Prop :=
  if v2 = (-1 : Int32) then (Q (0 : Int32) m) else (Ob sh v0 12 ∧ wp_X12_isStone sh v0 v2 (fun r1 m2 => if r1 = 0 then (wp_X12_heightOf sh v0 v2 (fun r4 m5 => wp_X12_heightOf sh v0 v1 (fun r6 m7 => if r6 < r4 then (Q (0 : Int32) m7) else (Q (1 : Int32) m7)) m5) m2) else (Q (0 : Int32) m2)) m)
abbrev M_X12_canFlow : Mi := (cX12_canFlow, 3, RX12, (Option.some FieldType.boolean), "canFlow", 2, 81, 0, 0)
set_option maxHeartbeats 4000000 in
set_option maxRecDepth 100000 in
theorem c_X12_canFlow {l : Launch} {G : Gl} {sh : Shp} {v0 : Nat} {v1 : Int32} {v2 : Int32} {Q : Int32 → Mem → Prop} {m : Mem} (h : wp_X12_canFlow sh v0 v1 v2 Q m) : Cni l G yX12_canFlow cX12_canFlow 3 (Option.some FieldType.boolean) 2 81 sh [.ref (G.1 + v0), .int v1, .int v2] m Q := by
  refine con_i (ls := [(0, .ref (G.1 + v0)), (1, .int v1), (2, .int v2)]) (by decide +kernel) rfl (Nat.le_of_ble_eq_true rfl) (fun F => ?_)
  show V G F M_X12_canFlow sh 0 0 (Zi G F sh Q) 0 [(0, .ref (G.1 + v0)), (1, .int v1), (2, .int v2)] [] m
  unfold wp_X12_canFlow at h
  refine v_iload_n 2 2 dX12_canFlow_0 rfl rfl ?_
  refine v_iconst (-1 : Int32) dX12_canFlow_1 (by decide) ?_
  refine v_icmp_eq 30 dX12_canFlow_2 (by decide) (fun hc => ?_) (fun hc => ?_)
  · replace h := Eq.mp (if_pos hc) h
    refine v_iconst (0 : Int32) dX12_canFlow_30 (by decide) ?_
    exact v_iret dX12_canFlow_31 rfl (by decide) h
  · replace h := Eq.mp (if_neg hc) h
    refine v_aload_n 0 0 dX12_canFlow_5 rfl rfl ?_
    refine v_iload_n 2 2 dX12_canFlow_6 rfl rfl ?_
    obtain ⟨o3, h⟩ := h
    refine v_cVi [.int _] mv_X12_isStone ml_RX12_455 ⟨_, _, rfl⟩ o3 rfl rfl (Nat.le_of_ble_eq_true rfl) (Nat.le_of_ble_eq_true rfl) (Nat.le_of_ble_eq_true rfl) (Nat.zero_le _) (Nat.zero_le _) dX12_canFlow_7 (c_X12_isStone h) (fun r1 m2 h => ?_)
    refine v_if_ne 30 dX12_canFlow_10 (by decide) (fun hc => ?_) (fun hc => ?_)
    · replace h := Eq.mp (if_neg hc) h
      refine v_iconst (0 : Int32) dX12_canFlow_30 (by decide) ?_
      exact v_iret dX12_canFlow_31 rfl (by decide) h
    · replace h := Eq.mp (if_pos hc) h
      refine v_aload_n 0 0 dX12_canFlow_13 rfl rfl ?_
      refine v_iload_n 2 2 dX12_canFlow_14 rfl rfl ?_
      refine v_cVi [.int _] mv_X12_heightOf ml_RX12_458 ⟨_, _, rfl⟩ o3 rfl rfl (Nat.le_of_ble_eq_true rfl) (Nat.le_of_ble_eq_true rfl) (Nat.le_of_ble_eq_true rfl) (Nat.zero_le _) (Nat.zero_le _) dX12_canFlow_15 (c_X12_heightOf h) (fun r4 m5 h => ?_)
      refine v_aload_n 0 0 dX12_canFlow_18 rfl rfl ?_
      refine v_iload_n 1 1 dX12_canFlow_19 rfl rfl ?_
      refine v_cVi [.int _] mv_X12_heightOf ml_RX12_458 ⟨_, _, rfl⟩ o3 rfl rfl (Nat.le_of_ble_eq_true rfl) (Nat.le_of_ble_eq_true rfl) (Nat.le_of_ble_eq_true rfl) (Nat.zero_le _) (Nat.zero_le _) dX12_canFlow_20 (c_X12_heightOf h) (fun r6 m7 h => ?_)
      refine v_icmp_gt 30 dX12_canFlow_23 (by decide) (fun hc => ?_) (fun hc => ?_)
      · replace h := Eq.mp (if_pos hc) h
        refine v_iconst (0 : Int32) dX12_canFlow_30 (by decide) ?_
        exact v_iret dX12_canFlow_31 rfl (by decide) h
      · replace h := Eq.mp (if_neg hc) h
        refine v_iconst (1 : Int32) dX12_canFlow_26 (by decide) ?_
        refine v_goto 31 dX12_canFlow_27 (by decide) ?_
        exact v_iret dX12_canFlow_31 rfl (by decide) h
/-! CalledRiverModel.cellMany -/
theorem dX12_cellMany_0 : decode cX12_cellMany 0 = .ok (.aload_n 0, 1) := by decide +kernel
theorem dX12_cellMany_1 : decode cX12_cellMany 1 = .ok (.getfield 111, 3) := by decide +kernel
theorem dX12_cellMany_4 : decode cX12_cellMany 4 = .ok (.iconst 2, 1) := by decide +kernel
theorem dX12_cellMany_5 : decode cX12_cellMany 5 = .ok (.iaload, 1) := by decide +kernel
theorem dX12_cellMany_6 : decode cX12_cellMany 6 = .ok (.aload_n 0, 1) := by decide +kernel
theorem dX12_cellMany_7 : decode cX12_cellMany 7 = .ok (.getfield 111, 3) := by decide +kernel
theorem dX12_cellMany_10 : decode cX12_cellMany 10 = .ok (.iconst 3, 1) := by decide +kernel
theorem dX12_cellMany_11 : decode cX12_cellMany 11 = .ok (.iaload, 1) := by decide +kernel
theorem dX12_cellMany_12 : decode cX12_cellMany 12 = .ok (.imul, 1) := by decide +kernel
theorem dX12_cellMany_13 : decode cX12_cellMany 13 = .ok (.ireturn, 1) := by decide +kernel
def wp_X12_cellMany (sh : Shp) (v0 : Nat) (Q : Int32 → Mem → Prop) (m : Mem) : Prop :=
  Ob sh v0 12 ∧ ∃ b2 : Nat, m.2.2 v0 42 = some b2 ∧ (Ix sh b2 100 (2 : Int32) ∧ (Ix sh b2 100 (3 : Int32) ∧ (Q ((m.1 b2 (2 : Int32).toNatClampNeg) * (m.1 b2 (3 : Int32).toNatClampNeg)) m)))
abbrev M_X12_cellMany : Mi := (cX12_cellMany, 1, RX12, (Option.some FieldType.int), "cellMany", 1, 60, 0, 0)
set_option maxHeartbeats 4000000 in
set_option maxRecDepth 100000 in
theorem c_X12_cellMany {l : Launch} {G : Gl} {sh : Shp} {v0 : Nat} {Q : Int32 → Mem → Prop} {m : Mem} (h : wp_X12_cellMany sh v0 Q m) : Cni l G yX12_cellMany cX12_cellMany 1 (Option.some FieldType.int) 1 60 sh [.ref (G.1 + v0)] m Q := by
  refine con_i (ls := [(0, .ref (G.1 + v0))]) (by decide +kernel) rfl (Nat.le_of_ble_eq_true rfl) (fun F => ?_)
  show V G F M_X12_cellMany sh 0 0 (Zi G F sh Q) 0 [(0, .ref (G.1 + v0))] [] m
  unfold wp_X12_cellMany at h
  refine v_aload_n 0 0 dX12_cellMany_0 rfl rfl ?_
  obtain ⟨o1, h⟩ := h
  obtain ⟨b2, e3, h⟩ := h
  refine v_gR 12 42 dX12_cellMany_1 fg_RX12_111 o1 e3 ?_
  refine v_iconst (2 : Int32) dX12_cellMany_4 (by decide) ?_
  obtain ⟨i4, h⟩ := h
  refine v_iald dX12_cellMany_5 i4 ?_
  refine v_aload_n 0 0 dX12_cellMany_6 rfl rfl ?_
  refine v_gR 12 42 dX12_cellMany_7 fg_RX12_111 o1 e3 ?_
  refine v_iconst (3 : Int32) dX12_cellMany_10 (by decide) ?_
  obtain ⟨i5, h⟩ := h
  refine v_iald dX12_cellMany_11 i5 ?_
  refine v_imul dX12_cellMany_12 ?_
  exact v_iret dX12_cellMany_13 rfl rfl h
/-! CalledRiverModel.cellOf -/
theorem dX12_cellOf_0 : decode cX12_cellOf 0 = .ok (.aload_n 0, 1) := by decide +kernel
theorem dX12_cellOf_1 : decode cX12_cellOf 1 = .ok (.getfield 121, 3) := by decide +kernel
theorem dX12_cellOf_4 : decode cX12_cellOf 4 = .ok (.bipush 18, 2) := by decide +kernel
theorem dX12_cellOf_6 : decode cX12_cellOf 6 = .ok (.iconst 3, 1) := by decide +kernel
theorem dX12_cellOf_7 : decode cX12_cellOf 7 = .ok (.iload_n 1, 1) := by decide +kernel
theorem dX12_cellOf_8 : decode cX12_cellOf 8 = .ok (.imul, 1) := by decide +kernel
theorem dX12_cellOf_9 : decode cX12_cellOf 9 = .ok (.iadd, 1) := by decide +kernel
theorem dX12_cellOf_10 : decode cX12_cellOf 10 = .ok (.iaload, 1) := by decide +kernel
theorem dX12_cellOf_11 : decode cX12_cellOf 11 = .ok (.ireturn, 1) := by decide +kernel
def wp_X12_cellOf (sh : Shp) (v0 : Nat) (v1 : Int32) (Q : Int32 → Mem → Prop) (m : Mem) : Prop :=
  Ob sh v0 12 ∧ ∃ b2 : Nat, m.2.2 v0 47 = some b2 ∧ (Ix sh b2 100 ((18 : Int32) + ((3 : Int32) * v1)) ∧ (Q (m.1 b2 ((18 : Int32) + ((3 : Int32) * v1)).toNatClampNeg) m))
abbrev M_X12_cellOf : Mi := (cX12_cellOf, 2, RX12, (Option.some FieldType.int), "cellOf", 1, 60, 0, 0)
set_option maxHeartbeats 4000000 in
set_option maxRecDepth 100000 in
theorem c_X12_cellOf {l : Launch} {G : Gl} {sh : Shp} {v0 : Nat} {v1 : Int32} {Q : Int32 → Mem → Prop} {m : Mem} (h : wp_X12_cellOf sh v0 v1 Q m) : Cni l G yX12_cellOf cX12_cellOf 2 (Option.some FieldType.int) 1 60 sh [.ref (G.1 + v0), .int v1] m Q := by
  refine con_i (ls := [(0, .ref (G.1 + v0)), (1, .int v1)]) (by decide +kernel) rfl (Nat.le_of_ble_eq_true rfl) (fun F => ?_)
  show V G F M_X12_cellOf sh 0 0 (Zi G F sh Q) 0 [(0, .ref (G.1 + v0)), (1, .int v1)] [] m
  unfold wp_X12_cellOf at h
  refine v_aload_n 0 0 dX12_cellOf_0 rfl rfl ?_
  obtain ⟨o1, h⟩ := h
  obtain ⟨b2, e3, h⟩ := h
  refine v_gR 12 47 dX12_cellOf_1 fg_RX12_121 o1 e3 ?_
  refine v_bipush (18 : Int32) dX12_cellOf_4 (by decide) ?_
  refine v_iconst (3 : Int32) dX12_cellOf_6 (by decide) ?_
  refine v_iload_n 1 1 dX12_cellOf_7 rfl rfl ?_
  refine v_imul dX12_cellOf_8 ?_
  refine v_iadd dX12_cellOf_9 ?_
  obtain ⟨i4, h⟩ := h
  refine v_iald dX12_cellOf_10 i4 ?_
  exact v_iret dX12_cellOf_11 rfl rfl h
/-! CalledRiverModel.cellOfNumber -/
theorem dX12_cellOfNumber_0 : decode cX12_cellOfNumber 0 = .ok (.iload_n 1, 1) := by decide +kernel
theorem dX12_cellOfNumber_1 : decode cX12_cellOfNumber 1 = .ok (.aload_n 0, 1) := by decide +kernel
theorem dX12_cellOfNumber_2 : decode cX12_cellOfNumber 2 = .ok (.getfield 111, 3) := by decide +kernel
theorem dX12_cellOfNumber_5 : decode cX12_cellOfNumber 5 = .ok (.iconst 2, 1) := by decide +kernel
theorem dX12_cellOfNumber_6 : decode cX12_cellOfNumber 6 = .ok (.iaload, 1) := by decide +kernel
theorem dX12_cellOfNumber_7 : decode cX12_cellOfNumber 7 = .ok (.irem, 1) := by decide +kernel
theorem dX12_cellOfNumber_8 : decode cX12_cellOfNumber 8 = .ok (.bipush 6, 2) := by decide +kernel
theorem dX12_cellOfNumber_10 : decode cX12_cellOfNumber 10 = .ok (.iload_n 1, 1) := by decide +kernel
theorem dX12_cellOfNumber_11 : decode cX12_cellOfNumber 11 = .ok (.aload_n 0, 1) := by decide +kernel
theorem dX12_cellOfNumber_12 : decode cX12_cellOfNumber 12 = .ok (.getfield 111, 3) := by decide +kernel
theorem dX12_cellOfNumber_15 : decode cX12_cellOfNumber 15 = .ok (.iconst 2, 1) := by decide +kernel
theorem dX12_cellOfNumber_16 : decode cX12_cellOfNumber 16 = .ok (.iaload, 1) := by decide +kernel
theorem dX12_cellOfNumber_17 : decode cX12_cellOfNumber 17 = .ok (.idiv, 1) := by decide +kernel
theorem dX12_cellOfNumber_18 : decode cX12_cellOfNumber 18 = .ok (.imul, 1) := by decide +kernel
theorem dX12_cellOfNumber_19 : decode cX12_cellOfNumber 19 = .ok (.iadd, 1) := by decide +kernel
theorem dX12_cellOfNumber_20 : decode cX12_cellOfNumber 20 = .ok (.ireturn, 1) := by decide +kernel
def wp_X12_cellOfNumber (sh : Shp) (v0 : Nat) (v1 : Int32) (Q : Int32 → Mem → Prop) (m : Mem) : Prop :=
  Ob sh v0 12 ∧ ∃ b2 : Nat, m.2.2 v0 42 = some b2 ∧ (Ix sh b2 100 (2 : Int32) ∧ (¬ (m.1 b2 (2 : Int32).toNatClampNeg) = 0 ∧ (¬ (m.1 b2 (2 : Int32).toNatClampNeg) = 0 ∧ (Q ((v1 - v1 / (m.1 b2 (2 : Int32).toNatClampNeg) * (m.1 b2 (2 : Int32).toNatClampNeg)) + ((6 : Int32) * (v1 / (m.1 b2 (2 : Int32).toNatClampNeg)))) m))))
abbrev M_X12_cellOfNumber : Mi := (cX12_cellOfNumber, 2, RX12, (Option.some FieldType.int), "cellOfNumber", 1, 60, 0, 0)
set_option maxHeartbeats 4000000 in
set_option maxRecDepth 100000 in
theorem c_X12_cellOfNumber {l : Launch} {G : Gl} {sh : Shp} {v0 : Nat} {v1 : Int32} {Q : Int32 → Mem → Prop} {m : Mem} (h : wp_X12_cellOfNumber sh v0 v1 Q m) : Cni l G yX12_cellOfNumber cX12_cellOfNumber 2 (Option.some FieldType.int) 1 60 sh [.ref (G.1 + v0), .int v1] m Q := by
  refine con_i (ls := [(0, .ref (G.1 + v0)), (1, .int v1)]) (by decide +kernel) rfl (Nat.le_of_ble_eq_true rfl) (fun F => ?_)
  show V G F M_X12_cellOfNumber sh 0 0 (Zi G F sh Q) 0 [(0, .ref (G.1 + v0)), (1, .int v1)] [] m
  unfold wp_X12_cellOfNumber at h
  refine v_iload_n 1 1 dX12_cellOfNumber_0 rfl rfl ?_
  refine v_aload_n 0 0 dX12_cellOfNumber_1 rfl rfl ?_
  obtain ⟨o1, h⟩ := h
  obtain ⟨b2, e3, h⟩ := h
  refine v_gR 12 42 dX12_cellOfNumber_2 fg_RX12_111 o1 e3 ?_
  refine v_iconst (2 : Int32) dX12_cellOfNumber_5 (by decide) ?_
  obtain ⟨i4, h⟩ := h
  refine v_iald dX12_cellOfNumber_6 i4 ?_
  obtain ⟨hz, h⟩ := h
  refine v_irem dX12_cellOfNumber_7 hz ?_
  refine v_bipush (6 : Int32) dX12_cellOfNumber_8 (by decide) ?_
  refine v_iload_n 1 1 dX12_cellOfNumber_10 rfl rfl ?_
  refine v_aload_n 0 0 dX12_cellOfNumber_11 rfl rfl ?_
  refine v_gR 12 42 dX12_cellOfNumber_12 fg_RX12_111 o1 e3 ?_
  refine v_iconst (2 : Int32) dX12_cellOfNumber_15 (by decide) ?_
  refine v_iald dX12_cellOfNumber_16 i4 ?_
  obtain ⟨hz, h⟩ := h
  refine v_idiv dX12_cellOfNumber_17 hz ?_
  refine v_imul dX12_cellOfNumber_18 ?_
  refine v_iadd dX12_cellOfNumber_19 ?_
  exact v_iret dX12_cellOfNumber_20 rfl rfl h
/-! CalledRiverModel.qClip -/
theorem dX12_qClip_0 : decode cX12_qClip 0 = .ok (.lload_n 0, 1) := by decide +kernel
theorem dX12_qClip_1 : decode cX12_qClip 1 = .ok (.ldc2_w 675, 3) := by decide +kernel
theorem dX12_qClip_4 : decode cX12_qClip 4 = .ok (.lcmp, 1) := by decide +kernel
theorem dX12_qClip_5 : decode cX12_qClip 5 = .ok (.ifCond .le 9, 3) := by decide +kernel
theorem dX12_qClip_8 : decode cX12_qClip 8 = .ok (.ldc2_w 675, 3) := by decide +kernel
theorem dX12_qClip_11 : decode cX12_qClip 11 = .ok (.goto 18, 3) := by decide +kernel
theorem dX12_qClip_14 : decode cX12_qClip 14 = .ok (.lload_n 0, 1) := by decide +kernel
theorem dX12_qClip_15 : decode cX12_qClip 15 = .ok (.ldc2_w 677, 3) := by decide +kernel
theorem dX12_qClip_18 : decode cX12_qClip 18 = .ok (.lcmp, 1) := by decide +kernel
theorem dX12_qClip_19 : decode cX12_qClip 19 = .ok (.ifCond .ge 9, 3) := by decide +kernel
theorem dX12_qClip_22 : decode cX12_qClip 22 = .ok (.ldc2_w 677, 3) := by decide +kernel
theorem dX12_qClip_25 : decode cX12_qClip 25 = .ok (.goto 4, 3) := by decide +kernel
theorem dX12_qClip_28 : decode cX12_qClip 28 = .ok (.lload_n 0, 1) := by decide +kernel
theorem dX12_qClip_29 : decode cX12_qClip 29 = .ok (.lreturn, 1) := by decide +kernel
def wp_X12_qClip (sh : Shp) (v0 : Int64) (Q : Int64 → Mem → Prop) (m : Mem) : Prop :=
  if (lg_cmp v0 (1000000 : Int64)) ≤ 0 then (if 0 ≤ (lg_cmp v0 (-1000000 : Int64)) then (Q v0 m) else (Q (-1000000 : Int64) m)) else (Q (1000000 : Int64) m)
abbrev M_X12_qClip : Mi := (cX12_qClip, 2, RX12, (Option.some FieldType.long), "qClip", 1, 60, 0, 0)
set_option maxHeartbeats 4000000 in
set_option maxRecDepth 100000 in
theorem c_X12_qClip {l : Launch} {G : Gl} {sh : Shp} {v0 : Int64} {Q : Int64 → Mem → Prop} {m : Mem} (h : wp_X12_qClip sh v0 Q m) : Cnl l G yX12_qClip cX12_qClip 2 (Option.some FieldType.long) 1 60 sh [.long v0] m Q := by
  refine con_l (ls := [(0, .long v0)]) (by decide +kernel) rfl (Nat.le_of_ble_eq_true rfl) (fun F => ?_)
  show V G F M_X12_qClip sh 0 0 (Zl G F sh Q) 0 [(0, .long v0)] [] m
  unfold wp_X12_qClip at h
  refine v_lload_n 0 0 dX12_qClip_0 rfl rfl ?_
  refine v_ldc2 (1000000 : Int64) dX12_qClip_1 cw_RX12_675 ?_
  refine v_lcmp dX12_qClip_4 ?_
  refine v_if_le 14 dX12_qClip_5 (by decide) (fun hc => ?_) (fun hc => ?_)
  · replace h := Eq.mp (if_pos hc) h
    refine v_lload_n 0 0 dX12_qClip_14 rfl rfl ?_
    refine v_ldc2 (-1000000 : Int64) dX12_qClip_15 cw_RX12_677 ?_
    refine v_lcmp dX12_qClip_18 ?_
    refine v_if_ge 28 dX12_qClip_19 (by decide) (fun hc => ?_) (fun hc => ?_)
    · replace h := Eq.mp (if_pos hc) h
      refine v_lload_n 0 0 dX12_qClip_28 rfl rfl ?_
      exact v_lret dX12_qClip_29 rfl h
    · replace h := Eq.mp (if_neg hc) h
      refine v_ldc2 (-1000000 : Int64) dX12_qClip_22 cw_RX12_677 ?_
      refine v_goto 29 dX12_qClip_25 (by decide) ?_
      exact v_lret dX12_qClip_29 rfl h
  · replace h := Eq.mp (if_neg hc) h
    refine v_ldc2 (1000000 : Int64) dX12_qClip_8 cw_RX12_675 ?_
    refine v_goto 29 dX12_qClip_11 (by decide) ?_
    exact v_lret dX12_qClip_29 rfl h
/-! CalledRiverModel.qFloor -/
theorem dX12_qFloor_0 : decode cX12_qFloor 0 = .ok (.lload_n 2, 1) := by decide +kernel
theorem dX12_qFloor_1 : decode cX12_qFloor 1 = .ok (.lconst 0, 1) := by decide +kernel
theorem dX12_qFloor_2 : decode cX12_qFloor 2 = .ok (.lcmp, 1) := by decide +kernel
theorem dX12_qFloor_3 : decode cX12_qFloor 3 = .ok (.ifCond .ne 5, 3) := by decide +kernel
theorem dX12_qFloor_6 : decode cX12_qFloor 6 = .ok (.lconst 0, 1) := by decide +kernel
theorem dX12_qFloor_7 : decode cX12_qFloor 7 = .ok (.lreturn, 1) := by decide +kernel
theorem dX12_qFloor_8 : decode cX12_qFloor 8 = .ok (.lload_n 0, 1) := by decide +kernel
theorem dX12_qFloor_9 : decode cX12_qFloor 9 = .ok (.lload_n 2, 1) := by decide +kernel
theorem dX12_qFloor_10 : decode cX12_qFloor 10 = .ok (.ldiv, 1) := by decide +kernel
theorem dX12_qFloor_11 : decode cX12_qFloor 11 = .ok (.lstore 4, 2) := by decide +kernel
theorem dX12_qFloor_13 : decode cX12_qFloor 13 = .ok (.lload_n 0, 1) := by decide +kernel
theorem dX12_qFloor_14 : decode cX12_qFloor 14 = .ok (.lload_n 2, 1) := by decide +kernel
theorem dX12_qFloor_15 : decode cX12_qFloor 15 = .ok (.lrem, 1) := by decide +kernel
theorem dX12_qFloor_16 : decode cX12_qFloor 16 = .ok (.lconst 0, 1) := by decide +kernel
theorem dX12_qFloor_17 : decode cX12_qFloor 17 = .ok (.lcmp, 1) := by decide +kernel
theorem dX12_qFloor_18 : decode cX12_qFloor 18 = .ok (.ifCond .eq 35, 3) := by decide +kernel
theorem dX12_qFloor_21 : decode cX12_qFloor 21 = .ok (.lload_n 0, 1) := by decide +kernel
theorem dX12_qFloor_22 : decode cX12_qFloor 22 = .ok (.lconst 0, 1) := by decide +kernel
theorem dX12_qFloor_23 : decode cX12_qFloor 23 = .ok (.lcmp, 1) := by decide +kernel
theorem dX12_qFloor_24 : decode cX12_qFloor 24 = .ok (.ifCond .ge 7, 3) := by decide +kernel
theorem dX12_qFloor_27 : decode cX12_qFloor 27 = .ok (.iconst 1, 1) := by decide +kernel
theorem dX12_qFloor_28 : decode cX12_qFloor 28 = .ok (.goto 4, 3) := by decide +kernel
theorem dX12_qFloor_31 : decode cX12_qFloor 31 = .ok (.iconst 0, 1) := by decide +kernel
theorem dX12_qFloor_32 : decode cX12_qFloor 32 = .ok (.lload_n 2, 1) := by decide +kernel
theorem dX12_qFloor_33 : decode cX12_qFloor 33 = .ok (.lconst 0, 1) := by decide +kernel
theorem dX12_qFloor_34 : decode cX12_qFloor 34 = .ok (.lcmp, 1) := by decide +kernel
theorem dX12_qFloor_35 : decode cX12_qFloor 35 = .ok (.ifCond .ge 7, 3) := by decide +kernel
theorem dX12_qFloor_38 : decode cX12_qFloor 38 = .ok (.iconst 1, 1) := by decide +kernel
theorem dX12_qFloor_39 : decode cX12_qFloor 39 = .ok (.goto 4, 3) := by decide +kernel
theorem dX12_qFloor_42 : decode cX12_qFloor 42 = .ok (.iconst 0, 1) := by decide +kernel
theorem dX12_qFloor_43 : decode cX12_qFloor 43 = .ok (.if_icmp .eq 10, 3) := by decide +kernel
theorem dX12_qFloor_46 : decode cX12_qFloor 46 = .ok (.lload 4, 2) := by decide +kernel
theorem dX12_qFloor_48 : decode cX12_qFloor 48 = .ok (.lconst 1, 1) := by decide +kernel
theorem dX12_qFloor_49 : decode cX12_qFloor 49 = .ok (.lsub, 1) := by decide +kernel
theorem dX12_qFloor_50 : decode cX12_qFloor 50 = .ok (.goto 5, 3) := by decide +kernel
theorem dX12_qFloor_53 : decode cX12_qFloor 53 = .ok (.lload 4, 2) := by decide +kernel
theorem dX12_qFloor_55 : decode cX12_qFloor 55 = .ok (.lreturn, 1) := by decide +kernel
def X12_qFloor_p43 (sh : Shp) (v4 : Int64) (s1 : Int32) (s0 : Int32) (Q : Int64 → Mem → Prop) (m : Mem) : Prop :=
  if s0 = s1 then (Q v4 m) else (Q (v4 - (1 : Int64)) m)
def X12_qFloor_p32 (sh : Shp) (v2 : Int64) (v4 : Int64) (s0 : Int32) (Q : Int64 → Mem → Prop) (m : Mem) : Prop :=
  if 0 ≤ (lg_cmp v2 (0 : Int64)) then (X12_qFloor_p43 sh v4 (0 : Int32) s0 Q m) else (X12_qFloor_p43 sh v4 (1 : Int32) s0 Q m)
def wp_X12_qFloor (sh : Shp) (v0 : Int64) (v2 : Int64) (Q : Int64 → Mem → Prop) (m : Mem) : Prop :=
  if (lg_cmp v2 (0 : Int64)) = 0 then (Q (0 : Int64) m) else (¬ v2 = 0 ∧ (¬ v2 = 0 ∧ (if (lg_cmp (v0 - v0 / v2 * v2) (0 : Int64)) = 0 then (Q (v0 / v2) m) else (if 0 ≤ (lg_cmp v0 (0 : Int64)) then (X12_qFloor_p32 sh v2 (v0 / v2) (0 : Int32) Q m) else (X12_qFloor_p32 sh v2 (v0 / v2) (1 : Int32) Q m)))))
abbrev M_X12_qFloor : Mi := (cX12_qFloor, 6, RX12, (Option.some FieldType.long), "qFloor", 1, 60, 0, 0)
set_option maxHeartbeats 4000000 in
set_option maxRecDepth 100000 in
theorem v_X12_qFloor_p43 {G : Gl} {F : Fr} {sh : Shp} {v4 : Int64} {s0 : Int32} {s1 : Int32} {Q : Int64 → Mem → Prop} {m : Mem} (h : X12_qFloor_p43 sh v4 s1 s0 Q m) : V G F M_X12_qFloor sh 0 0 (Zl G F sh Q) 43 [(4, .long v4)] [.int s1, .int s0] m := by
  unfold X12_qFloor_p43 at h
  refine v_icmp_eq 53 dX12_qFloor_43 (by decide) (fun hc => ?_) (fun hc => ?_)
  · replace h := Eq.mp (if_pos hc) h
    refine v_lload 4 0 dX12_qFloor_53 rfl ?_
    exact v_lret dX12_qFloor_55 rfl h
  · replace h := Eq.mp (if_neg hc) h
    refine v_lload 4 0 dX12_qFloor_46 rfl ?_
    refine v_lconst (1 : Int64) dX12_qFloor_48 (by decide) ?_
    refine v_lsub dX12_qFloor_49 ?_
    refine v_goto 55 dX12_qFloor_50 (by decide) ?_
    exact v_lret dX12_qFloor_55 rfl h
set_option maxHeartbeats 4000000 in
set_option maxRecDepth 100000 in
theorem v_X12_qFloor_p32 {G : Gl} {F : Fr} {sh : Shp} {v2 : Int64} {v4 : Int64} {s0 : Int32} {Q : Int64 → Mem → Prop} {m : Mem} (h : X12_qFloor_p32 sh v2 v4 s0 Q m) : V G F M_X12_qFloor sh 0 0 (Zl G F sh Q) 32 [(2, .long v2), (4, .long v4)] [.int s0] m := by
  unfold X12_qFloor_p32 at h
  refine v_lload_n 2 0 dX12_qFloor_32 rfl rfl ?_
  refine v_lconst (0 : Int64) dX12_qFloor_33 (by decide) ?_
  refine v_lcmp dX12_qFloor_34 ?_
  refine v_if_ge 42 dX12_qFloor_35 (by decide) (fun hc => ?_) (fun hc => ?_)
  · replace h := Eq.mp (if_pos hc) h
    refine v_iconst (0 : Int32) dX12_qFloor_42 (by decide) ?_
    refine v_sub [1] rfl ?_
    exact v_X12_qFloor_p43 h
  · replace h := Eq.mp (if_neg hc) h
    refine v_iconst (1 : Int32) dX12_qFloor_38 (by decide) ?_
    refine v_goto 43 dX12_qFloor_39 (by decide) ?_
    refine v_sub [1] rfl ?_
    exact v_X12_qFloor_p43 h
set_option maxHeartbeats 4000000 in
set_option maxRecDepth 100000 in
theorem c_X12_qFloor {l : Launch} {G : Gl} {sh : Shp} {v0 : Int64} {v2 : Int64} {Q : Int64 → Mem → Prop} {m : Mem} (h : wp_X12_qFloor sh v0 v2 Q m) : Cnl l G yX12_qFloor cX12_qFloor 6 (Option.some FieldType.long) 1 60 sh [.long v0, .long v2] m Q := by
  refine con_l (ls := [(0, .long v0), (2, .long v2)]) (by decide +kernel) rfl (Nat.le_of_ble_eq_true rfl) (fun F => ?_)
  show V G F M_X12_qFloor sh 0 0 (Zl G F sh Q) 0 [(0, .long v0), (2, .long v2)] [] m
  unfold wp_X12_qFloor at h
  refine v_lload_n 2 1 dX12_qFloor_0 rfl rfl ?_
  refine v_lconst (0 : Int64) dX12_qFloor_1 (by decide) ?_
  refine v_lcmp dX12_qFloor_2 ?_
  refine v_if_ne 8 dX12_qFloor_3 (by decide) (fun hc => ?_) (fun hc => ?_)
  · replace h := Eq.mp (if_neg hc) h
    refine v_lload_n 0 0 dX12_qFloor_8 rfl rfl ?_
    refine v_lload_n 2 1 dX12_qFloor_9 rfl rfl ?_
    obtain ⟨hz, h⟩ := h
    refine v_ldiv dX12_qFloor_10 hz ?_
    refine v_lstore (ls' := [(4, .long _), (0, .long _), (2, .long _)]) 4 dX12_qFloor_11 (Nat.le_of_ble_eq_true rfl) rfl ?_
    refine v_lload_n 0 1 dX12_qFloor_13 rfl rfl ?_
    refine v_lload_n 2 2 dX12_qFloor_14 rfl rfl ?_
    obtain ⟨hz, h⟩ := h
    refine v_lrem dX12_qFloor_15 hz ?_
    refine v_lconst (0 : Int64) dX12_qFloor_16 (by decide) ?_
    refine v_lcmp dX12_qFloor_17 ?_
    refine v_if_eq 53 dX12_qFloor_18 (by decide) (fun hc => ?_) (fun hc => ?_)
    · replace h := Eq.mp (if_pos hc) h
      refine v_lload 4 0 dX12_qFloor_53 rfl ?_
      exact v_lret dX12_qFloor_55 rfl h
    · replace h := Eq.mp (if_neg hc) h
      refine v_lload_n 0 1 dX12_qFloor_21 rfl rfl ?_
      refine v_lconst (0 : Int64) dX12_qFloor_22 (by decide) ?_
      refine v_lcmp dX12_qFloor_23 ?_
      refine v_if_ge 31 dX12_qFloor_24 (by decide) (fun hc => ?_) (fun hc => ?_)
      · replace h := Eq.mp (if_pos hc) h
        refine v_iconst (0 : Int32) dX12_qFloor_31 (by decide) ?_
        refine v_sub [2, 0] rfl ?_
        exact v_X12_qFloor_p32 h
      · replace h := Eq.mp (if_neg hc) h
        refine v_iconst (1 : Int32) dX12_qFloor_27 (by decide) ?_
        refine v_goto 32 dX12_qFloor_28 (by decide) ?_
        refine v_sub [2, 0] rfl ?_
        exact v_X12_qFloor_p32 h
  · replace h := Eq.mp (if_pos hc) h
    refine v_lconst (0 : Int64) dX12_qFloor_6 (by decide) ?_
    exact v_lret dX12_qFloor_7 rfl h
/-! CalledRiverModel.qPuts -/
theorem dX12_qPuts_0 : decode cX12_qPuts 0 = .ok (.aload_n 0, 1) := by decide +kernel
theorem dX12_qPuts_1 : decode cX12_qPuts 1 = .ok (.getfield 276, 3) := by decide +kernel
theorem dX12_qPuts_4 : decode cX12_qPuts 4 = .ok (.aload_n 0, 1) := by decide +kernel
theorem dX12_qPuts_5 : decode cX12_qPuts 5 = .ok (.getfield 461, 3) := by decide +kernel
theorem dX12_qPuts_8 : decode cX12_qPuts 8 = .ok (.lload_n 1, 1) := by decide +kernel
theorem dX12_qPuts_9 : decode cX12_qPuts 9 = .ok (.lastore, 1) := by decide +kernel
theorem dX12_qPuts_10 : decode cX12_qPuts 10 = .ok (.aload_n 0, 1) := by decide +kernel
theorem dX12_qPuts_11 : decode cX12_qPuts 11 = .ok (.dup, 1) := by decide +kernel
theorem dX12_qPuts_12 : decode cX12_qPuts 12 = .ok (.getfield 461, 3) := by decide +kernel
theorem dX12_qPuts_15 : decode cX12_qPuts 15 = .ok (.iconst 1, 1) := by decide +kernel
theorem dX12_qPuts_16 : decode cX12_qPuts 16 = .ok (.iadd, 1) := by decide +kernel
theorem dX12_qPuts_17 : decode cX12_qPuts 17 = .ok (.putfield 461, 3) := by decide +kernel
theorem dX12_qPuts_20 : decode cX12_qPuts 20 = .ok (.return_, 1) := by decide +kernel
def wp_X12_qPuts (sh : Shp) (v0 : Nat) (v1 : Int64) (Q : Mem → Prop) (m : Mem) : Prop :=
  Ob sh v0 12 ∧ ∃ b2 : Nat, m.2.2 v0 114 = some b2 ∧ (Ix sh b2 103 (m.1 v0 115) ∧ bnd (sL m b2 (m.1 v0 115).toNatClampNeg v1) (fun m5 => bnd (sI m5 v0 115 ((m5.1 v0 115) + (1 : Int32))) (fun m6 => Q m6)))
abbrev M_X12_qPuts : Mi := (cX12_qPuts, 3, RX12, (none : Option FieldType), "qPuts", 1, 60, 0, 0)
set_option maxHeartbeats 4000000 in
set_option maxRecDepth 100000 in
theorem c_X12_qPuts {l : Launch} {G : Gl} {sh : Shp} {v0 : Nat} {v1 : Int64} {Q : Mem → Prop} {m : Mem} (h : wp_X12_qPuts sh v0 v1 Q m) : Cnv l G yX12_qPuts cX12_qPuts 3 (none : Option FieldType) 1 60 sh [.ref (G.1 + v0), .long v1] m Q := by
  refine con_v (ls := [(0, .ref (G.1 + v0)), (1, .long v1)]) (by decide +kernel) rfl (Nat.le_of_ble_eq_true rfl) (fun F => ?_)
  show V G F M_X12_qPuts sh 0 0 (Zv G F sh Q) 0 [(0, .ref (G.1 + v0)), (1, .long v1)] [] m
  unfold wp_X12_qPuts at h
  refine v_aload_n 0 0 dX12_qPuts_0 rfl rfl ?_
  obtain ⟨o1, h⟩ := h
  obtain ⟨b2, e3, h⟩ := h
  refine v_gR 12 114 dX12_qPuts_1 fg_RX12_276 o1 e3 ?_
  refine v_aload_n 0 0 dX12_qPuts_4 rfl rfl ?_
  refine v_gI 12 115 dX12_qPuts_5 fg_RX12_461 o1 ?_
  refine v_lload_n 1 1 dX12_qPuts_8 rfl rfl ?_
  obtain ⟨i4, h⟩ := h
  refine v_last dX12_qPuts_9 i4 ?_
  replace h := bnd_e h
  refine v_aload_n 0 0 dX12_qPuts_10 rfl rfl ?_
  refine v_dup dX12_qPuts_11 rfl ?_
  refine v_gI 12 115 dX12_qPuts_12 fg_RX12_461 o1 ?_
  refine v_iconst (1 : Int32) dX12_qPuts_15 (by decide) ?_
  refine v_iadd dX12_qPuts_16 ?_
  refine v_pI 12 115 dX12_qPuts_17 fw_RX12_461 o1 ?_
  replace h := bnd_e h
  exact v_vret dX12_qPuts_20 rfl h
/-! CalledRiverModel.qJoins -/
theorem dX12_qJoins_0 : decode cX12_qJoins 0 = .ok (.aload_n 0, 1) := by decide +kernel
theorem dX12_qJoins_1 : decode cX12_qJoins 1 = .ok (.getfield 276, 3) := by decide +kernel
theorem dX12_qJoins_4 : decode cX12_qJoins 4 = .ok (.aload_n 0, 1) := by decide +kernel
theorem dX12_qJoins_5 : decode cX12_qJoins 5 = .ok (.getfield 461, 3) := by decide +kernel
theorem dX12_qJoins_8 : decode cX12_qJoins 8 = .ok (.iconst 1, 1) := by decide +kernel
theorem dX12_qJoins_9 : decode cX12_qJoins 9 = .ok (.isub, 1) := by decide +kernel
theorem dX12_qJoins_10 : decode cX12_qJoins 10 = .ok (.laload, 1) := by decide +kernel
theorem dX12_qJoins_11 : decode cX12_qJoins 11 = .ok (.lstore_n 2, 1) := by decide +kernel
theorem dX12_qJoins_12 : decode cX12_qJoins 12 = .ok (.aload_n 0, 1) := by decide +kernel
theorem dX12_qJoins_13 : decode cX12_qJoins 13 = .ok (.getfield 276, 3) := by decide +kernel
theorem dX12_qJoins_16 : decode cX12_qJoins 16 = .ok (.aload_n 0, 1) := by decide +kernel
theorem dX12_qJoins_17 : decode cX12_qJoins 17 = .ok (.getfield 461, 3) := by decide +kernel
theorem dX12_qJoins_20 : decode cX12_qJoins 20 = .ok (.iconst 2, 1) := by decide +kernel
theorem dX12_qJoins_21 : decode cX12_qJoins 21 = .ok (.isub, 1) := by decide +kernel
theorem dX12_qJoins_22 : decode cX12_qJoins 22 = .ok (.laload, 1) := by decide +kernel
theorem dX12_qJoins_23 : decode cX12_qJoins 23 = .ok (.lstore 4, 2) := by decide +kernel
theorem dX12_qJoins_25 : decode cX12_qJoins 25 = .ok (.aload_n 0, 1) := by decide +kernel
theorem dX12_qJoins_26 : decode cX12_qJoins 26 = .ok (.dup, 1) := by decide +kernel
theorem dX12_qJoins_27 : decode cX12_qJoins 27 = .ok (.getfield 461, 3) := by decide +kernel
theorem dX12_qJoins_30 : decode cX12_qJoins 30 = .ok (.iconst 2, 1) := by decide +kernel
theorem dX12_qJoins_31 : decode cX12_qJoins 31 = .ok (.isub, 1) := by decide +kernel
theorem dX12_qJoins_32 : decode cX12_qJoins 32 = .ok (.putfield 461, 3) := by decide +kernel
theorem dX12_qJoins_35 : decode cX12_qJoins 35 = .ok (.iload_n 1, 1) := by decide +kernel
theorem dX12_qJoins_36 : decode cX12_qJoins 36 = .ok (.tableswitch 219 1 10 #[56, 70, 84, 98, 111, 131, 151, 170, 189, 208], 56) := by decide +kernel
theorem dX12_qJoins_92 : decode cX12_qJoins 92 = .ok (.aload_n 0, 1) := by decide +kernel
theorem dX12_qJoins_93 : decode cX12_qJoins 93 = .ok (.lload 4, 2) := by decide +kernel
theorem dX12_qJoins_95 : decode cX12_qJoins 95 = .ok (.lload_n 2, 1) := by decide +kernel
theorem dX12_qJoins_96 : decode cX12_qJoins 96 = .ok (.ladd, 1) := by decide +kernel
theorem dX12_qJoins_97 : decode cX12_qJoins 97 = .ok (.invokestatic 679, 3) := by decide +kernel
theorem dX12_qJoins_100 : decode cX12_qJoins 100 = .ok (.invokevirtual 464, 3) := by decide +kernel
theorem dX12_qJoins_103 : decode cX12_qJoins 103 = .ok (.goto 170, 3) := by decide +kernel
theorem dX12_qJoins_106 : decode cX12_qJoins 106 = .ok (.aload_n 0, 1) := by decide +kernel
theorem dX12_qJoins_107 : decode cX12_qJoins 107 = .ok (.lload 4, 2) := by decide +kernel
theorem dX12_qJoins_109 : decode cX12_qJoins 109 = .ok (.lload_n 2, 1) := by decide +kernel
theorem dX12_qJoins_110 : decode cX12_qJoins 110 = .ok (.lsub, 1) := by decide +kernel
theorem dX12_qJoins_111 : decode cX12_qJoins 111 = .ok (.invokestatic 679, 3) := by decide +kernel
theorem dX12_qJoins_114 : decode cX12_qJoins 114 = .ok (.invokevirtual 464, 3) := by decide +kernel
theorem dX12_qJoins_117 : decode cX12_qJoins 117 = .ok (.goto 156, 3) := by decide +kernel
theorem dX12_qJoins_120 : decode cX12_qJoins 120 = .ok (.aload_n 0, 1) := by decide +kernel
theorem dX12_qJoins_121 : decode cX12_qJoins 121 = .ok (.lload 4, 2) := by decide +kernel
theorem dX12_qJoins_123 : decode cX12_qJoins 123 = .ok (.lload_n 2, 1) := by decide +kernel
theorem dX12_qJoins_124 : decode cX12_qJoins 124 = .ok (.lmul, 1) := by decide +kernel
theorem dX12_qJoins_125 : decode cX12_qJoins 125 = .ok (.invokestatic 679, 3) := by decide +kernel
theorem dX12_qJoins_128 : decode cX12_qJoins 128 = .ok (.invokevirtual 464, 3) := by decide +kernel
theorem dX12_qJoins_131 : decode cX12_qJoins 131 = .ok (.goto 142, 3) := by decide +kernel
theorem dX12_qJoins_134 : decode cX12_qJoins 134 = .ok (.aload_n 0, 1) := by decide +kernel
theorem dX12_qJoins_135 : decode cX12_qJoins 135 = .ok (.lload 4, 2) := by decide +kernel
theorem dX12_qJoins_137 : decode cX12_qJoins 137 = .ok (.lload_n 2, 1) := by decide +kernel
theorem dX12_qJoins_138 : decode cX12_qJoins 138 = .ok (.invokestatic 683, 3) := by decide +kernel
theorem dX12_qJoins_141 : decode cX12_qJoins 141 = .ok (.invokevirtual 464, 3) := by decide +kernel
theorem dX12_qJoins_144 : decode cX12_qJoins 144 = .ok (.goto 129, 3) := by decide +kernel
theorem dX12_qJoins_147 : decode cX12_qJoins 147 = .ok (.aload_n 0, 1) := by decide +kernel
theorem dX12_qJoins_148 : decode cX12_qJoins 148 = .ok (.lload 4, 2) := by decide +kernel
theorem dX12_qJoins_150 : decode cX12_qJoins 150 = .ok (.lload_n 2, 1) := by decide +kernel
theorem dX12_qJoins_151 : decode cX12_qJoins 151 = .ok (.lcmp, 1) := by decide +kernel
theorem dX12_qJoins_152 : decode cX12_qJoins 152 = .ok (.ifCond .ge 8, 3) := by decide +kernel
theorem dX12_qJoins_155 : decode cX12_qJoins 155 = .ok (.lload 4, 2) := by decide +kernel
theorem dX12_qJoins_157 : decode cX12_qJoins 157 = .ok (.goto 4, 3) := by decide +kernel
theorem dX12_qJoins_160 : decode cX12_qJoins 160 = .ok (.lload_n 2, 1) := by decide +kernel
theorem dX12_qJoins_161 : decode cX12_qJoins 161 = .ok (.invokevirtual 464, 3) := by decide +kernel
theorem dX12_qJoins_164 : decode cX12_qJoins 164 = .ok (.goto 109, 3) := by decide +kernel
theorem dX12_qJoins_167 : decode cX12_qJoins 167 = .ok (.aload_n 0, 1) := by decide +kernel
theorem dX12_qJoins_168 : decode cX12_qJoins 168 = .ok (.lload 4, 2) := by decide +kernel
theorem dX12_qJoins_170 : decode cX12_qJoins 170 = .ok (.lload_n 2, 1) := by decide +kernel
theorem dX12_qJoins_171 : decode cX12_qJoins 171 = .ok (.lcmp, 1) := by decide +kernel
theorem dX12_qJoins_172 : decode cX12_qJoins 172 = .ok (.ifCond .le 8, 3) := by decide +kernel
theorem dX12_qJoins_175 : decode cX12_qJoins 175 = .ok (.lload 4, 2) := by decide +kernel
theorem dX12_qJoins_177 : decode cX12_qJoins 177 = .ok (.goto 4, 3) := by decide +kernel
theorem dX12_qJoins_180 : decode cX12_qJoins 180 = .ok (.lload_n 2, 1) := by decide +kernel
theorem dX12_qJoins_181 : decode cX12_qJoins 181 = .ok (.invokevirtual 464, 3) := by decide +kernel
theorem dX12_qJoins_184 : decode cX12_qJoins 184 = .ok (.goto 89, 3) := by decide +kernel
theorem dX12_qJoins_187 : decode cX12_qJoins 187 = .ok (.aload_n 0, 1) := by decide +kernel
theorem dX12_qJoins_188 : decode cX12_qJoins 188 = .ok (.lload 4, 2) := by decide +kernel
theorem dX12_qJoins_190 : decode cX12_qJoins 190 = .ok (.lload_n 2, 1) := by decide +kernel
theorem dX12_qJoins_191 : decode cX12_qJoins 191 = .ok (.lcmp, 1) := by decide +kernel
theorem dX12_qJoins_192 : decode cX12_qJoins 192 = .ok (.ifCond .ge 7, 3) := by decide +kernel
theorem dX12_qJoins_195 : decode cX12_qJoins 195 = .ok (.lconst 1, 1) := by decide +kernel
theorem dX12_qJoins_196 : decode cX12_qJoins 196 = .ok (.goto 4, 3) := by decide +kernel
theorem dX12_qJoins_199 : decode cX12_qJoins 199 = .ok (.lconst 0, 1) := by decide +kernel
theorem dX12_qJoins_200 : decode cX12_qJoins 200 = .ok (.invokevirtual 464, 3) := by decide +kernel
theorem dX12_qJoins_203 : decode cX12_qJoins 203 = .ok (.goto 70, 3) := by decide +kernel
theorem dX12_qJoins_206 : decode cX12_qJoins 206 = .ok (.aload_n 0, 1) := by decide +kernel
theorem dX12_qJoins_207 : decode cX12_qJoins 207 = .ok (.lload 4, 2) := by decide +kernel
theorem dX12_qJoins_209 : decode cX12_qJoins 209 = .ok (.lload_n 2, 1) := by decide +kernel
theorem dX12_qJoins_210 : decode cX12_qJoins 210 = .ok (.lcmp, 1) := by decide +kernel
theorem dX12_qJoins_211 : decode cX12_qJoins 211 = .ok (.ifCond .le 7, 3) := by decide +kernel
theorem dX12_qJoins_214 : decode cX12_qJoins 214 = .ok (.lconst 1, 1) := by decide +kernel
theorem dX12_qJoins_215 : decode cX12_qJoins 215 = .ok (.goto 4, 3) := by decide +kernel
theorem dX12_qJoins_218 : decode cX12_qJoins 218 = .ok (.lconst 0, 1) := by decide +kernel
theorem dX12_qJoins_219 : decode cX12_qJoins 219 = .ok (.invokevirtual 464, 3) := by decide +kernel
theorem dX12_qJoins_222 : decode cX12_qJoins 222 = .ok (.goto 51, 3) := by decide +kernel
theorem dX12_qJoins_225 : decode cX12_qJoins 225 = .ok (.aload_n 0, 1) := by decide +kernel
theorem dX12_qJoins_226 : decode cX12_qJoins 226 = .ok (.lload 4, 2) := by decide +kernel
theorem dX12_qJoins_228 : decode cX12_qJoins 228 = .ok (.lload_n 2, 1) := by decide +kernel
theorem dX12_qJoins_229 : decode cX12_qJoins 229 = .ok (.lcmp, 1) := by decide +kernel
theorem dX12_qJoins_230 : decode cX12_qJoins 230 = .ok (.ifCond .ne 7, 3) := by decide +kernel
theorem dX12_qJoins_233 : decode cX12_qJoins 233 = .ok (.lconst 1, 1) := by decide +kernel
theorem dX12_qJoins_234 : decode cX12_qJoins 234 = .ok (.goto 4, 3) := by decide +kernel
theorem dX12_qJoins_237 : decode cX12_qJoins 237 = .ok (.lconst 0, 1) := by decide +kernel
theorem dX12_qJoins_238 : decode cX12_qJoins 238 = .ok (.invokevirtual 464, 3) := by decide +kernel
theorem dX12_qJoins_241 : decode cX12_qJoins 241 = .ok (.goto 32, 3) := by decide +kernel
theorem dX12_qJoins_244 : decode cX12_qJoins 244 = .ok (.aload_n 0, 1) := by decide +kernel
theorem dX12_qJoins_245 : decode cX12_qJoins 245 = .ok (.lload 4, 2) := by decide +kernel
theorem dX12_qJoins_247 : decode cX12_qJoins 247 = .ok (.lload_n 2, 1) := by decide +kernel
theorem dX12_qJoins_248 : decode cX12_qJoins 248 = .ok (.lmul, 1) := by decide +kernel
theorem dX12_qJoins_249 : decode cX12_qJoins 249 = .ok (.invokevirtual 464, 3) := by decide +kernel
theorem dX12_qJoins_252 : decode cX12_qJoins 252 = .ok (.goto 21, 3) := by decide +kernel
theorem dX12_qJoins_255 : decode cX12_qJoins 255 = .ok (.aload_n 0, 1) := by decide +kernel
theorem dX12_qJoins_256 : decode cX12_qJoins 256 = .ok (.lload 4, 2) := by decide +kernel
theorem dX12_qJoins_258 : decode cX12_qJoins 258 = .ok (.lload_n 2, 1) := by decide +kernel
theorem dX12_qJoins_259 : decode cX12_qJoins 259 = .ok (.ladd, 1) := by decide +kernel
theorem dX12_qJoins_260 : decode cX12_qJoins 260 = .ok (.lconst 0, 1) := by decide +kernel
theorem dX12_qJoins_261 : decode cX12_qJoins 261 = .ok (.lcmp, 1) := by decide +kernel
theorem dX12_qJoins_262 : decode cX12_qJoins 262 = .ok (.ifCond .le 7, 3) := by decide +kernel
theorem dX12_qJoins_265 : decode cX12_qJoins 265 = .ok (.lconst 1, 1) := by decide +kernel
theorem dX12_qJoins_266 : decode cX12_qJoins 266 = .ok (.goto 4, 3) := by decide +kernel
theorem dX12_qJoins_269 : decode cX12_qJoins 269 = .ok (.lconst 0, 1) := by decide +kernel
theorem dX12_qJoins_270 : decode cX12_qJoins 270 = .ok (.invokevirtual 464, 3) := by decide +kernel
theorem dX12_qJoins_273 : decode cX12_qJoins 273 = .ok (.return_, 1) := by decide +kernel
def X12_qJoins_p161 (sh : Shp) (s1 : Int64) (s0 : Nat) (Q : Mem → Prop) (m : Mem) : Prop :=
  Ob sh s0 12 ∧ wp_X12_qPuts sh s0 s1 (fun m26 => Q m26) m
def X12_qJoins_p181 (sh : Shp) (s1 : Int64) (s0 : Nat) (Q : Mem → Prop) (m : Mem) : Prop :=
  Ob sh s0 12 ∧ wp_X12_qPuts sh s0 s1 (fun m29 => Q m29) m
def X12_qJoins_p200 (sh : Shp) (s1 : Int64) (s0 : Nat) (Q : Mem → Prop) (m : Mem) : Prop :=
  Ob sh s0 12 ∧ wp_X12_qPuts sh s0 s1 (fun m32 => Q m32) m
def X12_qJoins_p219 (sh : Shp) (s1 : Int64) (s0 : Nat) (Q : Mem → Prop) (m : Mem) : Prop :=
  Ob sh s0 12 ∧ wp_X12_qPuts sh s0 s1 (fun m35 => Q m35) m
def X12_qJoins_p238 (sh : Shp) (s1 : Int64) (s0 : Nat) (Q : Mem → Prop) (m : Mem) : Prop :=
  Ob sh s0 12 ∧ wp_X12_qPuts sh s0 s1 (fun m38 => Q m38) m
def X12_qJoins_p270 (sh : Shp) (s1 : Int64) (s0 : Nat) (Q : Mem → Prop) (m : Mem) : Prop :=
  Ob sh s0 12 ∧ wp_X12_qPuts sh s0 s1 (fun m41 => Q m41) m
def wp_X12_qJoins (sh : Shp) (v0 : Nat) (v1 : Int32) (Q : Mem → Prop) (m : Mem) : Prop :=
  Ob sh v0 12 ∧ ∃ b2 : Nat, m.2.2 v0 114 = some b2 ∧ (Ix sh b2 103 ((m.1 v0 115) - (1 : Int32)) ∧ (Ix sh b2 103 ((m.1 v0 115) - (2 : Int32)) ∧ (bnd (sI m v0 115 ((m.1 v0 115) - (2 : Int32))) (fun m6 => if v1 = (1 : Int32) then (wp_X12_qClip sh ((m.2.1 b2 ((m.1 v0 115) - (2 : Int32)).toNatClampNeg) + (m.2.1 b2 ((m.1 v0 115) - (1 : Int32)).toNatClampNeg)) (fun r7 m8 => wp_X12_qPuts sh v0 r7 (fun m10 => Q m10) m8) m6) else if v1 = (2 : Int32) then (wp_X12_qClip sh ((m.2.1 b2 ((m.1 v0 115) - (2 : Int32)).toNatClampNeg) - (m.2.1 b2 ((m.1 v0 115) - (1 : Int32)).toNatClampNeg)) (fun r11 m12 => wp_X12_qPuts sh v0 r11 (fun m14 => Q m14) m12) m6) else if v1 = (3 : Int32) then (wp_X12_qClip sh ((m.2.1 b2 ((m.1 v0 115) - (2 : Int32)).toNatClampNeg) * (m.2.1 b2 ((m.1 v0 115) - (1 : Int32)).toNatClampNeg)) (fun r15 m16 => wp_X12_qPuts sh v0 r15 (fun m18 => Q m18) m16) m6) else if v1 = (4 : Int32) then (wp_X12_qFloor sh (m.2.1 b2 ((m.1 v0 115) - (2 : Int32)).toNatClampNeg) (m.2.1 b2 ((m.1 v0 115) - (1 : Int32)).toNatClampNeg) (fun r19 m20 => wp_X12_qPuts sh v0 r19 (fun m22 => Q m22) m20) m6) else if v1 = (5 : Int32) then (if 0 ≤ (lg_cmp (m.2.1 b2 ((m.1 v0 115) - (2 : Int32)).toNatClampNeg) (m.2.1 b2 ((m.1 v0 115) - (1 : Int32)).toNatClampNeg)) then (X12_qJoins_p161 sh (m.2.1 b2 ((m.1 v0 115) - (1 : Int32)).toNatClampNeg) v0 Q m6) else (X12_qJoins_p161 sh (m.2.1 b2 ((m.1 v0 115) - (2 : Int32)).toNatClampNeg) v0 Q m6)) else if v1 = (6 : Int32) then (if (lg_cmp (m.2.1 b2 ((m.1 v0 115) - (2 : Int32)).toNatClampNeg) (m.2.1 b2 ((m.1 v0 115) - (1 : Int32)).toNatClampNeg)) ≤ 0 then (X12_qJoins_p181 sh (m.2.1 b2 ((m.1 v0 115) - (1 : Int32)).toNatClampNeg) v0 Q m6) else (X12_qJoins_p181 sh (m.2.1 b2 ((m.1 v0 115) - (2 : Int32)).toNatClampNeg) v0 Q m6)) else if v1 = (7 : Int32) then (if 0 ≤ (lg_cmp (m.2.1 b2 ((m.1 v0 115) - (2 : Int32)).toNatClampNeg) (m.2.1 b2 ((m.1 v0 115) - (1 : Int32)).toNatClampNeg)) then (X12_qJoins_p200 sh (0 : Int64) v0 Q m6) else (X12_qJoins_p200 sh (1 : Int64) v0 Q m6)) else if v1 = (8 : Int32) then (if (lg_cmp (m.2.1 b2 ((m.1 v0 115) - (2 : Int32)).toNatClampNeg) (m.2.1 b2 ((m.1 v0 115) - (1 : Int32)).toNatClampNeg)) ≤ 0 then (X12_qJoins_p219 sh (0 : Int64) v0 Q m6) else (X12_qJoins_p219 sh (1 : Int64) v0 Q m6)) else if v1 = (9 : Int32) then (if (lg_cmp (m.2.1 b2 ((m.1 v0 115) - (2 : Int32)).toNatClampNeg) (m.2.1 b2 ((m.1 v0 115) - (1 : Int32)).toNatClampNeg)) = 0 then (X12_qJoins_p238 sh (1 : Int64) v0 Q m6) else (X12_qJoins_p238 sh (0 : Int64) v0 Q m6)) else if v1 = (10 : Int32) then (wp_X12_qPuts sh v0 ((m.2.1 b2 ((m.1 v0 115) - (2 : Int32)).toNatClampNeg) * (m.2.1 b2 ((m.1 v0 115) - (1 : Int32)).toNatClampNeg)) (fun m24 => Q m24) m6) else (if (lg_cmp ((m.2.1 b2 ((m.1 v0 115) - (2 : Int32)).toNatClampNeg) + (m.2.1 b2 ((m.1 v0 115) - (1 : Int32)).toNatClampNeg)) (0 : Int64)) ≤ 0 then (X12_qJoins_p270 sh (0 : Int64) v0 Q m6) else (X12_qJoins_p270 sh (1 : Int64) v0 Q m6))))))
abbrev M_X12_qJoins : Mi := (cX12_qJoins, 6, RX12, (none : Option FieldType), "qJoins", 2, 85, 0, 0)
set_option maxHeartbeats 4000000 in
set_option maxRecDepth 100000 in
theorem v_X12_qJoins_p161 {G : Gl} {F : Fr} {sh : Shp} {s0 : Nat} {s1 : Int64} {Q : Mem → Prop} {m : Mem} (h : X12_qJoins_p161 sh s1 s0 Q m) : V G F M_X12_qJoins sh 0 0 (Zv G F sh Q) 161 [] [.long s1, .ref (G.1 + s0)] m := by
  unfold X12_qJoins_p161 at h
  obtain ⟨o27, h⟩ := h
  refine v_cVv [.long _] mv_X12_qPuts ml_RX12_464 ⟨_, _, rfl⟩ o27 rfl rfl (Nat.le_of_ble_eq_true rfl) (Nat.le_of_ble_eq_true rfl) (Nat.le_of_ble_eq_true rfl) (Nat.zero_le _) (Nat.zero_le _) dX12_qJoins_161 (c_X12_qPuts h) (fun m26 h => ?_)
  refine v_goto 273 dX12_qJoins_164 (by decide) ?_
  exact v_vret dX12_qJoins_273 rfl h
set_option maxHeartbeats 4000000 in
set_option maxRecDepth 100000 in
theorem v_X12_qJoins_p181 {G : Gl} {F : Fr} {sh : Shp} {s0 : Nat} {s1 : Int64} {Q : Mem → Prop} {m : Mem} (h : X12_qJoins_p181 sh s1 s0 Q m) : V G F M_X12_qJoins sh 0 0 (Zv G F sh Q) 181 [] [.long s1, .ref (G.1 + s0)] m := by
  unfold X12_qJoins_p181 at h
  obtain ⟨o30, h⟩ := h
  refine v_cVv [.long _] mv_X12_qPuts ml_RX12_464 ⟨_, _, rfl⟩ o30 rfl rfl (Nat.le_of_ble_eq_true rfl) (Nat.le_of_ble_eq_true rfl) (Nat.le_of_ble_eq_true rfl) (Nat.zero_le _) (Nat.zero_le _) dX12_qJoins_181 (c_X12_qPuts h) (fun m29 h => ?_)
  refine v_goto 273 dX12_qJoins_184 (by decide) ?_
  exact v_vret dX12_qJoins_273 rfl h
set_option maxHeartbeats 4000000 in
set_option maxRecDepth 100000 in
theorem v_X12_qJoins_p200 {G : Gl} {F : Fr} {sh : Shp} {s0 : Nat} {s1 : Int64} {Q : Mem → Prop} {m : Mem} (h : X12_qJoins_p200 sh s1 s0 Q m) : V G F M_X12_qJoins sh 0 0 (Zv G F sh Q) 200 [] [.long s1, .ref (G.1 + s0)] m := by
  unfold X12_qJoins_p200 at h
  obtain ⟨o33, h⟩ := h
  refine v_cVv [.long _] mv_X12_qPuts ml_RX12_464 ⟨_, _, rfl⟩ o33 rfl rfl (Nat.le_of_ble_eq_true rfl) (Nat.le_of_ble_eq_true rfl) (Nat.le_of_ble_eq_true rfl) (Nat.zero_le _) (Nat.zero_le _) dX12_qJoins_200 (c_X12_qPuts h) (fun m32 h => ?_)
  refine v_goto 273 dX12_qJoins_203 (by decide) ?_
  exact v_vret dX12_qJoins_273 rfl h
set_option maxHeartbeats 4000000 in
set_option maxRecDepth 100000 in
theorem v_X12_qJoins_p219 {G : Gl} {F : Fr} {sh : Shp} {s0 : Nat} {s1 : Int64} {Q : Mem → Prop} {m : Mem} (h : X12_qJoins_p219 sh s1 s0 Q m) : V G F M_X12_qJoins sh 0 0 (Zv G F sh Q) 219 [] [.long s1, .ref (G.1 + s0)] m := by
  unfold X12_qJoins_p219 at h
  obtain ⟨o36, h⟩ := h
  refine v_cVv [.long _] mv_X12_qPuts ml_RX12_464 ⟨_, _, rfl⟩ o36 rfl rfl (Nat.le_of_ble_eq_true rfl) (Nat.le_of_ble_eq_true rfl) (Nat.le_of_ble_eq_true rfl) (Nat.zero_le _) (Nat.zero_le _) dX12_qJoins_219 (c_X12_qPuts h) (fun m35 h => ?_)
  refine v_goto 273 dX12_qJoins_222 (by decide) ?_
  exact v_vret dX12_qJoins_273 rfl h
set_option maxHeartbeats 4000000 in
set_option maxRecDepth 100000 in
theorem v_X12_qJoins_p238 {G : Gl} {F : Fr} {sh : Shp} {s0 : Nat} {s1 : Int64} {Q : Mem → Prop} {m : Mem} (h : X12_qJoins_p238 sh s1 s0 Q m) : V G F M_X12_qJoins sh 0 0 (Zv G F sh Q) 238 [] [.long s1, .ref (G.1 + s0)] m := by
  unfold X12_qJoins_p238 at h
  obtain ⟨o39, h⟩ := h
  refine v_cVv [.long _] mv_X12_qPuts ml_RX12_464 ⟨_, _, rfl⟩ o39 rfl rfl (Nat.le_of_ble_eq_true rfl) (Nat.le_of_ble_eq_true rfl) (Nat.le_of_ble_eq_true rfl) (Nat.zero_le _) (Nat.zero_le _) dX12_qJoins_238 (c_X12_qPuts h) (fun m38 h => ?_)
  refine v_goto 273 dX12_qJoins_241 (by decide) ?_
  exact v_vret dX12_qJoins_273 rfl h
set_option maxHeartbeats 4000000 in
set_option maxRecDepth 100000 in
theorem v_X12_qJoins_p270 {G : Gl} {F : Fr} {sh : Shp} {s0 : Nat} {s1 : Int64} {Q : Mem → Prop} {m : Mem} (h : X12_qJoins_p270 sh s1 s0 Q m) : V G F M_X12_qJoins sh 0 0 (Zv G F sh Q) 270 [] [.long s1, .ref (G.1 + s0)] m := by
  unfold X12_qJoins_p270 at h
  obtain ⟨o42, h⟩ := h
  refine v_cVv [.long _] mv_X12_qPuts ml_RX12_464 ⟨_, _, rfl⟩ o42 rfl rfl (Nat.le_of_ble_eq_true rfl) (Nat.le_of_ble_eq_true rfl) (Nat.le_of_ble_eq_true rfl) (Nat.zero_le _) (Nat.zero_le _) dX12_qJoins_270 (c_X12_qPuts h) (fun m41 h => ?_)
  exact v_vret dX12_qJoins_273 rfl h
set_option maxHeartbeats 4000000 in
set_option maxRecDepth 100000 in
theorem c_X12_qJoins {l : Launch} {G : Gl} {sh : Shp} {v0 : Nat} {v1 : Int32} {Q : Mem → Prop} {m : Mem} (h : wp_X12_qJoins sh v0 v1 Q m) : Cnv l G yX12_qJoins cX12_qJoins 6 (none : Option FieldType) 2 85 sh [.ref (G.1 + v0), .int v1] m Q := by
  refine con_v (ls := [(0, .ref (G.1 + v0)), (1, .int v1)]) (by decide +kernel) rfl (Nat.le_of_ble_eq_true rfl) (fun F => ?_)
  show V G F M_X12_qJoins sh 0 0 (Zv G F sh Q) 0 [(0, .ref (G.1 + v0)), (1, .int v1)] [] m
  unfold wp_X12_qJoins at h
  refine v_aload_n 0 0 dX12_qJoins_0 rfl rfl ?_
  obtain ⟨o1, h⟩ := h
  obtain ⟨b2, e3, h⟩ := h
  refine v_gR 12 114 dX12_qJoins_1 fg_RX12_276 o1 e3 ?_
  refine v_aload_n 0 0 dX12_qJoins_4 rfl rfl ?_
  refine v_gI 12 115 dX12_qJoins_5 fg_RX12_461 o1 ?_
  refine v_iconst (1 : Int32) dX12_qJoins_8 (by decide) ?_
  refine v_isub dX12_qJoins_9 ?_
  obtain ⟨i4, h⟩ := h
  refine v_lald dX12_qJoins_10 i4 ?_
  refine v_lstore_n (ls' := [(2, .long _), (0, .ref _), (1, .int _)]) 2 dX12_qJoins_11 rfl (Nat.le_of_ble_eq_true rfl) rfl ?_
  refine v_aload_n 0 1 dX12_qJoins_12 rfl rfl ?_
  refine v_gR 12 114 dX12_qJoins_13 fg_RX12_276 o1 e3 ?_
  refine v_aload_n 0 1 dX12_qJoins_16 rfl rfl ?_
  refine v_gI 12 115 dX12_qJoins_17 fg_RX12_461 o1 ?_
  refine v_iconst (2 : Int32) dX12_qJoins_20 (by decide) ?_
  refine v_isub dX12_qJoins_21 ?_
  obtain ⟨i5, h⟩ := h
  refine v_lald dX12_qJoins_22 i5 ?_
  refine v_lstore (ls' := [(4, .long _), (2, .long _), (0, .ref _), (1, .int _)]) 4 dX12_qJoins_23 (Nat.le_of_ble_eq_true rfl) rfl ?_
  refine v_aload_n 0 2 dX12_qJoins_25 rfl rfl ?_
  refine v_dup dX12_qJoins_26 rfl ?_
  refine v_gI 12 115 dX12_qJoins_27 fg_RX12_461 o1 ?_
  refine v_iconst (2 : Int32) dX12_qJoins_30 (by decide) ?_
  refine v_isub dX12_qJoins_31 ?_
  refine v_pI 12 115 dX12_qJoins_32 fw_RX12_461 o1 ?_
  replace h := bnd_e h
  refine v_iload_n 1 3 dX12_qJoins_35 rfl rfl ?_
  by_cases hc0 : v1 = (1 : Int32)
  · replace h := Eq.mp (if_pos hc0) h
    refine v_tabK (1 : Int32) hc0 92 dX12_qJoins_36 (by decide) (by decide) rfl (by decide) ?_
    refine v_aload_n 0 2 dX12_qJoins_92 rfl rfl ?_
    refine v_lload 4 0 dX12_qJoins_93 rfl ?_
    refine v_lload_n 2 1 dX12_qJoins_95 rfl rfl ?_
    refine v_ladd dX12_qJoins_96 ?_
    refine v_cSl [.long _] mv_X12_qClip ml_RX12_679 rfl rfl (Nat.le_of_ble_eq_true rfl) (Nat.le_of_ble_eq_true rfl) (Nat.le_of_ble_eq_true rfl) (Nat.zero_le _) (Nat.zero_le _) dX12_qJoins_97 (c_X12_qClip h) (fun r7 m8 h => ?_)
    refine v_cVv [.long _] mv_X12_qPuts ml_RX12_464 ⟨_, _, rfl⟩ o1 rfl rfl (Nat.le_of_ble_eq_true rfl) (Nat.le_of_ble_eq_true rfl) (Nat.le_of_ble_eq_true rfl) (Nat.zero_le _) (Nat.zero_le _) dX12_qJoins_100 (c_X12_qPuts h) (fun m10 h => ?_)
    refine v_goto 273 dX12_qJoins_103 (by decide) ?_
    exact v_vret dX12_qJoins_273 rfl h
  replace h := Eq.mp (if_neg hc0) h
  by_cases hc1 : v1 = (2 : Int32)
  · replace h := Eq.mp (if_pos hc1) h
    refine v_tabK (2 : Int32) hc1 106 dX12_qJoins_36 (by decide) (by decide) rfl (by decide) ?_
    refine v_aload_n 0 2 dX12_qJoins_106 rfl rfl ?_
    refine v_lload 4 0 dX12_qJoins_107 rfl ?_
    refine v_lload_n 2 1 dX12_qJoins_109 rfl rfl ?_
    refine v_lsub dX12_qJoins_110 ?_
    refine v_cSl [.long _] mv_X12_qClip ml_RX12_679 rfl rfl (Nat.le_of_ble_eq_true rfl) (Nat.le_of_ble_eq_true rfl) (Nat.le_of_ble_eq_true rfl) (Nat.zero_le _) (Nat.zero_le _) dX12_qJoins_111 (c_X12_qClip h) (fun r11 m12 h => ?_)
    refine v_cVv [.long _] mv_X12_qPuts ml_RX12_464 ⟨_, _, rfl⟩ o1 rfl rfl (Nat.le_of_ble_eq_true rfl) (Nat.le_of_ble_eq_true rfl) (Nat.le_of_ble_eq_true rfl) (Nat.zero_le _) (Nat.zero_le _) dX12_qJoins_114 (c_X12_qPuts h) (fun m14 h => ?_)
    refine v_goto 273 dX12_qJoins_117 (by decide) ?_
    exact v_vret dX12_qJoins_273 rfl h
  replace h := Eq.mp (if_neg hc1) h
  by_cases hc2 : v1 = (3 : Int32)
  · replace h := Eq.mp (if_pos hc2) h
    refine v_tabK (3 : Int32) hc2 120 dX12_qJoins_36 (by decide) (by decide) rfl (by decide) ?_
    refine v_aload_n 0 2 dX12_qJoins_120 rfl rfl ?_
    refine v_lload 4 0 dX12_qJoins_121 rfl ?_
    refine v_lload_n 2 1 dX12_qJoins_123 rfl rfl ?_
    refine v_lmul dX12_qJoins_124 ?_
    refine v_cSl [.long _] mv_X12_qClip ml_RX12_679 rfl rfl (Nat.le_of_ble_eq_true rfl) (Nat.le_of_ble_eq_true rfl) (Nat.le_of_ble_eq_true rfl) (Nat.zero_le _) (Nat.zero_le _) dX12_qJoins_125 (c_X12_qClip h) (fun r15 m16 h => ?_)
    refine v_cVv [.long _] mv_X12_qPuts ml_RX12_464 ⟨_, _, rfl⟩ o1 rfl rfl (Nat.le_of_ble_eq_true rfl) (Nat.le_of_ble_eq_true rfl) (Nat.le_of_ble_eq_true rfl) (Nat.zero_le _) (Nat.zero_le _) dX12_qJoins_128 (c_X12_qPuts h) (fun m18 h => ?_)
    refine v_goto 273 dX12_qJoins_131 (by decide) ?_
    exact v_vret dX12_qJoins_273 rfl h
  replace h := Eq.mp (if_neg hc2) h
  by_cases hc3 : v1 = (4 : Int32)
  · replace h := Eq.mp (if_pos hc3) h
    refine v_tabK (4 : Int32) hc3 134 dX12_qJoins_36 (by decide) (by decide) rfl (by decide) ?_
    refine v_aload_n 0 2 dX12_qJoins_134 rfl rfl ?_
    refine v_lload 4 0 dX12_qJoins_135 rfl ?_
    refine v_lload_n 2 1 dX12_qJoins_137 rfl rfl ?_
    refine v_cSl [.long _, .long _] mv_X12_qFloor ml_RX12_683 rfl rfl (Nat.le_of_ble_eq_true rfl) (Nat.le_of_ble_eq_true rfl) (Nat.le_of_ble_eq_true rfl) (Nat.zero_le _) (Nat.zero_le _) dX12_qJoins_138 (c_X12_qFloor h) (fun r19 m20 h => ?_)
    refine v_cVv [.long _] mv_X12_qPuts ml_RX12_464 ⟨_, _, rfl⟩ o1 rfl rfl (Nat.le_of_ble_eq_true rfl) (Nat.le_of_ble_eq_true rfl) (Nat.le_of_ble_eq_true rfl) (Nat.zero_le _) (Nat.zero_le _) dX12_qJoins_141 (c_X12_qPuts h) (fun m22 h => ?_)
    refine v_goto 273 dX12_qJoins_144 (by decide) ?_
    exact v_vret dX12_qJoins_273 rfl h
  replace h := Eq.mp (if_neg hc3) h
  by_cases hc4 : v1 = (5 : Int32)
  · replace h := Eq.mp (if_pos hc4) h
    refine v_tabK (5 : Int32) hc4 147 dX12_qJoins_36 (by decide) (by decide) rfl (by decide) ?_
    refine v_aload_n 0 2 dX12_qJoins_147 rfl rfl ?_
    refine v_lload 4 0 dX12_qJoins_148 rfl ?_
    refine v_lload_n 2 1 dX12_qJoins_150 rfl rfl ?_
    refine v_lcmp dX12_qJoins_151 ?_
    refine v_if_ge 160 dX12_qJoins_152 (by decide) (fun hc => ?_) (fun hc => ?_)
    · replace h := Eq.mp (if_pos hc) h
      refine v_lload_n 2 1 dX12_qJoins_160 rfl rfl ?_
      refine v_sub [] rfl ?_
      exact v_X12_qJoins_p161 h
    · replace h := Eq.mp (if_neg hc) h
      refine v_lload 4 0 dX12_qJoins_155 rfl ?_
      refine v_goto 161 dX12_qJoins_157 (by decide) ?_
      refine v_sub [] rfl ?_
      exact v_X12_qJoins_p161 h
  replace h := Eq.mp (if_neg hc4) h
  by_cases hc5 : v1 = (6 : Int32)
  · replace h := Eq.mp (if_pos hc5) h
    refine v_tabK (6 : Int32) hc5 167 dX12_qJoins_36 (by decide) (by decide) rfl (by decide) ?_
    refine v_aload_n 0 2 dX12_qJoins_167 rfl rfl ?_
    refine v_lload 4 0 dX12_qJoins_168 rfl ?_
    refine v_lload_n 2 1 dX12_qJoins_170 rfl rfl ?_
    refine v_lcmp dX12_qJoins_171 ?_
    refine v_if_le 180 dX12_qJoins_172 (by decide) (fun hc => ?_) (fun hc => ?_)
    · replace h := Eq.mp (if_pos hc) h
      refine v_lload_n 2 1 dX12_qJoins_180 rfl rfl ?_
      refine v_sub [] rfl ?_
      exact v_X12_qJoins_p181 h
    · replace h := Eq.mp (if_neg hc) h
      refine v_lload 4 0 dX12_qJoins_175 rfl ?_
      refine v_goto 181 dX12_qJoins_177 (by decide) ?_
      refine v_sub [] rfl ?_
      exact v_X12_qJoins_p181 h
  replace h := Eq.mp (if_neg hc5) h
  by_cases hc6 : v1 = (7 : Int32)
  · replace h := Eq.mp (if_pos hc6) h
    refine v_tabK (7 : Int32) hc6 187 dX12_qJoins_36 (by decide) (by decide) rfl (by decide) ?_
    refine v_aload_n 0 2 dX12_qJoins_187 rfl rfl ?_
    refine v_lload 4 0 dX12_qJoins_188 rfl ?_
    refine v_lload_n 2 1 dX12_qJoins_190 rfl rfl ?_
    refine v_lcmp dX12_qJoins_191 ?_
    refine v_if_ge 199 dX12_qJoins_192 (by decide) (fun hc => ?_) (fun hc => ?_)
    · replace h := Eq.mp (if_pos hc) h
      refine v_lconst (0 : Int64) dX12_qJoins_199 (by decide) ?_
      refine v_sub [] rfl ?_
      exact v_X12_qJoins_p200 h
    · replace h := Eq.mp (if_neg hc) h
      refine v_lconst (1 : Int64) dX12_qJoins_195 (by decide) ?_
      refine v_goto 200 dX12_qJoins_196 (by decide) ?_
      refine v_sub [] rfl ?_
      exact v_X12_qJoins_p200 h
  replace h := Eq.mp (if_neg hc6) h
  by_cases hc7 : v1 = (8 : Int32)
  · replace h := Eq.mp (if_pos hc7) h
    refine v_tabK (8 : Int32) hc7 206 dX12_qJoins_36 (by decide) (by decide) rfl (by decide) ?_
    refine v_aload_n 0 2 dX12_qJoins_206 rfl rfl ?_
    refine v_lload 4 0 dX12_qJoins_207 rfl ?_
    refine v_lload_n 2 1 dX12_qJoins_209 rfl rfl ?_
    refine v_lcmp dX12_qJoins_210 ?_
    refine v_if_le 218 dX12_qJoins_211 (by decide) (fun hc => ?_) (fun hc => ?_)
    · replace h := Eq.mp (if_pos hc) h
      refine v_lconst (0 : Int64) dX12_qJoins_218 (by decide) ?_
      refine v_sub [] rfl ?_
      exact v_X12_qJoins_p219 h
    · replace h := Eq.mp (if_neg hc) h
      refine v_lconst (1 : Int64) dX12_qJoins_214 (by decide) ?_
      refine v_goto 219 dX12_qJoins_215 (by decide) ?_
      refine v_sub [] rfl ?_
      exact v_X12_qJoins_p219 h
  replace h := Eq.mp (if_neg hc7) h
  by_cases hc8 : v1 = (9 : Int32)
  · replace h := Eq.mp (if_pos hc8) h
    refine v_tabK (9 : Int32) hc8 225 dX12_qJoins_36 (by decide) (by decide) rfl (by decide) ?_
    refine v_aload_n 0 2 dX12_qJoins_225 rfl rfl ?_
    refine v_lload 4 0 dX12_qJoins_226 rfl ?_
    refine v_lload_n 2 1 dX12_qJoins_228 rfl rfl ?_
    refine v_lcmp dX12_qJoins_229 ?_
    refine v_if_ne 237 dX12_qJoins_230 (by decide) (fun hc => ?_) (fun hc => ?_)
    · replace h := Eq.mp (if_neg hc) h
      refine v_lconst (0 : Int64) dX12_qJoins_237 (by decide) ?_
      refine v_sub [] rfl ?_
      exact v_X12_qJoins_p238 h
    · replace h := Eq.mp (if_pos hc) h
      refine v_lconst (1 : Int64) dX12_qJoins_233 (by decide) ?_
      refine v_goto 238 dX12_qJoins_234 (by decide) ?_
      refine v_sub [] rfl ?_
      exact v_X12_qJoins_p238 h
  replace h := Eq.mp (if_neg hc8) h
  by_cases hc9 : v1 = (10 : Int32)
  · replace h := Eq.mp (if_pos hc9) h
    refine v_tabK (10 : Int32) hc9 244 dX12_qJoins_36 (by decide) (by decide) rfl (by decide) ?_
    refine v_aload_n 0 2 dX12_qJoins_244 rfl rfl ?_
    refine v_lload 4 0 dX12_qJoins_245 rfl ?_
    refine v_lload_n 2 1 dX12_qJoins_247 rfl rfl ?_
    refine v_lmul dX12_qJoins_248 ?_
    refine v_cVv [.long _] mv_X12_qPuts ml_RX12_464 ⟨_, _, rfl⟩ o1 rfl rfl (Nat.le_of_ble_eq_true rfl) (Nat.le_of_ble_eq_true rfl) (Nat.le_of_ble_eq_true rfl) (Nat.zero_le _) (Nat.zero_le _) dX12_qJoins_249 (c_X12_qPuts h) (fun m24 h => ?_)
    refine v_goto 273 dX12_qJoins_252 (by decide) ?_
    exact v_vret dX12_qJoins_273 rfl h
  replace h := Eq.mp (if_neg hc9) h
  refine v_tabOut 255 dX12_qJoins_36 (by have := lv_neT hc0 (a := 1) (by decide); have := lv_neT hc1 (a := 2) (by decide); have := lv_neT hc2 (a := 3) (by decide); have := lv_neT hc3 (a := 4) (by decide); have := lv_neT hc4 (a := 5) (by decide); have := lv_neT hc5 (a := 6) (by decide); have := lv_neT hc6 (a := 7) (by decide); have := lv_neT hc7 (a := 8) (by decide); have := lv_neT hc8 (a := 9) (by decide); have := lv_neT hc9 (a := 10) (by decide); omega) (by decide) ?_
  refine v_aload_n 0 2 dX12_qJoins_255 rfl rfl ?_
  refine v_lload 4 0 dX12_qJoins_256 rfl ?_
  refine v_lload_n 2 1 dX12_qJoins_258 rfl rfl ?_
  refine v_ladd dX12_qJoins_259 ?_
  refine v_lconst (0 : Int64) dX12_qJoins_260 (by decide) ?_
  refine v_lcmp dX12_qJoins_261 ?_
  refine v_if_le 269 dX12_qJoins_262 (by decide) (fun hc => ?_) (fun hc => ?_)
  · replace h := Eq.mp (if_pos hc) h
    refine v_lconst (0 : Int64) dX12_qJoins_269 (by decide) ?_
    refine v_sub [] rfl ?_
    exact v_X12_qJoins_p270 h
  · replace h := Eq.mp (if_neg hc) h
    refine v_lconst (1 : Int64) dX12_qJoins_265 (by decide) ?_
    refine v_goto 270 dX12_qJoins_266 (by decide) ?_
    refine v_sub [] rfl ?_
    exact v_X12_qJoins_p270 h
/-! CalledRiverModel.dayOf -/
theorem dX12_dayOf_0 : decode cX12_dayOf 0 = .ok (.aload_n 0, 1) := by decide +kernel
theorem dX12_dayOf_1 : decode cX12_dayOf 1 = .ok (.getfield 121, 3) := by decide +kernel
theorem dX12_dayOf_4 : decode cX12_dayOf 4 = .ok (.bipush 19, 2) := by decide +kernel
theorem dX12_dayOf_6 : decode cX12_dayOf 6 = .ok (.iconst 3, 1) := by decide +kernel
theorem dX12_dayOf_7 : decode cX12_dayOf 7 = .ok (.iload_n 1, 1) := by decide +kernel
theorem dX12_dayOf_8 : decode cX12_dayOf 8 = .ok (.imul, 1) := by decide +kernel
theorem dX12_dayOf_9 : decode cX12_dayOf 9 = .ok (.iadd, 1) := by decide +kernel
theorem dX12_dayOf_10 : decode cX12_dayOf 10 = .ok (.iaload, 1) := by decide +kernel
theorem dX12_dayOf_11 : decode cX12_dayOf 11 = .ok (.ireturn, 1) := by decide +kernel
def wp_X12_dayOf (sh : Shp) (v0 : Nat) (v1 : Int32) (Q : Int32 → Mem → Prop) (m : Mem) : Prop :=
  Ob sh v0 12 ∧ ∃ b2 : Nat, m.2.2 v0 47 = some b2 ∧ (Ix sh b2 100 ((19 : Int32) + ((3 : Int32) * v1)) ∧ (Q (m.1 b2 ((19 : Int32) + ((3 : Int32) * v1)).toNatClampNeg) m))
abbrev M_X12_dayOf : Mi := (cX12_dayOf, 2, RX12, (Option.some FieldType.int), "dayOf", 1, 60, 0, 0)
set_option maxHeartbeats 4000000 in
set_option maxRecDepth 100000 in
theorem c_X12_dayOf {l : Launch} {G : Gl} {sh : Shp} {v0 : Nat} {v1 : Int32} {Q : Int32 → Mem → Prop} {m : Mem} (h : wp_X12_dayOf sh v0 v1 Q m) : Cni l G yX12_dayOf cX12_dayOf 2 (Option.some FieldType.int) 1 60 sh [.ref (G.1 + v0), .int v1] m Q := by
  refine con_i (ls := [(0, .ref (G.1 + v0)), (1, .int v1)]) (by decide +kernel) rfl (Nat.le_of_ble_eq_true rfl) (fun F => ?_)
  show V G F M_X12_dayOf sh 0 0 (Zi G F sh Q) 0 [(0, .ref (G.1 + v0)), (1, .int v1)] [] m
  unfold wp_X12_dayOf at h
  refine v_aload_n 0 0 dX12_dayOf_0 rfl rfl ?_
  obtain ⟨o1, h⟩ := h
  obtain ⟨b2, e3, h⟩ := h
  refine v_gR 12 47 dX12_dayOf_1 fg_RX12_121 o1 e3 ?_
  refine v_bipush (19 : Int32) dX12_dayOf_4 (by decide) ?_
  refine v_iconst (3 : Int32) dX12_dayOf_6 (by decide) ?_
  refine v_iload_n 1 1 dX12_dayOf_7 rfl rfl ?_
  refine v_imul dX12_dayOf_8 ?_
  refine v_iadd dX12_dayOf_9 ?_
  obtain ⟨i4, h⟩ := h
  refine v_iald dX12_dayOf_10 i4 ?_
  exact v_iret dX12_dayOf_11 rfl rfl h
/-! CalledRiverModel.farmMany -/
theorem dX12_farmMany_0 : decode cX12_farmMany 0 = .ok (.aload_n 0, 1) := by decide +kernel
theorem dX12_farmMany_1 : decode cX12_farmMany 1 = .ok (.getfield 114, 3) := by decide +kernel
theorem dX12_farmMany_4 : decode cX12_farmMany 4 = .ok (.iconst 2, 1) := by decide +kernel
theorem dX12_farmMany_5 : decode cX12_farmMany 5 = .ok (.iaload, 1) := by decide +kernel
theorem dX12_farmMany_6 : decode cX12_farmMany 6 = .ok (.ireturn, 1) := by decide +kernel
def wp_X12_farmMany (sh : Shp) (v0 : Nat) (Q : Int32 → Mem → Prop) (m : Mem) : Prop :=
  Ob sh v0 12 ∧ ∃ b2 : Nat, m.2.2 v0 45 = some b2 ∧ (Ix sh b2 100 (2 : Int32) ∧ (Q (m.1 b2 (2 : Int32).toNatClampNeg) m))
abbrev M_X12_farmMany : Mi := (cX12_farmMany, 1, RX12, (Option.some FieldType.int), "farmMany", 1, 60, 0, 0)
set_option maxHeartbeats 4000000 in
set_option maxRecDepth 100000 in
theorem c_X12_farmMany {l : Launch} {G : Gl} {sh : Shp} {v0 : Nat} {Q : Int32 → Mem → Prop} {m : Mem} (h : wp_X12_farmMany sh v0 Q m) : Cni l G yX12_farmMany cX12_farmMany 1 (Option.some FieldType.int) 1 60 sh [.ref (G.1 + v0)] m Q := by
  refine con_i (ls := [(0, .ref (G.1 + v0))]) (by decide +kernel) rfl (Nat.le_of_ble_eq_true rfl) (fun F => ?_)
  show V G F M_X12_farmMany sh 0 0 (Zi G F sh Q) 0 [(0, .ref (G.1 + v0))] [] m
  unfold wp_X12_farmMany at h
  refine v_aload_n 0 0 dX12_farmMany_0 rfl rfl ?_
  obtain ⟨o1, h⟩ := h
  obtain ⟨b2, e3, h⟩ := h
  refine v_gR 12 45 dX12_farmMany_1 fg_RX12_114 o1 e3 ?_
  refine v_iconst (2 : Int32) dX12_farmMany_4 (by decide) ?_
  obtain ⟨i4, h⟩ := h
  refine v_iald dX12_farmMany_5 i4 ?_
  exact v_iret dX12_farmMany_6 rfl rfl h
/-! CalledRiverModel.farmAt -/
theorem dX12_farmAt_0 : decode cX12_farmAt 0 = .ok (.iconst 0, 1) := by decide +kernel
theorem dX12_farmAt_1 : decode cX12_farmAt 1 = .ok (.istore_n 2, 1) := by decide +kernel
theorem dX12_farmAt_2 : decode cX12_farmAt 2 = .ok (.iload_n 2, 1) := by decide +kernel
theorem dX12_farmAt_3 : decode cX12_farmAt 3 = .ok (.aload_n 0, 1) := by decide +kernel
theorem dX12_farmAt_4 : decode cX12_farmAt 4 = .ok (.invokevirtual 436, 3) := by decide +kernel
theorem dX12_farmAt_7 : decode cX12_farmAt 7 = .ok (.if_icmp .ge 20, 3) := by decide +kernel
theorem dX12_farmAt_10 : decode cX12_farmAt 10 = .ok (.aload_n 0, 1) := by decide +kernel
theorem dX12_farmAt_11 : decode cX12_farmAt 11 = .ok (.iload_n 2, 1) := by decide +kernel
theorem dX12_farmAt_12 : decode cX12_farmAt 12 = .ok (.invokevirtual 442, 3) := by decide +kernel
theorem dX12_farmAt_15 : decode cX12_farmAt 15 = .ok (.iload_n 1, 1) := by decide +kernel
theorem dX12_farmAt_16 : decode cX12_farmAt 16 = .ok (.if_icmp .ne 5, 3) := by decide +kernel
theorem dX12_farmAt_19 : decode cX12_farmAt 19 = .ok (.iload_n 2, 1) := by decide +kernel
theorem dX12_farmAt_20 : decode cX12_farmAt 20 = .ok (.ireturn, 1) := by decide +kernel
theorem dX12_farmAt_21 : decode cX12_farmAt 21 = .ok (.iinc 2 1, 3) := by decide +kernel
theorem dX12_farmAt_24 : decode cX12_farmAt 24 = .ok (.goto (-22), 3) := by decide +kernel
theorem dX12_farmAt_27 : decode cX12_farmAt 27 = .ok (.iconst (-1), 1) := by decide +kernel
theorem dX12_farmAt_28 : decode cX12_farmAt 28 = .ok (.ireturn, 1) := by decide +kernel
def X12_farmAt_p2b (sh : Shp) (v0 : Nat) (v1 : Int32) (Q : Int32 → Mem → Prop) (K2 : Int32 → Mem → Prop) (v2 : Int32) (m : Mem) : Prop :=
  Ob sh v0 12 ∧ wp_X12_farmMany sh v0 (fun r1 m2 => if r1 ≤ v2 then (Q (-1 : Int32) m2) else (wp_X12_cellOf sh v0 v2 (fun r4 m5 => if r4 = v1 then (Q v2 m5) else (K2 (v2 + (1 : Int32)) m5)) m2)) m
def X12_farmAt_p2n (sh : Shp) (v0 : Nat) (v1 : Int32) (Q : Int32 → Mem → Prop) : Nat → Int32 → Mem → Prop
  | 0 => fun _ _ => False
  | n + 1 => X12_farmAt_p2b sh v0 v1 Q (X12_farmAt_p2n sh v0 v1 Q n)
def X12_farmAt_p2 (sh : Shp) (v0 : Nat) (v1 : Int32) (Q : Int32 → Mem → Prop) (v2 : Int32) (m : Mem) : Prop := ∃ n, X12_farmAt_p2n sh v0 v1 Q n v2 m
def wp_X12_farmAt (sh : Shp) (v0 : Nat) (v1 : Int32) (Q : Int32 → Mem → Prop) (m : Mem) : Prop :=
  X12_farmAt_p2 sh v0 v1 Q (0 : Int32) m
abbrev M_X12_farmAt : Mi := (cX12_farmAt, 3, RX12, (Option.some FieldType.int), "farmAt", 2, 81, 0, 0)
set_option maxHeartbeats 4000000 in
set_option maxRecDepth 100000 in
theorem v_X12_farmAt_p2b {G : Gl} {F : Fr} {sh : Shp} {v0 : Nat} {v1 : Int32} {v2 : Int32} {Q : Int32 → Mem → Prop} {K2 : Int32 → Mem → Prop} {m : Mem} (hK2 : ∀ (x2 : Int32) (m : Mem), K2 x2 m → V G F M_X12_farmAt sh 0 0 (Zi G F sh Q) 2 [(0, .ref (G.1 + v0)), (1, .int v1), (2, .int x2)] [] m) (h : X12_farmAt_p2b sh v0 v1 Q K2 v2 m) : V G F M_X12_farmAt sh 0 0 (Zi G F sh Q) 2 [(0, .ref (G.1 + v0)), (1, .int v1), (2, .int v2)] [] m := by
  unfold X12_farmAt_p2b at h
  refine v_iload_n 2 2 dX12_farmAt_2 rfl rfl ?_
  refine v_aload_n 0 0 dX12_farmAt_3 rfl rfl ?_
  obtain ⟨o3, h⟩ := h
  refine v_cVi [] mv_X12_farmMany ml_RX12_436 ⟨_, _, rfl⟩ o3 rfl rfl (Nat.le_of_ble_eq_true rfl) (Nat.le_of_ble_eq_true rfl) (Nat.le_of_ble_eq_true rfl) (Nat.zero_le _) (Nat.zero_le _) dX12_farmAt_4 (c_X12_farmMany h) (fun r1 m2 h => ?_)
  refine v_icmp_ge 27 dX12_farmAt_7 (by decide) (fun hc => ?_) (fun hc => ?_)
  · replace h := Eq.mp (if_pos hc) h
    refine v_iconst (-1 : Int32) dX12_farmAt_27 (by decide) ?_
    exact v_iret dX12_farmAt_28 rfl rfl h
  · replace h := Eq.mp (if_neg hc) h
    refine v_aload_n 0 0 dX12_farmAt_10 rfl rfl ?_
    refine v_iload_n 2 2 dX12_farmAt_11 rfl rfl ?_
    refine v_cVi [.int _] mv_X12_cellOf ml_RX12_442 ⟨_, _, rfl⟩ o3 rfl rfl (Nat.le_of_ble_eq_true rfl) (Nat.le_of_ble_eq_true rfl) (Nat.le_of_ble_eq_true rfl) (Nat.zero_le _) (Nat.zero_le _) dX12_farmAt_12 (c_X12_cellOf h) (fun r4 m5 h => ?_)
    refine v_iload_n 1 1 dX12_farmAt_15 rfl rfl ?_
    refine v_icmp_ne 21 dX12_farmAt_16 (by decide) (fun hc => ?_) (fun hc => ?_)
    · replace h := Eq.mp (if_neg hc) h
      refine v_iinc (ls' := [(2, .int _), (0, .ref _), (1, .int _)]) 2 2 dX12_farmAt_21 rfl (congrArg (HAdd.hAdd _) (by decide : Int32.ofInt (1) = (1 : Int32))) (Nat.le_of_ble_eq_true rfl) rfl ?_
      refine v_goto 2 dX12_farmAt_24 (by decide) ?_
      refine v_sub [1, 2, 0] rfl ?_
      exact hK2 _ _ h
    · replace h := Eq.mp (if_pos hc) h
      refine v_iload_n 2 2 dX12_farmAt_19 rfl rfl ?_
      exact v_iret dX12_farmAt_20 rfl rfl h
set_option maxHeartbeats 4000000 in
set_option maxRecDepth 100000 in
theorem v_X12_farmAt_p2 {G : Gl} {F : Fr} {sh : Shp} {v0 : Nat} {v1 : Int32} {v2 : Int32} {Q : Int32 → Mem → Prop} {m : Mem} (h : X12_farmAt_p2 sh v0 v1 Q v2 m) : V G F M_X12_farmAt sh 0 0 (Zi G F sh Q) 2 [(0, .ref (G.1 + v0)), (1, .int v1), (2, .int v2)] [] m := by
  obtain ⟨n, h⟩ := h
  induction n generalizing v2 m with
  | zero => exact h.elim
  | succ n ih => exact v_X12_farmAt_p2b (fun _ _ h => ih h) h
set_option maxHeartbeats 4000000 in
set_option maxRecDepth 100000 in
theorem c_X12_farmAt {l : Launch} {G : Gl} {sh : Shp} {v0 : Nat} {v1 : Int32} {Q : Int32 → Mem → Prop} {m : Mem} (h : wp_X12_farmAt sh v0 v1 Q m) : Cni l G yX12_farmAt cX12_farmAt 3 (Option.some FieldType.int) 2 81 sh [.ref (G.1 + v0), .int v1] m Q := by
  refine con_i (ls := [(0, .ref (G.1 + v0)), (1, .int v1)]) (by decide +kernel) rfl (Nat.le_of_ble_eq_true rfl) (fun F => ?_)
  show V G F M_X12_farmAt sh 0 0 (Zi G F sh Q) 0 [(0, .ref (G.1 + v0)), (1, .int v1)] [] m
  unfold wp_X12_farmAt at h
  refine v_iconst (0 : Int32) dX12_farmAt_0 (by decide) ?_
  refine v_istore_n (ls' := [(2, .int _), (0, .ref _), (1, .int _)]) 2 dX12_farmAt_1 rfl (Nat.le_of_ble_eq_true rfl) rfl ?_
  refine v_sub [1, 2, 0] rfl ?_
  exact v_X12_farmAt_p2 h
/-! CalledRiverModel.pieOf -/
theorem dX12_pieOf_0 : decode cX12_pieOf 0 = .ok (.aload_n 0, 1) := by decide +kernel
theorem dX12_pieOf_1 : decode cX12_pieOf 1 = .ok (.getfield 143, 3) := by decide +kernel
theorem dX12_pieOf_4 : decode cX12_pieOf 4 = .ok (.bipush 109, 2) := by decide +kernel
theorem dX12_pieOf_6 : decode cX12_pieOf 6 = .ok (.iload_n 1, 1) := by decide +kernel
theorem dX12_pieOf_7 : decode cX12_pieOf 7 = .ok (.iadd, 1) := by decide +kernel
theorem dX12_pieOf_8 : decode cX12_pieOf 8 = .ok (.iaload, 1) := by decide +kernel
theorem dX12_pieOf_9 : decode cX12_pieOf 9 = .ok (.ireturn, 1) := by decide +kernel
def wp_X12_pieOf (sh : Shp) (v0 : Nat) (v1 : Int32) (Q : Int32 → Mem → Prop) (m : Mem) : Prop :=
  Ob sh v0 12 ∧ ∃ b2 : Nat, m.2.2 v0 58 = some b2 ∧ (Ix sh b2 100 ((109 : Int32) + v1) ∧ (Q (m.1 b2 ((109 : Int32) + v1).toNatClampNeg) m))
abbrev M_X12_pieOf : Mi := (cX12_pieOf, 2, RX12, (Option.some FieldType.int), "pieOf", 1, 60, 0, 0)
set_option maxHeartbeats 4000000 in
set_option maxRecDepth 100000 in
theorem c_X12_pieOf {l : Launch} {G : Gl} {sh : Shp} {v0 : Nat} {v1 : Int32} {Q : Int32 → Mem → Prop} {m : Mem} (h : wp_X12_pieOf sh v0 v1 Q m) : Cni l G yX12_pieOf cX12_pieOf 2 (Option.some FieldType.int) 1 60 sh [.ref (G.1 + v0), .int v1] m Q := by
  refine con_i (ls := [(0, .ref (G.1 + v0)), (1, .int v1)]) (by decide +kernel) rfl (Nat.le_of_ble_eq_true rfl) (fun F => ?_)
  show V G F M_X12_pieOf sh 0 0 (Zi G F sh Q) 0 [(0, .ref (G.1 + v0)), (1, .int v1)] [] m
  unfold wp_X12_pieOf at h
  refine v_aload_n 0 0 dX12_pieOf_0 rfl rfl ?_
  obtain ⟨o1, h⟩ := h
  obtain ⟨b2, e3, h⟩ := h
  refine v_gR 12 58 dX12_pieOf_1 fg_RX12_143 o1 e3 ?_
  refine v_bipush (109 : Int32) dX12_pieOf_4 (by decide) ?_
  refine v_iload_n 1 1 dX12_pieOf_6 rfl rfl ?_
  refine v_iadd dX12_pieOf_7 ?_
  obtain ⟨i4, h⟩ := h
  refine v_iald dX12_pieOf_8 i4 ?_
  exact v_iret dX12_pieOf_9 rfl rfl h
/-! CalledRiverModel.pieAt -/
theorem dX12_pieAt_0 : decode cX12_pieAt 0 = .ok (.aload_n 0, 1) := by decide +kernel
theorem dX12_pieAt_1 : decode cX12_pieAt 1 = .ok (.iload_n 1, 1) := by decide +kernel
theorem dX12_pieAt_2 : decode cX12_pieAt 2 = .ok (.invokevirtual 446, 3) := by decide +kernel
theorem dX12_pieAt_5 : decode cX12_pieAt 5 = .ok (.istore_n 2, 1) := by decide +kernel
theorem dX12_pieAt_6 : decode cX12_pieAt 6 = .ok (.iload_n 2, 1) := by decide +kernel
theorem dX12_pieAt_7 : decode cX12_pieAt 7 = .ok (.iconst (-1), 1) := by decide +kernel
theorem dX12_pieAt_8 : decode cX12_pieAt 8 = .ok (.if_icmp .ne 7, 3) := by decide +kernel
theorem dX12_pieAt_11 : decode cX12_pieAt 11 = .ok (.iconst 0, 1) := by decide +kernel
theorem dX12_pieAt_12 : decode cX12_pieAt 12 = .ok (.goto 8, 3) := by decide +kernel
theorem dX12_pieAt_15 : decode cX12_pieAt 15 = .ok (.aload_n 0, 1) := by decide +kernel
theorem dX12_pieAt_16 : decode cX12_pieAt 16 = .ok (.iload_n 2, 1) := by decide +kernel
theorem dX12_pieAt_17 : decode cX12_pieAt 17 = .ok (.invokevirtual 449, 3) := by decide +kernel
theorem dX12_pieAt_20 : decode cX12_pieAt 20 = .ok (.ireturn, 1) := by decide +kernel
def wp_X12_pieAt (sh : Shp) (v0 : Nat) (v1 : Int32) (Q : Int32 → Mem → Prop) (m : Mem) : Prop :=
  Ob sh v0 12 ∧ wp_X12_farmAt sh v0 v1 (fun r1 m2 => if r1 = (-1 : Int32) then (Q (0 : Int32) m2) else (wp_X12_pieOf sh v0 r1 (fun r4 m5 => Q r4 m5) m2)) m
abbrev M_X12_pieAt : Mi := (cX12_pieAt, 3, RX12, (Option.some FieldType.int), "pieAt", 3, 103, 0, 0)
set_option maxHeartbeats 4000000 in
set_option maxRecDepth 100000 in
theorem c_X12_pieAt {l : Launch} {G : Gl} {sh : Shp} {v0 : Nat} {v1 : Int32} {Q : Int32 → Mem → Prop} {m : Mem} (h : wp_X12_pieAt sh v0 v1 Q m) : Cni l G yX12_pieAt cX12_pieAt 3 (Option.some FieldType.int) 3 103 sh [.ref (G.1 + v0), .int v1] m Q := by
  refine con_i (ls := [(0, .ref (G.1 + v0)), (1, .int v1)]) (by decide +kernel) rfl (Nat.le_of_ble_eq_true rfl) (fun F => ?_)
  show V G F M_X12_pieAt sh 0 0 (Zi G F sh Q) 0 [(0, .ref (G.1 + v0)), (1, .int v1)] [] m
  unfold wp_X12_pieAt at h
  refine v_aload_n 0 0 dX12_pieAt_0 rfl rfl ?_
  refine v_iload_n 1 1 dX12_pieAt_1 rfl rfl ?_
  obtain ⟨o3, h⟩ := h
  refine v_cVi [.int _] mv_X12_farmAt ml_RX12_446 ⟨_, _, rfl⟩ o3 rfl rfl (Nat.le_of_ble_eq_true rfl) (Nat.le_of_ble_eq_true rfl) (Nat.le_of_ble_eq_true rfl) (Nat.zero_le _) (Nat.zero_le _) dX12_pieAt_2 (c_X12_farmAt h) (fun r1 m2 h => ?_)
  refine v_istore_n (ls' := [(2, .int _), (0, .ref _), (1, .int _)]) 2 dX12_pieAt_5 rfl (Nat.le_of_ble_eq_true rfl) rfl ?_
  refine v_iload_n 2 0 dX12_pieAt_6 rfl rfl ?_
  refine v_iconst (-1 : Int32) dX12_pieAt_7 (by decide) ?_
  refine v_icmp_ne 15 dX12_pieAt_8 (by decide) (fun hc => ?_) (fun hc => ?_)
  · replace h := Eq.mp (if_neg hc) h
    refine v_aload_n 0 1 dX12_pieAt_15 rfl rfl ?_
    refine v_iload_n 2 0 dX12_pieAt_16 rfl rfl ?_
    refine v_cVi [.int _] mv_X12_pieOf ml_RX12_449 ⟨_, _, rfl⟩ o3 rfl rfl (Nat.le_of_ble_eq_true rfl) (Nat.le_of_ble_eq_true rfl) (Nat.le_of_ble_eq_true rfl) (Nat.zero_le _) (Nat.zero_le _) dX12_pieAt_17 (c_X12_pieOf h) (fun r4 m5 h => ?_)
    exact v_iret dX12_pieAt_20 rfl rfl h
  · replace h := Eq.mp (if_pos hc) h
    refine v_iconst (0 : Int32) dX12_pieAt_11 (by decide) ?_
    refine v_goto 20 dX12_pieAt_12 (by decide) ?_
    exact v_iret dX12_pieAt_20 rfl rfl h
/-! CalledRiverModel.qPartOf -/
theorem dX12_qPartOf_0 : decode cX12_qPartOf 0 = .ok (.iload_n 1, 1) := by decide +kernel
theorem dX12_qPartOf_1 : decode cX12_qPartOf 1 = .ok (.tableswitch 237 0 11 #[63, 71, 97, 127, 143, 159, 184, 202, 208, 214, 217, 227], 63) := by decide +kernel
theorem dX12_qPartOf_64 : decode cX12_qPartOf 64 = .ok (.aload_n 0, 1) := by decide +kernel
theorem dX12_qPartOf_65 : decode cX12_qPartOf 65 = .ok (.getfield 143, 3) := by decide +kernel
theorem dX12_qPartOf_68 : decode cX12_qPartOf 68 = .ok (.iconst 0, 1) := by decide +kernel
theorem dX12_qPartOf_69 : decode cX12_qPartOf 69 = .ok (.iaload, 1) := by decide +kernel
theorem dX12_qPartOf_70 : decode cX12_qPartOf 70 = .ok (.i2l, 1) := by decide +kernel
theorem dX12_qPartOf_71 : decode cX12_qPartOf 71 = .ok (.lreturn, 1) := by decide +kernel
theorem dX12_qPartOf_72 : decode cX12_qPartOf 72 = .ok (.aload_n 0, 1) := by decide +kernel
theorem dX12_qPartOf_73 : decode cX12_qPartOf 73 = .ok (.getfield 343, 3) := by decide +kernel
theorem dX12_qPartOf_76 : decode cX12_qPartOf 76 = .ok (.ifCond .ne 15, 3) := by decide +kernel
theorem dX12_qPartOf_79 : decode cX12_qPartOf 79 = .ok (.aload_n 0, 1) := by decide +kernel
theorem dX12_qPartOf_80 : decode cX12_qPartOf 80 = .ok (.aload_n 0, 1) := by decide +kernel
theorem dX12_qPartOf_81 : decode cX12_qPartOf 81 = .ok (.getfield 475, 3) := by decide +kernel
theorem dX12_qPartOf_84 : decode cX12_qPartOf 84 = .ok (.invokevirtual 687, 3) := by decide +kernel
theorem dX12_qPartOf_87 : decode cX12_qPartOf 87 = .ok (.i2l, 1) := by decide +kernel
theorem dX12_qPartOf_88 : decode cX12_qPartOf 88 = .ok (.goto 9, 3) := by decide +kernel
theorem dX12_qPartOf_91 : decode cX12_qPartOf 91 = .ok (.aload_n 0, 1) := by decide +kernel
theorem dX12_qPartOf_92 : decode cX12_qPartOf 92 = .ok (.iload_n 2, 1) := by decide +kernel
theorem dX12_qPartOf_93 : decode cX12_qPartOf 93 = .ok (.invokevirtual 449, 3) := by decide +kernel
theorem dX12_qPartOf_96 : decode cX12_qPartOf 96 = .ok (.i2l, 1) := by decide +kernel
theorem dX12_qPartOf_97 : decode cX12_qPartOf 97 = .ok (.lreturn, 1) := by decide +kernel
theorem dX12_qPartOf_98 : decode cX12_qPartOf 98 = .ok (.aload_n 0, 1) := by decide +kernel
theorem dX12_qPartOf_99 : decode cX12_qPartOf 99 = .ok (.getfield 343, 3) := by decide +kernel
theorem dX12_qPartOf_102 : decode cX12_qPartOf 102 = .ok (.ifCond .ne 15, 3) := by decide +kernel
theorem dX12_qPartOf_105 : decode cX12_qPartOf 105 = .ok (.aload_n 0, 1) := by decide +kernel
theorem dX12_qPartOf_106 : decode cX12_qPartOf 106 = .ok (.aload_n 0, 1) := by decide +kernel
theorem dX12_qPartOf_107 : decode cX12_qPartOf 107 = .ok (.getfield 475, 3) := by decide +kernel
theorem dX12_qPartOf_110 : decode cX12_qPartOf 110 = .ok (.invokevirtual 529, 3) := by decide +kernel
theorem dX12_qPartOf_113 : decode cX12_qPartOf 113 = .ok (.i2l, 1) := by decide +kernel
theorem dX12_qPartOf_114 : decode cX12_qPartOf 114 = .ok (.goto 13, 3) := by decide +kernel
theorem dX12_qPartOf_117 : decode cX12_qPartOf 117 = .ok (.aload_n 0, 1) := by decide +kernel
theorem dX12_qPartOf_118 : decode cX12_qPartOf 118 = .ok (.aload_n 0, 1) := by decide +kernel
theorem dX12_qPartOf_119 : decode cX12_qPartOf 119 = .ok (.iload_n 2, 1) := by decide +kernel
theorem dX12_qPartOf_120 : decode cX12_qPartOf 120 = .ok (.invokevirtual 442, 3) := by decide +kernel
theorem dX12_qPartOf_123 : decode cX12_qPartOf 123 = .ok (.invokevirtual 529, 3) := by decide +kernel
theorem dX12_qPartOf_126 : decode cX12_qPartOf 126 = .ok (.i2l, 1) := by decide +kernel
theorem dX12_qPartOf_127 : decode cX12_qPartOf 127 = .ok (.lreturn, 1) := by decide +kernel
theorem dX12_qPartOf_128 : decode cX12_qPartOf 128 = .ok (.aload_n 0, 1) := by decide +kernel
theorem dX12_qPartOf_129 : decode cX12_qPartOf 129 = .ok (.getfield 124, 3) := by decide +kernel
theorem dX12_qPartOf_132 : decode cX12_qPartOf 132 = .ok (.bipush 10, 2) := by decide +kernel
theorem dX12_qPartOf_134 : decode cX12_qPartOf 134 = .ok (.iconst 2, 1) := by decide +kernel
theorem dX12_qPartOf_135 : decode cX12_qPartOf 135 = .ok (.aload_n 0, 1) := by decide +kernel
theorem dX12_qPartOf_136 : decode cX12_qPartOf 136 = .ok (.getfield 506, 3) := by decide +kernel
theorem dX12_qPartOf_139 : decode cX12_qPartOf 139 = .ok (.imul, 1) := by decide +kernel
theorem dX12_qPartOf_140 : decode cX12_qPartOf 140 = .ok (.iadd, 1) := by decide +kernel
theorem dX12_qPartOf_141 : decode cX12_qPartOf 141 = .ok (.iaload, 1) := by decide +kernel
theorem dX12_qPartOf_142 : decode cX12_qPartOf 142 = .ok (.i2l, 1) := by decide +kernel
theorem dX12_qPartOf_143 : decode cX12_qPartOf 143 = .ok (.lreturn, 1) := by decide +kernel
theorem dX12_qPartOf_144 : decode cX12_qPartOf 144 = .ok (.aload_n 0, 1) := by decide +kernel
theorem dX12_qPartOf_145 : decode cX12_qPartOf 145 = .ok (.getfield 124, 3) := by decide +kernel
theorem dX12_qPartOf_148 : decode cX12_qPartOf 148 = .ok (.bipush 11, 2) := by decide +kernel
theorem dX12_qPartOf_150 : decode cX12_qPartOf 150 = .ok (.iconst 2, 1) := by decide +kernel
theorem dX12_qPartOf_151 : decode cX12_qPartOf 151 = .ok (.aload_n 0, 1) := by decide +kernel
theorem dX12_qPartOf_152 : decode cX12_qPartOf 152 = .ok (.getfield 506, 3) := by decide +kernel
theorem dX12_qPartOf_155 : decode cX12_qPartOf 155 = .ok (.imul, 1) := by decide +kernel
theorem dX12_qPartOf_156 : decode cX12_qPartOf 156 = .ok (.iadd, 1) := by decide +kernel
theorem dX12_qPartOf_157 : decode cX12_qPartOf 157 = .ok (.iaload, 1) := by decide +kernel
theorem dX12_qPartOf_158 : decode cX12_qPartOf 158 = .ok (.i2l, 1) := by decide +kernel
theorem dX12_qPartOf_159 : decode cX12_qPartOf 159 = .ok (.lreturn, 1) := by decide +kernel
theorem dX12_qPartOf_160 : decode cX12_qPartOf 160 = .ok (.aload_n 0, 1) := by decide +kernel
theorem dX12_qPartOf_161 : decode cX12_qPartOf 161 = .ok (.aload_n 0, 1) := by decide +kernel
theorem dX12_qPartOf_162 : decode cX12_qPartOf 162 = .ok (.getfield 343, 3) := by decide +kernel
theorem dX12_qPartOf_165 : decode cX12_qPartOf 165 = .ok (.ifCond .ne 10, 3) := by decide +kernel
theorem dX12_qPartOf_168 : decode cX12_qPartOf 168 = .ok (.aload_n 0, 1) := by decide +kernel
theorem dX12_qPartOf_169 : decode cX12_qPartOf 169 = .ok (.getfield 475, 3) := by decide +kernel
theorem dX12_qPartOf_172 : decode cX12_qPartOf 172 = .ok (.goto 8, 3) := by decide +kernel
theorem dX12_qPartOf_175 : decode cX12_qPartOf 175 = .ok (.aload_n 0, 1) := by decide +kernel
theorem dX12_qPartOf_176 : decode cX12_qPartOf 176 = .ok (.iload_n 2, 1) := by decide +kernel
theorem dX12_qPartOf_177 : decode cX12_qPartOf 177 = .ok (.invokevirtual 442, 3) := by decide +kernel
theorem dX12_qPartOf_180 : decode cX12_qPartOf 180 = .ok (.invokevirtual 458, 3) := by decide +kernel
theorem dX12_qPartOf_183 : decode cX12_qPartOf 183 = .ok (.i2l, 1) := by decide +kernel
theorem dX12_qPartOf_184 : decode cX12_qPartOf 184 = .ok (.lreturn, 1) := by decide +kernel
theorem dX12_qPartOf_185 : decode cX12_qPartOf 185 = .ok (.aload_n 0, 1) := by decide +kernel
theorem dX12_qPartOf_186 : decode cX12_qPartOf 186 = .ok (.getfield 111, 3) := by decide +kernel
theorem dX12_qPartOf_189 : decode cX12_qPartOf 189 = .ok (.iconst 3, 1) := by decide +kernel
theorem dX12_qPartOf_190 : decode cX12_qPartOf 190 = .ok (.iaload, 1) := by decide +kernel
theorem dX12_qPartOf_191 : decode cX12_qPartOf 191 = .ok (.iconst 1, 1) := by decide +kernel
theorem dX12_qPartOf_192 : decode cX12_qPartOf 192 = .ok (.isub, 1) := by decide +kernel
theorem dX12_qPartOf_193 : decode cX12_qPartOf 193 = .ok (.aload_n 0, 1) := by decide +kernel
theorem dX12_qPartOf_194 : decode cX12_qPartOf 194 = .ok (.getfield 475, 3) := by decide +kernel
theorem dX12_qPartOf_197 : decode cX12_qPartOf 197 = .ok (.bipush 6, 2) := by decide +kernel
theorem dX12_qPartOf_199 : decode cX12_qPartOf 199 = .ok (.idiv, 1) := by decide +kernel
theorem dX12_qPartOf_200 : decode cX12_qPartOf 200 = .ok (.isub, 1) := by decide +kernel
theorem dX12_qPartOf_201 : decode cX12_qPartOf 201 = .ok (.i2l, 1) := by decide +kernel
theorem dX12_qPartOf_202 : decode cX12_qPartOf 202 = .ok (.lreturn, 1) := by decide +kernel
theorem dX12_qPartOf_203 : decode cX12_qPartOf 203 = .ok (.aload_n 0, 1) := by decide +kernel
theorem dX12_qPartOf_204 : decode cX12_qPartOf 204 = .ok (.getfield 478, 3) := by decide +kernel
theorem dX12_qPartOf_207 : decode cX12_qPartOf 207 = .ok (.i2l, 1) := by decide +kernel
theorem dX12_qPartOf_208 : decode cX12_qPartOf 208 = .ok (.lreturn, 1) := by decide +kernel
theorem dX12_qPartOf_209 : decode cX12_qPartOf 209 = .ok (.aload_n 0, 1) := by decide +kernel
theorem dX12_qPartOf_210 : decode cX12_qPartOf 210 = .ok (.getfield 524, 3) := by decide +kernel
theorem dX12_qPartOf_213 : decode cX12_qPartOf 213 = .ok (.i2l, 1) := by decide +kernel
theorem dX12_qPartOf_214 : decode cX12_qPartOf 214 = .ok (.lreturn, 1) := by decide +kernel
theorem dX12_qPartOf_215 : decode cX12_qPartOf 215 = .ok (.iload_n 2, 1) := by decide +kernel
theorem dX12_qPartOf_216 : decode cX12_qPartOf 216 = .ok (.i2l, 1) := by decide +kernel
theorem dX12_qPartOf_217 : decode cX12_qPartOf 217 = .ok (.lreturn, 1) := by decide +kernel
theorem dX12_qPartOf_218 : decode cX12_qPartOf 218 = .ok (.aload_n 0, 1) := by decide +kernel
theorem dX12_qPartOf_219 : decode cX12_qPartOf 219 = .ok (.iload_n 2, 1) := by decide +kernel
theorem dX12_qPartOf_220 : decode cX12_qPartOf 220 = .ok (.invokevirtual 442, 3) := by decide +kernel
theorem dX12_qPartOf_223 : decode cX12_qPartOf 223 = .ok (.bipush 6, 2) := by decide +kernel
theorem dX12_qPartOf_225 : decode cX12_qPartOf 225 = .ok (.irem, 1) := by decide +kernel
theorem dX12_qPartOf_226 : decode cX12_qPartOf 226 = .ok (.i2l, 1) := by decide +kernel
theorem dX12_qPartOf_227 : decode cX12_qPartOf 227 = .ok (.lreturn, 1) := by decide +kernel
theorem dX12_qPartOf_228 : decode cX12_qPartOf 228 = .ok (.aload_n 0, 1) := by decide +kernel
theorem dX12_qPartOf_229 : decode cX12_qPartOf 229 = .ok (.iload_n 2, 1) := by decide +kernel
theorem dX12_qPartOf_230 : decode cX12_qPartOf 230 = .ok (.invokevirtual 442, 3) := by decide +kernel
theorem dX12_qPartOf_233 : decode cX12_qPartOf 233 = .ok (.bipush 6, 2) := by decide +kernel
theorem dX12_qPartOf_235 : decode cX12_qPartOf 235 = .ok (.idiv, 1) := by decide +kernel
theorem dX12_qPartOf_236 : decode cX12_qPartOf 236 = .ok (.i2l, 1) := by decide +kernel
theorem dX12_qPartOf_237 : decode cX12_qPartOf 237 = .ok (.lreturn, 1) := by decide +kernel
theorem dX12_qPartOf_238 : decode cX12_qPartOf 238 = .ok (.aload_n 0, 1) := by decide +kernel
theorem dX12_qPartOf_239 : decode cX12_qPartOf 239 = .ok (.iload_n 2, 1) := by decide +kernel
theorem dX12_qPartOf_240 : decode cX12_qPartOf 240 = .ok (.invokevirtual 515, 3) := by decide +kernel
theorem dX12_qPartOf_243 : decode cX12_qPartOf 243 = .ok (.i2l, 1) := by decide +kernel
theorem dX12_qPartOf_244 : decode cX12_qPartOf 244 = .ok (.lreturn, 1) := by decide +kernel
def X12_qPartOf_p180 (sh : Shp) (s1 : Int32) (s0 : Nat) (Q : Int64 → Mem → Prop) (m : Mem) : Prop :=
  Ob sh s0 12 ∧ wp_X12_heightOf sh s0 s1 (fun r43 m44 => Q r43.toInt64 m44) m
def wp_X12_qPartOf (sh : Shp) (v0 : Nat) (v1 : Int32) (v2 : Int32) (Q : Int64 → Mem → Prop) (m : Mem) : Prop :=
  if v1 = (0 : Int32) then (Ob sh v0 12 ∧ ∃ b2 : Nat, m.2.2 v0 58 = some b2 ∧ (Ix sh b2 100 (0 : Int32) ∧ (Q (m.1 b2 (0 : Int32).toNatClampNeg).toInt64 m))) else if v1 = (1 : Int32) then (Ob sh v0 12 ∧ (if (m.1 v0 57) = 0 then (wp_X12_pieAt sh v0 (m.1 v0 60) (fun r8 m9 => Q r8.toInt64 m9) m) else (wp_X12_pieOf sh v0 v2 (fun r6 m7 => Q r6.toInt64 m7) m))) else if v1 = (2 : Int32) then (Ob sh v0 12 ∧ (if (m.1 v0 57) = 0 then (wp_X12_beenOf sh v0 (m.1 v0 60) (fun r15 m16 => Q r15.toInt64 m16) m) else (wp_X12_cellOf sh v0 v2 (fun r11 m12 => wp_X12_beenOf sh v0 r11 (fun r13 m14 => Q r13.toInt64 m14) m12) m))) else if v1 = (3 : Int32) then (Ob sh v0 12 ∧ ∃ b18 : Nat, m.2.2 v0 48 = some b18 ∧ (Ix sh b18 100 ((10 : Int32) + ((2 : Int32) * (m.1 v0 59))) ∧ (Q (m.1 b18 ((10 : Int32) + ((2 : Int32) * (m.1 v0 59))).toNatClampNeg).toInt64 m))) else if v1 = (4 : Int32) then (Ob sh v0 12 ∧ ∃ b22 : Nat, m.2.2 v0 48 = some b22 ∧ (Ix sh b22 100 ((11 : Int32) + ((2 : Int32) * (m.1 v0 59))) ∧ (Q (m.1 b22 ((11 : Int32) + ((2 : Int32) * (m.1 v0 59))).toNatClampNeg).toInt64 m))) else if v1 = (5 : Int32) then (Ob sh v0 12 ∧ (if (m.1 v0 57) = 0 then (X12_qPartOf_p180 sh (m.1 v0 60) v0 Q m) else (wp_X12_cellOf sh v0 v2 (fun r26 m27 => X12_qPartOf_p180 sh r26 v0 Q m27) m))) else if v1 = (6 : Int32) then (Ob sh v0 12 ∧ ∃ b29 : Nat, m.2.2 v0 42 = some b29 ∧ (Ix sh b29 100 (3 : Int32) ∧ (Q (((m.1 b29 (3 : Int32).toNatClampNeg) - (1 : Int32)) - ((m.1 v0 60) / (6 : Int32))).toInt64 m))) else if v1 = (7 : Int32) then (Ob sh v0 12 ∧ (Q (m.1 v0 61).toInt64 m)) else if v1 = (8 : Int32) then (Ob sh v0 12 ∧ (Q (m.1 v0 62).toInt64 m)) else if v1 = (9 : Int32) then (Q v2.toInt64 m) else if v1 = (10 : Int32) then (Ob sh v0 12 ∧ wp_X12_cellOf sh v0 v2 (fun r34 m35 => Q (r34 - r34 / (6 : Int32) * (6 : Int32)).toInt64 m35) m) else if v1 = (11 : Int32) then (Ob sh v0 12 ∧ wp_X12_cellOf sh v0 v2 (fun r37 m38 => Q (r37 / (6 : Int32)).toInt64 m38) m) else (Ob sh v0 12 ∧ wp_X12_dayOf sh v0 v2 (fun r40 m41 => Q r40.toInt64 m41) m)
abbrev M_X12_qPartOf : Mi := (cX12_qPartOf, 3, RX12, (Option.some FieldType.long), "qPartOf", 4, 125, 0, 0)
set_option maxHeartbeats 4000000 in
set_option maxRecDepth 100000 in
theorem v_X12_qPartOf_p180 {G : Gl} {F : Fr} {sh : Shp} {s0 : Nat} {s1 : Int32} {Q : Int64 → Mem → Prop} {m : Mem} (h : X12_qPartOf_p180 sh s1 s0 Q m) : V G F M_X12_qPartOf sh 0 0 (Zl G F sh Q) 180 [] [.int s1, .ref (G.1 + s0)] m := by
  unfold X12_qPartOf_p180 at h
  obtain ⟨o45, h⟩ := h
  refine v_cVi [.int _] mv_X12_heightOf ml_RX12_458 ⟨_, _, rfl⟩ o45 rfl rfl (Nat.le_of_ble_eq_true rfl) (Nat.le_of_ble_eq_true rfl) (Nat.le_of_ble_eq_true rfl) (Nat.zero_le _) (Nat.zero_le _) dX12_qPartOf_180 (c_X12_heightOf h) (fun r43 m44 h => ?_)
  refine v_i2l dX12_qPartOf_183 ?_
  exact v_lret dX12_qPartOf_184 rfl h
set_option maxHeartbeats 4000000 in
set_option maxRecDepth 100000 in
theorem c_X12_qPartOf {l : Launch} {G : Gl} {sh : Shp} {v0 : Nat} {v1 : Int32} {v2 : Int32} {Q : Int64 → Mem → Prop} {m : Mem} (h : wp_X12_qPartOf sh v0 v1 v2 Q m) : Cnl l G yX12_qPartOf cX12_qPartOf 3 (Option.some FieldType.long) 4 125 sh [.ref (G.1 + v0), .int v1, .int v2] m Q := by
  refine con_l (ls := [(0, .ref (G.1 + v0)), (1, .int v1), (2, .int v2)]) (by decide +kernel) rfl (Nat.le_of_ble_eq_true rfl) (fun F => ?_)
  show V G F M_X12_qPartOf sh 0 0 (Zl G F sh Q) 0 [(0, .ref (G.1 + v0)), (1, .int v1), (2, .int v2)] [] m
  unfold wp_X12_qPartOf at h
  refine v_iload_n 1 1 dX12_qPartOf_0 rfl rfl ?_
  by_cases hc0 : v1 = (0 : Int32)
  · replace h := Eq.mp (if_pos hc0) h
    refine v_tabK (0 : Int32) hc0 64 dX12_qPartOf_1 (by decide) (by decide) rfl (by decide) ?_
    refine v_aload_n 0 0 dX12_qPartOf_64 rfl rfl ?_
    obtain ⟨o1, h⟩ := h
    obtain ⟨b2, e3, h⟩ := h
    refine v_gR 12 58 dX12_qPartOf_65 fg_RX12_143 o1 e3 ?_
    refine v_iconst (0 : Int32) dX12_qPartOf_68 (by decide) ?_
    obtain ⟨i4, h⟩ := h
    refine v_iald dX12_qPartOf_69 i4 ?_
    refine v_i2l dX12_qPartOf_70 ?_
    exact v_lret dX12_qPartOf_71 rfl h
  replace h := Eq.mp (if_neg hc0) h
  by_cases hc1 : v1 = (1 : Int32)
  · replace h := Eq.mp (if_pos hc1) h
    refine v_tabK (1 : Int32) hc1 72 dX12_qPartOf_1 (by decide) (by decide) rfl (by decide) ?_
    refine v_aload_n 0 0 dX12_qPartOf_72 rfl rfl ?_
    obtain ⟨o5, h⟩ := h
    refine v_gI 12 57 dX12_qPartOf_73 fg_RX12_343 o5 ?_
    refine v_if_ne 91 dX12_qPartOf_76 (by decide) (fun hc => ?_) (fun hc => ?_)
    · replace h := Eq.mp (if_neg hc) h
      refine v_aload_n 0 0 dX12_qPartOf_91 rfl rfl ?_
      refine v_iload_n 2 2 dX12_qPartOf_92 rfl rfl ?_
      refine v_cVi [.int _] mv_X12_pieOf ml_RX12_449 ⟨_, _, rfl⟩ o5 rfl rfl (Nat.le_of_ble_eq_true rfl) (Nat.le_of_ble_eq_true rfl) (Nat.le_of_ble_eq_true rfl) (Nat.zero_le _) (Nat.zero_le _) dX12_qPartOf_93 (c_X12_pieOf h) (fun r6 m7 h => ?_)
      refine v_i2l dX12_qPartOf_96 ?_
      exact v_lret dX12_qPartOf_97 rfl h
    · replace h := Eq.mp (if_pos hc) h
      refine v_aload_n 0 0 dX12_qPartOf_79 rfl rfl ?_
      refine v_aload_n 0 0 dX12_qPartOf_80 rfl rfl ?_
      refine v_gI 12 60 dX12_qPartOf_81 fg_RX12_475 o5 ?_
      refine v_cVi [.int _] mv_X12_pieAt ml_RX12_687 ⟨_, _, rfl⟩ o5 rfl rfl (Nat.le_of_ble_eq_true rfl) (Nat.le_of_ble_eq_true rfl) (Nat.le_of_ble_eq_true rfl) (Nat.zero_le _) (Nat.zero_le _) dX12_qPartOf_84 (c_X12_pieAt h) (fun r8 m9 h => ?_)
      refine v_i2l dX12_qPartOf_87 ?_
      refine v_goto 97 dX12_qPartOf_88 (by decide) ?_
      exact v_lret dX12_qPartOf_97 rfl h
  replace h := Eq.mp (if_neg hc1) h
  by_cases hc2 : v1 = (2 : Int32)
  · replace h := Eq.mp (if_pos hc2) h
    refine v_tabK (2 : Int32) hc2 98 dX12_qPartOf_1 (by decide) (by decide) rfl (by decide) ?_
    refine v_aload_n 0 0 dX12_qPartOf_98 rfl rfl ?_
    obtain ⟨o10, h⟩ := h
    refine v_gI 12 57 dX12_qPartOf_99 fg_RX12_343 o10 ?_
    refine v_if_ne 117 dX12_qPartOf_102 (by decide) (fun hc => ?_) (fun hc => ?_)
    · replace h := Eq.mp (if_neg hc) h
      refine v_aload_n 0 0 dX12_qPartOf_117 rfl rfl ?_
      refine v_aload_n 0 0 dX12_qPartOf_118 rfl rfl ?_
      refine v_iload_n 2 2 dX12_qPartOf_119 rfl rfl ?_
      refine v_cVi [.int _] mv_X12_cellOf ml_RX12_442 ⟨_, _, rfl⟩ o10 rfl rfl (Nat.le_of_ble_eq_true rfl) (Nat.le_of_ble_eq_true rfl) (Nat.le_of_ble_eq_true rfl) (Nat.zero_le _) (Nat.zero_le _) dX12_qPartOf_120 (c_X12_cellOf h) (fun r11 m12 h => ?_)
      refine v_cVi [.int _] mv_X12_beenOf ml_RX12_529 ⟨_, _, rfl⟩ o10 rfl rfl (Nat.le_of_ble_eq_true rfl) (Nat.le_of_ble_eq_true rfl) (Nat.le_of_ble_eq_true rfl) (Nat.zero_le _) (Nat.zero_le _) dX12_qPartOf_123 (c_X12_beenOf h) (fun r13 m14 h => ?_)
      refine v_i2l dX12_qPartOf_126 ?_
      exact v_lret dX12_qPartOf_127 rfl h
    · replace h := Eq.mp (if_pos hc) h
      refine v_aload_n 0 0 dX12_qPartOf_105 rfl rfl ?_
      refine v_aload_n 0 0 dX12_qPartOf_106 rfl rfl ?_
      refine v_gI 12 60 dX12_qPartOf_107 fg_RX12_475 o10 ?_
      refine v_cVi [.int _] mv_X12_beenOf ml_RX12_529 ⟨_, _, rfl⟩ o10 rfl rfl (Nat.le_of_ble_eq_true rfl) (Nat.le_of_ble_eq_true rfl) (Nat.le_of_ble_eq_true rfl) (Nat.zero_le _) (Nat.zero_le _) dX12_qPartOf_110 (c_X12_beenOf h) (fun r15 m16 h => ?_)
      refine v_i2l dX12_qPartOf_113 ?_
      refine v_goto 127 dX12_qPartOf_114 (by decide) ?_
      exact v_lret dX12_qPartOf_127 rfl h
  replace h := Eq.mp (if_neg hc2) h
  by_cases hc3 : v1 = (3 : Int32)
  · replace h := Eq.mp (if_pos hc3) h
    refine v_tabK (3 : Int32) hc3 128 dX12_qPartOf_1 (by decide) (by decide) rfl (by decide) ?_
    refine v_aload_n 0 0 dX12_qPartOf_128 rfl rfl ?_
    obtain ⟨o17, h⟩ := h
    obtain ⟨b18, e19, h⟩ := h
    refine v_gR 12 48 dX12_qPartOf_129 fg_RX12_124 o17 e19 ?_
    refine v_bipush (10 : Int32) dX12_qPartOf_132 (by decide) ?_
    refine v_iconst (2 : Int32) dX12_qPartOf_134 (by decide) ?_
    refine v_aload_n 0 0 dX12_qPartOf_135 rfl rfl ?_
    refine v_gI 12 59 dX12_qPartOf_136 fg_RX12_506 o17 ?_
    refine v_imul dX12_qPartOf_139 ?_
    refine v_iadd dX12_qPartOf_140 ?_
    obtain ⟨i20, h⟩ := h
    refine v_iald dX12_qPartOf_141 i20 ?_
    refine v_i2l dX12_qPartOf_142 ?_
    exact v_lret dX12_qPartOf_143 rfl h
  replace h := Eq.mp (if_neg hc3) h
  by_cases hc4 : v1 = (4 : Int32)
  · replace h := Eq.mp (if_pos hc4) h
    refine v_tabK (4 : Int32) hc4 144 dX12_qPartOf_1 (by decide) (by decide) rfl (by decide) ?_
    refine v_aload_n 0 0 dX12_qPartOf_144 rfl rfl ?_
    obtain ⟨o21, h⟩ := h
    obtain ⟨b22, e23, h⟩ := h
    refine v_gR 12 48 dX12_qPartOf_145 fg_RX12_124 o21 e23 ?_
    refine v_bipush (11 : Int32) dX12_qPartOf_148 (by decide) ?_
    refine v_iconst (2 : Int32) dX12_qPartOf_150 (by decide) ?_
    refine v_aload_n 0 0 dX12_qPartOf_151 rfl rfl ?_
    refine v_gI 12 59 dX12_qPartOf_152 fg_RX12_506 o21 ?_
    refine v_imul dX12_qPartOf_155 ?_
    refine v_iadd dX12_qPartOf_156 ?_
    obtain ⟨i24, h⟩ := h
    refine v_iald dX12_qPartOf_157 i24 ?_
    refine v_i2l dX12_qPartOf_158 ?_
    exact v_lret dX12_qPartOf_159 rfl h
  replace h := Eq.mp (if_neg hc4) h
  by_cases hc5 : v1 = (5 : Int32)
  · replace h := Eq.mp (if_pos hc5) h
    refine v_tabK (5 : Int32) hc5 160 dX12_qPartOf_1 (by decide) (by decide) rfl (by decide) ?_
    refine v_aload_n 0 0 dX12_qPartOf_160 rfl rfl ?_
    refine v_aload_n 0 0 dX12_qPartOf_161 rfl rfl ?_
    obtain ⟨o25, h⟩ := h
    refine v_gI 12 57 dX12_qPartOf_162 fg_RX12_343 o25 ?_
    refine v_if_ne 175 dX12_qPartOf_165 (by decide) (fun hc => ?_) (fun hc => ?_)
    · replace h := Eq.mp (if_neg hc) h
      refine v_aload_n 0 0 dX12_qPartOf_175 rfl rfl ?_
      refine v_iload_n 2 2 dX12_qPartOf_176 rfl rfl ?_
      refine v_cVi [.int _] mv_X12_cellOf ml_RX12_442 ⟨_, _, rfl⟩ o25 rfl rfl (Nat.le_of_ble_eq_true rfl) (Nat.le_of_ble_eq_true rfl) (Nat.le_of_ble_eq_true rfl) (Nat.zero_le _) (Nat.zero_le _) dX12_qPartOf_177 (c_X12_cellOf h) (fun r26 m27 h => ?_)
      refine v_sub [] rfl ?_
      exact v_X12_qPartOf_p180 h
    · replace h := Eq.mp (if_pos hc) h
      refine v_aload_n 0 0 dX12_qPartOf_168 rfl rfl ?_
      refine v_gI 12 60 dX12_qPartOf_169 fg_RX12_475 o25 ?_
      refine v_goto 180 dX12_qPartOf_172 (by decide) ?_
      refine v_sub [] rfl ?_
      exact v_X12_qPartOf_p180 h
  replace h := Eq.mp (if_neg hc5) h
  by_cases hc6 : v1 = (6 : Int32)
  · replace h := Eq.mp (if_pos hc6) h
    refine v_tabK (6 : Int32) hc6 185 dX12_qPartOf_1 (by decide) (by decide) rfl (by decide) ?_
    refine v_aload_n 0 0 dX12_qPartOf_185 rfl rfl ?_
    obtain ⟨o28, h⟩ := h
    obtain ⟨b29, e30, h⟩ := h
    refine v_gR 12 42 dX12_qPartOf_186 fg_RX12_111 o28 e30 ?_
    refine v_iconst (3 : Int32) dX12_qPartOf_189 (by decide) ?_
    obtain ⟨i31, h⟩ := h
    refine v_iald dX12_qPartOf_190 i31 ?_
    refine v_iconst (1 : Int32) dX12_qPartOf_191 (by decide) ?_
    refine v_isub dX12_qPartOf_192 ?_
    refine v_aload_n 0 0 dX12_qPartOf_193 rfl rfl ?_
    refine v_gI 12 60 dX12_qPartOf_194 fg_RX12_475 o28 ?_
    refine v_bipush (6 : Int32) dX12_qPartOf_197 (by decide) ?_
    refine v_idiv dX12_qPartOf_199 (by decide) ?_
    refine v_isub dX12_qPartOf_200 ?_
    refine v_i2l dX12_qPartOf_201 ?_
    exact v_lret dX12_qPartOf_202 rfl h
  replace h := Eq.mp (if_neg hc6) h
  by_cases hc7 : v1 = (7 : Int32)
  · replace h := Eq.mp (if_pos hc7) h
    refine v_tabK (7 : Int32) hc7 203 dX12_qPartOf_1 (by decide) (by decide) rfl (by decide) ?_
    refine v_aload_n 0 0 dX12_qPartOf_203 rfl rfl ?_
    obtain ⟨o32, h⟩ := h
    refine v_gI 12 61 dX12_qPartOf_204 fg_RX12_478 o32 ?_
    refine v_i2l dX12_qPartOf_207 ?_
    exact v_lret dX12_qPartOf_208 rfl h
  replace h := Eq.mp (if_neg hc7) h
  by_cases hc8 : v1 = (8 : Int32)
  · replace h := Eq.mp (if_pos hc8) h
    refine v_tabK (8 : Int32) hc8 209 dX12_qPartOf_1 (by decide) (by decide) rfl (by decide) ?_
    refine v_aload_n 0 0 dX12_qPartOf_209 rfl rfl ?_
    obtain ⟨o33, h⟩ := h
    refine v_gI 12 62 dX12_qPartOf_210 fg_RX12_524 o33 ?_
    refine v_i2l dX12_qPartOf_213 ?_
    exact v_lret dX12_qPartOf_214 rfl h
  replace h := Eq.mp (if_neg hc8) h
  by_cases hc9 : v1 = (9 : Int32)
  · replace h := Eq.mp (if_pos hc9) h
    refine v_tabK (9 : Int32) hc9 215 dX12_qPartOf_1 (by decide) (by decide) rfl (by decide) ?_
    refine v_iload_n 2 2 dX12_qPartOf_215 rfl rfl ?_
    refine v_i2l dX12_qPartOf_216 ?_
    exact v_lret dX12_qPartOf_217 rfl h
  replace h := Eq.mp (if_neg hc9) h
  by_cases hc10 : v1 = (10 : Int32)
  · replace h := Eq.mp (if_pos hc10) h
    refine v_tabK (10 : Int32) hc10 218 dX12_qPartOf_1 (by decide) (by decide) rfl (by decide) ?_
    refine v_aload_n 0 0 dX12_qPartOf_218 rfl rfl ?_
    refine v_iload_n 2 2 dX12_qPartOf_219 rfl rfl ?_
    obtain ⟨o36, h⟩ := h
    refine v_cVi [.int _] mv_X12_cellOf ml_RX12_442 ⟨_, _, rfl⟩ o36 rfl rfl (Nat.le_of_ble_eq_true rfl) (Nat.le_of_ble_eq_true rfl) (Nat.le_of_ble_eq_true rfl) (Nat.zero_le _) (Nat.zero_le _) dX12_qPartOf_220 (c_X12_cellOf h) (fun r34 m35 h => ?_)
    refine v_bipush (6 : Int32) dX12_qPartOf_223 (by decide) ?_
    refine v_irem dX12_qPartOf_225 (by decide) ?_
    refine v_i2l dX12_qPartOf_226 ?_
    exact v_lret dX12_qPartOf_227 rfl h
  replace h := Eq.mp (if_neg hc10) h
  by_cases hc11 : v1 = (11 : Int32)
  · replace h := Eq.mp (if_pos hc11) h
    refine v_tabK (11 : Int32) hc11 228 dX12_qPartOf_1 (by decide) (by decide) rfl (by decide) ?_
    refine v_aload_n 0 0 dX12_qPartOf_228 rfl rfl ?_
    refine v_iload_n 2 2 dX12_qPartOf_229 rfl rfl ?_
    obtain ⟨o39, h⟩ := h
    refine v_cVi [.int _] mv_X12_cellOf ml_RX12_442 ⟨_, _, rfl⟩ o39 rfl rfl (Nat.le_of_ble_eq_true rfl) (Nat.le_of_ble_eq_true rfl) (Nat.le_of_ble_eq_true rfl) (Nat.zero_le _) (Nat.zero_le _) dX12_qPartOf_230 (c_X12_cellOf h) (fun r37 m38 h => ?_)
    refine v_bipush (6 : Int32) dX12_qPartOf_233 (by decide) ?_
    refine v_idiv dX12_qPartOf_235 (by decide) ?_
    refine v_i2l dX12_qPartOf_236 ?_
    exact v_lret dX12_qPartOf_237 rfl h
  replace h := Eq.mp (if_neg hc11) h
  refine v_tabOut 238 dX12_qPartOf_1 (by have := lv_neT hc0 (a := 0) (by decide); have := lv_neT hc1 (a := 1) (by decide); have := lv_neT hc2 (a := 2) (by decide); have := lv_neT hc3 (a := 3) (by decide); have := lv_neT hc4 (a := 4) (by decide); have := lv_neT hc5 (a := 5) (by decide); have := lv_neT hc6 (a := 6) (by decide); have := lv_neT hc7 (a := 7) (by decide); have := lv_neT hc8 (a := 8) (by decide); have := lv_neT hc9 (a := 9) (by decide); have := lv_neT hc10 (a := 10) (by decide); have := lv_neT hc11 (a := 11) (by decide); omega) (by decide) ?_
  refine v_aload_n 0 0 dX12_qPartOf_238 rfl rfl ?_
  refine v_iload_n 2 2 dX12_qPartOf_239 rfl rfl ?_
  obtain ⟨o42, h⟩ := h
  refine v_cVi [.int _] mv_X12_dayOf ml_RX12_515 ⟨_, _, rfl⟩ o42 rfl rfl (Nat.le_of_ble_eq_true rfl) (Nat.le_of_ble_eq_true rfl) (Nat.le_of_ble_eq_true rfl) (Nat.zero_le _) (Nat.zero_le _) dX12_qPartOf_240 (c_X12_dayOf h) (fun r40 m41 h => ?_)
  refine v_i2l dX12_qPartOf_243 ?_
  exact v_lret dX12_qPartOf_244 rfl h
/-! CalledRiverModel.codesTell -/
theorem dX12_codesTell_0 : decode cX12_codesTell 0 = .ok (.aload_n 0, 1) := by decide +kernel
theorem dX12_codesTell_1 : decode cX12_codesTell 1 = .ok (.iload_n 1, 1) := by decide +kernel
theorem dX12_codesTell_2 : decode cX12_codesTell 2 = .ok (.putfield 343, 3) := by decide +kernel
theorem dX12_codesTell_5 : decode cX12_codesTell 5 = .ok (.aload_n 0, 1) := by decide +kernel
theorem dX12_codesTell_6 : decode cX12_codesTell 6 = .ok (.iconst 0, 1) := by decide +kernel
theorem dX12_codesTell_7 : decode cX12_codesTell 7 = .ok (.putfield 461, 3) := by decide +kernel
theorem dX12_codesTell_10 : decode cX12_codesTell 10 = .ok (.aload_n 0, 1) := by decide +kernel
theorem dX12_codesTell_11 : decode cX12_codesTell 11 = .ok (.getfield 134, 3) := by decide +kernel
theorem dX12_codesTell_14 : decode cX12_codesTell 14 = .ok (.iconst 2, 1) := by decide +kernel
theorem dX12_codesTell_15 : decode cX12_codesTell 15 = .ok (.iload_n 1, 1) := by decide +kernel
theorem dX12_codesTell_16 : decode cX12_codesTell 16 = .ok (.iadd, 1) := by decide +kernel
theorem dX12_codesTell_17 : decode cX12_codesTell 17 = .ok (.iaload, 1) := by decide +kernel
theorem dX12_codesTell_18 : decode cX12_codesTell 18 = .ok (.istore_n 3, 1) := by decide +kernel
theorem dX12_codesTell_19 : decode cX12_codesTell 19 = .ok (.iload_n 3, 1) := by decide +kernel
theorem dX12_codesTell_20 : decode cX12_codesTell 20 = .ok (.aload_n 0, 1) := by decide +kernel
theorem dX12_codesTell_21 : decode cX12_codesTell 21 = .ok (.getfield 137, 3) := by decide +kernel
theorem dX12_codesTell_24 : decode cX12_codesTell 24 = .ok (.iconst 2, 1) := by decide +kernel
theorem dX12_codesTell_25 : decode cX12_codesTell 25 = .ok (.iload_n 1, 1) := by decide +kernel
theorem dX12_codesTell_26 : decode cX12_codesTell 26 = .ok (.iadd, 1) := by decide +kernel
theorem dX12_codesTell_27 : decode cX12_codesTell 27 = .ok (.iaload, 1) := by decide +kernel
theorem dX12_codesTell_28 : decode cX12_codesTell 28 = .ok (.if_icmp .ge 73, 3) := by decide +kernel
theorem dX12_codesTell_31 : decode cX12_codesTell 31 = .ok (.aload_n 0, 1) := by decide +kernel
theorem dX12_codesTell_32 : decode cX12_codesTell 32 = .ok (.getfield 140, 3) := by decide +kernel
theorem dX12_codesTell_35 : decode cX12_codesTell 35 = .ok (.sipush 1600, 3) := by decide +kernel
theorem dX12_codesTell_38 : decode cX12_codesTell 38 = .ok (.iload_n 3, 1) := by decide +kernel
theorem dX12_codesTell_39 : decode cX12_codesTell 39 = .ok (.iadd, 1) := by decide +kernel
theorem dX12_codesTell_40 : decode cX12_codesTell 40 = .ok (.iaload, 1) := by decide +kernel
theorem dX12_codesTell_41 : decode cX12_codesTell 41 = .ok (.istore 4, 2) := by decide +kernel
theorem dX12_codesTell_43 : decode cX12_codesTell 43 = .ok (.iload 4, 2) := by decide +kernel
theorem dX12_codesTell_45 : decode cX12_codesTell 45 = .ok (.sipush 1000, 3) := by decide +kernel
theorem dX12_codesTell_48 : decode cX12_codesTell 48 = .ok (.if_icmp .lt 17, 3) := by decide +kernel
theorem dX12_codesTell_51 : decode cX12_codesTell 51 = .ok (.aload_n 0, 1) := by decide +kernel
theorem dX12_codesTell_52 : decode cX12_codesTell 52 = .ok (.iload 4, 2) := by decide +kernel
theorem dX12_codesTell_54 : decode cX12_codesTell 54 = .ok (.sipush 1000, 3) := by decide +kernel
theorem dX12_codesTell_57 : decode cX12_codesTell 57 = .ok (.isub, 1) := by decide +kernel
theorem dX12_codesTell_58 : decode cX12_codesTell 58 = .ok (.i2l, 1) := by decide +kernel
theorem dX12_codesTell_59 : decode cX12_codesTell 59 = .ok (.invokevirtual 464, 3) := by decide +kernel
theorem dX12_codesTell_62 : decode cX12_codesTell 62 = .ok (.goto 33, 3) := by decide +kernel
theorem dX12_codesTell_65 : decode cX12_codesTell 65 = .ok (.iload 4, 2) := by decide +kernel
theorem dX12_codesTell_67 : decode cX12_codesTell 67 = .ok (.bipush 40, 2) := by decide +kernel
theorem dX12_codesTell_69 : decode cX12_codesTell 69 = .ok (.if_icmp .lt 20, 3) := by decide +kernel
theorem dX12_codesTell_72 : decode cX12_codesTell 72 = .ok (.aload_n 0, 1) := by decide +kernel
theorem dX12_codesTell_73 : decode cX12_codesTell 73 = .ok (.aload_n 0, 1) := by decide +kernel
theorem dX12_codesTell_74 : decode cX12_codesTell 74 = .ok (.iload 4, 2) := by decide +kernel
theorem dX12_codesTell_76 : decode cX12_codesTell 76 = .ok (.bipush 40, 2) := by decide +kernel
theorem dX12_codesTell_78 : decode cX12_codesTell 78 = .ok (.isub, 1) := by decide +kernel
theorem dX12_codesTell_79 : decode cX12_codesTell 79 = .ok (.iload_n 2, 1) := by decide +kernel
theorem dX12_codesTell_80 : decode cX12_codesTell 80 = .ok (.invokevirtual 468, 3) := by decide +kernel
theorem dX12_codesTell_83 : decode cX12_codesTell 83 = .ok (.invokevirtual 464, 3) := by decide +kernel
theorem dX12_codesTell_86 : decode cX12_codesTell 86 = .ok (.goto 9, 3) := by decide +kernel
theorem dX12_codesTell_89 : decode cX12_codesTell 89 = .ok (.aload_n 0, 1) := by decide +kernel
theorem dX12_codesTell_90 : decode cX12_codesTell 90 = .ok (.iload 4, 2) := by decide +kernel
theorem dX12_codesTell_92 : decode cX12_codesTell 92 = .ok (.invokevirtual 472, 3) := by decide +kernel
theorem dX12_codesTell_95 : decode cX12_codesTell 95 = .ok (.iinc 3 1, 3) := by decide +kernel
theorem dX12_codesTell_98 : decode cX12_codesTell 98 = .ok (.goto (-79), 3) := by decide +kernel
theorem dX12_codesTell_101 : decode cX12_codesTell 101 = .ok (.aload_n 0, 1) := by decide +kernel
theorem dX12_codesTell_102 : decode cX12_codesTell 102 = .ok (.getfield 276, 3) := by decide +kernel
theorem dX12_codesTell_105 : decode cX12_codesTell 105 = .ok (.iconst 0, 1) := by decide +kernel
theorem dX12_codesTell_106 : decode cX12_codesTell 106 = .ok (.laload, 1) := by decide +kernel
theorem dX12_codesTell_107 : decode cX12_codesTell 107 = .ok (.lreturn, 1) := by decide +kernel
def X12_codesTell_p95 (sh : Shp) (v0 : Nat) (v1 : Int32) (v2 : Int32) (v3 : Int32) (Q : Int64 → Mem → Prop) (K19 : Int32 → Mem → Prop) (m : Mem) : Prop :=
  K19 (v3 + (1 : Int32)) m
def X12_codesTell_p19b (sh : Shp) (v0 : Nat) (v1 : Int32) (v2 : Int32) (Q : Int64 → Mem → Prop) (K19 : Int32 → Mem → Prop) (v3 : Int32) (m : Mem) : Prop :=
  Ob sh v0 12 ∧ ∃ b8 : Nat, m.2.2 v0 52 = some b8 ∧ (Ix sh b8 100 ((2 : Int32) + v1) ∧ (if (m.1 b8 ((2 : Int32) + v1).toNatClampNeg) ≤ v3 then (∃ b11 : Nat, m.2.2 v0 114 = some b11 ∧ (Ix sh b11 103 (0 : Int32) ∧ (Q (m.2.1 b11 (0 : Int32).toNatClampNeg) m))) else (∃ b14 : Nat, m.2.2 v0 53 = some b14 ∧ (Ix sh b14 100 ((1600 : Int32) + v3) ∧ (if (m.1 b14 ((1600 : Int32) + v3).toNatClampNeg) < (1000 : Int32) then (if (m.1 b14 ((1600 : Int32) + v3).toNatClampNeg) < (40 : Int32) then (wp_X12_qJoins sh v0 (m.1 b14 ((1600 : Int32) + v3).toNatClampNeg) (fun m18 => X12_codesTell_p95 sh v0 v1 v2 v3 Q K19 m18) m) else (wp_X12_qPartOf sh v0 ((m.1 b14 ((1600 : Int32) + v3).toNatClampNeg) - (40 : Int32)) v2 (fun r19 m20 => wp_X12_qPuts sh v0 r19 (fun m22 => X12_codesTell_p95 sh v0 v1 v2 v3 Q K19 m22) m20) m)) else (wp_X12_qPuts sh v0 ((m.1 b14 ((1600 : Int32) + v3).toNatClampNeg) - (1000 : Int32)).toInt64 (fun m24 => X12_codesTell_p95 sh v0 v1 v2 v3 Q K19 m24) m))))))
def X12_codesTell_p19n (sh : Shp) (v0 : Nat) (v1 : Int32) (v2 : Int32) (Q : Int64 → Mem → Prop) : Nat → Int32 → Mem → Prop
  | 0 => fun _ _ => False
  | n + 1 => X12_codesTell_p19b sh v0 v1 v2 Q (X12_codesTell_p19n sh v0 v1 v2 Q n)
def X12_codesTell_p19 (sh : Shp) (v0 : Nat) (v1 : Int32) (v2 : Int32) (Q : Int64 → Mem → Prop) (v3 : Int32) (m : Mem) : Prop := ∃ n, X12_codesTell_p19n sh v0 v1 v2 Q n v3 m
def wp_X12_codesTell (sh : Shp) (v0 : Nat) (v1 : Int32) (v2 : Int32) (Q : Int64 → Mem → Prop) (m : Mem) : Prop :=
  Ob sh v0 12 ∧ bnd (sI m v0 57 v1) (fun m2 => bnd (sI m2 v0 115 (0 : Int32)) (fun m3 => ∃ b4 : Nat, m3.2.2 v0 51 = some b4 ∧ (Ix sh b4 100 ((2 : Int32) + v1) ∧ (X12_codesTell_p19 sh v0 v1 v2 Q (m3.1 b4 ((2 : Int32) + v1).toNatClampNeg) m3))))
abbrev M_X12_codesTell : Mi := (cX12_codesTell, 5, RX12, (Option.some FieldType.long), "codesTell", 5, 147, 0, 0)
set_option maxHeartbeats 4000000 in
set_option maxRecDepth 100000 in
theorem v_X12_codesTell_p95 {G : Gl} {F : Fr} {sh : Shp} {v0 : Nat} {v1 : Int32} {v2 : Int32} {v3 : Int32} {Q : Int64 → Mem → Prop} {K19 : Int32 → Mem → Prop} {m : Mem} (hK19 : ∀ (x3 : Int32) (m : Mem), K19 x3 m → V G F M_X12_codesTell sh 0 0 (Zl G F sh Q) 19 [(0, .ref (G.1 + v0)), (1, .int v1), (2, .int v2), (3, .int x3)] [] m) (h : X12_codesTell_p95 sh v0 v1 v2 v3 Q K19 m) : V G F M_X12_codesTell sh 0 0 (Zl G F sh Q) 95 [(0, .ref (G.1 + v0)), (1, .int v1), (2, .int v2), (3, .int v3)] [] m := by
  unfold X12_codesTell_p95 at h
  refine v_iinc (ls' := [(3, .int _), (0, .ref _), (1, .int _), (2, .int _)]) 3 3 dX12_codesTell_95 rfl (congrArg (HAdd.hAdd _) (by decide : Int32.ofInt (1) = (1 : Int32))) (Nat.le_of_ble_eq_true rfl) rfl ?_
  refine v_goto 19 dX12_codesTell_98 (by decide) ?_
  refine v_sub [1, 2, 3, 0] rfl ?_
  exact hK19 _ _ h
set_option maxHeartbeats 4000000 in
set_option maxRecDepth 100000 in
theorem v_X12_codesTell_p19b {G : Gl} {F : Fr} {sh : Shp} {v0 : Nat} {v1 : Int32} {v2 : Int32} {v3 : Int32} {Q : Int64 → Mem → Prop} {K19 : Int32 → Mem → Prop} {m : Mem} (hK19 : ∀ (x3 : Int32) (m : Mem), K19 x3 m → V G F M_X12_codesTell sh 0 0 (Zl G F sh Q) 19 [(0, .ref (G.1 + v0)), (1, .int v1), (2, .int v2), (3, .int x3)] [] m) (h : X12_codesTell_p19b sh v0 v1 v2 Q K19 v3 m) : V G F M_X12_codesTell sh 0 0 (Zl G F sh Q) 19 [(0, .ref (G.1 + v0)), (1, .int v1), (2, .int v2), (3, .int v3)] [] m := by
  unfold X12_codesTell_p19b at h
  refine v_iload_n 3 3 dX12_codesTell_19 rfl rfl ?_
  refine v_aload_n 0 0 dX12_codesTell_20 rfl rfl ?_
  obtain ⟨o7, h⟩ := h
  obtain ⟨b8, e9, h⟩ := h
  refine v_gR 12 52 dX12_codesTell_21 fg_RX12_137 o7 e9 ?_
  refine v_iconst (2 : Int32) dX12_codesTell_24 (by decide) ?_
  refine v_iload_n 1 1 dX12_codesTell_25 rfl rfl ?_
  refine v_iadd dX12_codesTell_26 ?_
  obtain ⟨i10, h⟩ := h
  refine v_iald dX12_codesTell_27 i10 ?_
  refine v_icmp_ge 101 dX12_codesTell_28 (by decide) (fun hc => ?_) (fun hc => ?_)
  · replace h := Eq.mp (if_pos hc) h
    refine v_aload_n 0 0 dX12_codesTell_101 rfl rfl ?_
    obtain ⟨b11, e12, h⟩ := h
    refine v_gR 12 114 dX12_codesTell_102 fg_RX12_276 o7 e12 ?_
    refine v_iconst (0 : Int32) dX12_codesTell_105 (by decide) ?_
    obtain ⟨i13, h⟩ := h
    refine v_lald dX12_codesTell_106 i13 ?_
    exact v_lret dX12_codesTell_107 rfl h
  · replace h := Eq.mp (if_neg hc) h
    refine v_aload_n 0 0 dX12_codesTell_31 rfl rfl ?_
    obtain ⟨b14, e15, h⟩ := h
    refine v_gR 12 53 dX12_codesTell_32 fg_RX12_140 o7 e15 ?_
    refine v_sipush (1600 : Int32) dX12_codesTell_35 (by decide) ?_
    refine v_iload_n 3 3 dX12_codesTell_38 rfl rfl ?_
    refine v_iadd dX12_codesTell_39 ?_
    obtain ⟨i16, h⟩ := h
    refine v_iald dX12_codesTell_40 i16 ?_
    refine v_istore (ls' := [(4, .int _), (0, .ref _), (1, .int _), (2, .int _), (3, .int _)]) 4 dX12_codesTell_41 (Nat.le_of_ble_eq_true rfl) rfl ?_
    refine v_iload 4 0 dX12_codesTell_43 rfl ?_
    refine v_sipush (1000 : Int32) dX12_codesTell_45 (by decide) ?_
    refine v_icmp_lt 65 dX12_codesTell_48 (by decide) (fun hc => ?_) (fun hc => ?_)
    · replace h := Eq.mp (if_pos hc) h
      refine v_iload 4 0 dX12_codesTell_65 rfl ?_
      refine v_bipush (40 : Int32) dX12_codesTell_67 (by decide) ?_
      refine v_icmp_lt 89 dX12_codesTell_69 (by decide) (fun hc => ?_) (fun hc => ?_)
      · replace h := Eq.mp (if_pos hc) h
        refine v_aload_n 0 1 dX12_codesTell_89 rfl rfl ?_
        refine v_iload 4 0 dX12_codesTell_90 rfl ?_
        refine v_cVv [.int _] mv_X12_qJoins ml_RX12_472 ⟨_, _, rfl⟩ o7 rfl rfl (Nat.le_of_ble_eq_true rfl) (Nat.le_of_ble_eq_true rfl) (Nat.le_of_ble_eq_true rfl) (Nat.zero_le _) (Nat.zero_le _) dX12_codesTell_92 (c_X12_qJoins h) (fun m18 h => ?_)
        refine v_sub [1, 2, 3, 4] rfl ?_
        exact v_X12_codesTell_p95 hK19 h
      · replace h := Eq.mp (if_neg hc) h
        refine v_aload_n 0 1 dX12_codesTell_72 rfl rfl ?_
        refine v_aload_n 0 1 dX12_codesTell_73 rfl rfl ?_
        refine v_iload 4 0 dX12_codesTell_74 rfl ?_
        refine v_bipush (40 : Int32) dX12_codesTell_76 (by decide) ?_
        refine v_isub dX12_codesTell_78 ?_
        refine v_iload_n 2 3 dX12_codesTell_79 rfl rfl ?_
        refine v_cVl [.int _, .int _] mv_X12_qPartOf ml_RX12_468 ⟨_, _, rfl⟩ o7 rfl rfl (Nat.le_of_ble_eq_true rfl) (Nat.le_of_ble_eq_true rfl) (Nat.le_of_ble_eq_true rfl) (Nat.zero_le _) (Nat.zero_le _) dX12_codesTell_80 (c_X12_qPartOf h) (fun r19 m20 h => ?_)
        refine v_cVv [.long _] mv_X12_qPuts ml_RX12_464 ⟨_, _, rfl⟩ o7 rfl rfl (Nat.le_of_ble_eq_true rfl) (Nat.le_of_ble_eq_true rfl) (Nat.le_of_ble_eq_true rfl) (Nat.zero_le _) (Nat.zero_le _) dX12_codesTell_83 (c_X12_qPuts h) (fun m22 h => ?_)
        refine v_goto 95 dX12_codesTell_86 (by decide) ?_
        refine v_sub [1, 2, 3, 4] rfl ?_
        exact v_X12_codesTell_p95 hK19 h
    · replace h := Eq.mp (if_neg hc) h
      refine v_aload_n 0 1 dX12_codesTell_51 rfl rfl ?_
      refine v_iload 4 0 dX12_codesTell_52 rfl ?_
      refine v_sipush (1000 : Int32) dX12_codesTell_54 (by decide) ?_
      refine v_isub dX12_codesTell_57 ?_
      refine v_i2l dX12_codesTell_58 ?_
      refine v_cVv [.long _] mv_X12_qPuts ml_RX12_464 ⟨_, _, rfl⟩ o7 rfl rfl (Nat.le_of_ble_eq_true rfl) (Nat.le_of_ble_eq_true rfl) (Nat.le_of_ble_eq_true rfl) (Nat.zero_le _) (Nat.zero_le _) dX12_codesTell_59 (c_X12_qPuts h) (fun m24 h => ?_)
      refine v_goto 95 dX12_codesTell_62 (by decide) ?_
      refine v_sub [1, 2, 3, 4] rfl ?_
      exact v_X12_codesTell_p95 hK19 h
set_option maxHeartbeats 4000000 in
set_option maxRecDepth 100000 in
theorem v_X12_codesTell_p19 {G : Gl} {F : Fr} {sh : Shp} {v0 : Nat} {v1 : Int32} {v2 : Int32} {v3 : Int32} {Q : Int64 → Mem → Prop} {m : Mem} (h : X12_codesTell_p19 sh v0 v1 v2 Q v3 m) : V G F M_X12_codesTell sh 0 0 (Zl G F sh Q) 19 [(0, .ref (G.1 + v0)), (1, .int v1), (2, .int v2), (3, .int v3)] [] m := by
  obtain ⟨n, h⟩ := h
  induction n generalizing v3 m with
  | zero => exact h.elim
  | succ n ih => exact v_X12_codesTell_p19b (fun _ _ h => ih h) h
set_option maxHeartbeats 4000000 in
set_option maxRecDepth 100000 in
theorem c_X12_codesTell {l : Launch} {G : Gl} {sh : Shp} {v0 : Nat} {v1 : Int32} {v2 : Int32} {Q : Int64 → Mem → Prop} {m : Mem} (h : wp_X12_codesTell sh v0 v1 v2 Q m) : Cnl l G yX12_codesTell cX12_codesTell 5 (Option.some FieldType.long) 5 147 sh [.ref (G.1 + v0), .int v1, .int v2] m Q := by
  refine con_l (ls := [(0, .ref (G.1 + v0)), (1, .int v1), (2, .int v2)]) (by decide +kernel) rfl (Nat.le_of_ble_eq_true rfl) (fun F => ?_)
  show V G F M_X12_codesTell sh 0 0 (Zl G F sh Q) 0 [(0, .ref (G.1 + v0)), (1, .int v1), (2, .int v2)] [] m
  unfold wp_X12_codesTell at h
  refine v_aload_n 0 0 dX12_codesTell_0 rfl rfl ?_
  refine v_iload_n 1 1 dX12_codesTell_1 rfl rfl ?_
  obtain ⟨o1, h⟩ := h
  refine v_pI 12 57 dX12_codesTell_2 fw_RX12_343 o1 ?_
  replace h := bnd_e h
  refine v_aload_n 0 0 dX12_codesTell_5 rfl rfl ?_
  refine v_iconst (0 : Int32) dX12_codesTell_6 (by decide) ?_
  refine v_pI 12 115 dX12_codesTell_7 fw_RX12_461 o1 ?_
  replace h := bnd_e h
  refine v_aload_n 0 0 dX12_codesTell_10 rfl rfl ?_
  obtain ⟨b4, e5, h⟩ := h
  refine v_gR 12 51 dX12_codesTell_11 fg_RX12_134 o1 e5 ?_
  refine v_iconst (2 : Int32) dX12_codesTell_14 (by decide) ?_
  refine v_iload_n 1 1 dX12_codesTell_15 rfl rfl ?_
  refine v_iadd dX12_codesTell_16 ?_
  obtain ⟨i6, h⟩ := h
  refine v_iald dX12_codesTell_17 i6 ?_
  refine v_istore_n (ls' := [(3, .int _), (0, .ref _), (1, .int _), (2, .int _)]) 3 dX12_codesTell_18 rfl (Nat.le_of_ble_eq_true rfl) rfl ?_
  refine v_sub [1, 2, 3, 0] rfl ?_
  exact v_X12_codesTell_p19 h
/-! CalledRiverModel.goesTo -/
theorem dX12_goesTo_0 : decode cX12_goesTo 0 = .ok (.aload_n 0, 1) := by decide +kernel
theorem dX12_goesTo_1 : decode cX12_goesTo 1 = .ok (.iload_n 1, 1) := by decide +kernel
theorem dX12_goesTo_2 : decode cX12_goesTo 2 = .ok (.putfield 475, 3) := by decide +kernel
theorem dX12_goesTo_5 : decode cX12_goesTo 5 = .ok (.aload_n 0, 1) := by decide +kernel
theorem dX12_goesTo_6 : decode cX12_goesTo 6 = .ok (.iload_n 2, 1) := by decide +kernel
theorem dX12_goesTo_7 : decode cX12_goesTo 7 = .ok (.putfield 478, 3) := by decide +kernel
theorem dX12_goesTo_10 : decode cX12_goesTo 10 = .ok (.aload_n 0, 1) := by decide +kernel
theorem dX12_goesTo_11 : decode cX12_goesTo 11 = .ok (.getfield 134, 3) := by decide +kernel
theorem dX12_goesTo_14 : decode cX12_goesTo 14 = .ok (.iconst 2, 1) := by decide +kernel
theorem dX12_goesTo_15 : decode cX12_goesTo 15 = .ok (.iaload, 1) := by decide +kernel
theorem dX12_goesTo_16 : decode cX12_goesTo 16 = .ok (.iconst (-1), 1) := by decide +kernel
theorem dX12_goesTo_17 : decode cX12_goesTo 17 = .ok (.if_icmp .ne 20, 3) := by decide +kernel
theorem dX12_goesTo_20 : decode cX12_goesTo 20 = .ok (.iload_n 1, 1) := by decide +kernel
theorem dX12_goesTo_21 : decode cX12_goesTo 21 = .ok (.bipush 6, 2) := by decide +kernel
theorem dX12_goesTo_23 : decode cX12_goesTo 23 = .ok (.idiv, 1) := by decide +kernel
theorem dX12_goesTo_24 : decode cX12_goesTo 24 = .ok (.aload_n 0, 1) := by decide +kernel
theorem dX12_goesTo_25 : decode cX12_goesTo 25 = .ok (.getfield 111, 3) := by decide +kernel
theorem dX12_goesTo_28 : decode cX12_goesTo 28 = .ok (.iconst 3, 1) := by decide +kernel
theorem dX12_goesTo_29 : decode cX12_goesTo 29 = .ok (.iaload, 1) := by decide +kernel
theorem dX12_goesTo_30 : decode cX12_goesTo 30 = .ok (.isub, 1) := by decide +kernel
theorem dX12_goesTo_31 : decode cX12_goesTo 31 = .ok (.iconst 1, 1) := by decide +kernel
theorem dX12_goesTo_32 : decode cX12_goesTo 32 = .ok (.iadd, 1) := by decide +kernel
theorem dX12_goesTo_33 : decode cX12_goesTo 33 = .ok (.i2l, 1) := by decide +kernel
theorem dX12_goesTo_34 : decode cX12_goesTo 34 = .ok (.goto 9, 3) := by decide +kernel
theorem dX12_goesTo_37 : decode cX12_goesTo 37 = .ok (.aload_n 0, 1) := by decide +kernel
theorem dX12_goesTo_38 : decode cX12_goesTo 38 = .ok (.iconst 0, 1) := by decide +kernel
theorem dX12_goesTo_39 : decode cX12_goesTo 39 = .ok (.iconst 0, 1) := by decide +kernel
theorem dX12_goesTo_40 : decode cX12_goesTo 40 = .ok (.invokevirtual 481, 3) := by decide +kernel
theorem dX12_goesTo_43 : decode cX12_goesTo 43 = .ok (.lreturn, 1) := by decide +kernel
def wp_X12_goesTo (sh : Shp) (v0 : Nat) (v1 : Int32) (v2 : Int32) (Q : Int64 → Mem → Prop) (m : Mem) : Prop :=
  Ob sh v0 12 ∧ bnd (sI m v0 60 v1) (fun m2 => bnd (sI m2 v0 61 v2) (fun m3 => ∃ b4 : Nat, m3.2.2 v0 51 = some b4 ∧ (Ix sh b4 100 (2 : Int32) ∧ (if (m3.1 b4 (2 : Int32).toNatClampNeg) = (-1 : Int32) then (∃ b9 : Nat, m3.2.2 v0 42 = some b9 ∧ (Ix sh b9 100 (3 : Int32) ∧ (Q (((v1 / (6 : Int32)) - (m3.1 b9 (3 : Int32).toNatClampNeg)) + (1 : Int32)).toInt64 m3))) else (wp_X12_codesTell sh v0 (0 : Int32) (0 : Int32) (fun r7 m8 => Q r7 m8) m3)))))
abbrev M_X12_goesTo : Mi := (cX12_goesTo, 3, RX12, (Option.some FieldType.long), "goesTo", 6, 171, 0, 0)
set_option maxHeartbeats 4000000 in
set_option maxRecDepth 100000 in
theorem c_X12_goesTo {l : Launch} {G : Gl} {sh : Shp} {v0 : Nat} {v1 : Int32} {v2 : Int32} {Q : Int64 → Mem → Prop} {m : Mem} (h : wp_X12_goesTo sh v0 v1 v2 Q m) : Cnl l G yX12_goesTo cX12_goesTo 3 (Option.some FieldType.long) 6 171 sh [.ref (G.1 + v0), .int v1, .int v2] m Q := by
  refine con_l (ls := [(0, .ref (G.1 + v0)), (1, .int v1), (2, .int v2)]) (by decide +kernel) rfl (Nat.le_of_ble_eq_true rfl) (fun F => ?_)
  show V G F M_X12_goesTo sh 0 0 (Zl G F sh Q) 0 [(0, .ref (G.1 + v0)), (1, .int v1), (2, .int v2)] [] m
  unfold wp_X12_goesTo at h
  refine v_aload_n 0 0 dX12_goesTo_0 rfl rfl ?_
  refine v_iload_n 1 1 dX12_goesTo_1 rfl rfl ?_
  obtain ⟨o1, h⟩ := h
  refine v_pI 12 60 dX12_goesTo_2 fw_RX12_475 o1 ?_
  replace h := bnd_e h
  refine v_aload_n 0 0 dX12_goesTo_5 rfl rfl ?_
  refine v_iload_n 2 2 dX12_goesTo_6 rfl rfl ?_
  refine v_pI 12 61 dX12_goesTo_7 fw_RX12_478 o1 ?_
  replace h := bnd_e h
  refine v_aload_n 0 0 dX12_goesTo_10 rfl rfl ?_
  obtain ⟨b4, e5, h⟩ := h
  refine v_gR 12 51 dX12_goesTo_11 fg_RX12_134 o1 e5 ?_
  refine v_iconst (2 : Int32) dX12_goesTo_14 (by decide) ?_
  obtain ⟨i6, h⟩ := h
  refine v_iald dX12_goesTo_15 i6 ?_
  refine v_iconst (-1 : Int32) dX12_goesTo_16 (by decide) ?_
  refine v_icmp_ne 37 dX12_goesTo_17 (by decide) (fun hc => ?_) (fun hc => ?_)
  · replace h := Eq.mp (if_neg hc) h
    refine v_aload_n 0 0 dX12_goesTo_37 rfl rfl ?_
    refine v_iconst (0 : Int32) dX12_goesTo_38 (by decide) ?_
    refine v_iconst (0 : Int32) dX12_goesTo_39 (by decide) ?_
    refine v_cVl [.int _, .int _] mv_X12_codesTell ml_RX12_481 ⟨_, _, rfl⟩ o1 rfl rfl (Nat.le_of_ble_eq_true rfl) (Nat.le_of_ble_eq_true rfl) (Nat.le_of_ble_eq_true rfl) (Nat.zero_le _) (Nat.zero_le _) dX12_goesTo_40 (c_X12_codesTell h) (fun r7 m8 h => ?_)
    exact v_lret dX12_goesTo_43 rfl h
  · replace h := Eq.mp (if_pos hc) h
    refine v_iload_n 1 1 dX12_goesTo_20 rfl rfl ?_
    refine v_bipush (6 : Int32) dX12_goesTo_21 (by decide) ?_
    refine v_idiv dX12_goesTo_23 (by decide) ?_
    refine v_aload_n 0 0 dX12_goesTo_24 rfl rfl ?_
    obtain ⟨b9, e10, h⟩ := h
    refine v_gR 12 42 dX12_goesTo_25 fg_RX12_111 o1 e10 ?_
    refine v_iconst (3 : Int32) dX12_goesTo_28 (by decide) ?_
    obtain ⟨i11, h⟩ := h
    refine v_iald dX12_goesTo_29 i11 ?_
    refine v_isub dX12_goesTo_30 ?_
    refine v_iconst (1 : Int32) dX12_goesTo_31 (by decide) ?_
    refine v_iadd dX12_goesTo_32 ?_
    refine v_i2l dX12_goesTo_33 ?_
    refine v_goto 43 dX12_goesTo_34 (by decide) ?_
    exact v_lret dX12_goesTo_43 rfl h
/-! CalledRiverModel.hasWay -/
theorem dX12_hasWay_0 : decode cX12_hasWay 0 = .ok (.aload_n 0, 1) := by decide +kernel
theorem dX12_hasWay_1 : decode cX12_hasWay 1 = .ok (.getfield 423, 3) := by decide +kernel
theorem dX12_hasWay_4 : decode cX12_hasWay 4 = .ok (.ifCond .eq 18, 3) := by decide +kernel
theorem dX12_hasWay_7 : decode cX12_hasWay 7 = .ok (.aload_n 0, 1) := by decide +kernel
theorem dX12_hasWay_8 : decode cX12_hasWay 8 = .ok (.aload_n 0, 1) := by decide +kernel
theorem dX12_hasWay_9 : decode cX12_hasWay 9 = .ok (.getfield 427, 3) := by decide +kernel
theorem dX12_hasWay_12 : decode cX12_hasWay 12 = .ok (.invokevirtual 455, 3) := by decide +kernel
theorem dX12_hasWay_15 : decode cX12_hasWay 15 = .ok (.ifCond .ne 7, 3) := by decide +kernel
theorem dX12_hasWay_18 : decode cX12_hasWay 18 = .ok (.iconst 1, 1) := by decide +kernel
theorem dX12_hasWay_19 : decode cX12_hasWay 19 = .ok (.goto 4, 3) := by decide +kernel
theorem dX12_hasWay_22 : decode cX12_hasWay 22 = .ok (.iconst 0, 1) := by decide +kernel
theorem dX12_hasWay_23 : decode cX12_hasWay 23 = .ok (.ireturn, 1) := by decide +kernel
def wp_X12_hasWay (sh : Shp) (v0 : Nat) (Q : Int32 → Mem → Prop) (m : Mem) : Prop :=
  Ob sh v0 12 ∧ (if (m.1 v0 56) = 0 then (Q (0 : Int32) m) else (wp_X12_isStone sh v0 (m.1 v0 44) (fun r2 m3 => if r2 = 0 then (Q (1 : Int32) m3) else (Q (0 : Int32) m3)) m))
abbrev M_X12_hasWay : Mi := (cX12_hasWay, 1, RX12, (Option.some FieldType.boolean), "hasWay", 2, 81, 0, 0)
set_option maxHeartbeats 4000000 in
set_option maxRecDepth 100000 in
theorem c_X12_hasWay {l : Launch} {G : Gl} {sh : Shp} {v0 : Nat} {Q : Int32 → Mem → Prop} {m : Mem} (h : wp_X12_hasWay sh v0 Q m) : Cni l G yX12_hasWay cX12_hasWay 1 (Option.some FieldType.boolean) 2 81 sh [.ref (G.1 + v0)] m Q := by
  refine con_i (ls := [(0, .ref (G.1 + v0))]) (by decide +kernel) rfl (Nat.le_of_ble_eq_true rfl) (fun F => ?_)
  show V G F M_X12_hasWay sh 0 0 (Zi G F sh Q) 0 [(0, .ref (G.1 + v0))] [] m
  unfold wp_X12_hasWay at h
  refine v_aload_n 0 0 dX12_hasWay_0 rfl rfl ?_
  obtain ⟨o1, h⟩ := h
  refine v_gI 12 56 dX12_hasWay_1 fg_RX12_423 o1 ?_
  refine v_if_eq 22 dX12_hasWay_4 (by decide) (fun hc => ?_) (fun hc => ?_)
  · replace h := Eq.mp (if_pos hc) h
    refine v_iconst (0 : Int32) dX12_hasWay_22 (by decide) ?_
    exact v_iret dX12_hasWay_23 rfl (by decide) h
  · replace h := Eq.mp (if_neg hc) h
    refine v_aload_n 0 0 dX12_hasWay_7 rfl rfl ?_
    refine v_aload_n 0 0 dX12_hasWay_8 rfl rfl ?_
    refine v_gI 12 44 dX12_hasWay_9 fg_RX12_427 o1 ?_
    refine v_cVi [.int _] mv_X12_isStone ml_RX12_455 ⟨_, _, rfl⟩ o1 rfl rfl (Nat.le_of_ble_eq_true rfl) (Nat.le_of_ble_eq_true rfl) (Nat.le_of_ble_eq_true rfl) (Nat.zero_le _) (Nat.zero_le _) dX12_hasWay_12 (c_X12_isStone h) (fun r2 m3 h => ?_)
    refine v_if_ne 22 dX12_hasWay_15 (by decide) (fun hc => ?_) (fun hc => ?_)
    · replace h := Eq.mp (if_neg hc) h
      refine v_iconst (0 : Int32) dX12_hasWay_22 (by decide) ?_
      exact v_iret dX12_hasWay_23 rfl (by decide) h
    · replace h := Eq.mp (if_pos hc) h
      refine v_iconst (1 : Int32) dX12_hasWay_18 (by decide) ?_
      refine v_goto 23 dX12_hasWay_19 (by decide) ?_
      exact v_iret dX12_hasWay_23 rfl (by decide) h
/-! CalledRiverModel.isDigit -/
theorem dX12_isDigit_0 : decode cX12_isDigit 0 = .ok (.iload_n 0, 1) := by decide +kernel
theorem dX12_isDigit_1 : decode cX12_isDigit 1 = .ok (.bipush 48, 2) := by decide +kernel
theorem dX12_isDigit_3 : decode cX12_isDigit 3 = .ok (.if_icmp .lt 13, 3) := by decide +kernel
theorem dX12_isDigit_6 : decode cX12_isDigit 6 = .ok (.iload_n 0, 1) := by decide +kernel
theorem dX12_isDigit_7 : decode cX12_isDigit 7 = .ok (.bipush 57, 2) := by decide +kernel
theorem dX12_isDigit_9 : decode cX12_isDigit 9 = .ok (.if_icmp .gt 7, 3) := by decide +kernel
theorem dX12_isDigit_12 : decode cX12_isDigit 12 = .ok (.iconst 1, 1) := by decide +kernel
theorem dX12_isDigit_13 : decode cX12_isDigit 13 = .ok (.goto 4, 3) := by decide +kernel
theorem dX12_isDigit_16 : decode cX12_isDigit 16 = .ok (.iconst 0, 1) := by decide +kernel
theorem dX12_isDigit_17 : decode cX12_isDigit 17 = .ok (.ireturn, 1) := by decide +kernel
def wp_X12_isDigit (sh : Shp) (v0 : Int32) (Q : Int32 → Mem → Prop) (m : Mem) : Prop :=
  if v0 < (48 : Int32) then (Q (0 : Int32) m) else (if (57 : Int32) < v0 then (Q (0 : Int32) m) else (Q (1 : Int32) m))
abbrev M_X12_isDigit : Mi := (cX12_isDigit, 1, RX12, (Option.some FieldType.boolean), "isDigit", 1, 60, 0, 0)
set_option maxHeartbeats 4000000 in
set_option maxRecDepth 100000 in
theorem c_X12_isDigit {l : Launch} {G : Gl} {sh : Shp} {v0 : Int32} {Q : Int32 → Mem → Prop} {m : Mem} (h : wp_X12_isDigit sh v0 Q m) : Cni l G yX12_isDigit cX12_isDigit 1 (Option.some FieldType.boolean) 1 60 sh [.int v0] m Q := by
  refine con_i (ls := [(0, .int v0)]) (by decide +kernel) rfl (Nat.le_of_ble_eq_true rfl) (fun F => ?_)
  show V G F M_X12_isDigit sh 0 0 (Zi G F sh Q) 0 [(0, .int v0)] [] m
  unfold wp_X12_isDigit at h
  refine v_iload_n 0 0 dX12_isDigit_0 rfl rfl ?_
  refine v_bipush (48 : Int32) dX12_isDigit_1 (by decide) ?_
  refine v_icmp_lt 16 dX12_isDigit_3 (by decide) (fun hc => ?_) (fun hc => ?_)
  · replace h := Eq.mp (if_pos hc) h
    refine v_iconst (0 : Int32) dX12_isDigit_16 (by decide) ?_
    exact v_iret dX12_isDigit_17 rfl (by decide) h
  · replace h := Eq.mp (if_neg hc) h
    refine v_iload_n 0 0 dX12_isDigit_6 rfl rfl ?_
    refine v_bipush (57 : Int32) dX12_isDigit_7 (by decide) ?_
    refine v_icmp_gt 16 dX12_isDigit_9 (by decide) (fun hc => ?_) (fun hc => ?_)
    · replace h := Eq.mp (if_pos hc) h
      refine v_iconst (0 : Int32) dX12_isDigit_16 (by decide) ?_
      exact v_iret dX12_isDigit_17 rfl (by decide) h
    · replace h := Eq.mp (if_neg hc) h
      refine v_iconst (1 : Int32) dX12_isDigit_12 (by decide) ?_
      refine v_goto 17 dX12_isDigit_13 (by decide) ?_
      exact v_iret dX12_isDigit_17 rfl (by decide) h
/-! CalledRiverModel.nextOf -/
theorem dX12_nextOf_0 : decode cX12_nextOf 0 = .ok (.iconst (-1), 1) := by decide +kernel
theorem dX12_nextOf_1 : decode cX12_nextOf 1 = .ok (.istore_n 2, 1) := by decide +kernel
theorem dX12_nextOf_2 : decode cX12_nextOf 2 = .ok (.lconst 0, 1) := by decide +kernel
theorem dX12_nextOf_3 : decode cX12_nextOf 3 = .ok (.lstore_n 3, 1) := by decide +kernel
theorem dX12_nextOf_4 : decode cX12_nextOf 4 = .ok (.iload_n 1, 1) := by decide +kernel
theorem dX12_nextOf_5 : decode cX12_nextOf 5 = .ok (.bipush 6, 2) := by decide +kernel
theorem dX12_nextOf_7 : decode cX12_nextOf 7 = .ok (.idiv, 1) := by decide +kernel
theorem dX12_nextOf_8 : decode cX12_nextOf 8 = .ok (.aload_n 0, 1) := by decide +kernel
theorem dX12_nextOf_9 : decode cX12_nextOf 9 = .ok (.getfield 111, 3) := by decide +kernel
theorem dX12_nextOf_12 : decode cX12_nextOf 12 = .ok (.iconst 3, 1) := by decide +kernel
theorem dX12_nextOf_13 : decode cX12_nextOf 13 = .ok (.iaload, 1) := by decide +kernel
theorem dX12_nextOf_14 : decode cX12_nextOf 14 = .ok (.iconst 1, 1) := by decide +kernel
theorem dX12_nextOf_15 : decode cX12_nextOf 15 = .ok (.isub, 1) := by decide +kernel
theorem dX12_nextOf_16 : decode cX12_nextOf 16 = .ok (.if_icmp .ne 5, 3) := by decide +kernel
theorem dX12_nextOf_19 : decode cX12_nextOf 19 = .ok (.iconst (-1), 1) := by decide +kernel
theorem dX12_nextOf_20 : decode cX12_nextOf 20 = .ok (.ireturn, 1) := by decide +kernel
theorem dX12_nextOf_21 : decode cX12_nextOf 21 = .ok (.iconst 0, 1) := by decide +kernel
theorem dX12_nextOf_22 : decode cX12_nextOf 22 = .ok (.istore 5, 2) := by decide +kernel
theorem dX12_nextOf_24 : decode cX12_nextOf 24 = .ok (.iload 5, 2) := by decide +kernel
theorem dX12_nextOf_26 : decode cX12_nextOf 26 = .ok (.aload_n 0, 1) := by decide +kernel
theorem dX12_nextOf_27 : decode cX12_nextOf 27 = .ok (.invokevirtual 484, 3) := by decide +kernel
theorem dX12_nextOf_30 : decode cX12_nextOf 30 = .ok (.if_icmp .ge 84, 3) := by decide +kernel
theorem dX12_nextOf_33 : decode cX12_nextOf 33 = .ok (.aload_n 0, 1) := by decide +kernel
theorem dX12_nextOf_34 : decode cX12_nextOf 34 = .ok (.iload 5, 2) := by decide +kernel
theorem dX12_nextOf_36 : decode cX12_nextOf 36 = .ok (.invokevirtual 487, 3) := by decide +kernel
theorem dX12_nextOf_39 : decode cX12_nextOf 39 = .ok (.istore 6, 2) := by decide +kernel
theorem dX12_nextOf_41 : decode cX12_nextOf 41 = .ok (.aload_n 0, 1) := by decide +kernel
theorem dX12_nextOf_42 : decode cX12_nextOf 42 = .ok (.getfield 149, 3) := by decide +kernel
theorem dX12_nextOf_45 : decode cX12_nextOf 45 = .ok (.iload 6, 2) := by decide +kernel
theorem dX12_nextOf_47 : decode cX12_nextOf 47 = .ok (.iaload, 1) := by decide +kernel
theorem dX12_nextOf_48 : decode cX12_nextOf 48 = .ok (.iconst (-1), 1) := by decide +kernel
theorem dX12_nextOf_49 : decode cX12_nextOf 49 = .ok (.if_icmp .ne 59, 3) := by decide +kernel
theorem dX12_nextOf_52 : decode cX12_nextOf 52 = .ok (.aload_n 0, 1) := by decide +kernel
theorem dX12_nextOf_53 : decode cX12_nextOf 53 = .ok (.iload_n 1, 1) := by decide +kernel
theorem dX12_nextOf_54 : decode cX12_nextOf 54 = .ok (.iload 6, 2) := by decide +kernel
theorem dX12_nextOf_56 : decode cX12_nextOf 56 = .ok (.invokevirtual 490, 3) := by decide +kernel
theorem dX12_nextOf_59 : decode cX12_nextOf 59 = .ok (.ifCond .eq 49, 3) := by decide +kernel
theorem dX12_nextOf_62 : decode cX12_nextOf 62 = .ok (.aload_n 0, 1) := by decide +kernel
theorem dX12_nextOf_63 : decode cX12_nextOf 63 = .ok (.iload_n 1, 1) := by decide +kernel
theorem dX12_nextOf_64 : decode cX12_nextOf 64 = .ok (.iload 6, 2) := by decide +kernel
theorem dX12_nextOf_66 : decode cX12_nextOf 66 = .ok (.invokevirtual 494, 3) := by decide +kernel
theorem dX12_nextOf_69 : decode cX12_nextOf 69 = .ok (.ifCond .ne 6, 3) := by decide +kernel
theorem dX12_nextOf_72 : decode cX12_nextOf 72 = .ok (.goto 36, 3) := by decide +kernel
theorem dX12_nextOf_75 : decode cX12_nextOf 75 = .ok (.aload_n 0, 1) := by decide +kernel
theorem dX12_nextOf_76 : decode cX12_nextOf 76 = .ok (.iload 6, 2) := by decide +kernel
theorem dX12_nextOf_78 : decode cX12_nextOf 78 = .ok (.aload_n 0, 1) := by decide +kernel
theorem dX12_nextOf_79 : decode cX12_nextOf 79 = .ok (.getfield 497, 3) := by decide +kernel
theorem dX12_nextOf_82 : decode cX12_nextOf 82 = .ok (.invokevirtual 500, 3) := by decide +kernel
theorem dX12_nextOf_85 : decode cX12_nextOf 85 = .ok (.lstore 7, 2) := by decide +kernel
theorem dX12_nextOf_87 : decode cX12_nextOf 87 = .ok (.iload_n 2, 1) := by decide +kernel
theorem dX12_nextOf_88 : decode cX12_nextOf 88 = .ok (.iconst (-1), 1) := by decide +kernel
theorem dX12_nextOf_89 : decode cX12_nextOf 89 = .ok (.if_icmp .eq 13, 3) := by decide +kernel
theorem dX12_nextOf_92 : decode cX12_nextOf 92 = .ok (.lload 7, 2) := by decide +kernel
theorem dX12_nextOf_94 : decode cX12_nextOf 94 = .ok (.lload_n 3, 1) := by decide +kernel
theorem dX12_nextOf_95 : decode cX12_nextOf 95 = .ok (.lcmp, 1) := by decide +kernel
theorem dX12_nextOf_96 : decode cX12_nextOf 96 = .ok (.ifCond .gt 6, 3) := by decide +kernel
theorem dX12_nextOf_99 : decode cX12_nextOf 99 = .ok (.goto 9, 3) := by decide +kernel
theorem dX12_nextOf_102 : decode cX12_nextOf 102 = .ok (.iload 6, 2) := by decide +kernel
theorem dX12_nextOf_104 : decode cX12_nextOf 104 = .ok (.istore_n 2, 1) := by decide +kernel
theorem dX12_nextOf_105 : decode cX12_nextOf 105 = .ok (.lload 7, 2) := by decide +kernel
theorem dX12_nextOf_107 : decode cX12_nextOf 107 = .ok (.lstore_n 3, 1) := by decide +kernel
theorem dX12_nextOf_108 : decode cX12_nextOf 108 = .ok (.iinc 5 1, 3) := by decide +kernel
theorem dX12_nextOf_111 : decode cX12_nextOf 111 = .ok (.goto (-87), 3) := by decide +kernel
theorem dX12_nextOf_114 : decode cX12_nextOf 114 = .ok (.iload_n 2, 1) := by decide +kernel
theorem dX12_nextOf_115 : decode cX12_nextOf 115 = .ok (.ireturn, 1) := by decide +kernel
def X12_nextOf_p108 (sh : Shp) (v0 : Nat) (v1 : Int32) (v2 : Int32) (v3 : Int64) (v5 : Int32) (Q : Int32 → Mem → Prop) (K24 : Int32 → Int64 → Int32 → Mem → Prop) (m : Mem) : Prop :=
  K24 v2 v3 (v5 + (1 : Int32)) m
def X12_nextOf_p102 (sh : Shp) (v0 : Nat) (v1 : Int32) (v5 : Int32) (v6 : Int32) (v7 : Int64) (Q : Int32 → Mem → Prop) (K24 : Int32 → Int64 → Int32 → Mem → Prop) (m : Mem) : Prop :=
  X12_nextOf_p108 sh v0 v1 v6 v7 v5 Q K24 m
def X12_nextOf_p24b (sh : Shp) (v0 : Nat) (v1 : Int32) (Q : Int32 → Mem → Prop) (K24 : Int32 → Int64 → Int32 → Mem → Prop) (v2 : Int32) (v3 : Int64) (v5 : Int32) (m : Mem) : Prop :=
  Ob sh v0 12 ∧ wp_X12_cellMany sh v0 (fun r5 m6 => if r5 ≤ v5 then (Q v2 m6) else (wp_X12_cellOfNumber sh v0 v5 (fun r8 m9 => ∃ b10 : Nat, m9.2.2 v0 65 = some b10 ∧ (Ix sh b10 100 r8 ∧ (if (m9.1 b10 r8.toNatClampNeg) = (-1 : Int32) then (wp_X12_areBeside sh v0 v1 r8 (fun r13 m14 => if r13 = 0 then (X12_nextOf_p108 sh v0 v1 v2 v3 v5 Q K24 m14) else (wp_X12_canFlow sh v0 v1 r8 (fun r15 m16 => if r15 = 0 then (X12_nextOf_p108 sh v0 v1 v2 v3 v5 Q K24 m16) else (wp_X12_goesTo sh v0 r8 (m16.1 v0 64) (fun r17 m18 => if v2 = (-1 : Int32) then (X12_nextOf_p102 sh v0 v1 v5 r8 r17 Q K24 m18) else (if 0 < (lg_cmp r17 v3) then (X12_nextOf_p102 sh v0 v1 v5 r8 r17 Q K24 m18) else (X12_nextOf_p108 sh v0 v1 v2 v3 v5 Q K24 m18))) m16)) m14)) m9) else (X12_nextOf_p108 sh v0 v1 v2 v3 v5 Q K24 m9)))) m6)) m
def X12_nextOf_p24n (sh : Shp) (v0 : Nat) (v1 : Int32) (Q : Int32 → Mem → Prop) : Nat → Int32 → Int64 → Int32 → Mem → Prop
  | 0 => fun _ _ _ _ => False
  | n + 1 => X12_nextOf_p24b sh v0 v1 Q (X12_nextOf_p24n sh v0 v1 Q n)
def X12_nextOf_p24 (sh : Shp) (v0 : Nat) (v1 : Int32) (Q : Int32 → Mem → Prop) (v2 : Int32) (v3 : Int64) (v5 : Int32) (m : Mem) : Prop := ∃ n, X12_nextOf_p24n sh v0 v1 Q n v2 v3 v5 m
def wp_X12_nextOf (sh : Shp) (v0 : Nat) (v1 : Int32) (Q : Int32 → Mem → Prop) (m : Mem) : Prop :=
  Ob sh v0 12 ∧ ∃ b2 : Nat, m.2.2 v0 42 = some b2 ∧ (Ix sh b2 100 (3 : Int32) ∧ (if (v1 / (6 : Int32)) = ((m.1 b2 (3 : Int32).toNatClampNeg) - (1 : Int32)) then (Q (-1 : Int32) m) else (X12_nextOf_p24 sh v0 v1 Q (-1 : Int32) (0 : Int64) (0 : Int32) m)))
abbrev M_X12_nextOf : Mi := (cX12_nextOf, 9, RX12, (Option.some FieldType.int), "nextOf", 7, 193, 0, 0)
set_option maxHeartbeats 4000000 in
set_option maxRecDepth 100000 in
theorem v_X12_nextOf_p108 {G : Gl} {F : Fr} {sh : Shp} {v0 : Nat} {v1 : Int32} {v2 : Int32} {v3 : Int64} {v5 : Int32} {Q : Int32 → Mem → Prop} {K24 : Int32 → Int64 → Int32 → Mem → Prop} {m : Mem} (hK24 : ∀ (x2 : Int32) (x3 : Int64) (x5 : Int32) (m : Mem), K24 x2 x3 x5 m → V G F M_X12_nextOf sh 0 0 (Zi G F sh Q) 24 [(0, .ref (G.1 + v0)), (1, .int v1), (2, .int x2), (3, .long x3), (5, .int x5)] [] m) (h : X12_nextOf_p108 sh v0 v1 v2 v3 v5 Q K24 m) : V G F M_X12_nextOf sh 0 0 (Zi G F sh Q) 108 [(0, .ref (G.1 + v0)), (1, .int v1), (2, .int v2), (3, .long v3), (5, .int v5)] [] m := by
  unfold X12_nextOf_p108 at h
  refine v_iinc (ls' := [(5, .int _), (0, .ref _), (1, .int _), (2, .int _), (3, .long _)]) 5 4 dX12_nextOf_108 rfl (congrArg (HAdd.hAdd _) (by decide : Int32.ofInt (1) = (1 : Int32))) (Nat.le_of_ble_eq_true rfl) rfl ?_
  refine v_goto 24 dX12_nextOf_111 (by decide) ?_
  refine v_sub [1, 2, 3, 4, 0] rfl ?_
  exact hK24 _ _ _ _ h
set_option maxHeartbeats 4000000 in
set_option maxRecDepth 100000 in
theorem v_X12_nextOf_p102 {G : Gl} {F : Fr} {sh : Shp} {v0 : Nat} {v1 : Int32} {v5 : Int32} {v6 : Int32} {v7 : Int64} {Q : Int32 → Mem → Prop} {K24 : Int32 → Int64 → Int32 → Mem → Prop} {m : Mem} (hK24 : ∀ (x2 : Int32) (x3 : Int64) (x5 : Int32) (m : Mem), K24 x2 x3 x5 m → V G F M_X12_nextOf sh 0 0 (Zi G F sh Q) 24 [(0, .ref (G.1 + v0)), (1, .int v1), (2, .int x2), (3, .long x3), (5, .int x5)] [] m) (h : X12_nextOf_p102 sh v0 v1 v5 v6 v7 Q K24 m) : V G F M_X12_nextOf sh 0 0 (Zi G F sh Q) 102 [(0, .ref (G.1 + v0)), (1, .int v1), (5, .int v5), (6, .int v6), (7, .long v7)] [] m := by
  unfold X12_nextOf_p102 at h
  refine v_iload 6 3 dX12_nextOf_102 rfl ?_
  refine v_istore_n (ls' := [(2, .int _), (0, .ref _), (1, .int _), (5, .int _), (6, .int _), (7, .long _)]) 2 dX12_nextOf_104 rfl (Nat.le_of_ble_eq_true rfl) rfl ?_
  refine v_lload 7 5 dX12_nextOf_105 rfl ?_
  refine v_lstore_n (ls' := [(3, .long _), (2, .int _), (0, .ref _), (1, .int _), (5, .int _), (6, .int _), (7, .long _)]) 3 dX12_nextOf_107 rfl (Nat.le_of_ble_eq_true rfl) rfl ?_
  refine v_sub [2, 3, 1, 0, 4] rfl ?_
  exact v_X12_nextOf_p108 hK24 h
set_option maxHeartbeats 4000000 in
set_option maxRecDepth 100000 in
theorem v_X12_nextOf_p24b {G : Gl} {F : Fr} {sh : Shp} {v0 : Nat} {v1 : Int32} {v2 : Int32} {v3 : Int64} {v5 : Int32} {Q : Int32 → Mem → Prop} {K24 : Int32 → Int64 → Int32 → Mem → Prop} {m : Mem} (hK24 : ∀ (x2 : Int32) (x3 : Int64) (x5 : Int32) (m : Mem), K24 x2 x3 x5 m → V G F M_X12_nextOf sh 0 0 (Zi G F sh Q) 24 [(0, .ref (G.1 + v0)), (1, .int v1), (2, .int x2), (3, .long x3), (5, .int x5)] [] m) (h : X12_nextOf_p24b sh v0 v1 Q K24 v2 v3 v5 m) : V G F M_X12_nextOf sh 0 0 (Zi G F sh Q) 24 [(0, .ref (G.1 + v0)), (1, .int v1), (2, .int v2), (3, .long v3), (5, .int v5)] [] m := by
  unfold X12_nextOf_p24b at h
  refine v_iload 5 4 dX12_nextOf_24 rfl ?_
  refine v_aload_n 0 0 dX12_nextOf_26 rfl rfl ?_
  obtain ⟨o7, h⟩ := h
  refine v_cVi [] mv_X12_cellMany ml_RX12_484 ⟨_, _, rfl⟩ o7 rfl rfl (Nat.le_of_ble_eq_true rfl) (Nat.le_of_ble_eq_true rfl) (Nat.le_of_ble_eq_true rfl) (Nat.zero_le _) (Nat.zero_le _) dX12_nextOf_27 (c_X12_cellMany h) (fun r5 m6 h => ?_)
  refine v_icmp_ge 114 dX12_nextOf_30 (by decide) (fun hc => ?_) (fun hc => ?_)
  · replace h := Eq.mp (if_pos hc) h
    refine v_iload_n 2 2 dX12_nextOf_114 rfl rfl ?_
    exact v_iret dX12_nextOf_115 rfl rfl h
  · replace h := Eq.mp (if_neg hc) h
    refine v_aload_n 0 0 dX12_nextOf_33 rfl rfl ?_
    refine v_iload 5 4 dX12_nextOf_34 rfl ?_
    refine v_cVi [.int _] mv_X12_cellOfNumber ml_RX12_487 ⟨_, _, rfl⟩ o7 rfl rfl (Nat.le_of_ble_eq_true rfl) (Nat.le_of_ble_eq_true rfl) (Nat.le_of_ble_eq_true rfl) (Nat.zero_le _) (Nat.zero_le _) dX12_nextOf_36 (c_X12_cellOfNumber h) (fun r8 m9 h => ?_)
    refine v_istore (ls' := [(6, .int _), (0, .ref _), (1, .int _), (2, .int _), (3, .long _), (5, .int _)]) 6 dX12_nextOf_39 (Nat.le_of_ble_eq_true rfl) rfl ?_
    refine v_aload_n 0 1 dX12_nextOf_41 rfl rfl ?_
    obtain ⟨b10, e11, h⟩ := h
    refine v_gR 12 65 dX12_nextOf_42 fg_RX12_149 o7 e11 ?_
    refine v_iload 6 0 dX12_nextOf_45 rfl ?_
    obtain ⟨i12, h⟩ := h
    refine v_iald dX12_nextOf_47 i12 ?_
    refine v_iconst (-1 : Int32) dX12_nextOf_48 (by decide) ?_
    refine v_icmp_ne 108 dX12_nextOf_49 (by decide) (fun hc => ?_) (fun hc => ?_)
    · replace h := Eq.mp (if_neg hc) h
      refine v_sub [1, 2, 3, 4, 5] rfl ?_
      exact v_X12_nextOf_p108 hK24 h
    · replace h := Eq.mp (if_pos hc) h
      refine v_aload_n 0 1 dX12_nextOf_52 rfl rfl ?_
      refine v_iload_n 1 2 dX12_nextOf_53 rfl rfl ?_
      refine v_iload 6 0 dX12_nextOf_54 rfl ?_
      refine v_cVi [.int _, .int _] mv_X12_areBeside ml_RX12_490 ⟨_, _, rfl⟩ o7 rfl rfl (Nat.le_of_ble_eq_true rfl) (Nat.le_of_ble_eq_true rfl) (Nat.le_of_ble_eq_true rfl) (Nat.zero_le _) (Nat.zero_le _) dX12_nextOf_56 (c_X12_areBeside h) (fun r13 m14 h => ?_)
      refine v_if_eq 108 dX12_nextOf_59 (by decide) (fun hc => ?_) (fun hc => ?_)
      · replace h := Eq.mp (if_pos hc) h
        refine v_sub [1, 2, 3, 4, 5] rfl ?_
        exact v_X12_nextOf_p108 hK24 h
      · replace h := Eq.mp (if_neg hc) h
        refine v_aload_n 0 1 dX12_nextOf_62 rfl rfl ?_
        refine v_iload_n 1 2 dX12_nextOf_63 rfl rfl ?_
        refine v_iload 6 0 dX12_nextOf_64 rfl ?_
        refine v_cVi [.int _, .int _] mv_X12_canFlow ml_RX12_494 ⟨_, _, rfl⟩ o7 rfl rfl (Nat.le_of_ble_eq_true rfl) (Nat.le_of_ble_eq_true rfl) (Nat.le_of_ble_eq_true rfl) (Nat.zero_le _) (Nat.zero_le _) dX12_nextOf_66 (c_X12_canFlow h) (fun r15 m16 h => ?_)
        refine v_if_ne 75 dX12_nextOf_69 (by decide) (fun hc => ?_) (fun hc => ?_)
        · replace h := Eq.mp (if_neg hc) h
          refine v_aload_n 0 1 dX12_nextOf_75 rfl rfl ?_
          refine v_iload 6 0 dX12_nextOf_76 rfl ?_
          refine v_aload_n 0 1 dX12_nextOf_78 rfl rfl ?_
          refine v_gI 12 64 dX12_nextOf_79 fg_RX12_497 o7 ?_
          refine v_cVl [.int _, .int _] mv_X12_goesTo ml_RX12_500 ⟨_, _, rfl⟩ o7 rfl rfl (Nat.le_of_ble_eq_true rfl) (Nat.le_of_ble_eq_true rfl) (Nat.le_of_ble_eq_true rfl) (Nat.zero_le _) (Nat.zero_le _) dX12_nextOf_82 (c_X12_goesTo h) (fun r17 m18 h => ?_)
          refine v_lstore (ls' := [(7, .long _), (6, .int _), (0, .ref _), (1, .int _), (2, .int _), (3, .long _), (5, .int _)]) 7 dX12_nextOf_85 (Nat.le_of_ble_eq_true rfl) rfl ?_
          refine v_iload_n 2 4 dX12_nextOf_87 rfl rfl ?_
          refine v_iconst (-1 : Int32) dX12_nextOf_88 (by decide) ?_
          refine v_icmp_eq 102 dX12_nextOf_89 (by decide) (fun hc => ?_) (fun hc => ?_)
          · replace h := Eq.mp (if_pos hc) h
            refine v_sub [2, 3, 6, 1, 0] rfl ?_
            exact v_X12_nextOf_p102 hK24 h
          · replace h := Eq.mp (if_neg hc) h
            refine v_lload 7 0 dX12_nextOf_92 rfl ?_
            refine v_lload_n 3 5 dX12_nextOf_94 rfl rfl ?_
            refine v_lcmp dX12_nextOf_95 ?_
            refine v_if_gt 102 dX12_nextOf_96 (by decide) (fun hc => ?_) (fun hc => ?_)
            · replace h := Eq.mp (if_pos hc) h
              refine v_sub [2, 3, 6, 1, 0] rfl ?_
              exact v_X12_nextOf_p102 hK24 h
            · replace h := Eq.mp (if_neg hc) h
              refine v_goto 108 dX12_nextOf_99 (by decide) ?_
              refine v_sub [2, 3, 4, 5, 6] rfl ?_
              exact v_X12_nextOf_p108 hK24 h
        · replace h := Eq.mp (if_pos hc) h
          refine v_goto 108 dX12_nextOf_72 (by decide) ?_
          refine v_sub [1, 2, 3, 4, 5] rfl ?_
          exact v_X12_nextOf_p108 hK24 h
set_option maxHeartbeats 4000000 in
set_option maxRecDepth 100000 in
theorem v_X12_nextOf_p24 {G : Gl} {F : Fr} {sh : Shp} {v0 : Nat} {v1 : Int32} {v2 : Int32} {v3 : Int64} {v5 : Int32} {Q : Int32 → Mem → Prop} {m : Mem} (h : X12_nextOf_p24 sh v0 v1 Q v2 v3 v5 m) : V G F M_X12_nextOf sh 0 0 (Zi G F sh Q) 24 [(0, .ref (G.1 + v0)), (1, .int v1), (2, .int v2), (3, .long v3), (5, .int v5)] [] m := by
  obtain ⟨n, h⟩ := h
  induction n generalizing v2 v3 v5 m with
  | zero => exact h.elim
  | succ n ih => exact v_X12_nextOf_p24b (fun _ _ _ _ h => ih h) h
set_option maxHeartbeats 4000000 in
set_option maxRecDepth 100000 in
theorem c_X12_nextOf {l : Launch} {G : Gl} {sh : Shp} {v0 : Nat} {v1 : Int32} {Q : Int32 → Mem → Prop} {m : Mem} (h : wp_X12_nextOf sh v0 v1 Q m) : Cni l G yX12_nextOf cX12_nextOf 9 (Option.some FieldType.int) 7 193 sh [.ref (G.1 + v0), .int v1] m Q := by
  refine con_i (ls := [(0, .ref (G.1 + v0)), (1, .int v1)]) (by decide +kernel) rfl (Nat.le_of_ble_eq_true rfl) (fun F => ?_)
  show V G F M_X12_nextOf sh 0 0 (Zi G F sh Q) 0 [(0, .ref (G.1 + v0)), (1, .int v1)] [] m
  unfold wp_X12_nextOf at h
  refine v_iconst (-1 : Int32) dX12_nextOf_0 (by decide) ?_
  refine v_istore_n (ls' := [(2, .int _), (0, .ref _), (1, .int _)]) 2 dX12_nextOf_1 rfl (Nat.le_of_ble_eq_true rfl) rfl ?_
  refine v_lconst (0 : Int64) dX12_nextOf_2 (by decide) ?_
  refine v_lstore_n (ls' := [(3, .long _), (2, .int _), (0, .ref _), (1, .int _)]) 3 dX12_nextOf_3 rfl (Nat.le_of_ble_eq_true rfl) rfl ?_
  refine v_iload_n 1 3 dX12_nextOf_4 rfl rfl ?_
  refine v_bipush (6 : Int32) dX12_nextOf_5 (by decide) ?_
  refine v_idiv dX12_nextOf_7 (by decide) ?_
  refine v_aload_n 0 2 dX12_nextOf_8 rfl rfl ?_
  obtain ⟨o1, h⟩ := h
  obtain ⟨b2, e3, h⟩ := h
  refine v_gR 12 42 dX12_nextOf_9 fg_RX12_111 o1 e3 ?_
  refine v_iconst (3 : Int32) dX12_nextOf_12 (by decide) ?_
  obtain ⟨i4, h⟩ := h
  refine v_iald dX12_nextOf_13 i4 ?_
  refine v_iconst (1 : Int32) dX12_nextOf_14 (by decide) ?_
  refine v_isub dX12_nextOf_15 ?_
  refine v_icmp_ne 21 dX12_nextOf_16 (by decide) (fun hc => ?_) (fun hc => ?_)
  · replace h := Eq.mp (if_neg hc) h
    refine v_iconst (0 : Int32) dX12_nextOf_21 (by decide) ?_
    refine v_istore (ls' := [(5, .int _), (3, .long _), (2, .int _), (0, .ref _), (1, .int _)]) 5 dX12_nextOf_22 (Nat.le_of_ble_eq_true rfl) rfl ?_
    refine v_sub [3, 4, 2, 1, 0] rfl ?_
    exact v_X12_nextOf_p24 h
  · replace h := Eq.mp (if_pos hc) h
    refine v_iconst (-1 : Int32) dX12_nextOf_19 (by decide) ?_
    exact v_iret dX12_nextOf_20 rfl rfl h
/-! CalledRiverModel.laysWay -/
theorem dX12_laysWay_0 : decode cX12_laysWay 0 = .ok (.aload_n 0, 1) := by decide +kernel
theorem dX12_laysWay_1 : decode cX12_laysWay 1 = .ok (.iload_n 1, 1) := by decide +kernel
theorem dX12_laysWay_2 : decode cX12_laysWay 2 = .ok (.putfield 506, 3) := by decide +kernel
theorem dX12_laysWay_5 : decode cX12_laysWay 5 = .ok (.aload_n 0, 1) := by decide +kernel
theorem dX12_laysWay_6 : decode cX12_laysWay 6 = .ok (.iconst 0, 1) := by decide +kernel
theorem dX12_laysWay_7 : decode cX12_laysWay 7 = .ok (.putfield 497, 3) := by decide +kernel
theorem dX12_laysWay_10 : decode cX12_laysWay 10 = .ok (.iconst 0, 1) := by decide +kernel
theorem dX12_laysWay_11 : decode cX12_laysWay 11 = .ok (.istore_n 2, 1) := by decide +kernel
theorem dX12_laysWay_12 : decode cX12_laysWay 12 = .ok (.iload_n 2, 1) := by decide +kernel
theorem dX12_laysWay_13 : decode cX12_laysWay 13 = .ok (.bipush 36, 2) := by decide +kernel
theorem dX12_laysWay_15 : decode cX12_laysWay 15 = .ok (.if_icmp .ge 16, 3) := by decide +kernel
theorem dX12_laysWay_18 : decode cX12_laysWay 18 = .ok (.aload_n 0, 1) := by decide +kernel
theorem dX12_laysWay_19 : decode cX12_laysWay 19 = .ok (.getfield 149, 3) := by decide +kernel
theorem dX12_laysWay_22 : decode cX12_laysWay 22 = .ok (.iload_n 2, 1) := by decide +kernel
theorem dX12_laysWay_23 : decode cX12_laysWay 23 = .ok (.iconst (-1), 1) := by decide +kernel
theorem dX12_laysWay_24 : decode cX12_laysWay 24 = .ok (.iastore, 1) := by decide +kernel
theorem dX12_laysWay_25 : decode cX12_laysWay 25 = .ok (.iinc 2 1, 3) := by decide +kernel
theorem dX12_laysWay_28 : decode cX12_laysWay 28 = .ok (.goto (-16), 3) := by decide +kernel
theorem dX12_laysWay_31 : decode cX12_laysWay 31 = .ok (.aload_n 0, 1) := by decide +kernel
theorem dX12_laysWay_32 : decode cX12_laysWay 32 = .ok (.invokevirtual 509, 3) := by decide +kernel
theorem dX12_laysWay_35 : decode cX12_laysWay 35 = .ok (.ifCond .eq 10, 3) := by decide +kernel
theorem dX12_laysWay_38 : decode cX12_laysWay 38 = .ok (.aload_n 0, 1) := by decide +kernel
theorem dX12_laysWay_39 : decode cX12_laysWay 39 = .ok (.getfield 427, 3) := by decide +kernel
theorem dX12_laysWay_42 : decode cX12_laysWay 42 = .ok (.goto 4, 3) := by decide +kernel
theorem dX12_laysWay_45 : decode cX12_laysWay 45 = .ok (.iconst (-1), 1) := by decide +kernel
theorem dX12_laysWay_46 : decode cX12_laysWay 46 = .ok (.istore_n 2, 1) := by decide +kernel
theorem dX12_laysWay_47 : decode cX12_laysWay 47 = .ok (.iload_n 2, 1) := by decide +kernel
theorem dX12_laysWay_48 : decode cX12_laysWay 48 = .ok (.iconst (-1), 1) := by decide +kernel
theorem dX12_laysWay_49 : decode cX12_laysWay 49 = .ok (.if_icmp .eq 42, 3) := by decide +kernel
theorem dX12_laysWay_52 : decode cX12_laysWay 52 = .ok (.aload_n 0, 1) := by decide +kernel
theorem dX12_laysWay_53 : decode cX12_laysWay 53 = .ok (.getfield 146, 3) := by decide +kernel
theorem dX12_laysWay_56 : decode cX12_laysWay 56 = .ok (.aload_n 0, 1) := by decide +kernel
theorem dX12_laysWay_57 : decode cX12_laysWay 57 = .ok (.getfield 497, 3) := by decide +kernel
theorem dX12_laysWay_60 : decode cX12_laysWay 60 = .ok (.iload_n 2, 1) := by decide +kernel
theorem dX12_laysWay_61 : decode cX12_laysWay 61 = .ok (.iastore, 1) := by decide +kernel
theorem dX12_laysWay_62 : decode cX12_laysWay 62 = .ok (.aload_n 0, 1) := by decide +kernel
theorem dX12_laysWay_63 : decode cX12_laysWay 63 = .ok (.getfield 149, 3) := by decide +kernel
theorem dX12_laysWay_66 : decode cX12_laysWay 66 = .ok (.iload_n 2, 1) := by decide +kernel
theorem dX12_laysWay_67 : decode cX12_laysWay 67 = .ok (.aload_n 0, 1) := by decide +kernel
theorem dX12_laysWay_68 : decode cX12_laysWay 68 = .ok (.getfield 497, 3) := by decide +kernel
theorem dX12_laysWay_71 : decode cX12_laysWay 71 = .ok (.iastore, 1) := by decide +kernel
theorem dX12_laysWay_72 : decode cX12_laysWay 72 = .ok (.aload_n 0, 1) := by decide +kernel
theorem dX12_laysWay_73 : decode cX12_laysWay 73 = .ok (.dup, 1) := by decide +kernel
theorem dX12_laysWay_74 : decode cX12_laysWay 74 = .ok (.getfield 497, 3) := by decide +kernel
theorem dX12_laysWay_77 : decode cX12_laysWay 77 = .ok (.iconst 1, 1) := by decide +kernel
theorem dX12_laysWay_78 : decode cX12_laysWay 78 = .ok (.iadd, 1) := by decide +kernel
theorem dX12_laysWay_79 : decode cX12_laysWay 79 = .ok (.putfield 497, 3) := by decide +kernel
theorem dX12_laysWay_82 : decode cX12_laysWay 82 = .ok (.aload_n 0, 1) := by decide +kernel
theorem dX12_laysWay_83 : decode cX12_laysWay 83 = .ok (.iload_n 2, 1) := by decide +kernel
theorem dX12_laysWay_84 : decode cX12_laysWay 84 = .ok (.invokevirtual 512, 3) := by decide +kernel
theorem dX12_laysWay_87 : decode cX12_laysWay 87 = .ok (.istore_n 2, 1) := by decide +kernel
theorem dX12_laysWay_88 : decode cX12_laysWay 88 = .ok (.goto (-41), 3) := by decide +kernel
theorem dX12_laysWay_91 : decode cX12_laysWay 91 = .ok (.return_, 1) := by decide +kernel
def X12_laysWay_p47b (sh : Shp) (v0 : Nat) (Q : Mem → Prop) (K47 : Int32 → Mem → Prop) (v2 : Int32) (m : Mem) : Prop :=
  if v2 = (-1 : Int32) then (Q m) else (Ob sh v0 12 ∧ ∃ b13 : Nat, m.2.2 v0 63 = some b13 ∧ (Ix sh b13 100 (m.1 v0 64) ∧ bnd (sI m b13 (m.1 v0 64).toNatClampNeg v2) (fun m16 => ∃ b17 : Nat, m16.2.2 v0 65 = some b17 ∧ (Ix sh b17 100 v2 ∧ bnd (sI m16 b17 v2.toNatClampNeg (m16.1 v0 64)) (fun m20 => bnd (sI m20 v0 64 ((m20.1 v0 64) + (1 : Int32))) (fun m21 => wp_X12_nextOf sh v0 v2 (fun r22 m23 => K47 r22 m23) m21))))))
def X12_laysWay_p47n (sh : Shp) (v0 : Nat) (Q : Mem → Prop) : Nat → Int32 → Mem → Prop
  | 0 => fun _ _ => False
  | n + 1 => X12_laysWay_p47b sh v0 Q (X12_laysWay_p47n sh v0 Q n)
def X12_laysWay_p47 (sh : Shp) (v0 : Nat) (Q : Mem → Prop) (v2 : Int32) (m : Mem) : Prop := ∃ n, X12_laysWay_p47n sh v0 Q n v2 m
def X12_laysWay_p46 (sh : Shp) (v0 : Nat) (s0 : Int32) (Q : Mem → Prop) (m : Mem) : Prop :=
  X12_laysWay_p47 sh v0 Q s0 m
def X12_laysWay_p12b (sh : Shp) (v0 : Nat) (Q : Mem → Prop) (K12 : Int32 → Mem → Prop) (v2 : Int32) (m : Mem) : Prop :=
  if (36 : Int32) ≤ v2 then (Ob sh v0 12 ∧ wp_X12_hasWay sh v0 (fun r4 m5 => if r4 = 0 then (X12_laysWay_p46 sh v0 (-1 : Int32) Q m5) else (X12_laysWay_p46 sh v0 (m5.1 v0 44) Q m5)) m) else (Ob sh v0 12 ∧ ∃ b8 : Nat, m.2.2 v0 65 = some b8 ∧ (Ix sh b8 100 v2 ∧ bnd (sI m b8 v2.toNatClampNeg (-1 : Int32)) (fun m11 => K12 (v2 + (1 : Int32)) m11)))
def X12_laysWay_p12n (sh : Shp) (v0 : Nat) (Q : Mem → Prop) : Nat → Int32 → Mem → Prop
  | 0 => fun _ _ => False
  | n + 1 => X12_laysWay_p12b sh v0 Q (X12_laysWay_p12n sh v0 Q n)
def X12_laysWay_p12 (sh : Shp) (v0 : Nat) (Q : Mem → Prop) (v2 : Int32) (m : Mem) : Prop := ∃ n, X12_laysWay_p12n sh v0 Q n v2 m
def wp_X12_laysWay (sh : Shp) (v0 : Nat) (v1 : Int32) (Q : Mem → Prop) (m : Mem) : Prop :=
  Ob sh v0 12 ∧ bnd (sI m v0 59 v1) (fun m2 => bnd (sI m2 v0 64 (0 : Int32)) (fun m3 => X12_laysWay_p12 sh v0 Q (0 : Int32) m3))
abbrev M_X12_laysWay : Mi := (cX12_laysWay, 3, RX12, (none : Option FieldType), "laysWay", 8, 221, 0, 0)
set_option maxHeartbeats 4000000 in
set_option maxRecDepth 100000 in
theorem v_X12_laysWay_p47b {G : Gl} {F : Fr} {sh : Shp} {v0 : Nat} {v2 : Int32} {Q : Mem → Prop} {K47 : Int32 → Mem → Prop} {m : Mem} (hK47 : ∀ (x2 : Int32) (m : Mem), K47 x2 m → V G F M_X12_laysWay sh 0 0 (Zv G F sh Q) 47 [(0, .ref (G.1 + v0)), (2, .int x2)] [] m) (h : X12_laysWay_p47b sh v0 Q K47 v2 m) : V G F M_X12_laysWay sh 0 0 (Zv G F sh Q) 47 [(0, .ref (G.1 + v0)), (2, .int v2)] [] m := by
  unfold X12_laysWay_p47b at h
  refine v_iload_n 2 1 dX12_laysWay_47 rfl rfl ?_
  refine v_iconst (-1 : Int32) dX12_laysWay_48 (by decide) ?_
  refine v_icmp_eq 91 dX12_laysWay_49 (by decide) (fun hc => ?_) (fun hc => ?_)
  · replace h := Eq.mp (if_pos hc) h
    exact v_vret dX12_laysWay_91 rfl h
  · replace h := Eq.mp (if_neg hc) h
    refine v_aload_n 0 0 dX12_laysWay_52 rfl rfl ?_
    obtain ⟨o12, h⟩ := h
    obtain ⟨b13, e14, h⟩ := h
    refine v_gR 12 63 dX12_laysWay_53 fg_RX12_146 o12 e14 ?_
    refine v_aload_n 0 0 dX12_laysWay_56 rfl rfl ?_
    refine v_gI 12 64 dX12_laysWay_57 fg_RX12_497 o12 ?_
    refine v_iload_n 2 1 dX12_laysWay_60 rfl rfl ?_
    obtain ⟨i15, h⟩ := h
    refine v_iast dX12_laysWay_61 i15 ?_
    replace h := bnd_e h
    refine v_aload_n 0 0 dX12_laysWay_62 rfl rfl ?_
    obtain ⟨b17, e18, h⟩ := h
    refine v_gR 12 65 dX12_laysWay_63 fg_RX12_149 o12 e18 ?_
    refine v_iload_n 2 1 dX12_laysWay_66 rfl rfl ?_
    refine v_aload_n 0 0 dX12_laysWay_67 rfl rfl ?_
    refine v_gI 12 64 dX12_laysWay_68 fg_RX12_497 o12 ?_
    obtain ⟨i19, h⟩ := h
    refine v_iast dX12_laysWay_71 i19 ?_
    replace h := bnd_e h
    refine v_aload_n 0 0 dX12_laysWay_72 rfl rfl ?_
    refine v_dup dX12_laysWay_73 rfl ?_
    refine v_gI 12 64 dX12_laysWay_74 fg_RX12_497 o12 ?_
    refine v_iconst (1 : Int32) dX12_laysWay_77 (by decide) ?_
    refine v_iadd dX12_laysWay_78 ?_
    refine v_pI 12 64 dX12_laysWay_79 fw_RX12_497 o12 ?_
    replace h := bnd_e h
    refine v_aload_n 0 0 dX12_laysWay_82 rfl rfl ?_
    refine v_iload_n 2 1 dX12_laysWay_83 rfl rfl ?_
    refine v_cVi [.int _] mv_X12_nextOf ml_RX12_512 ⟨_, _, rfl⟩ o12 rfl rfl (Nat.le_of_ble_eq_true rfl) (Nat.le_of_ble_eq_true rfl) (Nat.le_of_ble_eq_true rfl) (Nat.zero_le _) (Nat.zero_le _) dX12_laysWay_84 (c_X12_nextOf h) (fun r22 m23 h => ?_)
    refine v_istore_n (ls' := [(2, .int _), (0, .ref _)]) 2 dX12_laysWay_87 rfl (Nat.le_of_ble_eq_true rfl) rfl ?_
    refine v_goto 47 dX12_laysWay_88 (by decide) ?_
    refine v_sub [1, 0] rfl ?_
    exact hK47 _ _ h
set_option maxHeartbeats 4000000 in
set_option maxRecDepth 100000 in
theorem v_X12_laysWay_p47 {G : Gl} {F : Fr} {sh : Shp} {v0 : Nat} {v2 : Int32} {Q : Mem → Prop} {m : Mem} (h : X12_laysWay_p47 sh v0 Q v2 m) : V G F M_X12_laysWay sh 0 0 (Zv G F sh Q) 47 [(0, .ref (G.1 + v0)), (2, .int v2)] [] m := by
  obtain ⟨n, h⟩ := h
  induction n generalizing v2 m with
  | zero => exact h.elim
  | succ n ih => exact v_X12_laysWay_p47b (fun _ _ h => ih h) h
set_option maxHeartbeats 4000000 in
set_option maxRecDepth 100000 in
theorem v_X12_laysWay_p46 {G : Gl} {F : Fr} {sh : Shp} {v0 : Nat} {s0 : Int32} {Q : Mem → Prop} {m : Mem} (h : X12_laysWay_p46 sh v0 s0 Q m) : V G F M_X12_laysWay sh 0 0 (Zv G F sh Q) 46 [(0, .ref (G.1 + v0))] [.int s0] m := by
  unfold X12_laysWay_p46 at h
  refine v_istore_n (ls' := [(2, .int _), (0, .ref _)]) 2 dX12_laysWay_46 rfl (Nat.le_of_ble_eq_true rfl) rfl ?_
  refine v_sub [1, 0] rfl ?_
  exact v_X12_laysWay_p47 h
set_option maxHeartbeats 4000000 in
set_option maxRecDepth 100000 in
theorem v_X12_laysWay_p12b {G : Gl} {F : Fr} {sh : Shp} {v0 : Nat} {v2 : Int32} {Q : Mem → Prop} {K12 : Int32 → Mem → Prop} {m : Mem} (hK12 : ∀ (x2 : Int32) (m : Mem), K12 x2 m → V G F M_X12_laysWay sh 0 0 (Zv G F sh Q) 12 [(0, .ref (G.1 + v0)), (2, .int x2)] [] m) (h : X12_laysWay_p12b sh v0 Q K12 v2 m) : V G F M_X12_laysWay sh 0 0 (Zv G F sh Q) 12 [(0, .ref (G.1 + v0)), (2, .int v2)] [] m := by
  unfold X12_laysWay_p12b at h
  refine v_iload_n 2 1 dX12_laysWay_12 rfl rfl ?_
  refine v_bipush (36 : Int32) dX12_laysWay_13 (by decide) ?_
  refine v_icmp_ge 31 dX12_laysWay_15 (by decide) (fun hc => ?_) (fun hc => ?_)
  · replace h := Eq.mp (if_pos hc) h
    refine v_aload_n 0 0 dX12_laysWay_31 rfl rfl ?_
    obtain ⟨o6, h⟩ := h
    refine v_cVi [] mv_X12_hasWay ml_RX12_509 ⟨_, _, rfl⟩ o6 rfl rfl (Nat.le_of_ble_eq_true rfl) (Nat.le_of_ble_eq_true rfl) (Nat.le_of_ble_eq_true rfl) (Nat.zero_le _) (Nat.zero_le _) dX12_laysWay_32 (c_X12_hasWay h) (fun r4 m5 h => ?_)
    refine v_if_eq 45 dX12_laysWay_35 (by decide) (fun hc => ?_) (fun hc => ?_)
    · replace h := Eq.mp (if_pos hc) h
      refine v_iconst (-1 : Int32) dX12_laysWay_45 (by decide) ?_
      refine v_sub [0] rfl ?_
      exact v_X12_laysWay_p46 h
    · replace h := Eq.mp (if_neg hc) h
      refine v_aload_n 0 0 dX12_laysWay_38 rfl rfl ?_
      refine v_gI 12 44 dX12_laysWay_39 fg_RX12_427 o6 ?_
      refine v_goto 46 dX12_laysWay_42 (by decide) ?_
      refine v_sub [0] rfl ?_
      exact v_X12_laysWay_p46 h
  · replace h := Eq.mp (if_neg hc) h
    refine v_aload_n 0 0 dX12_laysWay_18 rfl rfl ?_
    obtain ⟨o7, h⟩ := h
    obtain ⟨b8, e9, h⟩ := h
    refine v_gR 12 65 dX12_laysWay_19 fg_RX12_149 o7 e9 ?_
    refine v_iload_n 2 1 dX12_laysWay_22 rfl rfl ?_
    refine v_iconst (-1 : Int32) dX12_laysWay_23 (by decide) ?_
    obtain ⟨i10, h⟩ := h
    refine v_iast dX12_laysWay_24 i10 ?_
    replace h := bnd_e h
    refine v_iinc (ls' := [(2, .int _), (0, .ref _)]) 2 1 dX12_laysWay_25 rfl (congrArg (HAdd.hAdd _) (by decide : Int32.ofInt (1) = (1 : Int32))) (Nat.le_of_ble_eq_true rfl) rfl ?_
    refine v_goto 12 dX12_laysWay_28 (by decide) ?_
    refine v_sub [1, 0] rfl ?_
    exact hK12 _ _ h
set_option maxHeartbeats 4000000 in
set_option maxRecDepth 100000 in
theorem v_X12_laysWay_p12 {G : Gl} {F : Fr} {sh : Shp} {v0 : Nat} {v2 : Int32} {Q : Mem → Prop} {m : Mem} (h : X12_laysWay_p12 sh v0 Q v2 m) : V G F M_X12_laysWay sh 0 0 (Zv G F sh Q) 12 [(0, .ref (G.1 + v0)), (2, .int v2)] [] m := by
  obtain ⟨n, h⟩ := h
  induction n generalizing v2 m with
  | zero => exact h.elim
  | succ n ih => exact v_X12_laysWay_p12b (fun _ _ h => ih h) h
set_option maxHeartbeats 4000000 in
set_option maxRecDepth 100000 in
theorem c_X12_laysWay {l : Launch} {G : Gl} {sh : Shp} {v0 : Nat} {v1 : Int32} {Q : Mem → Prop} {m : Mem} (h : wp_X12_laysWay sh v0 v1 Q m) : Cnv l G yX12_laysWay cX12_laysWay 3 (none : Option FieldType) 8 221 sh [.ref (G.1 + v0), .int v1] m Q := by
  refine con_v (ls := [(0, .ref (G.1 + v0)), (1, .int v1)]) (by decide +kernel) rfl (Nat.le_of_ble_eq_true rfl) (fun F => ?_)
  show V G F M_X12_laysWay sh 0 0 (Zv G F sh Q) 0 [(0, .ref (G.1 + v0)), (1, .int v1)] [] m
  unfold wp_X12_laysWay at h
  refine v_aload_n 0 0 dX12_laysWay_0 rfl rfl ?_
  refine v_iload_n 1 1 dX12_laysWay_1 rfl rfl ?_
  obtain ⟨o1, h⟩ := h
  refine v_pI 12 59 dX12_laysWay_2 fw_RX12_506 o1 ?_
  replace h := bnd_e h
  refine v_aload_n 0 0 dX12_laysWay_5 rfl rfl ?_
  refine v_iconst (0 : Int32) dX12_laysWay_6 (by decide) ?_
  refine v_pI 12 64 dX12_laysWay_7 fw_RX12_497 o1 ?_
  replace h := bnd_e h
  refine v_iconst (0 : Int32) dX12_laysWay_10 (by decide) ?_
  refine v_istore_n (ls' := [(2, .int _), (0, .ref _), (1, .int _)]) 2 dX12_laysWay_11 rfl (Nat.le_of_ble_eq_true rfl) rfl ?_
  refine v_sub [1, 0] rfl ?_
  exact v_X12_laysWay_p12 h
/-! CalledRiverModel.laysSteps -/
theorem dX12_laysSteps_0 : decode cX12_laysSteps 0 = .ok (.aload_n 0, 1) := by decide +kernel
theorem dX12_laysSteps_1 : decode cX12_laysSteps 1 = .ok (.iload_n 1, 1) := by decide +kernel
theorem dX12_laysSteps_2 : decode cX12_laysSteps 2 = .ok (.invokevirtual 521, 3) := by decide +kernel
theorem dX12_laysSteps_5 : decode cX12_laysSteps 5 = .ok (.iconst 0, 1) := by decide +kernel
theorem dX12_laysSteps_6 : decode cX12_laysSteps 6 = .ok (.istore_n 2, 1) := by decide +kernel
theorem dX12_laysSteps_7 : decode cX12_laysSteps 7 = .ok (.iload_n 2, 1) := by decide +kernel
theorem dX12_laysSteps_8 : decode cX12_laysSteps 8 = .ok (.aload_n 0, 1) := by decide +kernel
theorem dX12_laysSteps_9 : decode cX12_laysSteps 9 = .ok (.invokevirtual 436, 3) := by decide +kernel
theorem dX12_laysSteps_12 : decode cX12_laysSteps 12 = .ok (.if_icmp .ge 30, 3) := by decide +kernel
theorem dX12_laysSteps_15 : decode cX12_laysSteps 15 = .ok (.aload_n 0, 1) := by decide +kernel
theorem dX12_laysSteps_16 : decode cX12_laysSteps 16 = .ok (.getfield 152, 3) := by decide +kernel
theorem dX12_laysSteps_19 : decode cX12_laysSteps 19 = .ok (.bipush 6, 2) := by decide +kernel
theorem dX12_laysSteps_21 : decode cX12_laysSteps 21 = .ok (.iload_n 1, 1) := by decide +kernel
theorem dX12_laysSteps_22 : decode cX12_laysSteps 22 = .ok (.imul, 1) := by decide +kernel
theorem dX12_laysSteps_23 : decode cX12_laysSteps 23 = .ok (.iload_n 2, 1) := by decide +kernel
theorem dX12_laysSteps_24 : decode cX12_laysSteps 24 = .ok (.iadd, 1) := by decide +kernel
theorem dX12_laysSteps_25 : decode cX12_laysSteps 25 = .ok (.aload_n 0, 1) := by decide +kernel
theorem dX12_laysSteps_26 : decode cX12_laysSteps 26 = .ok (.getfield 149, 3) := by decide +kernel
theorem dX12_laysSteps_29 : decode cX12_laysSteps 29 = .ok (.aload_n 0, 1) := by decide +kernel
theorem dX12_laysSteps_30 : decode cX12_laysSteps 30 = .ok (.iload_n 2, 1) := by decide +kernel
theorem dX12_laysSteps_31 : decode cX12_laysSteps 31 = .ok (.invokevirtual 442, 3) := by decide +kernel
theorem dX12_laysSteps_34 : decode cX12_laysSteps 34 = .ok (.iaload, 1) := by decide +kernel
theorem dX12_laysSteps_35 : decode cX12_laysSteps 35 = .ok (.iastore, 1) := by decide +kernel
theorem dX12_laysSteps_36 : decode cX12_laysSteps 36 = .ok (.iinc 2 1, 3) := by decide +kernel
theorem dX12_laysSteps_39 : decode cX12_laysSteps 39 = .ok (.goto (-32), 3) := by decide +kernel
theorem dX12_laysSteps_42 : decode cX12_laysSteps 42 = .ok (.return_, 1) := by decide +kernel
def X12_laysSteps_p7b (sh : Shp) (v0 : Nat) (v1 : Int32) (Q : Mem → Prop) (K7 : Int32 → Mem → Prop) (v2 : Int32) (m : Mem) : Prop :=
  Ob sh v0 12 ∧ wp_X12_farmMany sh v0 (fun r4 m5 => if r4 ≤ v2 then (Q m5) else (∃ b7 : Nat, m5.2.2 v0 66 = some b7 ∧ (∃ b9 : Nat, m5.2.2 v0 65 = some b9 ∧ (wp_X12_cellOf sh v0 v2 (fun r11 m12 => Ix sh b9 100 r11 ∧ (Ix sh b7 100 (((6 : Int32) * v1) + v2) ∧ bnd (sI m12 b7 (((6 : Int32) * v1) + v2).toNatClampNeg (m12.1 b9 r11.toNatClampNeg)) (fun m15 => K7 (v2 + (1 : Int32)) m15))) m5)))) m
def X12_laysSteps_p7n (sh : Shp) (v0 : Nat) (v1 : Int32) (Q : Mem → Prop) : Nat → Int32 → Mem → Prop
  | 0 => fun _ _ => False
  | n + 1 => X12_laysSteps_p7b sh v0 v1 Q (X12_laysSteps_p7n sh v0 v1 Q n)
def X12_laysSteps_p7 (sh : Shp) (v0 : Nat) (v1 : Int32) (Q : Mem → Prop) (v2 : Int32) (m : Mem) : Prop := ∃ n, X12_laysSteps_p7n sh v0 v1 Q n v2 m
def wp_X12_laysSteps (sh : Shp) (v0 : Nat) (v1 : Int32) (Q : Mem → Prop) (m : Mem) : Prop :=
  Ob sh v0 12 ∧ wp_X12_laysWay sh v0 v1 (fun m2 => X12_laysSteps_p7 sh v0 v1 Q (0 : Int32) m2) m
abbrev M_X12_laysSteps : Mi := (cX12_laysSteps, 3, RX12, (none : Option FieldType), "laysSteps", 9, 243, 0, 0)
set_option maxHeartbeats 4000000 in
set_option maxRecDepth 100000 in
theorem v_X12_laysSteps_p7b {G : Gl} {F : Fr} {sh : Shp} {v0 : Nat} {v1 : Int32} {v2 : Int32} {Q : Mem → Prop} {K7 : Int32 → Mem → Prop} {m : Mem} (hK7 : ∀ (x2 : Int32) (m : Mem), K7 x2 m → V G F M_X12_laysSteps sh 0 0 (Zv G F sh Q) 7 [(0, .ref (G.1 + v0)), (1, .int v1), (2, .int x2)] [] m) (h : X12_laysSteps_p7b sh v0 v1 Q K7 v2 m) : V G F M_X12_laysSteps sh 0 0 (Zv G F sh Q) 7 [(0, .ref (G.1 + v0)), (1, .int v1), (2, .int v2)] [] m := by
  unfold X12_laysSteps_p7b at h
  refine v_iload_n 2 2 dX12_laysSteps_7 rfl rfl ?_
  refine v_aload_n 0 0 dX12_laysSteps_8 rfl rfl ?_
  obtain ⟨o6, h⟩ := h
  refine v_cVi [] mv_X12_farmMany ml_RX12_436 ⟨_, _, rfl⟩ o6 rfl rfl (Nat.le_of_ble_eq_true rfl) (Nat.le_of_ble_eq_true rfl) (Nat.le_of_ble_eq_true rfl) (Nat.zero_le _) (Nat.zero_le _) dX12_laysSteps_9 (c_X12_farmMany h) (fun r4 m5 h => ?_)
  refine v_icmp_ge 42 dX12_laysSteps_12 (by decide) (fun hc => ?_) (fun hc => ?_)
  · replace h := Eq.mp (if_pos hc) h
    exact v_vret dX12_laysSteps_42 rfl h
  · replace h := Eq.mp (if_neg hc) h
    refine v_aload_n 0 0 dX12_laysSteps_15 rfl rfl ?_
    obtain ⟨b7, e8, h⟩ := h
    refine v_gR 12 66 dX12_laysSteps_16 fg_RX12_152 o6 e8 ?_
    refine v_bipush (6 : Int32) dX12_laysSteps_19 (by decide) ?_
    refine v_iload_n 1 1 dX12_laysSteps_21 rfl rfl ?_
    refine v_imul dX12_laysSteps_22 ?_
    refine v_iload_n 2 2 dX12_laysSteps_23 rfl rfl ?_
    refine v_iadd dX12_laysSteps_24 ?_
    refine v_aload_n 0 0 dX12_laysSteps_25 rfl rfl ?_
    obtain ⟨b9, e10, h⟩ := h
    refine v_gR 12 65 dX12_laysSteps_26 fg_RX12_149 o6 e10 ?_
    refine v_aload_n 0 0 dX12_laysSteps_29 rfl rfl ?_
    refine v_iload_n 2 2 dX12_laysSteps_30 rfl rfl ?_
    refine v_cVi [.int _] mv_X12_cellOf ml_RX12_442 ⟨_, _, rfl⟩ o6 rfl rfl (Nat.le_of_ble_eq_true rfl) (Nat.le_of_ble_eq_true rfl) (Nat.le_of_ble_eq_true rfl) (Nat.zero_le _) (Nat.zero_le _) dX12_laysSteps_31 (c_X12_cellOf h) (fun r11 m12 h => ?_)
    obtain ⟨i13, h⟩ := h
    refine v_iald dX12_laysSteps_34 i13 ?_
    obtain ⟨i14, h⟩ := h
    refine v_iast dX12_laysSteps_35 i14 ?_
    replace h := bnd_e h
    refine v_iinc (ls' := [(2, .int _), (0, .ref _), (1, .int _)]) 2 2 dX12_laysSteps_36 rfl (congrArg (HAdd.hAdd _) (by decide : Int32.ofInt (1) = (1 : Int32))) (Nat.le_of_ble_eq_true rfl) rfl ?_
    refine v_goto 7 dX12_laysSteps_39 (by decide) ?_
    refine v_sub [1, 2, 0] rfl ?_
    exact hK7 _ _ h
set_option maxHeartbeats 4000000 in
set_option maxRecDepth 100000 in
theorem v_X12_laysSteps_p7 {G : Gl} {F : Fr} {sh : Shp} {v0 : Nat} {v1 : Int32} {v2 : Int32} {Q : Mem → Prop} {m : Mem} (h : X12_laysSteps_p7 sh v0 v1 Q v2 m) : V G F M_X12_laysSteps sh 0 0 (Zv G F sh Q) 7 [(0, .ref (G.1 + v0)), (1, .int v1), (2, .int v2)] [] m := by
  obtain ⟨n, h⟩ := h
  induction n generalizing v2 m with
  | zero => exact h.elim
  | succ n ih => exact v_X12_laysSteps_p7b (fun _ _ h => ih h) h
set_option maxHeartbeats 4000000 in
set_option maxRecDepth 100000 in
theorem c_X12_laysSteps {l : Launch} {G : Gl} {sh : Shp} {v0 : Nat} {v1 : Int32} {Q : Mem → Prop} {m : Mem} (h : wp_X12_laysSteps sh v0 v1 Q m) : Cnv l G yX12_laysSteps cX12_laysSteps 3 (none : Option FieldType) 9 243 sh [.ref (G.1 + v0), .int v1] m Q := by
  refine con_v (ls := [(0, .ref (G.1 + v0)), (1, .int v1)]) (by decide +kernel) rfl (Nat.le_of_ble_eq_true rfl) (fun F => ?_)
  show V G F M_X12_laysSteps sh 0 0 (Zv G F sh Q) 0 [(0, .ref (G.1 + v0)), (1, .int v1)] [] m
  unfold wp_X12_laysSteps at h
  refine v_aload_n 0 0 dX12_laysSteps_0 rfl rfl ?_
  refine v_iload_n 1 1 dX12_laysSteps_1 rfl rfl ?_
  obtain ⟨o3, h⟩ := h
  refine v_cVv [.int _] mv_X12_laysWay ml_RX12_521 ⟨_, _, rfl⟩ o3 rfl rfl (Nat.le_of_ble_eq_true rfl) (Nat.le_of_ble_eq_true rfl) (Nat.le_of_ble_eq_true rfl) (Nat.zero_le _) (Nat.zero_le _) dX12_laysSteps_2 (c_X12_laysWay h) (fun m2 h => ?_)
  refine v_iconst (0 : Int32) dX12_laysSteps_5 (by decide) ?_
  refine v_istore_n (ls' := [(2, .int _), (0, .ref _), (1, .int _)]) 2 dX12_laysSteps_6 rfl (Nat.le_of_ble_eq_true rfl) rfl ?_
  refine v_sub [1, 2, 0] rfl ?_
  exact v_X12_laysSteps_p7 h
/-! CalledRiverModel.number -/
theorem dX12_number_0 : decode cX12_number 0 = .ok (.aload_n 0, 1) := by decide +kernel
theorem dX12_number_1 : decode cX12_number 1 = .ok (.getfield 285, 3) := by decide +kernel
theorem dX12_number_4 : decode cX12_number 4 = .ok (.ifCond .eq 5, 3) := by decide +kernel
theorem dX12_number_7 : decode cX12_number 7 = .ok (.iconst 0, 1) := by decide +kernel
theorem dX12_number_8 : decode cX12_number 8 = .ok (.ireturn, 1) := by decide +kernel
theorem dX12_number_9 : decode cX12_number 9 = .ok (.aload_n 0, 1) := by decide +kernel
theorem dX12_number_10 : decode cX12_number 10 = .ok (.invokevirtual 297, 3) := by decide +kernel
theorem dX12_number_13 : decode cX12_number 13 = .ok (.invokestatic 322, 3) := by decide +kernel
theorem dX12_number_16 : decode cX12_number 16 = .ok (.ifCond .eq 14, 3) := by decide +kernel
theorem dX12_number_19 : decode cX12_number 19 = .ok (.aload_n 0, 1) := by decide +kernel
theorem dX12_number_20 : decode cX12_number 20 = .ok (.getfield 291, 3) := by decide +kernel
theorem dX12_number_23 : decode cX12_number 23 = .ok (.aload_n 0, 1) := by decide +kernel
theorem dX12_number_24 : decode cX12_number 24 = .ok (.getfield 305, 3) := by decide +kernel
theorem dX12_number_27 : decode cX12_number 27 = .ok (.if_icmp .ne 14, 3) := by decide +kernel
theorem dX12_number_30 : decode cX12_number 30 = .ok (.aload_n 0, 1) := by decide +kernel
theorem dX12_number_31 : decode cX12_number 31 = .ok (.iconst 1, 1) := by decide +kernel
theorem dX12_number_32 : decode cX12_number 32 = .ok (.aload_n 0, 1) := by decide +kernel
theorem dX12_number_33 : decode cX12_number 33 = .ok (.getfield 291, 3) := by decide +kernel
theorem dX12_number_36 : decode cX12_number 36 = .ok (.invokevirtual 315, 3) := by decide +kernel
theorem dX12_number_39 : decode cX12_number 39 = .ok (.iconst 0, 1) := by decide +kernel
theorem dX12_number_40 : decode cX12_number 40 = .ok (.ireturn, 1) := by decide +kernel
theorem dX12_number_41 : decode cX12_number 41 = .ok (.aload_n 0, 1) := by decide +kernel
theorem dX12_number_42 : decode cX12_number 42 = .ok (.getfield 291, 3) := by decide +kernel
theorem dX12_number_45 : decode cX12_number 45 = .ok (.istore_n 3, 1) := by decide +kernel
theorem dX12_number_46 : decode cX12_number 46 = .ok (.iconst 0, 1) := by decide +kernel
theorem dX12_number_47 : decode cX12_number 47 = .ok (.istore 4, 2) := by decide +kernel
theorem dX12_number_49 : decode cX12_number 49 = .ok (.aload_n 0, 1) := by decide +kernel
theorem dX12_number_50 : decode cX12_number 50 = .ok (.getfield 291, 3) := by decide +kernel
theorem dX12_number_53 : decode cX12_number 53 = .ok (.aload_n 0, 1) := by decide +kernel
theorem dX12_number_54 : decode cX12_number 54 = .ok (.getfield 294, 3) := by decide +kernel
theorem dX12_number_57 : decode cX12_number 57 = .ok (.if_icmp .ge 72, 3) := by decide +kernel
theorem dX12_number_60 : decode cX12_number 60 = .ok (.aload_n 0, 1) := by decide +kernel
theorem dX12_number_61 : decode cX12_number 61 = .ok (.getfield 7, 3) := by decide +kernel
theorem dX12_number_64 : decode cX12_number 64 = .ok (.aload_n 0, 1) := by decide +kernel
theorem dX12_number_65 : decode cX12_number 65 = .ok (.getfield 291, 3) := by decide +kernel
theorem dX12_number_68 : decode cX12_number 68 = .ok (.iaload, 1) := by decide +kernel
theorem dX12_number_69 : decode cX12_number 69 = .ok (.invokestatic 322, 3) := by decide +kernel
theorem dX12_number_72 : decode cX12_number 72 = .ok (.ifCond .eq 57, 3) := by decide +kernel
theorem dX12_number_75 : decode cX12_number 75 = .ok (.aload_n 0, 1) := by decide +kernel
theorem dX12_number_76 : decode cX12_number 76 = .ok (.getfield 291, 3) := by decide +kernel
theorem dX12_number_79 : decode cX12_number 79 = .ok (.iload_n 3, 1) := by decide +kernel
theorem dX12_number_80 : decode cX12_number 80 = .ok (.isub, 1) := by decide +kernel
theorem dX12_number_81 : decode cX12_number 81 = .ok (.iconst 4, 1) := by decide +kernel
theorem dX12_number_82 : decode cX12_number 82 = .ok (.if_icmp .ne 14, 3) := by decide +kernel
theorem dX12_number_85 : decode cX12_number 85 = .ok (.aload_n 0, 1) := by decide +kernel
theorem dX12_number_86 : decode cX12_number 86 = .ok (.iconst 1, 1) := by decide +kernel
theorem dX12_number_87 : decode cX12_number 87 = .ok (.aload_n 0, 1) := by decide +kernel
theorem dX12_number_88 : decode cX12_number 88 = .ok (.getfield 291, 3) := by decide +kernel
theorem dX12_number_91 : decode cX12_number 91 = .ok (.invokevirtual 315, 3) := by decide +kernel
theorem dX12_number_94 : decode cX12_number 94 = .ok (.iconst 0, 1) := by decide +kernel
theorem dX12_number_95 : decode cX12_number 95 = .ok (.ireturn, 1) := by decide +kernel
theorem dX12_number_96 : decode cX12_number 96 = .ok (.bipush 10, 2) := by decide +kernel
theorem dX12_number_98 : decode cX12_number 98 = .ok (.iload 4, 2) := by decide +kernel
theorem dX12_number_100 : decode cX12_number 100 = .ok (.imul, 1) := by decide +kernel
theorem dX12_number_101 : decode cX12_number 101 = .ok (.aload_n 0, 1) := by decide +kernel
theorem dX12_number_102 : decode cX12_number 102 = .ok (.getfield 7, 3) := by decide +kernel
theorem dX12_number_105 : decode cX12_number 105 = .ok (.aload_n 0, 1) := by decide +kernel
theorem dX12_number_106 : decode cX12_number 106 = .ok (.getfield 291, 3) := by decide +kernel
theorem dX12_number_109 : decode cX12_number 109 = .ok (.iaload, 1) := by decide +kernel
theorem dX12_number_110 : decode cX12_number 110 = .ok (.iadd, 1) := by decide +kernel
theorem dX12_number_111 : decode cX12_number 111 = .ok (.bipush 48, 2) := by decide +kernel
theorem dX12_number_113 : decode cX12_number 113 = .ok (.isub, 1) := by decide +kernel
theorem dX12_number_114 : decode cX12_number 114 = .ok (.istore 4, 2) := by decide +kernel
theorem dX12_number_116 : decode cX12_number 116 = .ok (.aload_n 0, 1) := by decide +kernel
theorem dX12_number_117 : decode cX12_number 117 = .ok (.dup, 1) := by decide +kernel
theorem dX12_number_118 : decode cX12_number 118 = .ok (.getfield 291, 3) := by decide +kernel
theorem dX12_number_121 : decode cX12_number 121 = .ok (.iconst 1, 1) := by decide +kernel
theorem dX12_number_122 : decode cX12_number 122 = .ok (.iadd, 1) := by decide +kernel
theorem dX12_number_123 : decode cX12_number 123 = .ok (.putfield 291, 3) := by decide +kernel
theorem dX12_number_126 : decode cX12_number 126 = .ok (.goto (-77), 3) := by decide +kernel
theorem dX12_number_129 : decode cX12_number 129 = .ok (.aload_n 0, 1) := by decide +kernel
theorem dX12_number_130 : decode cX12_number 130 = .ok (.aload_n 0, 1) := by decide +kernel
theorem dX12_number_131 : decode cX12_number 131 = .ok (.getfield 291, 3) := by decide +kernel
theorem dX12_number_134 : decode cX12_number 134 = .ok (.putfield 305, 3) := by decide +kernel
theorem dX12_number_137 : decode cX12_number 137 = .ok (.aload_n 0, 1) := by decide +kernel
theorem dX12_number_138 : decode cX12_number 138 = .ok (.iload_n 3, 1) := by decide +kernel
theorem dX12_number_139 : decode cX12_number 139 = .ok (.putfield 325, 3) := by decide +kernel
theorem dX12_number_142 : decode cX12_number 142 = .ok (.iload 4, 2) := by decide +kernel
theorem dX12_number_144 : decode cX12_number 144 = .ok (.i2l, 1) := by decide +kernel
theorem dX12_number_145 : decode cX12_number 145 = .ok (.iload_n 1, 1) := by decide +kernel
theorem dX12_number_146 : decode cX12_number 146 = .ok (.i2l, 1) := by decide +kernel
theorem dX12_number_147 : decode cX12_number 147 = .ok (.iload_n 2, 1) := by decide +kernel
theorem dX12_number_148 : decode cX12_number 148 = .ok (.i2l, 1) := by decide +kernel
theorem dX12_number_149 : decode cX12_number 149 = .ok (.invokestatic 328, 3) := by decide +kernel
theorem dX12_number_152 : decode cX12_number 152 = .ok (.ifCond .ne 9, 3) := by decide +kernel
theorem dX12_number_155 : decode cX12_number 155 = .ok (.aload_n 0, 1) := by decide +kernel
theorem dX12_number_156 : decode cX12_number 156 = .ok (.iconst 2, 1) := by decide +kernel
theorem dX12_number_157 : decode cX12_number 157 = .ok (.iload_n 3, 1) := by decide +kernel
theorem dX12_number_158 : decode cX12_number 158 = .ok (.invokevirtual 315, 3) := by decide +kernel
theorem dX12_number_161 : decode cX12_number 161 = .ok (.iload 4, 2) := by decide +kernel
theorem dX12_number_163 : decode cX12_number 163 = .ok (.ireturn, 1) := by decide +kernel
def X12_number_p30 (sh : Shp) (v0 : Nat) (Q : Int32 → Mem → Prop) (m : Mem) : Prop :=
  Ob sh v0 12 ∧ (wp_X12_fail sh v0 (1 : Int32) (m.1 v0 2) (fun m8 => Q (0 : Int32) m8) m)
def X12_number_p129 (sh : Shp) (v0 : Nat) (v1 : Int32) (v2 : Int32) (v3 : Int32) (v4 : Int32) (Q : Int32 → Mem → Prop) (m : Mem) : Prop :=
  Ob sh v0 12 ∧ (bnd (sI m v0 4 (m.1 v0 2)) (fun m22 => bnd (sI m22 v0 10 v3) (fun m23 => wp_X12_isIn sh v4.toInt64 v1.toInt64 v2.toInt64 (fun r24 m25 => if r24 = 0 then (wp_X12_fail sh v0 (2 : Int32) v3 (fun m27 => Q v4 m27) m25) else (Q v4 m25)) m23)))
def X12_number_p49b (sh : Shp) (v0 : Nat) (v1 : Int32) (v2 : Int32) (v3 : Int32) (Q : Int32 → Mem → Prop) (K49 : Int32 → Mem → Prop) (v4 : Int32) (m : Mem) : Prop :=
  Ob sh v0 12 ∧ (if (m.1 v0 3) ≤ (m.1 v0 2) then (X12_number_p129 sh v0 v1 v2 v3 v4 Q m) else (∃ b10 : Nat, m.2.2 v0 0 = some b10 ∧ (Ix sh b10 100 (m.1 v0 2) ∧ (wp_X12_isDigit sh (m.1 b10 (m.1 v0 2).toNatClampNeg) (fun r13 m14 => if r13 = 0 then (X12_number_p129 sh v0 v1 v2 v3 v4 Q m14) else (if ((m14.1 v0 2) - v3) = (4 : Int32) then (wp_X12_fail sh v0 (1 : Int32) (m14.1 v0 2) (fun m20 => Q (0 : Int32) m20) m14) else (∃ b15 : Nat, m14.2.2 v0 0 = some b15 ∧ (Ix sh b15 100 (m14.1 v0 2) ∧ (bnd (sI m14 v0 2 ((m14.1 v0 2) + (1 : Int32))) (fun m18 => K49 ((((10 : Int32) * v4) + (m14.1 b15 (m14.1 v0 2).toNatClampNeg)) - (48 : Int32)) m18)))))) m))))
def X12_number_p49n (sh : Shp) (v0 : Nat) (v1 : Int32) (v2 : Int32) (v3 : Int32) (Q : Int32 → Mem → Prop) : Nat → Int32 → Mem → Prop
  | 0 => fun _ _ => False
  | n + 1 => X12_number_p49b sh v0 v1 v2 v3 Q (X12_number_p49n sh v0 v1 v2 v3 Q n)
def X12_number_p49 (sh : Shp) (v0 : Nat) (v1 : Int32) (v2 : Int32) (v3 : Int32) (Q : Int32 → Mem → Prop) (v4 : Int32) (m : Mem) : Prop := ∃ n, X12_number_p49n sh v0 v1 v2 v3 Q n v4 m
def wp_X12_number (sh : Shp) (v0 : Nat) (v1 : Int32) (v2 : Int32) (Q : Int32 → Mem → Prop) (m : Mem) : Prop :=
  Ob sh v0 12 ∧ (if (m.1 v0 5) = 0 then (wp_X12_look sh v0 (fun r2 m3 => wp_X12_isDigit sh r2 (fun r4 m5 => if r4 = 0 then (X12_number_p30 sh v0 Q m5) else (if (m5.1 v0 2) = (m5.1 v0 4) then (X12_number_p30 sh v0 Q m5) else (X12_number_p49 sh v0 v1 v2 (m5.1 v0 2) Q (0 : Int32) m5))) m3) m) else (Q (0 : Int32) m))
abbrev M_X12_number : Mi := (cX12_number, 5, RX12, (Option.some FieldType.int), "number", 2, 85, 0, 0)
set_option maxHeartbeats 4000000 in
set_option maxRecDepth 100000 in
theorem v_X12_number_p30 {G : Gl} {F : Fr} {sh : Shp} {v0 : Nat} {Q : Int32 → Mem → Prop} {m : Mem} (h : X12_number_p30 sh v0 Q m) : V G F M_X12_number sh 0 0 (Zi G F sh Q) 30 [(0, .ref (G.1 + v0))] [] m := by
  unfold X12_number_p30 at h
  refine v_aload_n 0 0 dX12_number_30 rfl rfl ?_
  refine v_iconst (1 : Int32) dX12_number_31 (by decide) ?_
  refine v_aload_n 0 0 dX12_number_32 rfl rfl ?_
  obtain ⟨o6, h⟩ := h
  refine v_gI 12 2 dX12_number_33 fg_RX12_291 o6 ?_
  refine v_cVv [.int _, .int _] mv_X12_fail ml_RX12_315 ⟨_, _, rfl⟩ o6 rfl rfl (Nat.le_of_ble_eq_true rfl) (Nat.le_of_ble_eq_true rfl) (Nat.le_of_ble_eq_true rfl) (Nat.zero_le _) (Nat.zero_le _) dX12_number_36 (c_X12_fail h) (fun m8 h => ?_)
  refine v_iconst (0 : Int32) dX12_number_39 (by decide) ?_
  exact v_iret dX12_number_40 rfl rfl h
set_option maxHeartbeats 4000000 in
set_option maxRecDepth 100000 in
theorem v_X12_number_p129 {G : Gl} {F : Fr} {sh : Shp} {v0 : Nat} {v1 : Int32} {v2 : Int32} {v3 : Int32} {v4 : Int32} {Q : Int32 → Mem → Prop} {m : Mem} (h : X12_number_p129 sh v0 v1 v2 v3 v4 Q m) : V G F M_X12_number sh 0 0 (Zi G F sh Q) 129 [(0, .ref (G.1 + v0)), (1, .int v1), (2, .int v2), (3, .int v3), (4, .int v4)] [] m := by
  unfold X12_number_p129 at h
  refine v_aload_n 0 0 dX12_number_129 rfl rfl ?_
  refine v_aload_n 0 0 dX12_number_130 rfl rfl ?_
  obtain ⟨o21, h⟩ := h
  refine v_gI 12 2 dX12_number_131 fg_RX12_291 o21 ?_
  refine v_pI 12 4 dX12_number_134 fw_RX12_305 o21 ?_
  replace h := bnd_e h
  refine v_aload_n 0 0 dX12_number_137 rfl rfl ?_
  refine v_iload_n 3 3 dX12_number_138 rfl rfl ?_
  refine v_pI 12 10 dX12_number_139 fw_RX12_325 o21 ?_
  replace h := bnd_e h
  refine v_iload 4 4 dX12_number_142 rfl ?_
  refine v_i2l dX12_number_144 ?_
  refine v_iload_n 1 1 dX12_number_145 rfl rfl ?_
  refine v_i2l dX12_number_146 ?_
  refine v_iload_n 2 2 dX12_number_147 rfl rfl ?_
  refine v_i2l dX12_number_148 ?_
  refine v_cSi [.long _, .long _, .long _] mv_X12_isIn ml_RX12_328 rfl rfl (Nat.le_of_ble_eq_true rfl) (Nat.le_of_ble_eq_true rfl) (Nat.le_of_ble_eq_true rfl) (Nat.zero_le _) (Nat.zero_le _) dX12_number_149 (c_X12_isIn h) (fun r24 m25 h => ?_)
  refine v_if_ne 161 dX12_number_152 (by decide) (fun hc => ?_) (fun hc => ?_)
  · replace h := Eq.mp (if_neg hc) h
    refine v_iload 4 4 dX12_number_161 rfl ?_
    exact v_iret dX12_number_163 rfl rfl h
  · replace h := Eq.mp (if_pos hc) h
    refine v_aload_n 0 0 dX12_number_155 rfl rfl ?_
    refine v_iconst (2 : Int32) dX12_number_156 (by decide) ?_
    refine v_iload_n 3 3 dX12_number_157 rfl rfl ?_
    refine v_cVv [.int _, .int _] mv_X12_fail ml_RX12_315 ⟨_, _, rfl⟩ o21 rfl rfl (Nat.le_of_ble_eq_true rfl) (Nat.le_of_ble_eq_true rfl) (Nat.le_of_ble_eq_true rfl) (Nat.zero_le _) (Nat.zero_le _) dX12_number_158 (c_X12_fail h) (fun m27 h => ?_)
    refine v_iload 4 4 dX12_number_161 rfl ?_
    exact v_iret dX12_number_163 rfl rfl h
set_option maxHeartbeats 4000000 in
set_option maxRecDepth 100000 in
theorem v_X12_number_p49b {G : Gl} {F : Fr} {sh : Shp} {v0 : Nat} {v1 : Int32} {v2 : Int32} {v3 : Int32} {v4 : Int32} {Q : Int32 → Mem → Prop} {K49 : Int32 → Mem → Prop} {m : Mem} (hK49 : ∀ (x4 : Int32) (m : Mem), K49 x4 m → V G F M_X12_number sh 0 0 (Zi G F sh Q) 49 [(0, .ref (G.1 + v0)), (1, .int v1), (2, .int v2), (3, .int v3), (4, .int x4)] [] m) (h : X12_number_p49b sh v0 v1 v2 v3 Q K49 v4 m) : V G F M_X12_number sh 0 0 (Zi G F sh Q) 49 [(0, .ref (G.1 + v0)), (1, .int v1), (2, .int v2), (3, .int v3), (4, .int v4)] [] m := by
  unfold X12_number_p49b at h
  refine v_aload_n 0 0 dX12_number_49 rfl rfl ?_
  obtain ⟨o9, h⟩ := h
  refine v_gI 12 2 dX12_number_50 fg_RX12_291 o9 ?_
  refine v_aload_n 0 0 dX12_number_53 rfl rfl ?_
  refine v_gI 12 3 dX12_number_54 fg_RX12_294 o9 ?_
  refine v_icmp_ge 129 dX12_number_57 (by decide) (fun hc => ?_) (fun hc => ?_)
  · replace h := Eq.mp (if_pos hc) h
    refine v_sub [0, 1, 2, 3, 4] rfl ?_
    exact v_X12_number_p129 h
  · replace h := Eq.mp (if_neg hc) h
    refine v_aload_n 0 0 dX12_number_60 rfl rfl ?_
    obtain ⟨b10, e11, h⟩ := h
    refine v_gR 12 0 dX12_number_61 fg_RX12_7 o9 e11 ?_
    refine v_aload_n 0 0 dX12_number_64 rfl rfl ?_
    refine v_gI 12 2 dX12_number_65 fg_RX12_291 o9 ?_
    obtain ⟨i12, h⟩ := h
    refine v_iald dX12_number_68 i12 ?_
    refine v_cSi [.int _] mv_X12_isDigit ml_RX12_322 rfl rfl (Nat.le_of_ble_eq_true rfl) (Nat.le_of_ble_eq_true rfl) (Nat.le_of_ble_eq_true rfl) (Nat.zero_le _) (Nat.zero_le _) dX12_number_69 (c_X12_isDigit h) (fun r13 m14 h => ?_)
    refine v_if_eq 129 dX12_number_72 (by decide) (fun hc => ?_) (fun hc => ?_)
    · replace h := Eq.mp (if_pos hc) h
      refine v_sub [0, 1, 2, 3, 4] rfl ?_
      exact v_X12_number_p129 h
    · replace h := Eq.mp (if_neg hc) h
      refine v_aload_n 0 0 dX12_number_75 rfl rfl ?_
      refine v_gI 12 2 dX12_number_76 fg_RX12_291 o9 ?_
      refine v_iload_n 3 3 dX12_number_79 rfl rfl ?_
      refine v_isub dX12_number_80 ?_
      refine v_iconst (4 : Int32) dX12_number_81 (by decide) ?_
      refine v_icmp_ne 96 dX12_number_82 (by decide) (fun hc => ?_) (fun hc => ?_)
      · replace h := Eq.mp (if_neg hc) h
        refine v_bipush (10 : Int32) dX12_number_96 (by decide) ?_
        refine v_iload 4 4 dX12_number_98 rfl ?_
        refine v_imul dX12_number_100 ?_
        refine v_aload_n 0 0 dX12_number_101 rfl rfl ?_
        obtain ⟨b15, e16, h⟩ := h
        refine v_gR 12 0 dX12_number_102 fg_RX12_7 o9 e16 ?_
        refine v_aload_n 0 0 dX12_number_105 rfl rfl ?_
        refine v_gI 12 2 dX12_number_106 fg_RX12_291 o9 ?_
        obtain ⟨i17, h⟩ := h
        refine v_iald dX12_number_109 i17 ?_
        refine v_iadd dX12_number_110 ?_
        refine v_bipush (48 : Int32) dX12_number_111 (by decide) ?_
        refine v_isub dX12_number_113 ?_
        refine v_istore (ls' := [(4, .int _), (0, .ref _), (1, .int _), (2, .int _), (3, .int _)]) 4 dX12_number_114 (Nat.le_of_ble_eq_true rfl) rfl ?_
        refine v_aload_n 0 1 dX12_number_116 rfl rfl ?_
        refine v_dup dX12_number_117 rfl ?_
        refine v_gI 12 2 dX12_number_118 fg_RX12_291 o9 ?_
        refine v_iconst (1 : Int32) dX12_number_121 (by decide) ?_
        refine v_iadd dX12_number_122 ?_
        refine v_pI 12 2 dX12_number_123 fw_RX12_291 o9 ?_
        replace h := bnd_e h
        refine v_goto 49 dX12_number_126 (by decide) ?_
        refine v_sub [1, 2, 3, 4, 0] rfl ?_
        exact hK49 _ _ h
      · replace h := Eq.mp (if_pos hc) h
        refine v_aload_n 0 0 dX12_number_85 rfl rfl ?_
        refine v_iconst (1 : Int32) dX12_number_86 (by decide) ?_
        refine v_aload_n 0 0 dX12_number_87 rfl rfl ?_
        refine v_gI 12 2 dX12_number_88 fg_RX12_291 o9 ?_
        refine v_cVv [.int _, .int _] mv_X12_fail ml_RX12_315 ⟨_, _, rfl⟩ o9 rfl rfl (Nat.le_of_ble_eq_true rfl) (Nat.le_of_ble_eq_true rfl) (Nat.le_of_ble_eq_true rfl) (Nat.zero_le _) (Nat.zero_le _) dX12_number_91 (c_X12_fail h) (fun m20 h => ?_)
        refine v_iconst (0 : Int32) dX12_number_94 (by decide) ?_
        exact v_iret dX12_number_95 rfl rfl h
set_option maxHeartbeats 4000000 in
set_option maxRecDepth 100000 in
theorem v_X12_number_p49 {G : Gl} {F : Fr} {sh : Shp} {v0 : Nat} {v1 : Int32} {v2 : Int32} {v3 : Int32} {v4 : Int32} {Q : Int32 → Mem → Prop} {m : Mem} (h : X12_number_p49 sh v0 v1 v2 v3 Q v4 m) : V G F M_X12_number sh 0 0 (Zi G F sh Q) 49 [(0, .ref (G.1 + v0)), (1, .int v1), (2, .int v2), (3, .int v3), (4, .int v4)] [] m := by
  obtain ⟨n, h⟩ := h
  induction n generalizing v4 m with
  | zero => exact h.elim
  | succ n ih => exact v_X12_number_p49b (fun _ _ h => ih h) h
set_option maxHeartbeats 4000000 in
set_option maxRecDepth 100000 in
theorem c_X12_number {l : Launch} {G : Gl} {sh : Shp} {v0 : Nat} {v1 : Int32} {v2 : Int32} {Q : Int32 → Mem → Prop} {m : Mem} (h : wp_X12_number sh v0 v1 v2 Q m) : Cni l G yX12_number cX12_number 5 (Option.some FieldType.int) 2 85 sh [.ref (G.1 + v0), .int v1, .int v2] m Q := by
  refine con_i (ls := [(0, .ref (G.1 + v0)), (1, .int v1), (2, .int v2)]) (by decide +kernel) rfl (Nat.le_of_ble_eq_true rfl) (fun F => ?_)
  show V G F M_X12_number sh 0 0 (Zi G F sh Q) 0 [(0, .ref (G.1 + v0)), (1, .int v1), (2, .int v2)] [] m
  unfold wp_X12_number at h
  refine v_aload_n 0 0 dX12_number_0 rfl rfl ?_
  obtain ⟨o1, h⟩ := h
  refine v_gI 12 5 dX12_number_1 fg_RX12_285 o1 ?_
  refine v_if_eq 9 dX12_number_4 (by decide) (fun hc => ?_) (fun hc => ?_)
  · replace h := Eq.mp (if_pos hc) h
    refine v_aload_n 0 0 dX12_number_9 rfl rfl ?_
    refine v_cVi [] mv_X12_look ml_RX12_297 ⟨_, _, rfl⟩ o1 rfl rfl (Nat.le_of_ble_eq_true rfl) (Nat.le_of_ble_eq_true rfl) (Nat.le_of_ble_eq_true rfl) (Nat.zero_le _) (Nat.zero_le _) dX12_number_10 (c_X12_look h) (fun r2 m3 h => ?_)
    refine v_cSi [.int _] mv_X12_isDigit ml_RX12_322 rfl rfl (Nat.le_of_ble_eq_true rfl) (Nat.le_of_ble_eq_true rfl) (Nat.le_of_ble_eq_true rfl) (Nat.zero_le _) (Nat.zero_le _) dX12_number_13 (c_X12_isDigit h) (fun r4 m5 h => ?_)
    refine v_if_eq 30 dX12_number_16 (by decide) (fun hc => ?_) (fun hc => ?_)
    · replace h := Eq.mp (if_pos hc) h
      refine v_sub [0] rfl ?_
      exact v_X12_number_p30 h
    · replace h := Eq.mp (if_neg hc) h
      refine v_aload_n 0 0 dX12_number_19 rfl rfl ?_
      refine v_gI 12 2 dX12_number_20 fg_RX12_291 o1 ?_
      refine v_aload_n 0 0 dX12_number_23 rfl rfl ?_
      refine v_gI 12 4 dX12_number_24 fg_RX12_305 o1 ?_
      refine v_icmp_ne 41 dX12_number_27 (by decide) (fun hc => ?_) (fun hc => ?_)
      · replace h := Eq.mp (if_neg hc) h
        refine v_aload_n 0 0 dX12_number_41 rfl rfl ?_
        refine v_gI 12 2 dX12_number_42 fg_RX12_291 o1 ?_
        refine v_istore_n (ls' := [(3, .int _), (0, .ref _), (1, .int _), (2, .int _)]) 3 dX12_number_45 rfl (Nat.le_of_ble_eq_true rfl) rfl ?_
        refine v_iconst (0 : Int32) dX12_number_46 (by decide) ?_
        refine v_istore (ls' := [(4, .int _), (3, .int _), (0, .ref _), (1, .int _), (2, .int _)]) 4 dX12_number_47 (Nat.le_of_ble_eq_true rfl) rfl ?_
        refine v_sub [2, 3, 4, 1, 0] rfl ?_
        exact v_X12_number_p49 h
      · replace h := Eq.mp (if_pos hc) h
        refine v_sub [0] rfl ?_
        exact v_X12_number_p30 h
  · replace h := Eq.mp (if_neg hc) h
    refine v_iconst (0 : Int32) dX12_number_7 (by decide) ?_
    exact v_iret dX12_number_8 rfl rfl h
/-! CalledRiverModel.qAsksWord -/
theorem dX12_qAsksWord_0 : decode cX12_qAsksWord 0 = .ok (.iload_n 1, 1) := by decide +kernel
theorem dX12_qAsksWord_1 : decode cX12_qAsksWord 1 = .ok (.tableswitch 225 0 13 #[71, 82, 93, 104, 115, 126, 137, 148, 159, 170, 181, 192, 203, 214], 71) := by decide +kernel
theorem dX12_qAsksWord_72 : decode cX12_qAsksWord 72 = .ok (.aload_n 0, 1) := by decide +kernel
theorem dX12_qAsksWord_73 : decode cX12_qAsksWord 73 = .ok (.aload_n 0, 1) := by decide +kernel
theorem dX12_qAsksWord_74 : decode cX12_qAsksWord 74 = .ok (.getfield 225, 3) := by decide +kernel
theorem dX12_qAsksWord_77 : decode cX12_qAsksWord 77 = .ok (.invokevirtual 350, 3) := by decide +kernel
theorem dX12_qAsksWord_80 : decode cX12_qAsksWord 80 = .ok (.goto 154, 3) := by decide +kernel
theorem dX12_qAsksWord_83 : decode cX12_qAsksWord 83 = .ok (.aload_n 0, 1) := by decide +kernel
theorem dX12_qAsksWord_84 : decode cX12_qAsksWord 84 = .ok (.aload_n 0, 1) := by decide +kernel
theorem dX12_qAsksWord_85 : decode cX12_qAsksWord 85 = .ok (.getfield 228, 3) := by decide +kernel
theorem dX12_qAsksWord_88 : decode cX12_qAsksWord 88 = .ok (.invokevirtual 350, 3) := by decide +kernel
theorem dX12_qAsksWord_91 : decode cX12_qAsksWord 91 = .ok (.goto 143, 3) := by decide +kernel
theorem dX12_qAsksWord_94 : decode cX12_qAsksWord 94 = .ok (.aload_n 0, 1) := by decide +kernel
theorem dX12_qAsksWord_95 : decode cX12_qAsksWord 95 = .ok (.aload_n 0, 1) := by decide +kernel
theorem dX12_qAsksWord_96 : decode cX12_qAsksWord 96 = .ok (.getfield 231, 3) := by decide +kernel
theorem dX12_qAsksWord_99 : decode cX12_qAsksWord 99 = .ok (.invokevirtual 350, 3) := by decide +kernel
theorem dX12_qAsksWord_102 : decode cX12_qAsksWord 102 = .ok (.goto 132, 3) := by decide +kernel
theorem dX12_qAsksWord_105 : decode cX12_qAsksWord 105 = .ok (.aload_n 0, 1) := by decide +kernel
theorem dX12_qAsksWord_106 : decode cX12_qAsksWord 106 = .ok (.aload_n 0, 1) := by decide +kernel
theorem dX12_qAsksWord_107 : decode cX12_qAsksWord 107 = .ok (.getfield 234, 3) := by decide +kernel
theorem dX12_qAsksWord_110 : decode cX12_qAsksWord 110 = .ok (.invokevirtual 350, 3) := by decide +kernel
theorem dX12_qAsksWord_113 : decode cX12_qAsksWord 113 = .ok (.goto 121, 3) := by decide +kernel
theorem dX12_qAsksWord_116 : decode cX12_qAsksWord 116 = .ok (.aload_n 0, 1) := by decide +kernel
theorem dX12_qAsksWord_117 : decode cX12_qAsksWord 117 = .ok (.aload_n 0, 1) := by decide +kernel
theorem dX12_qAsksWord_118 : decode cX12_qAsksWord 118 = .ok (.getfield 237, 3) := by decide +kernel
theorem dX12_qAsksWord_121 : decode cX12_qAsksWord 121 = .ok (.invokevirtual 350, 3) := by decide +kernel
theorem dX12_qAsksWord_124 : decode cX12_qAsksWord 124 = .ok (.goto 110, 3) := by decide +kernel
theorem dX12_qAsksWord_127 : decode cX12_qAsksWord 127 = .ok (.aload_n 0, 1) := by decide +kernel
theorem dX12_qAsksWord_128 : decode cX12_qAsksWord 128 = .ok (.aload_n 0, 1) := by decide +kernel
theorem dX12_qAsksWord_129 : decode cX12_qAsksWord 129 = .ok (.getfield 240, 3) := by decide +kernel
theorem dX12_qAsksWord_132 : decode cX12_qAsksWord 132 = .ok (.invokevirtual 350, 3) := by decide +kernel
theorem dX12_qAsksWord_135 : decode cX12_qAsksWord 135 = .ok (.goto 99, 3) := by decide +kernel
theorem dX12_qAsksWord_138 : decode cX12_qAsksWord 138 = .ok (.aload_n 0, 1) := by decide +kernel
theorem dX12_qAsksWord_139 : decode cX12_qAsksWord 139 = .ok (.aload_n 0, 1) := by decide +kernel
theorem dX12_qAsksWord_140 : decode cX12_qAsksWord 140 = .ok (.getfield 243, 3) := by decide +kernel
theorem dX12_qAsksWord_143 : decode cX12_qAsksWord 143 = .ok (.invokevirtual 350, 3) := by decide +kernel
theorem dX12_qAsksWord_146 : decode cX12_qAsksWord 146 = .ok (.goto 88, 3) := by decide +kernel
theorem dX12_qAsksWord_149 : decode cX12_qAsksWord 149 = .ok (.aload_n 0, 1) := by decide +kernel
theorem dX12_qAsksWord_150 : decode cX12_qAsksWord 150 = .ok (.aload_n 0, 1) := by decide +kernel
theorem dX12_qAsksWord_151 : decode cX12_qAsksWord 151 = .ok (.getfield 246, 3) := by decide +kernel
theorem dX12_qAsksWord_154 : decode cX12_qAsksWord 154 = .ok (.invokevirtual 350, 3) := by decide +kernel
theorem dX12_qAsksWord_157 : decode cX12_qAsksWord 157 = .ok (.goto 77, 3) := by decide +kernel
theorem dX12_qAsksWord_160 : decode cX12_qAsksWord 160 = .ok (.aload_n 0, 1) := by decide +kernel
theorem dX12_qAsksWord_161 : decode cX12_qAsksWord 161 = .ok (.aload_n 0, 1) := by decide +kernel
theorem dX12_qAsksWord_162 : decode cX12_qAsksWord 162 = .ok (.getfield 249, 3) := by decide +kernel
theorem dX12_qAsksWord_165 : decode cX12_qAsksWord 165 = .ok (.invokevirtual 350, 3) := by decide +kernel
theorem dX12_qAsksWord_168 : decode cX12_qAsksWord 168 = .ok (.goto 66, 3) := by decide +kernel
theorem dX12_qAsksWord_171 : decode cX12_qAsksWord 171 = .ok (.aload_n 0, 1) := by decide +kernel
theorem dX12_qAsksWord_172 : decode cX12_qAsksWord 172 = .ok (.aload_n 0, 1) := by decide +kernel
theorem dX12_qAsksWord_173 : decode cX12_qAsksWord 173 = .ok (.getfield 252, 3) := by decide +kernel
theorem dX12_qAsksWord_176 : decode cX12_qAsksWord 176 = .ok (.invokevirtual 350, 3) := by decide +kernel
theorem dX12_qAsksWord_179 : decode cX12_qAsksWord 179 = .ok (.goto 55, 3) := by decide +kernel
theorem dX12_qAsksWord_182 : decode cX12_qAsksWord 182 = .ok (.aload_n 0, 1) := by decide +kernel
theorem dX12_qAsksWord_183 : decode cX12_qAsksWord 183 = .ok (.aload_n 0, 1) := by decide +kernel
theorem dX12_qAsksWord_184 : decode cX12_qAsksWord 184 = .ok (.getfield 255, 3) := by decide +kernel
theorem dX12_qAsksWord_187 : decode cX12_qAsksWord 187 = .ok (.invokevirtual 350, 3) := by decide +kernel
theorem dX12_qAsksWord_190 : decode cX12_qAsksWord 190 = .ok (.goto 44, 3) := by decide +kernel
theorem dX12_qAsksWord_193 : decode cX12_qAsksWord 193 = .ok (.aload_n 0, 1) := by decide +kernel
theorem dX12_qAsksWord_194 : decode cX12_qAsksWord 194 = .ok (.aload_n 0, 1) := by decide +kernel
theorem dX12_qAsksWord_195 : decode cX12_qAsksWord 195 = .ok (.getfield 258, 3) := by decide +kernel
theorem dX12_qAsksWord_198 : decode cX12_qAsksWord 198 = .ok (.invokevirtual 350, 3) := by decide +kernel
theorem dX12_qAsksWord_201 : decode cX12_qAsksWord 201 = .ok (.goto 33, 3) := by decide +kernel
theorem dX12_qAsksWord_204 : decode cX12_qAsksWord 204 = .ok (.aload_n 0, 1) := by decide +kernel
theorem dX12_qAsksWord_205 : decode cX12_qAsksWord 205 = .ok (.aload_n 0, 1) := by decide +kernel
theorem dX12_qAsksWord_206 : decode cX12_qAsksWord 206 = .ok (.getfield 261, 3) := by decide +kernel
theorem dX12_qAsksWord_209 : decode cX12_qAsksWord 209 = .ok (.invokevirtual 350, 3) := by decide +kernel
theorem dX12_qAsksWord_212 : decode cX12_qAsksWord 212 = .ok (.goto 22, 3) := by decide +kernel
theorem dX12_qAsksWord_215 : decode cX12_qAsksWord 215 = .ok (.aload_n 0, 1) := by decide +kernel
theorem dX12_qAsksWord_216 : decode cX12_qAsksWord 216 = .ok (.aload_n 0, 1) := by decide +kernel
theorem dX12_qAsksWord_217 : decode cX12_qAsksWord 217 = .ok (.getfield 264, 3) := by decide +kernel
theorem dX12_qAsksWord_220 : decode cX12_qAsksWord 220 = .ok (.invokevirtual 350, 3) := by decide +kernel
theorem dX12_qAsksWord_223 : decode cX12_qAsksWord 223 = .ok (.goto 11, 3) := by decide +kernel
theorem dX12_qAsksWord_226 : decode cX12_qAsksWord 226 = .ok (.aload_n 0, 1) := by decide +kernel
theorem dX12_qAsksWord_227 : decode cX12_qAsksWord 227 = .ok (.aload_n 0, 1) := by decide +kernel
theorem dX12_qAsksWord_228 : decode cX12_qAsksWord 228 = .ok (.getfield 267, 3) := by decide +kernel
theorem dX12_qAsksWord_231 : decode cX12_qAsksWord 231 = .ok (.invokevirtual 350, 3) := by decide +kernel
theorem dX12_qAsksWord_234 : decode cX12_qAsksWord 234 = .ok (.return_, 1) := by decide +kernel
def wp_X12_qAsksWord (sh : Shp) (v0 : Nat) (v1 : Int32) (Q : Mem → Prop) (m : Mem) : Prop :=
  if v1 = (0 : Int32) then (Ob sh v0 12 ∧ ∃ b2 : Nat, m.2.2 v0 93 = some b2 ∧ (wp_X12_asks sh v0 b2 (fun m5 => Q m5) m)) else if v1 = (1 : Int32) then (Ob sh v0 12 ∧ ∃ b7 : Nat, m.2.2 v0 94 = some b7 ∧ (wp_X12_asks sh v0 b7 (fun m10 => Q m10) m)) else if v1 = (2 : Int32) then (Ob sh v0 12 ∧ ∃ b12 : Nat, m.2.2 v0 95 = some b12 ∧ (wp_X12_asks sh v0 b12 (fun m15 => Q m15) m)) else if v1 = (3 : Int32) then (Ob sh v0 12 ∧ ∃ b17 : Nat, m.2.2 v0 96 = some b17 ∧ (wp_X12_asks sh v0 b17 (fun m20 => Q m20) m)) else if v1 = (4 : Int32) then (Ob sh v0 12 ∧ ∃ b22 : Nat, m.2.2 v0 97 = some b22 ∧ (wp_X12_asks sh v0 b22 (fun m25 => Q m25) m)) else if v1 = (5 : Int32) then (Ob sh v0 12 ∧ ∃ b27 : Nat, m.2.2 v0 98 = some b27 ∧ (wp_X12_asks sh v0 b27 (fun m30 => Q m30) m)) else if v1 = (6 : Int32) then (Ob sh v0 12 ∧ ∃ b32 : Nat, m.2.2 v0 99 = some b32 ∧ (wp_X12_asks sh v0 b32 (fun m35 => Q m35) m)) else if v1 = (7 : Int32) then (Ob sh v0 12 ∧ ∃ b37 : Nat, m.2.2 v0 100 = some b37 ∧ (wp_X12_asks sh v0 b37 (fun m40 => Q m40) m)) else if v1 = (8 : Int32) then (Ob sh v0 12 ∧ ∃ b42 : Nat, m.2.2 v0 101 = some b42 ∧ (wp_X12_asks sh v0 b42 (fun m45 => Q m45) m)) else if v1 = (9 : Int32) then (Ob sh v0 12 ∧ ∃ b47 : Nat, m.2.2 v0 102 = some b47 ∧ (wp_X12_asks sh v0 b47 (fun m50 => Q m50) m)) else if v1 = (10 : Int32) then (Ob sh v0 12 ∧ ∃ b52 : Nat, m.2.2 v0 103 = some b52 ∧ (wp_X12_asks sh v0 b52 (fun m55 => Q m55) m)) else if v1 = (11 : Int32) then (Ob sh v0 12 ∧ ∃ b57 : Nat, m.2.2 v0 104 = some b57 ∧ (wp_X12_asks sh v0 b57 (fun m60 => Q m60) m)) else if v1 = (12 : Int32) then (Ob sh v0 12 ∧ ∃ b62 : Nat, m.2.2 v0 105 = some b62 ∧ (wp_X12_asks sh v0 b62 (fun m65 => Q m65) m)) else if v1 = (13 : Int32) then (Ob sh v0 12 ∧ ∃ b67 : Nat, m.2.2 v0 106 = some b67 ∧ (wp_X12_asks sh v0 b67 (fun m70 => Q m70) m)) else (Ob sh v0 12 ∧ ∃ b72 : Nat, m.2.2 v0 107 = some b72 ∧ (wp_X12_asks sh v0 b72 (fun m75 => Q m75) m))
abbrev M_X12_qAsksWord : Mi := (cX12_qAsksWord, 2, RX12, (none : Option FieldType), "qAsksWord", 5, 145, 0, 0)
set_option maxHeartbeats 4000000 in
set_option maxRecDepth 100000 in
theorem c_X12_qAsksWord {l : Launch} {G : Gl} {sh : Shp} {v0 : Nat} {v1 : Int32} {Q : Mem → Prop} {m : Mem} (h : wp_X12_qAsksWord sh v0 v1 Q m) : Cnv l G yX12_qAsksWord cX12_qAsksWord 2 (none : Option FieldType) 5 145 sh [.ref (G.1 + v0), .int v1] m Q := by
  refine con_v (ls := [(0, .ref (G.1 + v0)), (1, .int v1)]) (by decide +kernel) rfl (Nat.le_of_ble_eq_true rfl) (fun F => ?_)
  show V G F M_X12_qAsksWord sh 0 0 (Zv G F sh Q) 0 [(0, .ref (G.1 + v0)), (1, .int v1)] [] m
  unfold wp_X12_qAsksWord at h
  refine v_iload_n 1 1 dX12_qAsksWord_0 rfl rfl ?_
  by_cases hc0 : v1 = (0 : Int32)
  · replace h := Eq.mp (if_pos hc0) h
    refine v_tabK (0 : Int32) hc0 72 dX12_qAsksWord_1 (by decide) (by decide) rfl (by decide) ?_
    refine v_aload_n 0 0 dX12_qAsksWord_72 rfl rfl ?_
    refine v_aload_n 0 0 dX12_qAsksWord_73 rfl rfl ?_
    obtain ⟨o1, h⟩ := h
    obtain ⟨b2, e3, h⟩ := h
    refine v_gR 12 93 dX12_qAsksWord_74 fg_RX12_225 o1 e3 ?_
    refine v_cVv [.ref _] mv_X12_asks ml_RX12_350 ⟨_, _, rfl⟩ o1 rfl rfl (Nat.le_of_ble_eq_true rfl) (Nat.le_of_ble_eq_true rfl) (Nat.le_of_ble_eq_true rfl) (Nat.zero_le _) (Nat.zero_le _) dX12_qAsksWord_77 (c_X12_asks h) (fun m5 h => ?_)
    refine v_goto 234 dX12_qAsksWord_80 (by decide) ?_
    exact v_vret dX12_qAsksWord_234 rfl h
  replace h := Eq.mp (if_neg hc0) h
  by_cases hc1 : v1 = (1 : Int32)
  · replace h := Eq.mp (if_pos hc1) h
    refine v_tabK (1 : Int32) hc1 83 dX12_qAsksWord_1 (by decide) (by decide) rfl (by decide) ?_
    refine v_aload_n 0 0 dX12_qAsksWord_83 rfl rfl ?_
    refine v_aload_n 0 0 dX12_qAsksWord_84 rfl rfl ?_
    obtain ⟨o6, h⟩ := h
    obtain ⟨b7, e8, h⟩ := h
    refine v_gR 12 94 dX12_qAsksWord_85 fg_RX12_228 o6 e8 ?_
    refine v_cVv [.ref _] mv_X12_asks ml_RX12_350 ⟨_, _, rfl⟩ o6 rfl rfl (Nat.le_of_ble_eq_true rfl) (Nat.le_of_ble_eq_true rfl) (Nat.le_of_ble_eq_true rfl) (Nat.zero_le _) (Nat.zero_le _) dX12_qAsksWord_88 (c_X12_asks h) (fun m10 h => ?_)
    refine v_goto 234 dX12_qAsksWord_91 (by decide) ?_
    exact v_vret dX12_qAsksWord_234 rfl h
  replace h := Eq.mp (if_neg hc1) h
  by_cases hc2 : v1 = (2 : Int32)
  · replace h := Eq.mp (if_pos hc2) h
    refine v_tabK (2 : Int32) hc2 94 dX12_qAsksWord_1 (by decide) (by decide) rfl (by decide) ?_
    refine v_aload_n 0 0 dX12_qAsksWord_94 rfl rfl ?_
    refine v_aload_n 0 0 dX12_qAsksWord_95 rfl rfl ?_
    obtain ⟨o11, h⟩ := h
    obtain ⟨b12, e13, h⟩ := h
    refine v_gR 12 95 dX12_qAsksWord_96 fg_RX12_231 o11 e13 ?_
    refine v_cVv [.ref _] mv_X12_asks ml_RX12_350 ⟨_, _, rfl⟩ o11 rfl rfl (Nat.le_of_ble_eq_true rfl) (Nat.le_of_ble_eq_true rfl) (Nat.le_of_ble_eq_true rfl) (Nat.zero_le _) (Nat.zero_le _) dX12_qAsksWord_99 (c_X12_asks h) (fun m15 h => ?_)
    refine v_goto 234 dX12_qAsksWord_102 (by decide) ?_
    exact v_vret dX12_qAsksWord_234 rfl h
  replace h := Eq.mp (if_neg hc2) h
  by_cases hc3 : v1 = (3 : Int32)
  · replace h := Eq.mp (if_pos hc3) h
    refine v_tabK (3 : Int32) hc3 105 dX12_qAsksWord_1 (by decide) (by decide) rfl (by decide) ?_
    refine v_aload_n 0 0 dX12_qAsksWord_105 rfl rfl ?_
    refine v_aload_n 0 0 dX12_qAsksWord_106 rfl rfl ?_
    obtain ⟨o16, h⟩ := h
    obtain ⟨b17, e18, h⟩ := h
    refine v_gR 12 96 dX12_qAsksWord_107 fg_RX12_234 o16 e18 ?_
    refine v_cVv [.ref _] mv_X12_asks ml_RX12_350 ⟨_, _, rfl⟩ o16 rfl rfl (Nat.le_of_ble_eq_true rfl) (Nat.le_of_ble_eq_true rfl) (Nat.le_of_ble_eq_true rfl) (Nat.zero_le _) (Nat.zero_le _) dX12_qAsksWord_110 (c_X12_asks h) (fun m20 h => ?_)
    refine v_goto 234 dX12_qAsksWord_113 (by decide) ?_
    exact v_vret dX12_qAsksWord_234 rfl h
  replace h := Eq.mp (if_neg hc3) h
  by_cases hc4 : v1 = (4 : Int32)
  · replace h := Eq.mp (if_pos hc4) h
    refine v_tabK (4 : Int32) hc4 116 dX12_qAsksWord_1 (by decide) (by decide) rfl (by decide) ?_
    refine v_aload_n 0 0 dX12_qAsksWord_116 rfl rfl ?_
    refine v_aload_n 0 0 dX12_qAsksWord_117 rfl rfl ?_
    obtain ⟨o21, h⟩ := h
    obtain ⟨b22, e23, h⟩ := h
    refine v_gR 12 97 dX12_qAsksWord_118 fg_RX12_237 o21 e23 ?_
    refine v_cVv [.ref _] mv_X12_asks ml_RX12_350 ⟨_, _, rfl⟩ o21 rfl rfl (Nat.le_of_ble_eq_true rfl) (Nat.le_of_ble_eq_true rfl) (Nat.le_of_ble_eq_true rfl) (Nat.zero_le _) (Nat.zero_le _) dX12_qAsksWord_121 (c_X12_asks h) (fun m25 h => ?_)
    refine v_goto 234 dX12_qAsksWord_124 (by decide) ?_
    exact v_vret dX12_qAsksWord_234 rfl h
  replace h := Eq.mp (if_neg hc4) h
  by_cases hc5 : v1 = (5 : Int32)
  · replace h := Eq.mp (if_pos hc5) h
    refine v_tabK (5 : Int32) hc5 127 dX12_qAsksWord_1 (by decide) (by decide) rfl (by decide) ?_
    refine v_aload_n 0 0 dX12_qAsksWord_127 rfl rfl ?_
    refine v_aload_n 0 0 dX12_qAsksWord_128 rfl rfl ?_
    obtain ⟨o26, h⟩ := h
    obtain ⟨b27, e28, h⟩ := h
    refine v_gR 12 98 dX12_qAsksWord_129 fg_RX12_240 o26 e28 ?_
    refine v_cVv [.ref _] mv_X12_asks ml_RX12_350 ⟨_, _, rfl⟩ o26 rfl rfl (Nat.le_of_ble_eq_true rfl) (Nat.le_of_ble_eq_true rfl) (Nat.le_of_ble_eq_true rfl) (Nat.zero_le _) (Nat.zero_le _) dX12_qAsksWord_132 (c_X12_asks h) (fun m30 h => ?_)
    refine v_goto 234 dX12_qAsksWord_135 (by decide) ?_
    exact v_vret dX12_qAsksWord_234 rfl h
  replace h := Eq.mp (if_neg hc5) h
  by_cases hc6 : v1 = (6 : Int32)
  · replace h := Eq.mp (if_pos hc6) h
    refine v_tabK (6 : Int32) hc6 138 dX12_qAsksWord_1 (by decide) (by decide) rfl (by decide) ?_
    refine v_aload_n 0 0 dX12_qAsksWord_138 rfl rfl ?_
    refine v_aload_n 0 0 dX12_qAsksWord_139 rfl rfl ?_
    obtain ⟨o31, h⟩ := h
    obtain ⟨b32, e33, h⟩ := h
    refine v_gR 12 99 dX12_qAsksWord_140 fg_RX12_243 o31 e33 ?_
    refine v_cVv [.ref _] mv_X12_asks ml_RX12_350 ⟨_, _, rfl⟩ o31 rfl rfl (Nat.le_of_ble_eq_true rfl) (Nat.le_of_ble_eq_true rfl) (Nat.le_of_ble_eq_true rfl) (Nat.zero_le _) (Nat.zero_le _) dX12_qAsksWord_143 (c_X12_asks h) (fun m35 h => ?_)
    refine v_goto 234 dX12_qAsksWord_146 (by decide) ?_
    exact v_vret dX12_qAsksWord_234 rfl h
  replace h := Eq.mp (if_neg hc6) h
  by_cases hc7 : v1 = (7 : Int32)
  · replace h := Eq.mp (if_pos hc7) h
    refine v_tabK (7 : Int32) hc7 149 dX12_qAsksWord_1 (by decide) (by decide) rfl (by decide) ?_
    refine v_aload_n 0 0 dX12_qAsksWord_149 rfl rfl ?_
    refine v_aload_n 0 0 dX12_qAsksWord_150 rfl rfl ?_
    obtain ⟨o36, h⟩ := h
    obtain ⟨b37, e38, h⟩ := h
    refine v_gR 12 100 dX12_qAsksWord_151 fg_RX12_246 o36 e38 ?_
    refine v_cVv [.ref _] mv_X12_asks ml_RX12_350 ⟨_, _, rfl⟩ o36 rfl rfl (Nat.le_of_ble_eq_true rfl) (Nat.le_of_ble_eq_true rfl) (Nat.le_of_ble_eq_true rfl) (Nat.zero_le _) (Nat.zero_le _) dX12_qAsksWord_154 (c_X12_asks h) (fun m40 h => ?_)
    refine v_goto 234 dX12_qAsksWord_157 (by decide) ?_
    exact v_vret dX12_qAsksWord_234 rfl h
  replace h := Eq.mp (if_neg hc7) h
  by_cases hc8 : v1 = (8 : Int32)
  · replace h := Eq.mp (if_pos hc8) h
    refine v_tabK (8 : Int32) hc8 160 dX12_qAsksWord_1 (by decide) (by decide) rfl (by decide) ?_
    refine v_aload_n 0 0 dX12_qAsksWord_160 rfl rfl ?_
    refine v_aload_n 0 0 dX12_qAsksWord_161 rfl rfl ?_
    obtain ⟨o41, h⟩ := h
    obtain ⟨b42, e43, h⟩ := h
    refine v_gR 12 101 dX12_qAsksWord_162 fg_RX12_249 o41 e43 ?_
    refine v_cVv [.ref _] mv_X12_asks ml_RX12_350 ⟨_, _, rfl⟩ o41 rfl rfl (Nat.le_of_ble_eq_true rfl) (Nat.le_of_ble_eq_true rfl) (Nat.le_of_ble_eq_true rfl) (Nat.zero_le _) (Nat.zero_le _) dX12_qAsksWord_165 (c_X12_asks h) (fun m45 h => ?_)
    refine v_goto 234 dX12_qAsksWord_168 (by decide) ?_
    exact v_vret dX12_qAsksWord_234 rfl h
  replace h := Eq.mp (if_neg hc8) h
  by_cases hc9 : v1 = (9 : Int32)
  · replace h := Eq.mp (if_pos hc9) h
    refine v_tabK (9 : Int32) hc9 171 dX12_qAsksWord_1 (by decide) (by decide) rfl (by decide) ?_
    refine v_aload_n 0 0 dX12_qAsksWord_171 rfl rfl ?_
    refine v_aload_n 0 0 dX12_qAsksWord_172 rfl rfl ?_
    obtain ⟨o46, h⟩ := h
    obtain ⟨b47, e48, h⟩ := h
    refine v_gR 12 102 dX12_qAsksWord_173 fg_RX12_252 o46 e48 ?_
    refine v_cVv [.ref _] mv_X12_asks ml_RX12_350 ⟨_, _, rfl⟩ o46 rfl rfl (Nat.le_of_ble_eq_true rfl) (Nat.le_of_ble_eq_true rfl) (Nat.le_of_ble_eq_true rfl) (Nat.zero_le _) (Nat.zero_le _) dX12_qAsksWord_176 (c_X12_asks h) (fun m50 h => ?_)
    refine v_goto 234 dX12_qAsksWord_179 (by decide) ?_
    exact v_vret dX12_qAsksWord_234 rfl h
  replace h := Eq.mp (if_neg hc9) h
  by_cases hc10 : v1 = (10 : Int32)
  · replace h := Eq.mp (if_pos hc10) h
    refine v_tabK (10 : Int32) hc10 182 dX12_qAsksWord_1 (by decide) (by decide) rfl (by decide) ?_
    refine v_aload_n 0 0 dX12_qAsksWord_182 rfl rfl ?_
    refine v_aload_n 0 0 dX12_qAsksWord_183 rfl rfl ?_
    obtain ⟨o51, h⟩ := h
    obtain ⟨b52, e53, h⟩ := h
    refine v_gR 12 103 dX12_qAsksWord_184 fg_RX12_255 o51 e53 ?_
    refine v_cVv [.ref _] mv_X12_asks ml_RX12_350 ⟨_, _, rfl⟩ o51 rfl rfl (Nat.le_of_ble_eq_true rfl) (Nat.le_of_ble_eq_true rfl) (Nat.le_of_ble_eq_true rfl) (Nat.zero_le _) (Nat.zero_le _) dX12_qAsksWord_187 (c_X12_asks h) (fun m55 h => ?_)
    refine v_goto 234 dX12_qAsksWord_190 (by decide) ?_
    exact v_vret dX12_qAsksWord_234 rfl h
  replace h := Eq.mp (if_neg hc10) h
  by_cases hc11 : v1 = (11 : Int32)
  · replace h := Eq.mp (if_pos hc11) h
    refine v_tabK (11 : Int32) hc11 193 dX12_qAsksWord_1 (by decide) (by decide) rfl (by decide) ?_
    refine v_aload_n 0 0 dX12_qAsksWord_193 rfl rfl ?_
    refine v_aload_n 0 0 dX12_qAsksWord_194 rfl rfl ?_
    obtain ⟨o56, h⟩ := h
    obtain ⟨b57, e58, h⟩ := h
    refine v_gR 12 104 dX12_qAsksWord_195 fg_RX12_258 o56 e58 ?_
    refine v_cVv [.ref _] mv_X12_asks ml_RX12_350 ⟨_, _, rfl⟩ o56 rfl rfl (Nat.le_of_ble_eq_true rfl) (Nat.le_of_ble_eq_true rfl) (Nat.le_of_ble_eq_true rfl) (Nat.zero_le _) (Nat.zero_le _) dX12_qAsksWord_198 (c_X12_asks h) (fun m60 h => ?_)
    refine v_goto 234 dX12_qAsksWord_201 (by decide) ?_
    exact v_vret dX12_qAsksWord_234 rfl h
  replace h := Eq.mp (if_neg hc11) h
  by_cases hc12 : v1 = (12 : Int32)
  · replace h := Eq.mp (if_pos hc12) h
    refine v_tabK (12 : Int32) hc12 204 dX12_qAsksWord_1 (by decide) (by decide) rfl (by decide) ?_
    refine v_aload_n 0 0 dX12_qAsksWord_204 rfl rfl ?_
    refine v_aload_n 0 0 dX12_qAsksWord_205 rfl rfl ?_
    obtain ⟨o61, h⟩ := h
    obtain ⟨b62, e63, h⟩ := h
    refine v_gR 12 105 dX12_qAsksWord_206 fg_RX12_261 o61 e63 ?_
    refine v_cVv [.ref _] mv_X12_asks ml_RX12_350 ⟨_, _, rfl⟩ o61 rfl rfl (Nat.le_of_ble_eq_true rfl) (Nat.le_of_ble_eq_true rfl) (Nat.le_of_ble_eq_true rfl) (Nat.zero_le _) (Nat.zero_le _) dX12_qAsksWord_209 (c_X12_asks h) (fun m65 h => ?_)
    refine v_goto 234 dX12_qAsksWord_212 (by decide) ?_
    exact v_vret dX12_qAsksWord_234 rfl h
  replace h := Eq.mp (if_neg hc12) h
  by_cases hc13 : v1 = (13 : Int32)
  · replace h := Eq.mp (if_pos hc13) h
    refine v_tabK (13 : Int32) hc13 215 dX12_qAsksWord_1 (by decide) (by decide) rfl (by decide) ?_
    refine v_aload_n 0 0 dX12_qAsksWord_215 rfl rfl ?_
    refine v_aload_n 0 0 dX12_qAsksWord_216 rfl rfl ?_
    obtain ⟨o66, h⟩ := h
    obtain ⟨b67, e68, h⟩ := h
    refine v_gR 12 106 dX12_qAsksWord_217 fg_RX12_264 o66 e68 ?_
    refine v_cVv [.ref _] mv_X12_asks ml_RX12_350 ⟨_, _, rfl⟩ o66 rfl rfl (Nat.le_of_ble_eq_true rfl) (Nat.le_of_ble_eq_true rfl) (Nat.le_of_ble_eq_true rfl) (Nat.zero_le _) (Nat.zero_le _) dX12_qAsksWord_220 (c_X12_asks h) (fun m70 h => ?_)
    refine v_goto 234 dX12_qAsksWord_223 (by decide) ?_
    exact v_vret dX12_qAsksWord_234 rfl h
  replace h := Eq.mp (if_neg hc13) h
  refine v_tabOut 226 dX12_qAsksWord_1 (by have := lv_neT hc0 (a := 0) (by decide); have := lv_neT hc1 (a := 1) (by decide); have := lv_neT hc2 (a := 2) (by decide); have := lv_neT hc3 (a := 3) (by decide); have := lv_neT hc4 (a := 4) (by decide); have := lv_neT hc5 (a := 5) (by decide); have := lv_neT hc6 (a := 6) (by decide); have := lv_neT hc7 (a := 7) (by decide); have := lv_neT hc8 (a := 8) (by decide); have := lv_neT hc9 (a := 9) (by decide); have := lv_neT hc10 (a := 10) (by decide); have := lv_neT hc11 (a := 11) (by decide); have := lv_neT hc12 (a := 12) (by decide); have := lv_neT hc13 (a := 13) (by decide); omega) (by decide) ?_
  refine v_aload_n 0 0 dX12_qAsksWord_226 rfl rfl ?_
  refine v_aload_n 0 0 dX12_qAsksWord_227 rfl rfl ?_
  obtain ⟨o71, h⟩ := h
  obtain ⟨b72, e73, h⟩ := h
  refine v_gR 12 107 dX12_qAsksWord_228 fg_RX12_267 o71 e73 ?_
  refine v_cVv [.ref _] mv_X12_asks ml_RX12_350 ⟨_, _, rfl⟩ o71 rfl rfl (Nat.le_of_ble_eq_true rfl) (Nat.le_of_ble_eq_true rfl) (Nat.le_of_ble_eq_true rfl) (Nat.zero_le _) (Nat.zero_le _) dX12_qAsksWord_231 (c_X12_asks h) (fun m75 h => ?_)
  exact v_vret dX12_qAsksWord_234 rfl h
/-! CalledRiverModel.qIsBracket -/
theorem dX12_qIsBracket_0 : decode cX12_qIsBracket 0 = .ok (.iload_n 0, 1) := by decide +kernel
theorem dX12_qIsBracket_1 : decode cX12_qIsBracket 1 = .ok (.bipush 20, 2) := by decide +kernel
theorem dX12_qIsBracket_3 : decode cX12_qIsBracket 3 = .ok (.if_icmp .lt 13, 3) := by decide +kernel
theorem dX12_qIsBracket_6 : decode cX12_qIsBracket 6 = .ok (.iload_n 0, 1) := by decide +kernel
theorem dX12_qIsBracket_7 : decode cX12_qIsBracket 7 = .ok (.bipush 24, 2) := by decide +kernel
theorem dX12_qIsBracket_9 : decode cX12_qIsBracket 9 = .ok (.if_icmp .gt 7, 3) := by decide +kernel
theorem dX12_qIsBracket_12 : decode cX12_qIsBracket 12 = .ok (.iconst 1, 1) := by decide +kernel
theorem dX12_qIsBracket_13 : decode cX12_qIsBracket 13 = .ok (.goto 4, 3) := by decide +kernel
theorem dX12_qIsBracket_16 : decode cX12_qIsBracket 16 = .ok (.iconst 0, 1) := by decide +kernel
theorem dX12_qIsBracket_17 : decode cX12_qIsBracket 17 = .ok (.ireturn, 1) := by decide +kernel
def wp_X12_qIsBracket (sh : Shp) (v0 : Int32) (Q : Int32 → Mem → Prop) (m : Mem) : Prop :=
  if v0 < (20 : Int32) then (Q (0 : Int32) m) else (if (24 : Int32) < v0 then (Q (0 : Int32) m) else (Q (1 : Int32) m))
abbrev M_X12_qIsBracket : Mi := (cX12_qIsBracket, 1, RX12, (Option.some FieldType.boolean), "qIsBracket", 1, 60, 0, 0)
set_option maxHeartbeats 4000000 in
set_option maxRecDepth 100000 in
theorem c_X12_qIsBracket {l : Launch} {G : Gl} {sh : Shp} {v0 : Int32} {Q : Int32 → Mem → Prop} {m : Mem} (h : wp_X12_qIsBracket sh v0 Q m) : Cni l G yX12_qIsBracket cX12_qIsBracket 1 (Option.some FieldType.boolean) 1 60 sh [.int v0] m Q := by
  refine con_i (ls := [(0, .int v0)]) (by decide +kernel) rfl (Nat.le_of_ble_eq_true rfl) (fun F => ?_)
  show V G F M_X12_qIsBracket sh 0 0 (Zi G F sh Q) 0 [(0, .int v0)] [] m
  unfold wp_X12_qIsBracket at h
  refine v_iload_n 0 0 dX12_qIsBracket_0 rfl rfl ?_
  refine v_bipush (20 : Int32) dX12_qIsBracket_1 (by decide) ?_
  refine v_icmp_lt 16 dX12_qIsBracket_3 (by decide) (fun hc => ?_) (fun hc => ?_)
  · replace h := Eq.mp (if_pos hc) h
    refine v_iconst (0 : Int32) dX12_qIsBracket_16 (by decide) ?_
    exact v_iret dX12_qIsBracket_17 rfl (by decide) h
  · replace h := Eq.mp (if_neg hc) h
    refine v_iload_n 0 0 dX12_qIsBracket_6 rfl rfl ?_
    refine v_bipush (24 : Int32) dX12_qIsBracket_7 (by decide) ?_
    refine v_icmp_gt 16 dX12_qIsBracket_9 (by decide) (fun hc => ?_) (fun hc => ?_)
    · replace h := Eq.mp (if_pos hc) h
      refine v_iconst (0 : Int32) dX12_qIsBracket_16 (by decide) ?_
      exact v_iret dX12_qIsBracket_17 rfl (by decide) h
    · replace h := Eq.mp (if_neg hc) h
      refine v_iconst (1 : Int32) dX12_qIsBracket_12 (by decide) ?_
      refine v_goto 17 dX12_qIsBracket_13 (by decide) ?_
      exact v_iret dX12_qIsBracket_17 rfl (by decide) h
/-! CalledRiverModel.qBracket -/
theorem dX12_qBracket_0 : decode cX12_qBracket 0 = .ok (.aload_n 0, 1) := by decide +kernel
theorem dX12_qBracket_1 : decode cX12_qBracket 1 = .ok (.getfield 375, 3) := by decide +kernel
theorem dX12_qBracket_4 : decode cX12_qBracket 4 = .ok (.iconst 1, 1) := by decide +kernel
theorem dX12_qBracket_5 : decode cX12_qBracket 5 = .ok (.isub, 1) := by decide +kernel
theorem dX12_qBracket_6 : decode cX12_qBracket 6 = .ok (.istore_n 1, 1) := by decide +kernel
theorem dX12_qBracket_7 : decode cX12_qBracket 7 = .ok (.iload_n 1, 1) := by decide +kernel
theorem dX12_qBracket_8 : decode cX12_qBracket 8 = .ok (.aload_n 0, 1) := by decide +kernel
theorem dX12_qBracket_9 : decode cX12_qBracket 9 = .ok (.getfield 381, 3) := by decide +kernel
theorem dX12_qBracket_12 : decode cX12_qBracket 12 = .ok (.if_icmp .lt 21, 3) := by decide +kernel
theorem dX12_qBracket_15 : decode cX12_qBracket 15 = .ok (.aload_n 0, 1) := by decide +kernel
theorem dX12_qBracket_16 : decode cX12_qBracket 16 = .ok (.getfield 273, 3) := by decide +kernel
theorem dX12_qBracket_19 : decode cX12_qBracket 19 = .ok (.iload_n 1, 1) := by decide +kernel
theorem dX12_qBracket_20 : decode cX12_qBracket 20 = .ok (.iaload, 1) := by decide +kernel
theorem dX12_qBracket_21 : decode cX12_qBracket 21 = .ok (.invokestatic 624, 3) := by decide +kernel
theorem dX12_qBracket_24 : decode cX12_qBracket 24 = .ok (.ifCond .ne 9, 3) := by decide +kernel
theorem dX12_qBracket_27 : decode cX12_qBracket 27 = .ok (.iinc 1 (-1), 3) := by decide +kernel
theorem dX12_qBracket_30 : decode cX12_qBracket 30 = .ok (.goto (-23), 3) := by decide +kernel
theorem dX12_qBracket_33 : decode cX12_qBracket 33 = .ok (.iload_n 1, 1) := by decide +kernel
theorem dX12_qBracket_34 : decode cX12_qBracket 34 = .ok (.aload_n 0, 1) := by decide +kernel
theorem dX12_qBracket_35 : decode cX12_qBracket 35 = .ok (.getfield 381, 3) := by decide +kernel
theorem dX12_qBracket_38 : decode cX12_qBracket 38 = .ok (.if_icmp .lt 12, 3) := by decide +kernel
theorem dX12_qBracket_41 : decode cX12_qBracket 41 = .ok (.aload_n 0, 1) := by decide +kernel
theorem dX12_qBracket_42 : decode cX12_qBracket 42 = .ok (.getfield 273, 3) := by decide +kernel
theorem dX12_qBracket_45 : decode cX12_qBracket 45 = .ok (.iload_n 1, 1) := by decide +kernel
theorem dX12_qBracket_46 : decode cX12_qBracket 46 = .ok (.iaload, 1) := by decide +kernel
theorem dX12_qBracket_47 : decode cX12_qBracket 47 = .ok (.goto 4, 3) := by decide +kernel
theorem dX12_qBracket_50 : decode cX12_qBracket 50 = .ok (.iconst (-1), 1) := by decide +kernel
theorem dX12_qBracket_51 : decode cX12_qBracket 51 = .ok (.ireturn, 1) := by decide +kernel
def X12_qBracket_p33 (sh : Shp) (v0 : Nat) (v1 : Int32) (Q : Int32 → Mem → Prop) (m : Mem) : Prop :=
  Ob sh v0 12 ∧ (if v1 < (m.1 v0 113) then (Q (-1 : Int32) m) else (∃ b9 : Nat, m.2.2 v0 110 = some b9 ∧ (Ix sh b9 100 v1 ∧ (Q (m.1 b9 v1.toNatClampNeg) m))))
def X12_qBracket_p7b (sh : Shp) (v0 : Nat) (Q : Int32 → Mem → Prop) (K7 : Int32 → Mem → Prop) (v1 : Int32) (m : Mem) : Prop :=
  Ob sh v0 12 ∧ (if v1 < (m.1 v0 113) then (X12_qBracket_p33 sh v0 v1 Q m) else (∃ b3 : Nat, m.2.2 v0 110 = some b3 ∧ (Ix sh b3 100 v1 ∧ (wp_X12_qIsBracket sh (m.1 b3 v1.toNatClampNeg) (fun r6 m7 => if r6 = 0 then (K7 (v1 + (-1 : Int32)) m7) else (X12_qBracket_p33 sh v0 v1 Q m7)) m))))
def X12_qBracket_p7n (sh : Shp) (v0 : Nat) (Q : Int32 → Mem → Prop) : Nat → Int32 → Mem → Prop
  | 0 => fun _ _ => False
  | n + 1 => X12_qBracket_p7b sh v0 Q (X12_qBracket_p7n sh v0 Q n)
def X12_qBracket_p7 (sh : Shp) (v0 : Nat) (Q : Int32 → Mem → Prop) (v1 : Int32) (m : Mem) : Prop := ∃ n, X12_qBracket_p7n sh v0 Q n v1 m
def wp_X12_qBracket (sh : Shp) (v0 : Nat) (Q : Int32 → Mem → Prop) (m : Mem) : Prop :=
  Ob sh v0 12 ∧ (X12_qBracket_p7 sh v0 Q ((m.1 v0 111) - (1 : Int32)) m)
abbrev M_X12_qBracket : Mi := (cX12_qBracket, 2, RX12, (Option.some FieldType.int), "qBracket", 2, 80, 0, 0)
set_option maxHeartbeats 4000000 in
set_option maxRecDepth 100000 in
theorem v_X12_qBracket_p33 {G : Gl} {F : Fr} {sh : Shp} {v0 : Nat} {v1 : Int32} {Q : Int32 → Mem → Prop} {m : Mem} (h : X12_qBracket_p33 sh v0 v1 Q m) : V G F M_X12_qBracket sh 0 0 (Zi G F sh Q) 33 [(0, .ref (G.1 + v0)), (1, .int v1)] [] m := by
  unfold X12_qBracket_p33 at h
  refine v_iload_n 1 1 dX12_qBracket_33 rfl rfl ?_
  refine v_aload_n 0 0 dX12_qBracket_34 rfl rfl ?_
  obtain ⟨o8, h⟩ := h
  refine v_gI 12 113 dX12_qBracket_35 fg_RX12_381 o8 ?_
  refine v_icmp_lt 50 dX12_qBracket_38 (by decide) (fun hc => ?_) (fun hc => ?_)
  · replace h := Eq.mp (if_pos hc) h
    refine v_iconst (-1 : Int32) dX12_qBracket_50 (by decide) ?_
    exact v_iret dX12_qBracket_51 rfl rfl h
  · replace h := Eq.mp (if_neg hc) h
    refine v_aload_n 0 0 dX12_qBracket_41 rfl rfl ?_
    obtain ⟨b9, e10, h⟩ := h
    refine v_gR 12 110 dX12_qBracket_42 fg_RX12_273 o8 e10 ?_
    refine v_iload_n 1 1 dX12_qBracket_45 rfl rfl ?_
    obtain ⟨i11, h⟩ := h
    refine v_iald dX12_qBracket_46 i11 ?_
    refine v_goto 51 dX12_qBracket_47 (by decide) ?_
    exact v_iret dX12_qBracket_51 rfl rfl h
set_option maxHeartbeats 4000000 in
set_option maxRecDepth 100000 in
theorem v_X12_qBracket_p7b {G : Gl} {F : Fr} {sh : Shp} {v0 : Nat} {v1 : Int32} {Q : Int32 → Mem → Prop} {K7 : Int32 → Mem → Prop} {m : Mem} (hK7 : ∀ (x1 : Int32) (m : Mem), K7 x1 m → V G F M_X12_qBracket sh 0 0 (Zi G F sh Q) 7 [(0, .ref (G.1 + v0)), (1, .int x1)] [] m) (h : X12_qBracket_p7b sh v0 Q K7 v1 m) : V G F M_X12_qBracket sh 0 0 (Zi G F sh Q) 7 [(0, .ref (G.1 + v0)), (1, .int v1)] [] m := by
  unfold X12_qBracket_p7b at h
  refine v_iload_n 1 1 dX12_qBracket_7 rfl rfl ?_
  refine v_aload_n 0 0 dX12_qBracket_8 rfl rfl ?_
  obtain ⟨o2, h⟩ := h
  refine v_gI 12 113 dX12_qBracket_9 fg_RX12_381 o2 ?_
  refine v_icmp_lt 33 dX12_qBracket_12 (by decide) (fun hc => ?_) (fun hc => ?_)
  · replace h := Eq.mp (if_pos hc) h
    refine v_sub [0, 1] rfl ?_
    exact v_X12_qBracket_p33 h
  · replace h := Eq.mp (if_neg hc) h
    refine v_aload_n 0 0 dX12_qBracket_15 rfl rfl ?_
    obtain ⟨b3, e4, h⟩ := h
    refine v_gR 12 110 dX12_qBracket_16 fg_RX12_273 o2 e4 ?_
    refine v_iload_n 1 1 dX12_qBracket_19 rfl rfl ?_
    obtain ⟨i5, h⟩ := h
    refine v_iald dX12_qBracket_20 i5 ?_
    refine v_cSi [.int _] mv_X12_qIsBracket ml_RX12_624 rfl rfl (Nat.le_of_ble_eq_true rfl) (Nat.le_of_ble_eq_true rfl) (Nat.le_of_ble_eq_true rfl) (Nat.zero_le _) (Nat.zero_le _) dX12_qBracket_21 (c_X12_qIsBracket h) (fun r6 m7 h => ?_)
    refine v_if_ne 33 dX12_qBracket_24 (by decide) (fun hc => ?_) (fun hc => ?_)
    · replace h := Eq.mp (if_neg hc) h
      refine v_sub [0, 1] rfl ?_
      exact v_X12_qBracket_p33 h
    · replace h := Eq.mp (if_pos hc) h
      refine v_iinc (ls' := [(1, .int _), (0, .ref _)]) 1 1 dX12_qBracket_27 rfl (congrArg (HAdd.hAdd _) (by decide : Int32.ofInt (-1) = (-1 : Int32))) (Nat.le_of_ble_eq_true rfl) rfl ?_
      refine v_goto 7 dX12_qBracket_30 (by decide) ?_
      refine v_sub [1, 0] rfl ?_
      exact hK7 _ _ h
set_option maxHeartbeats 4000000 in
set_option maxRecDepth 100000 in
theorem v_X12_qBracket_p7 {G : Gl} {F : Fr} {sh : Shp} {v0 : Nat} {v1 : Int32} {Q : Int32 → Mem → Prop} {m : Mem} (h : X12_qBracket_p7 sh v0 Q v1 m) : V G F M_X12_qBracket sh 0 0 (Zi G F sh Q) 7 [(0, .ref (G.1 + v0)), (1, .int v1)] [] m := by
  obtain ⟨n, h⟩ := h
  induction n generalizing v1 m with
  | zero => exact h.elim
  | succ n ih => exact v_X12_qBracket_p7b (fun _ _ h => ih h) h
set_option maxHeartbeats 4000000 in
set_option maxRecDepth 100000 in
theorem c_X12_qBracket {l : Launch} {G : Gl} {sh : Shp} {v0 : Nat} {Q : Int32 → Mem → Prop} {m : Mem} (h : wp_X12_qBracket sh v0 Q m) : Cni l G yX12_qBracket cX12_qBracket 2 (Option.some FieldType.int) 2 80 sh [.ref (G.1 + v0)] m Q := by
  refine con_i (ls := [(0, .ref (G.1 + v0))]) (by decide +kernel) rfl (Nat.le_of_ble_eq_true rfl) (fun F => ?_)
  show V G F M_X12_qBracket sh 0 0 (Zi G F sh Q) 0 [(0, .ref (G.1 + v0))] [] m
  unfold wp_X12_qBracket at h
  refine v_aload_n 0 0 dX12_qBracket_0 rfl rfl ?_
  obtain ⟨o1, h⟩ := h
  refine v_gI 12 111 dX12_qBracket_1 fg_RX12_375 o1 ?_
  refine v_iconst (1 : Int32) dX12_qBracket_4 (by decide) ?_
  refine v_isub dX12_qBracket_5 ?_
  refine v_istore_n (ls' := [(1, .int _), (0, .ref _)]) 1 dX12_qBracket_6 rfl (Nat.le_of_ble_eq_true rfl) rfl ?_
  refine v_sub [1, 0] rfl ?_
  exact v_X12_qBracket_p7 h
/-! CalledRiverModel.qCode -/
theorem dX12_qCode_0 : decode cX12_qCode 0 = .ok (.aload_n 0, 1) := by decide +kernel
theorem dX12_qCode_1 : decode cX12_qCode 1 = .ok (.getfield 270, 3) := by decide +kernel
theorem dX12_qCode_4 : decode cX12_qCode 4 = .ok (.aload_n 0, 1) := by decide +kernel
theorem dX12_qCode_5 : decode cX12_qCode 5 = .ok (.getfield 372, 3) := by decide +kernel
theorem dX12_qCode_8 : decode cX12_qCode 8 = .ok (.iload_n 1, 1) := by decide +kernel
theorem dX12_qCode_9 : decode cX12_qCode 9 = .ok (.iastore, 1) := by decide +kernel
theorem dX12_qCode_10 : decode cX12_qCode 10 = .ok (.aload_n 0, 1) := by decide +kernel
theorem dX12_qCode_11 : decode cX12_qCode 11 = .ok (.dup, 1) := by decide +kernel
theorem dX12_qCode_12 : decode cX12_qCode 12 = .ok (.getfield 372, 3) := by decide +kernel
theorem dX12_qCode_15 : decode cX12_qCode 15 = .ok (.iconst 1, 1) := by decide +kernel
theorem dX12_qCode_16 : decode cX12_qCode 16 = .ok (.iadd, 1) := by decide +kernel
theorem dX12_qCode_17 : decode cX12_qCode 17 = .ok (.putfield 372, 3) := by decide +kernel
theorem dX12_qCode_20 : decode cX12_qCode 20 = .ok (.return_, 1) := by decide +kernel
def wp_X12_qCode (sh : Shp) (v0 : Nat) (v1 : Int32) (Q : Mem → Prop) (m : Mem) : Prop :=
  Ob sh v0 12 ∧ ∃ b2 : Nat, m.2.2 v0 108 = some b2 ∧ (Ix sh b2 100 (m.1 v0 109) ∧ bnd (sI m b2 (m.1 v0 109).toNatClampNeg v1) (fun m5 => bnd (sI m5 v0 109 ((m5.1 v0 109) + (1 : Int32))) (fun m6 => Q m6)))
abbrev M_X12_qCode : Mi := (cX12_qCode, 2, RX12, (none : Option FieldType), "qCode", 1, 60, 0, 0)
set_option maxHeartbeats 4000000 in
set_option maxRecDepth 100000 in
theorem c_X12_qCode {l : Launch} {G : Gl} {sh : Shp} {v0 : Nat} {v1 : Int32} {Q : Mem → Prop} {m : Mem} (h : wp_X12_qCode sh v0 v1 Q m) : Cnv l G yX12_qCode cX12_qCode 2 (none : Option FieldType) 1 60 sh [.ref (G.1 + v0), .int v1] m Q := by
  refine con_v (ls := [(0, .ref (G.1 + v0)), (1, .int v1)]) (by decide +kernel) rfl (Nat.le_of_ble_eq_true rfl) (fun F => ?_)
  show V G F M_X12_qCode sh 0 0 (Zv G F sh Q) 0 [(0, .ref (G.1 + v0)), (1, .int v1)] [] m
  unfold wp_X12_qCode at h
  refine v_aload_n 0 0 dX12_qCode_0 rfl rfl ?_
  obtain ⟨o1, h⟩ := h
  obtain ⟨b2, e3, h⟩ := h
  refine v_gR 12 108 dX12_qCode_1 fg_RX12_270 o1 e3 ?_
  refine v_aload_n 0 0 dX12_qCode_4 rfl rfl ?_
  refine v_gI 12 109 dX12_qCode_5 fg_RX12_372 o1 ?_
  refine v_iload_n 1 1 dX12_qCode_8 rfl rfl ?_
  obtain ⟨i4, h⟩ := h
  refine v_iast dX12_qCode_9 i4 ?_
  replace h := bnd_e h
  refine v_aload_n 0 0 dX12_qCode_10 rfl rfl ?_
  refine v_dup dX12_qCode_11 rfl ?_
  refine v_gI 12 109 dX12_qCode_12 fg_RX12_372 o1 ?_
  refine v_iconst (1 : Int32) dX12_qCode_15 (by decide) ?_
  refine v_iadd dX12_qCode_16 ?_
  refine v_pI 12 109 dX12_qCode_17 fw_RX12_372 o1 ?_
  replace h := bnd_e h
  exact v_vret dX12_qCode_20 rfl h
/-! CalledRiverModel.qDrops -/
theorem dX12_qDrops_0 : decode cX12_qDrops 0 = .ok (.aload_n 0, 1) := by decide +kernel
theorem dX12_qDrops_1 : decode cX12_qDrops 1 = .ok (.dup, 1) := by decide +kernel
theorem dX12_qDrops_2 : decode cX12_qDrops 2 = .ok (.getfield 375, 3) := by decide +kernel
theorem dX12_qDrops_5 : decode cX12_qDrops 5 = .ok (.iconst 1, 1) := by decide +kernel
theorem dX12_qDrops_6 : decode cX12_qDrops 6 = .ok (.isub, 1) := by decide +kernel
theorem dX12_qDrops_7 : decode cX12_qDrops 7 = .ok (.putfield 375, 3) := by decide +kernel
theorem dX12_qDrops_10 : decode cX12_qDrops 10 = .ok (.aload_n 0, 1) := by decide +kernel
theorem dX12_qDrops_11 : decode cX12_qDrops 11 = .ok (.aload_n 0, 1) := by decide +kernel
theorem dX12_qDrops_12 : decode cX12_qDrops 12 = .ok (.getfield 273, 3) := by decide +kernel
theorem dX12_qDrops_15 : decode cX12_qDrops 15 = .ok (.aload_n 0, 1) := by decide +kernel
theorem dX12_qDrops_16 : decode cX12_qDrops 16 = .ok (.getfield 375, 3) := by decide +kernel
theorem dX12_qDrops_19 : decode cX12_qDrops 19 = .ok (.iaload, 1) := by decide +kernel
theorem dX12_qDrops_20 : decode cX12_qDrops 20 = .ok (.invokevirtual 621, 3) := by decide +kernel
theorem dX12_qDrops_23 : decode cX12_qDrops 23 = .ok (.return_, 1) := by decide +kernel
def wp_X12_qDrops (sh : Shp) (v0 : Nat) (Q : Mem → Prop) (m : Mem) : Prop :=
  Ob sh v0 12 ∧ (bnd (sI m v0 111 ((m.1 v0 111) - (1 : Int32))) (fun m2 => ∃ b3 : Nat, m2.2.2 v0 110 = some b3 ∧ (Ix sh b3 100 (m2.1 v0 111) ∧ (wp_X12_qCode sh v0 (m2.1 b3 (m2.1 v0 111).toNatClampNeg) (fun m7 => Q m7) m2))))
abbrev M_X12_qDrops : Mi := (cX12_qDrops, 1, RX12, (none : Option FieldType), "qDrops", 2, 81, 0, 0)
set_option maxHeartbeats 4000000 in
set_option maxRecDepth 100000 in
theorem c_X12_qDrops {l : Launch} {G : Gl} {sh : Shp} {v0 : Nat} {Q : Mem → Prop} {m : Mem} (h : wp_X12_qDrops sh v0 Q m) : Cnv l G yX12_qDrops cX12_qDrops 1 (none : Option FieldType) 2 81 sh [.ref (G.1 + v0)] m Q := by
  refine con_v (ls := [(0, .ref (G.1 + v0))]) (by decide +kernel) rfl (Nat.le_of_ble_eq_true rfl) (fun F => ?_)
  show V G F M_X12_qDrops sh 0 0 (Zv G F sh Q) 0 [(0, .ref (G.1 + v0))] [] m
  unfold wp_X12_qDrops at h
  refine v_aload_n 0 0 dX12_qDrops_0 rfl rfl ?_
  refine v_dup dX12_qDrops_1 rfl ?_
  obtain ⟨o1, h⟩ := h
  refine v_gI 12 111 dX12_qDrops_2 fg_RX12_375 o1 ?_
  refine v_iconst (1 : Int32) dX12_qDrops_5 (by decide) ?_
  refine v_isub dX12_qDrops_6 ?_
  refine v_pI 12 111 dX12_qDrops_7 fw_RX12_375 o1 ?_
  replace h := bnd_e h
  refine v_aload_n 0 0 dX12_qDrops_10 rfl rfl ?_
  refine v_aload_n 0 0 dX12_qDrops_11 rfl rfl ?_
  obtain ⟨b3, e4, h⟩ := h
  refine v_gR 12 110 dX12_qDrops_12 fg_RX12_273 o1 e4 ?_
  refine v_aload_n 0 0 dX12_qDrops_15 rfl rfl ?_
  refine v_gI 12 111 dX12_qDrops_16 fg_RX12_375 o1 ?_
  obtain ⟨i5, h⟩ := h
  refine v_iald dX12_qDrops_19 i5 ?_
  refine v_cVv [.int _] mv_X12_qCode ml_RX12_621 ⟨_, _, rfl⟩ o1 rfl rfl (Nat.le_of_ble_eq_true rfl) (Nat.le_of_ble_eq_true rfl) (Nat.le_of_ble_eq_true rfl) (Nat.zero_le _) (Nat.zero_le _) dX12_qDrops_20 (c_X12_qCode h) (fun m7 h => ?_)
  exact v_vret dX12_qDrops_23 rfl h
/-! CalledRiverModel.qDropsToBracket -/
theorem dX12_qDropsToBracket_0 : decode cX12_qDropsToBracket 0 = .ok (.aload_n 0, 1) := by decide +kernel
theorem dX12_qDropsToBracket_1 : decode cX12_qDropsToBracket 1 = .ok (.getfield 375, 3) := by decide +kernel
theorem dX12_qDropsToBracket_4 : decode cX12_qDropsToBracket 4 = .ok (.aload_n 0, 1) := by decide +kernel
theorem dX12_qDropsToBracket_5 : decode cX12_qDropsToBracket 5 = .ok (.getfield 381, 3) := by decide +kernel
theorem dX12_qDropsToBracket_8 : decode cX12_qDropsToBracket 8 = .ok (.if_icmp .le 27, 3) := by decide +kernel
theorem dX12_qDropsToBracket_11 : decode cX12_qDropsToBracket 11 = .ok (.aload_n 0, 1) := by decide +kernel
theorem dX12_qDropsToBracket_12 : decode cX12_qDropsToBracket 12 = .ok (.getfield 273, 3) := by decide +kernel
theorem dX12_qDropsToBracket_15 : decode cX12_qDropsToBracket 15 = .ok (.aload_n 0, 1) := by decide +kernel
theorem dX12_qDropsToBracket_16 : decode cX12_qDropsToBracket 16 = .ok (.getfield 375, 3) := by decide +kernel
theorem dX12_qDropsToBracket_19 : decode cX12_qDropsToBracket 19 = .ok (.iconst 1, 1) := by decide +kernel
theorem dX12_qDropsToBracket_20 : decode cX12_qDropsToBracket 20 = .ok (.isub, 1) := by decide +kernel
theorem dX12_qDropsToBracket_21 : decode cX12_qDropsToBracket 21 = .ok (.iaload, 1) := by decide +kernel
theorem dX12_qDropsToBracket_22 : decode cX12_qDropsToBracket 22 = .ok (.invokestatic 624, 3) := by decide +kernel
theorem dX12_qDropsToBracket_25 : decode cX12_qDropsToBracket 25 = .ok (.ifCond .ne 10, 3) := by decide +kernel
theorem dX12_qDropsToBracket_28 : decode cX12_qDropsToBracket 28 = .ok (.aload_n 0, 1) := by decide +kernel
theorem dX12_qDropsToBracket_29 : decode cX12_qDropsToBracket 29 = .ok (.invokevirtual 627, 3) := by decide +kernel
theorem dX12_qDropsToBracket_32 : decode cX12_qDropsToBracket 32 = .ok (.goto (-32), 3) := by decide +kernel
theorem dX12_qDropsToBracket_35 : decode cX12_qDropsToBracket 35 = .ok (.return_, 1) := by decide +kernel
def X12_qDropsToBracket_p0b (sh : Shp) (v0 : Nat) (Q : Mem → Prop) (K0 : Mem → Prop) (m : Mem) : Prop :=
  Ob sh v0 12 ∧ (if (m.1 v0 111) ≤ (m.1 v0 113) then (Q m) else (∃ b2 : Nat, m.2.2 v0 110 = some b2 ∧ (Ix sh b2 100 ((m.1 v0 111) - (1 : Int32)) ∧ (wp_X12_qIsBracket sh (m.1 b2 ((m.1 v0 111) - (1 : Int32)).toNatClampNeg) (fun r5 m6 => if r5 = 0 then (wp_X12_qDrops sh v0 (fun m8 => K0 m8) m6) else (Q m6)) m))))
def X12_qDropsToBracket_p0n (sh : Shp) (v0 : Nat) (Q : Mem → Prop) : Nat → Mem → Prop
  | 0 => fun _ => False
  | n + 1 => X12_qDropsToBracket_p0b sh v0 Q (X12_qDropsToBracket_p0n sh v0 Q n)
def X12_qDropsToBracket_p0 (sh : Shp) (v0 : Nat) (Q : Mem → Prop) (m : Mem) : Prop := ∃ n, X12_qDropsToBracket_p0n sh v0 Q n m
def wp_X12_qDropsToBracket (sh : Shp) (v0 : Nat) (Q : Mem → Prop) (m : Mem) : Prop :=
  X12_qDropsToBracket_p0 sh v0 Q m
abbrev M_X12_qDropsToBracket : Mi := (cX12_qDropsToBracket, 1, RX12, (none : Option FieldType), "qDropsToBracket", 3, 101, 0, 0)
set_option maxHeartbeats 4000000 in
set_option maxRecDepth 100000 in
theorem v_X12_qDropsToBracket_p0b {G : Gl} {F : Fr} {sh : Shp} {v0 : Nat} {Q : Mem → Prop} {K0 : Mem → Prop} {m : Mem} (hK0 : ∀ (m : Mem), K0 m → V G F M_X12_qDropsToBracket sh 0 0 (Zv G F sh Q) 0 [(0, .ref (G.1 + v0))] [] m) (h : X12_qDropsToBracket_p0b sh v0 Q K0 m) : V G F M_X12_qDropsToBracket sh 0 0 (Zv G F sh Q) 0 [(0, .ref (G.1 + v0))] [] m := by
  unfold X12_qDropsToBracket_p0b at h
  refine v_aload_n 0 0 dX12_qDropsToBracket_0 rfl rfl ?_
  obtain ⟨o1, h⟩ := h
  refine v_gI 12 111 dX12_qDropsToBracket_1 fg_RX12_375 o1 ?_
  refine v_aload_n 0 0 dX12_qDropsToBracket_4 rfl rfl ?_
  refine v_gI 12 113 dX12_qDropsToBracket_5 fg_RX12_381 o1 ?_
  refine v_icmp_le 35 dX12_qDropsToBracket_8 (by decide) (fun hc => ?_) (fun hc => ?_)
  · replace h := Eq.mp (if_pos hc) h
    exact v_vret dX12_qDropsToBracket_35 rfl h
  · replace h := Eq.mp (if_neg hc) h
    refine v_aload_n 0 0 dX12_qDropsToBracket_11 rfl rfl ?_
    obtain ⟨b2, e3, h⟩ := h
    refine v_gR 12 110 dX12_qDropsToBracket_12 fg_RX12_273 o1 e3 ?_
    refine v_aload_n 0 0 dX12_qDropsToBracket_15 rfl rfl ?_
    refine v_gI 12 111 dX12_qDropsToBracket_16 fg_RX12_375 o1 ?_
    refine v_iconst (1 : Int32) dX12_qDropsToBracket_19 (by decide) ?_
    refine v_isub dX12_qDropsToBracket_20 ?_
    obtain ⟨i4, h⟩ := h
    refine v_iald dX12_qDropsToBracket_21 i4 ?_
    refine v_cSi [.int _] mv_X12_qIsBracket ml_RX12_624 rfl rfl (Nat.le_of_ble_eq_true rfl) (Nat.le_of_ble_eq_true rfl) (Nat.le_of_ble_eq_true rfl) (Nat.zero_le _) (Nat.zero_le _) dX12_qDropsToBracket_22 (c_X12_qIsBracket h) (fun r5 m6 h => ?_)
    refine v_if_ne 35 dX12_qDropsToBracket_25 (by decide) (fun hc => ?_) (fun hc => ?_)
    · replace h := Eq.mp (if_neg hc) h
      exact v_vret dX12_qDropsToBracket_35 rfl h
    · replace h := Eq.mp (if_pos hc) h
      refine v_aload_n 0 0 dX12_qDropsToBracket_28 rfl rfl ?_
      refine v_cVv [] mv_X12_qDrops ml_RX12_627 ⟨_, _, rfl⟩ o1 rfl rfl (Nat.le_of_ble_eq_true rfl) (Nat.le_of_ble_eq_true rfl) (Nat.le_of_ble_eq_true rfl) (Nat.zero_le _) (Nat.zero_le _) dX12_qDropsToBracket_29 (c_X12_qDrops h) (fun m8 h => ?_)
      refine v_goto 0 dX12_qDropsToBracket_32 (by decide) ?_
      refine v_sub [0] rfl ?_
      exact hK0  _ h
set_option maxHeartbeats 4000000 in
set_option maxRecDepth 100000 in
theorem v_X12_qDropsToBracket_p0 {G : Gl} {F : Fr} {sh : Shp} {v0 : Nat} {Q : Mem → Prop} {m : Mem} (h : X12_qDropsToBracket_p0 sh v0 Q m) : V G F M_X12_qDropsToBracket sh 0 0 (Zv G F sh Q) 0 [(0, .ref (G.1 + v0))] [] m := by
  obtain ⟨n, h⟩ := h
  induction n generalizing  m with
  | zero => exact h.elim
  | succ n ih => exact v_X12_qDropsToBracket_p0b (fun  _ h => ih h) h
set_option maxHeartbeats 4000000 in
set_option maxRecDepth 100000 in
theorem c_X12_qDropsToBracket {l : Launch} {G : Gl} {sh : Shp} {v0 : Nat} {Q : Mem → Prop} {m : Mem} (h : wp_X12_qDropsToBracket sh v0 Q m) : Cnv l G yX12_qDropsToBracket cX12_qDropsToBracket 1 (none : Option FieldType) 3 101 sh [.ref (G.1 + v0)] m Q := by
  refine con_v (ls := [(0, .ref (G.1 + v0))]) (by decide +kernel) rfl (Nat.le_of_ble_eq_true rfl) (fun F => ?_)
  show V G F M_X12_qDropsToBracket sh 0 0 (Zv G F sh Q) 0 [(0, .ref (G.1 + v0))] [] m
  unfold wp_X12_qDropsToBracket at h
  refine v_sub [0] rfl ?_
  exact v_X12_qDropsToBracket_p0 h
/-! CalledRiverModel.qEndsPart -/
theorem dX12_qEndsPart_0 : decode cX12_qEndsPart 0 = .ok (.aload_n 0, 1) := by decide +kernel
theorem dX12_qEndsPart_1 : decode cX12_qEndsPart 1 = .ok (.getfield 285, 3) := by decide +kernel
theorem dX12_qEndsPart_4 : decode cX12_qEndsPart 4 = .ok (.ifCond .ne 47, 3) := by decide +kernel
theorem dX12_qEndsPart_7 : decode cX12_qEndsPart 7 = .ok (.aload_n 0, 1) := by decide +kernel
theorem dX12_qEndsPart_8 : decode cX12_qEndsPart 8 = .ok (.getfield 375, 3) := by decide +kernel
theorem dX12_qEndsPart_11 : decode cX12_qEndsPart 11 = .ok (.aload_n 0, 1) := by decide +kernel
theorem dX12_qEndsPart_12 : decode cX12_qEndsPart 12 = .ok (.getfield 381, 3) := by decide +kernel
theorem dX12_qEndsPart_15 : decode cX12_qEndsPart 15 = .ok (.if_icmp .le 36, 3) := by decide +kernel
theorem dX12_qEndsPart_18 : decode cX12_qEndsPart 18 = .ok (.aload_n 0, 1) := by decide +kernel
theorem dX12_qEndsPart_19 : decode cX12_qEndsPart 19 = .ok (.getfield 273, 3) := by decide +kernel
theorem dX12_qEndsPart_22 : decode cX12_qEndsPart 22 = .ok (.aload_n 0, 1) := by decide +kernel
theorem dX12_qEndsPart_23 : decode cX12_qEndsPart 23 = .ok (.getfield 375, 3) := by decide +kernel
theorem dX12_qEndsPart_26 : decode cX12_qEndsPart 26 = .ok (.iconst 1, 1) := by decide +kernel
theorem dX12_qEndsPart_27 : decode cX12_qEndsPart 27 = .ok (.isub, 1) := by decide +kernel
theorem dX12_qEndsPart_28 : decode cX12_qEndsPart 28 = .ok (.iaload, 1) := by decide +kernel
theorem dX12_qEndsPart_29 : decode cX12_qEndsPart 29 = .ok (.bipush 60, 2) := by decide +kernel
theorem dX12_qEndsPart_31 : decode cX12_qEndsPart 31 = .ok (.if_icmp .lt 20, 3) := by decide +kernel
theorem dX12_qEndsPart_34 : decode cX12_qEndsPart 34 = .ok (.aload_n 0, 1) := by decide +kernel
theorem dX12_qEndsPart_35 : decode cX12_qEndsPart 35 = .ok (.dup, 1) := by decide +kernel
theorem dX12_qEndsPart_36 : decode cX12_qEndsPart 36 = .ok (.getfield 378, 3) := by decide +kernel
theorem dX12_qEndsPart_39 : decode cX12_qEndsPart 39 = .ok (.iconst 1, 1) := by decide +kernel
theorem dX12_qEndsPart_40 : decode cX12_qEndsPart 40 = .ok (.isub, 1) := by decide +kernel
theorem dX12_qEndsPart_41 : decode cX12_qEndsPart 41 = .ok (.putfield 378, 3) := by decide +kernel
theorem dX12_qEndsPart_44 : decode cX12_qEndsPart 44 = .ok (.aload_n 0, 1) := by decide +kernel
theorem dX12_qEndsPart_45 : decode cX12_qEndsPart 45 = .ok (.invokevirtual 627, 3) := by decide +kernel
theorem dX12_qEndsPart_48 : decode cX12_qEndsPart 48 = .ok (.goto (-48), 3) := by decide +kernel
theorem dX12_qEndsPart_51 : decode cX12_qEndsPart 51 = .ok (.return_, 1) := by decide +kernel
def X12_qEndsPart_p0b (sh : Shp) (v0 : Nat) (Q : Mem → Prop) (K0 : Mem → Prop) (m : Mem) : Prop :=
  Ob sh v0 12 ∧ (if (m.1 v0 5) = 0 then (if (m.1 v0 111) ≤ (m.1 v0 113) then (Q m) else (∃ b2 : Nat, m.2.2 v0 110 = some b2 ∧ (Ix sh b2 100 ((m.1 v0 111) - (1 : Int32)) ∧ (if (m.1 b2 ((m.1 v0 111) - (1 : Int32)).toNatClampNeg) < (60 : Int32) then (Q m) else (bnd (sI m v0 112 ((m.1 v0 112) - (1 : Int32))) (fun m5 => wp_X12_qDrops sh v0 (fun m7 => K0 m7) m5)))))) else (Q m))
def X12_qEndsPart_p0n (sh : Shp) (v0 : Nat) (Q : Mem → Prop) : Nat → Mem → Prop
  | 0 => fun _ => False
  | n + 1 => X12_qEndsPart_p0b sh v0 Q (X12_qEndsPart_p0n sh v0 Q n)
def X12_qEndsPart_p0 (sh : Shp) (v0 : Nat) (Q : Mem → Prop) (m : Mem) : Prop := ∃ n, X12_qEndsPart_p0n sh v0 Q n m
def wp_X12_qEndsPart (sh : Shp) (v0 : Nat) (Q : Mem → Prop) (m : Mem) : Prop :=
  X12_qEndsPart_p0 sh v0 Q m
abbrev M_X12_qEndsPart : Mi := (cX12_qEndsPart, 1, RX12, (none : Option FieldType), "qEndsPart", 3, 101, 0, 0)
set_option maxHeartbeats 4000000 in
set_option maxRecDepth 100000 in
theorem v_X12_qEndsPart_p0b {G : Gl} {F : Fr} {sh : Shp} {v0 : Nat} {Q : Mem → Prop} {K0 : Mem → Prop} {m : Mem} (hK0 : ∀ (m : Mem), K0 m → V G F M_X12_qEndsPart sh 0 0 (Zv G F sh Q) 0 [(0, .ref (G.1 + v0))] [] m) (h : X12_qEndsPart_p0b sh v0 Q K0 m) : V G F M_X12_qEndsPart sh 0 0 (Zv G F sh Q) 0 [(0, .ref (G.1 + v0))] [] m := by
  unfold X12_qEndsPart_p0b at h
  refine v_aload_n 0 0 dX12_qEndsPart_0 rfl rfl ?_
  obtain ⟨o1, h⟩ := h
  refine v_gI 12 5 dX12_qEndsPart_1 fg_RX12_285 o1 ?_
  refine v_if_ne 51 dX12_qEndsPart_4 (by decide) (fun hc => ?_) (fun hc => ?_)
  · replace h := Eq.mp (if_neg hc) h
    exact v_vret dX12_qEndsPart_51 rfl h
  · replace h := Eq.mp (if_pos hc) h
    refine v_aload_n 0 0 dX12_qEndsPart_7 rfl rfl ?_
    refine v_gI 12 111 dX12_qEndsPart_8 fg_RX12_375 o1 ?_
    refine v_aload_n 0 0 dX12_qEndsPart_11 rfl rfl ?_
    refine v_gI 12 113 dX12_qEndsPart_12 fg_RX12_381 o1 ?_
    refine v_icmp_le 51 dX12_qEndsPart_15 (by decide) (fun hc => ?_) (fun hc => ?_)
    · replace h := Eq.mp (if_pos hc) h
      exact v_vret dX12_qEndsPart_51 rfl h
    · replace h := Eq.mp (if_neg hc) h
      refine v_aload_n 0 0 dX12_qEndsPart_18 rfl rfl ?_
      obtain ⟨b2, e3, h⟩ := h
      refine v_gR 12 110 dX12_qEndsPart_19 fg_RX12_273 o1 e3 ?_
      refine v_aload_n 0 0 dX12_qEndsPart_22 rfl rfl ?_
      refine v_gI 12 111 dX12_qEndsPart_23 fg_RX12_375 o1 ?_
      refine v_iconst (1 : Int32) dX12_qEndsPart_26 (by decide) ?_
      refine v_isub dX12_qEndsPart_27 ?_
      obtain ⟨i4, h⟩ := h
      refine v_iald dX12_qEndsPart_28 i4 ?_
      refine v_bipush (60 : Int32) dX12_qEndsPart_29 (by decide) ?_
      refine v_icmp_lt 51 dX12_qEndsPart_31 (by decide) (fun hc => ?_) (fun hc => ?_)
      · replace h := Eq.mp (if_pos hc) h
        exact v_vret dX12_qEndsPart_51 rfl h
      · replace h := Eq.mp (if_neg hc) h
        refine v_aload_n 0 0 dX12_qEndsPart_34 rfl rfl ?_
        refine v_dup dX12_qEndsPart_35 rfl ?_
        refine v_gI 12 112 dX12_qEndsPart_36 fg_RX12_378 o1 ?_
        refine v_iconst (1 : Int32) dX12_qEndsPart_39 (by decide) ?_
        refine v_isub dX12_qEndsPart_40 ?_
        refine v_pI 12 112 dX12_qEndsPart_41 fw_RX12_378 o1 ?_
        replace h := bnd_e h
        refine v_aload_n 0 0 dX12_qEndsPart_44 rfl rfl ?_
        refine v_cVv [] mv_X12_qDrops ml_RX12_627 ⟨_, _, rfl⟩ o1 rfl rfl (Nat.le_of_ble_eq_true rfl) (Nat.le_of_ble_eq_true rfl) (Nat.le_of_ble_eq_true rfl) (Nat.zero_le _) (Nat.zero_le _) dX12_qEndsPart_45 (c_X12_qDrops h) (fun m7 h => ?_)
        refine v_goto 0 dX12_qEndsPart_48 (by decide) ?_
        refine v_sub [0] rfl ?_
        exact hK0  _ h
set_option maxHeartbeats 4000000 in
set_option maxRecDepth 100000 in
theorem v_X12_qEndsPart_p0 {G : Gl} {F : Fr} {sh : Shp} {v0 : Nat} {Q : Mem → Prop} {m : Mem} (h : X12_qEndsPart_p0 sh v0 Q m) : V G F M_X12_qEndsPart sh 0 0 (Zv G F sh Q) 0 [(0, .ref (G.1 + v0))] [] m := by
  obtain ⟨n, h⟩ := h
  induction n generalizing  m with
  | zero => exact h.elim
  | succ n ih => exact v_X12_qEndsPart_p0b (fun  _ h => ih h) h
set_option maxHeartbeats 4000000 in
set_option maxRecDepth 100000 in
theorem c_X12_qEndsPart {l : Launch} {G : Gl} {sh : Shp} {v0 : Nat} {Q : Mem → Prop} {m : Mem} (h : wp_X12_qEndsPart sh v0 Q m) : Cnv l G yX12_qEndsPart cX12_qEndsPart 1 (none : Option FieldType) 3 101 sh [.ref (G.1 + v0)] m Q := by
  refine con_v (ls := [(0, .ref (G.1 + v0))]) (by decide +kernel) rfl (Nat.le_of_ble_eq_true rfl) (fun F => ?_)
  show V G F M_X12_qEndsPart sh 0 0 (Zv G F sh Q) 0 [(0, .ref (G.1 + v0))] [] m
  unfold wp_X12_qEndsPart at h
  refine v_sub [0] rfl ?_
  exact v_X12_qEndsPart_p0 h
/-! CalledRiverModel.qIsOn -/
theorem dX12_qIsOn_0 : decode cX12_qIsOn 0 = .ok (.aload_n 0, 1) := by decide +kernel
theorem dX12_qIsOn_1 : decode cX12_qIsOn 1 = .ok (.getfield 375, 3) := by decide +kernel
theorem dX12_qIsOn_4 : decode cX12_qIsOn 4 = .ok (.ifCond .le 22, 3) := by decide +kernel
theorem dX12_qIsOn_7 : decode cX12_qIsOn 7 = .ok (.aload_n 0, 1) := by decide +kernel
theorem dX12_qIsOn_8 : decode cX12_qIsOn 8 = .ok (.getfield 273, 3) := by decide +kernel
theorem dX12_qIsOn_11 : decode cX12_qIsOn 11 = .ok (.aload_n 0, 1) := by decide +kernel
theorem dX12_qIsOn_12 : decode cX12_qIsOn 12 = .ok (.getfield 375, 3) := by decide +kernel
theorem dX12_qIsOn_15 : decode cX12_qIsOn 15 = .ok (.iconst 1, 1) := by decide +kernel
theorem dX12_qIsOn_16 : decode cX12_qIsOn 16 = .ok (.isub, 1) := by decide +kernel
theorem dX12_qIsOn_17 : decode cX12_qIsOn 17 = .ok (.iaload, 1) := by decide +kernel
theorem dX12_qIsOn_18 : decode cX12_qIsOn 18 = .ok (.iload_n 1, 1) := by decide +kernel
theorem dX12_qIsOn_19 : decode cX12_qIsOn 19 = .ok (.if_icmp .ne 7, 3) := by decide +kernel
theorem dX12_qIsOn_22 : decode cX12_qIsOn 22 = .ok (.iconst 1, 1) := by decide +kernel
theorem dX12_qIsOn_23 : decode cX12_qIsOn 23 = .ok (.goto 4, 3) := by decide +kernel
theorem dX12_qIsOn_26 : decode cX12_qIsOn 26 = .ok (.iconst 0, 1) := by decide +kernel
theorem dX12_qIsOn_27 : decode cX12_qIsOn 27 = .ok (.ireturn, 1) := by decide +kernel
def wp_X12_qIsOn (sh : Shp) (v0 : Nat) (v1 : Int32) (Q : Int32 → Mem → Prop) (m : Mem) : Prop :=
  Ob sh v0 12 ∧ (if (m.1 v0 111) ≤ 0 then (Q (0 : Int32) m) else (∃ b2 : Nat, m.2.2 v0 110 = some b2 ∧ (Ix sh b2 100 ((m.1 v0 111) - (1 : Int32)) ∧ (if (m.1 b2 ((m.1 v0 111) - (1 : Int32)).toNatClampNeg) = v1 then (Q (1 : Int32) m) else (Q (0 : Int32) m)))))
abbrev M_X12_qIsOn : Mi := (cX12_qIsOn, 2, RX12, (Option.some FieldType.boolean), "qIsOn", 1, 60, 0, 0)
set_option maxHeartbeats 4000000 in
set_option maxRecDepth 100000 in
theorem c_X12_qIsOn {l : Launch} {G : Gl} {sh : Shp} {v0 : Nat} {v1 : Int32} {Q : Int32 → Mem → Prop} {m : Mem} (h : wp_X12_qIsOn sh v0 v1 Q m) : Cni l G yX12_qIsOn cX12_qIsOn 2 (Option.some FieldType.boolean) 1 60 sh [.ref (G.1 + v0), .int v1] m Q := by
  refine con_i (ls := [(0, .ref (G.1 + v0)), (1, .int v1)]) (by decide +kernel) rfl (Nat.le_of_ble_eq_true rfl) (fun F => ?_)
  show V G F M_X12_qIsOn sh 0 0 (Zi G F sh Q) 0 [(0, .ref (G.1 + v0)), (1, .int v1)] [] m
  unfold wp_X12_qIsOn at h
  refine v_aload_n 0 0 dX12_qIsOn_0 rfl rfl ?_
  obtain ⟨o1, h⟩ := h
  refine v_gI 12 111 dX12_qIsOn_1 fg_RX12_375 o1 ?_
  refine v_if_le 26 dX12_qIsOn_4 (by decide) (fun hc => ?_) (fun hc => ?_)
  · replace h := Eq.mp (if_pos hc) h
    refine v_iconst (0 : Int32) dX12_qIsOn_26 (by decide) ?_
    exact v_iret dX12_qIsOn_27 rfl (by decide) h
  · replace h := Eq.mp (if_neg hc) h
    refine v_aload_n 0 0 dX12_qIsOn_7 rfl rfl ?_
    obtain ⟨b2, e3, h⟩ := h
    refine v_gR 12 110 dX12_qIsOn_8 fg_RX12_273 o1 e3 ?_
    refine v_aload_n 0 0 dX12_qIsOn_11 rfl rfl ?_
    refine v_gI 12 111 dX12_qIsOn_12 fg_RX12_375 o1 ?_
    refine v_iconst (1 : Int32) dX12_qIsOn_15 (by decide) ?_
    refine v_isub dX12_qIsOn_16 ?_
    obtain ⟨i4, h⟩ := h
    refine v_iald dX12_qIsOn_17 i4 ?_
    refine v_iload_n 1 1 dX12_qIsOn_18 rfl rfl ?_
    refine v_icmp_ne 26 dX12_qIsOn_19 (by decide) (fun hc => ?_) (fun hc => ?_)
    · replace h := Eq.mp (if_neg hc) h
      refine v_iconst (0 : Int32) dX12_qIsOn_26 (by decide) ?_
      exact v_iret dX12_qIsOn_27 rfl (by decide) h
    · replace h := Eq.mp (if_pos hc) h
      refine v_iconst (1 : Int32) dX12_qIsOn_22 (by decide) ?_
      refine v_goto 27 dX12_qIsOn_23 (by decide) ?_
      exact v_iret dX12_qIsOn_27 rfl (by decide) h
/-! CalledRiverModel.qGoesOn -/
theorem dX12_qGoesOn_0 : decode cX12_qGoesOn 0 = .ok (.aload_n 0, 1) := by decide +kernel
theorem dX12_qGoesOn_1 : decode cX12_qGoesOn 1 = .ok (.getfield 285, 3) := by decide +kernel
theorem dX12_qGoesOn_4 : decode cX12_qGoesOn 4 = .ok (.ifCond .ne 118, 3) := by decide +kernel
theorem dX12_qGoesOn_7 : decode cX12_qGoesOn 7 = .ok (.aload_n 0, 1) := by decide +kernel
theorem dX12_qGoesOn_8 : decode cX12_qGoesOn 8 = .ok (.invokevirtual 297, 3) := by decide +kernel
theorem dX12_qGoesOn_11 : decode cX12_qGoesOn 11 = .ok (.bipush 41, 2) := by decide +kernel
theorem dX12_qGoesOn_13 : decode cX12_qGoesOn 13 = .ok (.if_icmp .ne 109, 3) := by decide +kernel
theorem dX12_qGoesOn_16 : decode cX12_qGoesOn 16 = .ok (.aload_n 0, 1) := by decide +kernel
theorem dX12_qGoesOn_17 : decode cX12_qGoesOn 17 = .ok (.invokevirtual 648, 3) := by decide +kernel
theorem dX12_qGoesOn_20 : decode cX12_qGoesOn 20 = .ok (.bipush 20, 2) := by decide +kernel
theorem dX12_qGoesOn_22 : decode cX12_qGoesOn 22 = .ok (.if_icmp .eq 21, 3) := by decide +kernel
theorem dX12_qGoesOn_25 : decode cX12_qGoesOn 25 = .ok (.aload_n 0, 1) := by decide +kernel
theorem dX12_qGoesOn_26 : decode cX12_qGoesOn 26 = .ok (.invokevirtual 648, 3) := by decide +kernel
theorem dX12_qGoesOn_29 : decode cX12_qGoesOn 29 = .ok (.bipush 23, 2) := by decide +kernel
theorem dX12_qGoesOn_31 : decode cX12_qGoesOn 31 = .ok (.if_icmp .eq 12, 3) := by decide +kernel
theorem dX12_qGoesOn_34 : decode cX12_qGoesOn 34 = .ok (.aload_n 0, 1) := by decide +kernel
theorem dX12_qGoesOn_35 : decode cX12_qGoesOn 35 = .ok (.invokevirtual 648, 3) := by decide +kernel
theorem dX12_qGoesOn_38 : decode cX12_qGoesOn 38 = .ok (.bipush 24, 2) := by decide +kernel
theorem dX12_qGoesOn_40 : decode cX12_qGoesOn 40 = .ok (.if_icmp .ne 82, 3) := by decide +kernel
theorem dX12_qGoesOn_43 : decode cX12_qGoesOn 43 = .ok (.aload_n 0, 1) := by decide +kernel
theorem dX12_qGoesOn_44 : decode cX12_qGoesOn 44 = .ok (.dup, 1) := by decide +kernel
theorem dX12_qGoesOn_45 : decode cX12_qGoesOn 45 = .ok (.getfield 291, 3) := by decide +kernel
theorem dX12_qGoesOn_48 : decode cX12_qGoesOn 48 = .ok (.iconst 1, 1) := by decide +kernel
theorem dX12_qGoesOn_49 : decode cX12_qGoesOn 49 = .ok (.iadd, 1) := by decide +kernel
theorem dX12_qGoesOn_50 : decode cX12_qGoesOn 50 = .ok (.putfield 291, 3) := by decide +kernel
theorem dX12_qGoesOn_53 : decode cX12_qGoesOn 53 = .ok (.aload_n 0, 1) := by decide +kernel
theorem dX12_qGoesOn_54 : decode cX12_qGoesOn 54 = .ok (.invokevirtual 651, 3) := by decide +kernel
theorem dX12_qGoesOn_57 : decode cX12_qGoesOn 57 = .ok (.aload_n 0, 1) := by decide +kernel
theorem dX12_qGoesOn_58 : decode cX12_qGoesOn 58 = .ok (.dup, 1) := by decide +kernel
theorem dX12_qGoesOn_59 : decode cX12_qGoesOn 59 = .ok (.getfield 375, 3) := by decide +kernel
theorem dX12_qGoesOn_62 : decode cX12_qGoesOn 62 = .ok (.iconst 1, 1) := by decide +kernel
theorem dX12_qGoesOn_63 : decode cX12_qGoesOn 63 = .ok (.isub, 1) := by decide +kernel
theorem dX12_qGoesOn_64 : decode cX12_qGoesOn 64 = .ok (.putfield 375, 3) := by decide +kernel
theorem dX12_qGoesOn_67 : decode cX12_qGoesOn 67 = .ok (.aload_n 0, 1) := by decide +kernel
theorem dX12_qGoesOn_68 : decode cX12_qGoesOn 68 = .ok (.dup, 1) := by decide +kernel
theorem dX12_qGoesOn_69 : decode cX12_qGoesOn 69 = .ok (.getfield 378, 3) := by decide +kernel
theorem dX12_qGoesOn_72 : decode cX12_qGoesOn 72 = .ok (.iconst 1, 1) := by decide +kernel
theorem dX12_qGoesOn_73 : decode cX12_qGoesOn 73 = .ok (.isub, 1) := by decide +kernel
theorem dX12_qGoesOn_74 : decode cX12_qGoesOn 74 = .ok (.putfield 378, 3) := by decide +kernel
theorem dX12_qGoesOn_77 : decode cX12_qGoesOn 77 = .ok (.aload_n 0, 1) := by decide +kernel
theorem dX12_qGoesOn_78 : decode cX12_qGoesOn 78 = .ok (.getfield 273, 3) := by decide +kernel
theorem dX12_qGoesOn_81 : decode cX12_qGoesOn 81 = .ok (.aload_n 0, 1) := by decide +kernel
theorem dX12_qGoesOn_82 : decode cX12_qGoesOn 82 = .ok (.getfield 375, 3) := by decide +kernel
theorem dX12_qGoesOn_85 : decode cX12_qGoesOn 85 = .ok (.iaload, 1) := by decide +kernel
theorem dX12_qGoesOn_86 : decode cX12_qGoesOn 86 = .ok (.bipush 20, 2) := by decide +kernel
theorem dX12_qGoesOn_88 : decode cX12_qGoesOn 88 = .ok (.if_icmp .eq 27, 3) := by decide +kernel
theorem dX12_qGoesOn_91 : decode cX12_qGoesOn 91 = .ok (.aload_n 0, 1) := by decide +kernel
theorem dX12_qGoesOn_92 : decode cX12_qGoesOn 92 = .ok (.aload_n 0, 1) := by decide +kernel
theorem dX12_qGoesOn_93 : decode cX12_qGoesOn 93 = .ok (.getfield 273, 3) := by decide +kernel
theorem dX12_qGoesOn_96 : decode cX12_qGoesOn 96 = .ok (.aload_n 0, 1) := by decide +kernel
theorem dX12_qGoesOn_97 : decode cX12_qGoesOn 97 = .ok (.getfield 375, 3) := by decide +kernel
theorem dX12_qGoesOn_100 : decode cX12_qGoesOn 100 = .ok (.iaload, 1) := by decide +kernel
theorem dX12_qGoesOn_101 : decode cX12_qGoesOn 101 = .ok (.bipush 23, 2) := by decide +kernel
theorem dX12_qGoesOn_103 : decode cX12_qGoesOn 103 = .ok (.if_icmp .ne 7, 3) := by decide +kernel
theorem dX12_qGoesOn_106 : decode cX12_qGoesOn 106 = .ok (.iconst 5, 1) := by decide +kernel
theorem dX12_qGoesOn_107 : decode cX12_qGoesOn 107 = .ok (.goto 5, 3) := by decide +kernel
theorem dX12_qGoesOn_110 : decode cX12_qGoesOn 110 = .ok (.bipush 6, 2) := by decide +kernel
theorem dX12_qGoesOn_112 : decode cX12_qGoesOn 112 = .ok (.invokevirtual 621, 3) := by decide +kernel
theorem dX12_qGoesOn_115 : decode cX12_qGoesOn 115 = .ok (.aload_n 0, 1) := by decide +kernel
theorem dX12_qGoesOn_116 : decode cX12_qGoesOn 116 = .ok (.invokevirtual 645, 3) := by decide +kernel
theorem dX12_qGoesOn_119 : decode cX12_qGoesOn 119 = .ok (.goto (-119), 3) := by decide +kernel
theorem dX12_qGoesOn_122 : decode cX12_qGoesOn 122 = .ok (.aload_n 0, 1) := by decide +kernel
theorem dX12_qGoesOn_123 : decode cX12_qGoesOn 123 = .ok (.bipush 42, 2) := by decide +kernel
theorem dX12_qGoesOn_125 : decode cX12_qGoesOn 125 = .ok (.invokevirtual 319, 3) := by decide +kernel
theorem dX12_qGoesOn_128 : decode cX12_qGoesOn 128 = .ok (.ifCond .ne 12, 3) := by decide +kernel
theorem dX12_qGoesOn_131 : decode cX12_qGoesOn 131 = .ok (.aload_n 0, 1) := by decide +kernel
theorem dX12_qGoesOn_132 : decode cX12_qGoesOn 132 = .ok (.bipush 47, 2) := by decide +kernel
theorem dX12_qGoesOn_134 : decode cX12_qGoesOn 134 = .ok (.invokevirtual 319, 3) := by decide +kernel
theorem dX12_qGoesOn_137 : decode cX12_qGoesOn 137 = .ok (.ifCond .eq 70, 3) := by decide +kernel
theorem dX12_qGoesOn_140 : decode cX12_qGoesOn 140 = .ok (.aload_n 0, 1) := by decide +kernel
theorem dX12_qGoesOn_141 : decode cX12_qGoesOn 141 = .ok (.getfield 7, 3) := by decide +kernel
theorem dX12_qGoesOn_144 : decode cX12_qGoesOn 144 = .ok (.aload_n 0, 1) := by decide +kernel
theorem dX12_qGoesOn_145 : decode cX12_qGoesOn 145 = .ok (.getfield 291, 3) := by decide +kernel
theorem dX12_qGoesOn_148 : decode cX12_qGoesOn 148 = .ok (.iconst 1, 1) := by decide +kernel
theorem dX12_qGoesOn_149 : decode cX12_qGoesOn 149 = .ok (.isub, 1) := by decide +kernel
theorem dX12_qGoesOn_150 : decode cX12_qGoesOn 150 = .ok (.iaload, 1) := by decide +kernel
theorem dX12_qGoesOn_151 : decode cX12_qGoesOn 151 = .ok (.bipush 42, 2) := by decide +kernel
theorem dX12_qGoesOn_153 : decode cX12_qGoesOn 153 = .ok (.if_icmp .ne 7, 3) := by decide +kernel
theorem dX12_qGoesOn_156 : decode cX12_qGoesOn 156 = .ok (.iconst 3, 1) := by decide +kernel
theorem dX12_qGoesOn_157 : decode cX12_qGoesOn 157 = .ok (.goto 4, 3) := by decide +kernel
theorem dX12_qGoesOn_160 : decode cX12_qGoesOn 160 = .ok (.iconst 4, 1) := by decide +kernel
theorem dX12_qGoesOn_161 : decode cX12_qGoesOn 161 = .ok (.istore_n 1, 1) := by decide +kernel
theorem dX12_qGoesOn_162 : decode cX12_qGoesOn 162 = .ok (.aload_n 0, 1) := by decide +kernel
theorem dX12_qGoesOn_163 : decode cX12_qGoesOn 163 = .ok (.iconst 3, 1) := by decide +kernel
theorem dX12_qGoesOn_164 : decode cX12_qGoesOn 164 = .ok (.invokevirtual 654, 3) := by decide +kernel
theorem dX12_qGoesOn_167 : decode cX12_qGoesOn 167 = .ok (.ifCond .ne 11, 3) := by decide +kernel
theorem dX12_qGoesOn_170 : decode cX12_qGoesOn 170 = .ok (.aload_n 0, 1) := by decide +kernel
theorem dX12_qGoesOn_171 : decode cX12_qGoesOn 171 = .ok (.iconst 4, 1) := by decide +kernel
theorem dX12_qGoesOn_172 : decode cX12_qGoesOn 172 = .ok (.invokevirtual 654, 3) := by decide +kernel
theorem dX12_qGoesOn_175 : decode cX12_qGoesOn 175 = .ok (.ifCond .eq 10, 3) := by decide +kernel
theorem dX12_qGoesOn_178 : decode cX12_qGoesOn 178 = .ok (.aload_n 0, 1) := by decide +kernel
theorem dX12_qGoesOn_179 : decode cX12_qGoesOn 179 = .ok (.invokevirtual 627, 3) := by decide +kernel
theorem dX12_qGoesOn_182 : decode cX12_qGoesOn 182 = .ok (.goto (-20), 3) := by decide +kernel
theorem dX12_qGoesOn_185 : decode cX12_qGoesOn 185 = .ok (.aload_n 0, 1) := by decide +kernel
theorem dX12_qGoesOn_186 : decode cX12_qGoesOn 186 = .ok (.getfield 273, 3) := by decide +kernel
theorem dX12_qGoesOn_189 : decode cX12_qGoesOn 189 = .ok (.aload_n 0, 1) := by decide +kernel
theorem dX12_qGoesOn_190 : decode cX12_qGoesOn 190 = .ok (.getfield 375, 3) := by decide +kernel
theorem dX12_qGoesOn_193 : decode cX12_qGoesOn 193 = .ok (.iload_n 1, 1) := by decide +kernel
theorem dX12_qGoesOn_194 : decode cX12_qGoesOn 194 = .ok (.iastore, 1) := by decide +kernel
theorem dX12_qGoesOn_195 : decode cX12_qGoesOn 195 = .ok (.aload_n 0, 1) := by decide +kernel
theorem dX12_qGoesOn_196 : decode cX12_qGoesOn 196 = .ok (.dup, 1) := by decide +kernel
theorem dX12_qGoesOn_197 : decode cX12_qGoesOn 197 = .ok (.getfield 375, 3) := by decide +kernel
theorem dX12_qGoesOn_200 : decode cX12_qGoesOn 200 = .ok (.iconst 1, 1) := by decide +kernel
theorem dX12_qGoesOn_201 : decode cX12_qGoesOn 201 = .ok (.iadd, 1) := by decide +kernel
theorem dX12_qGoesOn_202 : decode cX12_qGoesOn 202 = .ok (.putfield 375, 3) := by decide +kernel
theorem dX12_qGoesOn_205 : decode cX12_qGoesOn 205 = .ok (.iconst 1, 1) := by decide +kernel
theorem dX12_qGoesOn_206 : decode cX12_qGoesOn 206 = .ok (.ireturn, 1) := by decide +kernel
theorem dX12_qGoesOn_207 : decode cX12_qGoesOn 207 = .ok (.aload_n 0, 1) := by decide +kernel
theorem dX12_qGoesOn_208 : decode cX12_qGoesOn 208 = .ok (.bipush 43, 2) := by decide +kernel
theorem dX12_qGoesOn_210 : decode cX12_qGoesOn 210 = .ok (.invokevirtual 319, 3) := by decide +kernel
theorem dX12_qGoesOn_213 : decode cX12_qGoesOn 213 = .ok (.ifCond .ne 12, 3) := by decide +kernel
theorem dX12_qGoesOn_216 : decode cX12_qGoesOn 216 = .ok (.aload_n 0, 1) := by decide +kernel
theorem dX12_qGoesOn_217 : decode cX12_qGoesOn 217 = .ok (.bipush 45, 2) := by decide +kernel
theorem dX12_qGoesOn_219 : decode cX12_qGoesOn 219 = .ok (.invokevirtual 319, 3) := by decide +kernel
theorem dX12_qGoesOn_222 : decode cX12_qGoesOn 222 = .ok (.ifCond .eq 86, 3) := by decide +kernel
theorem dX12_qGoesOn_225 : decode cX12_qGoesOn 225 = .ok (.aload_n 0, 1) := by decide +kernel
theorem dX12_qGoesOn_226 : decode cX12_qGoesOn 226 = .ok (.getfield 7, 3) := by decide +kernel
theorem dX12_qGoesOn_229 : decode cX12_qGoesOn 229 = .ok (.aload_n 0, 1) := by decide +kernel
theorem dX12_qGoesOn_230 : decode cX12_qGoesOn 230 = .ok (.getfield 291, 3) := by decide +kernel
theorem dX12_qGoesOn_233 : decode cX12_qGoesOn 233 = .ok (.iconst 1, 1) := by decide +kernel
theorem dX12_qGoesOn_234 : decode cX12_qGoesOn 234 = .ok (.isub, 1) := by decide +kernel
theorem dX12_qGoesOn_235 : decode cX12_qGoesOn 235 = .ok (.iaload, 1) := by decide +kernel
theorem dX12_qGoesOn_236 : decode cX12_qGoesOn 236 = .ok (.bipush 43, 2) := by decide +kernel
theorem dX12_qGoesOn_238 : decode cX12_qGoesOn 238 = .ok (.if_icmp .ne 7, 3) := by decide +kernel
theorem dX12_qGoesOn_241 : decode cX12_qGoesOn 241 = .ok (.iconst 1, 1) := by decide +kernel
theorem dX12_qGoesOn_242 : decode cX12_qGoesOn 242 = .ok (.goto 4, 3) := by decide +kernel
theorem dX12_qGoesOn_245 : decode cX12_qGoesOn 245 = .ok (.iconst 2, 1) := by decide +kernel
theorem dX12_qGoesOn_246 : decode cX12_qGoesOn 246 = .ok (.istore_n 1, 1) := by decide +kernel
theorem dX12_qGoesOn_247 : decode cX12_qGoesOn 247 = .ok (.aload_n 0, 1) := by decide +kernel
theorem dX12_qGoesOn_248 : decode cX12_qGoesOn 248 = .ok (.iconst 3, 1) := by decide +kernel
theorem dX12_qGoesOn_249 : decode cX12_qGoesOn 249 = .ok (.invokevirtual 654, 3) := by decide +kernel
theorem dX12_qGoesOn_252 : decode cX12_qGoesOn 252 = .ok (.ifCond .ne 27, 3) := by decide +kernel
theorem dX12_qGoesOn_255 : decode cX12_qGoesOn 255 = .ok (.aload_n 0, 1) := by decide +kernel
theorem dX12_qGoesOn_256 : decode cX12_qGoesOn 256 = .ok (.iconst 4, 1) := by decide +kernel
theorem dX12_qGoesOn_257 : decode cX12_qGoesOn 257 = .ok (.invokevirtual 654, 3) := by decide +kernel
theorem dX12_qGoesOn_260 : decode cX12_qGoesOn 260 = .ok (.ifCond .ne 19, 3) := by decide +kernel
theorem dX12_qGoesOn_263 : decode cX12_qGoesOn 263 = .ok (.aload_n 0, 1) := by decide +kernel
theorem dX12_qGoesOn_264 : decode cX12_qGoesOn 264 = .ok (.iconst 1, 1) := by decide +kernel
theorem dX12_qGoesOn_265 : decode cX12_qGoesOn 265 = .ok (.invokevirtual 654, 3) := by decide +kernel
theorem dX12_qGoesOn_268 : decode cX12_qGoesOn 268 = .ok (.ifCond .ne 11, 3) := by decide +kernel
theorem dX12_qGoesOn_271 : decode cX12_qGoesOn 271 = .ok (.aload_n 0, 1) := by decide +kernel
theorem dX12_qGoesOn_272 : decode cX12_qGoesOn 272 = .ok (.iconst 2, 1) := by decide +kernel
theorem dX12_qGoesOn_273 : decode cX12_qGoesOn 273 = .ok (.invokevirtual 654, 3) := by decide +kernel
theorem dX12_qGoesOn_276 : decode cX12_qGoesOn 276 = .ok (.ifCond .eq 10, 3) := by decide +kernel
theorem dX12_qGoesOn_279 : decode cX12_qGoesOn 279 = .ok (.aload_n 0, 1) := by decide +kernel
theorem dX12_qGoesOn_280 : decode cX12_qGoesOn 280 = .ok (.invokevirtual 627, 3) := by decide +kernel
theorem dX12_qGoesOn_283 : decode cX12_qGoesOn 283 = .ok (.goto (-36), 3) := by decide +kernel
theorem dX12_qGoesOn_286 : decode cX12_qGoesOn 286 = .ok (.aload_n 0, 1) := by decide +kernel
theorem dX12_qGoesOn_287 : decode cX12_qGoesOn 287 = .ok (.getfield 273, 3) := by decide +kernel
theorem dX12_qGoesOn_290 : decode cX12_qGoesOn 290 = .ok (.aload_n 0, 1) := by decide +kernel
theorem dX12_qGoesOn_291 : decode cX12_qGoesOn 291 = .ok (.getfield 375, 3) := by decide +kernel
theorem dX12_qGoesOn_294 : decode cX12_qGoesOn 294 = .ok (.iload_n 1, 1) := by decide +kernel
theorem dX12_qGoesOn_295 : decode cX12_qGoesOn 295 = .ok (.iastore, 1) := by decide +kernel
theorem dX12_qGoesOn_296 : decode cX12_qGoesOn 296 = .ok (.aload_n 0, 1) := by decide +kernel
theorem dX12_qGoesOn_297 : decode cX12_qGoesOn 297 = .ok (.dup, 1) := by decide +kernel
theorem dX12_qGoesOn_298 : decode cX12_qGoesOn 298 = .ok (.getfield 375, 3) := by decide +kernel
theorem dX12_qGoesOn_301 : decode cX12_qGoesOn 301 = .ok (.iconst 1, 1) := by decide +kernel
theorem dX12_qGoesOn_302 : decode cX12_qGoesOn 302 = .ok (.iadd, 1) := by decide +kernel
theorem dX12_qGoesOn_303 : decode cX12_qGoesOn 303 = .ok (.putfield 375, 3) := by decide +kernel
theorem dX12_qGoesOn_306 : decode cX12_qGoesOn 306 = .ok (.iconst 1, 1) := by decide +kernel
theorem dX12_qGoesOn_307 : decode cX12_qGoesOn 307 = .ok (.ireturn, 1) := by decide +kernel
theorem dX12_qGoesOn_308 : decode cX12_qGoesOn 308 = .ok (.aload_n 0, 1) := by decide +kernel
theorem dX12_qGoesOn_309 : decode cX12_qGoesOn 309 = .ok (.invokevirtual 648, 3) := by decide +kernel
theorem dX12_qGoesOn_312 : decode cX12_qGoesOn 312 = .ok (.bipush 21, 2) := by decide +kernel
theorem dX12_qGoesOn_314 : decode cX12_qGoesOn 314 = .ok (.if_icmp .eq 12, 3) := by decide +kernel
theorem dX12_qGoesOn_317 : decode cX12_qGoesOn 317 = .ok (.aload_n 0, 1) := by decide +kernel
theorem dX12_qGoesOn_318 : decode cX12_qGoesOn 318 = .ok (.invokevirtual 648, 3) := by decide +kernel
theorem dX12_qGoesOn_321 : decode cX12_qGoesOn 321 = .ok (.bipush 22, 2) := by decide +kernel
theorem dX12_qGoesOn_323 : decode cX12_qGoesOn 323 = .ok (.if_icmp .ne 39, 3) := by decide +kernel
theorem dX12_qGoesOn_326 : decode cX12_qGoesOn 326 = .ok (.aload_n 0, 1) := by decide +kernel
theorem dX12_qGoesOn_327 : decode cX12_qGoesOn 327 = .ok (.bipush 44, 2) := by decide +kernel
theorem dX12_qGoesOn_329 : decode cX12_qGoesOn 329 = .ok (.invokevirtual 358, 3) := by decide +kernel
theorem dX12_qGoesOn_332 : decode cX12_qGoesOn 332 = .ok (.aload_n 0, 1) := by decide +kernel
theorem dX12_qGoesOn_333 : decode cX12_qGoesOn 333 = .ok (.getfield 285, 3) := by decide +kernel
theorem dX12_qGoesOn_336 : decode cX12_qGoesOn 336 = .ok (.ifCond .eq 5, 3) := by decide +kernel
theorem dX12_qGoesOn_339 : decode cX12_qGoesOn 339 = .ok (.iconst 0, 1) := by decide +kernel
theorem dX12_qGoesOn_340 : decode cX12_qGoesOn 340 = .ok (.ireturn, 1) := by decide +kernel
theorem dX12_qGoesOn_341 : decode cX12_qGoesOn 341 = .ok (.aload_n 0, 1) := by decide +kernel
theorem dX12_qGoesOn_342 : decode cX12_qGoesOn 342 = .ok (.invokevirtual 651, 3) := by decide +kernel
theorem dX12_qGoesOn_345 : decode cX12_qGoesOn 345 = .ok (.aload_n 0, 1) := by decide +kernel
theorem dX12_qGoesOn_346 : decode cX12_qGoesOn 346 = .ok (.getfield 273, 3) := by decide +kernel
theorem dX12_qGoesOn_349 : decode cX12_qGoesOn 349 = .ok (.aload_n 0, 1) := by decide +kernel
theorem dX12_qGoesOn_350 : decode cX12_qGoesOn 350 = .ok (.getfield 375, 3) := by decide +kernel
theorem dX12_qGoesOn_353 : decode cX12_qGoesOn 353 = .ok (.iconst 1, 1) := by decide +kernel
theorem dX12_qGoesOn_354 : decode cX12_qGoesOn 354 = .ok (.isub, 1) := by decide +kernel
theorem dX12_qGoesOn_355 : decode cX12_qGoesOn 355 = .ok (.dup2, 1) := by decide +kernel
theorem dX12_qGoesOn_356 : decode cX12_qGoesOn 356 = .ok (.iaload, 1) := by decide +kernel
theorem dX12_qGoesOn_357 : decode cX12_qGoesOn 357 = .ok (.iconst 2, 1) := by decide +kernel
theorem dX12_qGoesOn_358 : decode cX12_qGoesOn 358 = .ok (.iadd, 1) := by decide +kernel
theorem dX12_qGoesOn_359 : decode cX12_qGoesOn 359 = .ok (.iastore, 1) := by decide +kernel
theorem dX12_qGoesOn_360 : decode cX12_qGoesOn 360 = .ok (.iconst 1, 1) := by decide +kernel
theorem dX12_qGoesOn_361 : decode cX12_qGoesOn 361 = .ok (.ireturn, 1) := by decide +kernel
theorem dX12_qGoesOn_362 : decode cX12_qGoesOn 362 = .ok (.aload_n 0, 1) := by decide +kernel
theorem dX12_qGoesOn_363 : decode cX12_qGoesOn 363 = .ok (.invokevirtual 648, 3) := by decide +kernel
theorem dX12_qGoesOn_366 : decode cX12_qGoesOn 366 = .ok (.iconst (-1), 1) := by decide +kernel
theorem dX12_qGoesOn_367 : decode cX12_qGoesOn 367 = .ok (.if_icmp .eq 19, 3) := by decide +kernel
theorem dX12_qGoesOn_370 : decode cX12_qGoesOn 370 = .ok (.aload_n 0, 1) := by decide +kernel
theorem dX12_qGoesOn_371 : decode cX12_qGoesOn 371 = .ok (.getfield 285, 3) := by decide +kernel
theorem dX12_qGoesOn_374 : decode cX12_qGoesOn 374 = .ok (.ifCond .ne 12, 3) := by decide +kernel
theorem dX12_qGoesOn_377 : decode cX12_qGoesOn 377 = .ok (.aload_n 0, 1) := by decide +kernel
theorem dX12_qGoesOn_378 : decode cX12_qGoesOn 378 = .ok (.iconst 1, 1) := by decide +kernel
theorem dX12_qGoesOn_379 : decode cX12_qGoesOn 379 = .ok (.aload_n 0, 1) := by decide +kernel
theorem dX12_qGoesOn_380 : decode cX12_qGoesOn 380 = .ok (.getfield 291, 3) := by decide +kernel
theorem dX12_qGoesOn_383 : decode cX12_qGoesOn 383 = .ok (.invokevirtual 315, 3) := by decide +kernel
theorem dX12_qGoesOn_386 : decode cX12_qGoesOn 386 = .ok (.iconst 0, 1) := by decide +kernel
theorem dX12_qGoesOn_387 : decode cX12_qGoesOn 387 = .ok (.ireturn, 1) := by decide +kernel
def X12_qGoesOn_p115 (sh : Shp) (v0 : Nat) (Q : Int32 → Mem → Prop) (K0 : Mem → Prop) (m : Mem) : Prop :=
  Ob sh v0 12 ∧ wp_X12_qEndsPart sh v0 (fun m54 => K0 m54) m
def X12_qGoesOn_p112 (sh : Shp) (v0 : Nat) (s1 : Int32) (s0 : Nat) (Q : Int32 → Mem → Prop) (K0 : Mem → Prop) (m : Mem) : Prop :=
  Ob sh s0 12 ∧ wp_X12_qCode sh s0 s1 (fun m57 => X12_qGoesOn_p115 sh v0 Q K0 m57) m
def X12_qGoesOn_p43 (sh : Shp) (v0 : Nat) (Q : Int32 → Mem → Prop) (K0 : Mem → Prop) (m : Mem) : Prop :=
  Ob sh v0 12 ∧ (bnd (sI m v0 2 ((m.1 v0 2) + (1 : Int32))) (fun m28 => wp_X12_qDropsToBracket sh v0 (fun m30 => bnd (sI m30 v0 111 ((m30.1 v0 111) - (1 : Int32))) (fun m31 => bnd (sI m31 v0 112 ((m31.1 v0 112) - (1 : Int32))) (fun m32 => ∃ b33 : Nat, m32.2.2 v0 110 = some b33 ∧ (Ix sh b33 100 (m32.1 v0 111) ∧ (if (m32.1 b33 (m32.1 v0 111).toNatClampNeg) = (20 : Int32) then (X12_qGoesOn_p115 sh v0 Q K0 m32) else (if (m32.1 b33 (m32.1 v0 111).toNatClampNeg) = (23 : Int32) then (X12_qGoesOn_p112 sh v0 (5 : Int32) v0 Q K0 m32) else (X12_qGoesOn_p112 sh v0 (6 : Int32) v0 Q K0 m32))))))) m28))
def X12_qGoesOn_p178 (sh : Shp) (v0 : Nat) (v1 : Int32) (Q : Int32 → Mem → Prop) (K162 : Mem → Prop) (m : Mem) : Prop :=
  Ob sh v0 12 ∧ wp_X12_qDrops sh v0 (fun m84 => K162 m84) m
def X12_qGoesOn_p162b (sh : Shp) (v0 : Nat) (v1 : Int32) (Q : Int32 → Mem → Prop) (K162 : Mem → Prop) (m : Mem) : Prop :=
  Ob sh v0 12 ∧ wp_X12_qIsOn sh v0 (3 : Int32) (fun r59 m60 => if r59 = 0 then (wp_X12_qIsOn sh v0 (4 : Int32) (fun r62 m63 => if r62 = 0 then (∃ b64 : Nat, m63.2.2 v0 110 = some b64 ∧ (Ix sh b64 100 (m63.1 v0 111) ∧ bnd (sI m63 b64 (m63.1 v0 111).toNatClampNeg v1) (fun m67 => bnd (sI m67 v0 111 ((m67.1 v0 111) + (1 : Int32))) (fun m68 => Q (1 : Int32) m68)))) else (X12_qGoesOn_p178 sh v0 v1 Q K162 m63)) m60) else (X12_qGoesOn_p178 sh v0 v1 Q K162 m60)) m
def X12_qGoesOn_p162n (sh : Shp) (v0 : Nat) (v1 : Int32) (Q : Int32 → Mem → Prop) : Nat → Mem → Prop
  | 0 => fun _ => False
  | n + 1 => X12_qGoesOn_p162b sh v0 v1 Q (X12_qGoesOn_p162n sh v0 v1 Q n)
def X12_qGoesOn_p162 (sh : Shp) (v0 : Nat) (v1 : Int32) (Q : Int32 → Mem → Prop) (m : Mem) : Prop := ∃ n, X12_qGoesOn_p162n sh v0 v1 Q n m
def X12_qGoesOn_p161 (sh : Shp) (v0 : Nat) (s0 : Int32) (Q : Int32 → Mem → Prop) (m : Mem) : Prop :=
  X12_qGoesOn_p162 sh v0 s0 Q m
def X12_qGoesOn_p140 (sh : Shp) (v0 : Nat) (Q : Int32 → Mem → Prop) (m : Mem) : Prop :=
  Ob sh v0 12 ∧ ∃ b37 : Nat, m.2.2 v0 0 = some b37 ∧ (Ix sh b37 100 ((m.1 v0 2) - (1 : Int32)) ∧ (if (m.1 b37 ((m.1 v0 2) - (1 : Int32)).toNatClampNeg) = (42 : Int32) then (X12_qGoesOn_p161 sh v0 (3 : Int32) Q m) else (X12_qGoesOn_p161 sh v0 (4 : Int32) Q m)))
def X12_qGoesOn_p279 (sh : Shp) (v0 : Nat) (v1 : Int32) (Q : Int32 → Mem → Prop) (K247 : Mem → Prop) (m : Mem) : Prop :=
  Ob sh v0 12 ∧ wp_X12_qDrops sh v0 (fun m87 => K247 m87) m
def X12_qGoesOn_p247b (sh : Shp) (v0 : Nat) (v1 : Int32) (Q : Int32 → Mem → Prop) (K247 : Mem → Prop) (m : Mem) : Prop :=
  Ob sh v0 12 ∧ wp_X12_qIsOn sh v0 (3 : Int32) (fun r69 m70 => if r69 = 0 then (wp_X12_qIsOn sh v0 (4 : Int32) (fun r72 m73 => if r72 = 0 then (wp_X12_qIsOn sh v0 (1 : Int32) (fun r74 m75 => if r74 = 0 then (wp_X12_qIsOn sh v0 (2 : Int32) (fun r76 m77 => if r76 = 0 then (∃ b78 : Nat, m77.2.2 v0 110 = some b78 ∧ (Ix sh b78 100 (m77.1 v0 111) ∧ bnd (sI m77 b78 (m77.1 v0 111).toNatClampNeg v1) (fun m81 => bnd (sI m81 v0 111 ((m81.1 v0 111) + (1 : Int32))) (fun m82 => Q (1 : Int32) m82)))) else (X12_qGoesOn_p279 sh v0 v1 Q K247 m77)) m75) else (X12_qGoesOn_p279 sh v0 v1 Q K247 m75)) m73) else (X12_qGoesOn_p279 sh v0 v1 Q K247 m73)) m70) else (X12_qGoesOn_p279 sh v0 v1 Q K247 m70)) m
def X12_qGoesOn_p247n (sh : Shp) (v0 : Nat) (v1 : Int32) (Q : Int32 → Mem → Prop) : Nat → Mem → Prop
  | 0 => fun _ => False
  | n + 1 => X12_qGoesOn_p247b sh v0 v1 Q (X12_qGoesOn_p247n sh v0 v1 Q n)
def X12_qGoesOn_p247 (sh : Shp) (v0 : Nat) (v1 : Int32) (Q : Int32 → Mem → Prop) (m : Mem) : Prop := ∃ n, X12_qGoesOn_p247n sh v0 v1 Q n m
def X12_qGoesOn_p246 (sh : Shp) (v0 : Nat) (s0 : Int32) (Q : Int32 → Mem → Prop) (m : Mem) : Prop :=
  X12_qGoesOn_p247 sh v0 s0 Q m
def X12_qGoesOn_p225 (sh : Shp) (v0 : Nat) (Q : Int32 → Mem → Prop) (m : Mem) : Prop :=
  Ob sh v0 12 ∧ ∃ b41 : Nat, m.2.2 v0 0 = some b41 ∧ (Ix sh b41 100 ((m.1 v0 2) - (1 : Int32)) ∧ (if (m.1 b41 ((m.1 v0 2) - (1 : Int32)).toNatClampNeg) = (43 : Int32) then (X12_qGoesOn_p246 sh v0 (1 : Int32) Q m) else (X12_qGoesOn_p246 sh v0 (2 : Int32) Q m)))
def X12_qGoesOn_p326 (sh : Shp) (v0 : Nat) (Q : Int32 → Mem → Prop) (m : Mem) : Prop :=
  Ob sh v0 12 ∧ wp_X12_asksSign sh v0 (44 : Int32) (fun m45 => if (m45.1 v0 5) = 0 then (wp_X12_qDropsToBracket sh v0 (fun m48 => ∃ b49 : Nat, m48.2.2 v0 110 = some b49 ∧ (Ix sh b49 100 ((m48.1 v0 111) - (1 : Int32)) ∧ (bnd (sI m48 b49 ((m48.1 v0 111) - (1 : Int32)).toNatClampNeg ((m48.1 b49 ((m48.1 v0 111) - (1 : Int32)).toNatClampNeg) + (2 : Int32))) (fun m52 => Q (1 : Int32) m52)))) m45) else (Q (0 : Int32) m45)) m
def X12_qGoesOn_p122 (sh : Shp) (v0 : Nat) (Q : Int32 → Mem → Prop) (m : Mem) : Prop :=
  Ob sh v0 12 ∧ wp_X12_takesSign sh v0 (42 : Int32) (fun r10 m11 => if r10 = 0 then (wp_X12_takesSign sh v0 (47 : Int32) (fun r13 m14 => if r13 = 0 then (wp_X12_takesSign sh v0 (43 : Int32) (fun r15 m16 => if r15 = 0 then (wp_X12_takesSign sh v0 (45 : Int32) (fun r17 m18 => if r17 = 0 then (wp_X12_qBracket sh v0 (fun r19 m20 => if r19 = (21 : Int32) then (X12_qGoesOn_p326 sh v0 Q m20) else (wp_X12_qBracket sh v0 (fun r21 m22 => if r21 = (22 : Int32) then (X12_qGoesOn_p326 sh v0 Q m22) else (wp_X12_qBracket sh v0 (fun r23 m24 => if r23 = (-1 : Int32) then (Q (0 : Int32) m24) else (if (m24.1 v0 5) = 0 then (wp_X12_fail sh v0 (1 : Int32) (m24.1 v0 2) (fun m26 => Q (0 : Int32) m26) m24) else (Q (0 : Int32) m24))) m22)) m20)) m18) else (X12_qGoesOn_p225 sh v0 Q m18)) m16) else (X12_qGoesOn_p225 sh v0 Q m16)) m14) else (X12_qGoesOn_p140 sh v0 Q m14)) m11) else (X12_qGoesOn_p140 sh v0 Q m11)) m
def X12_qGoesOn_p0b (sh : Shp) (v0 : Nat) (Q : Int32 → Mem → Prop) (K0 : Mem → Prop) (m : Mem) : Prop :=
  Ob sh v0 12 ∧ (if (m.1 v0 5) = 0 then (wp_X12_look sh v0 (fun r2 m3 => if r2 = (41 : Int32) then (wp_X12_qBracket sh v0 (fun r4 m5 => if r4 = (20 : Int32) then (X12_qGoesOn_p43 sh v0 Q K0 m5) else (wp_X12_qBracket sh v0 (fun r6 m7 => if r6 = (23 : Int32) then (X12_qGoesOn_p43 sh v0 Q K0 m7) else (wp_X12_qBracket sh v0 (fun r8 m9 => if r8 = (24 : Int32) then (X12_qGoesOn_p43 sh v0 Q K0 m9) else (X12_qGoesOn_p122 sh v0 Q m9)) m7)) m5)) m3) else (X12_qGoesOn_p122 sh v0 Q m3)) m) else (X12_qGoesOn_p122 sh v0 Q m))
def X12_qGoesOn_p0n (sh : Shp) (v0 : Nat) (Q : Int32 → Mem → Prop) : Nat → Mem → Prop
  | 0 => fun _ => False
  | n + 1 => X12_qGoesOn_p0b sh v0 Q (X12_qGoesOn_p0n sh v0 Q n)
def X12_qGoesOn_p0 (sh : Shp) (v0 : Nat) (Q : Int32 → Mem → Prop) (m : Mem) : Prop := ∃ n, X12_qGoesOn_p0n sh v0 Q n m
def wp_X12_qGoesOn (sh : Shp) (v0 : Nat) (Q : Int32 → Mem → Prop) (m : Mem) : Prop :=
  X12_qGoesOn_p0 sh v0 Q m
abbrev M_X12_qGoesOn : Mi := (cX12_qGoesOn, 2, RX12, (Option.some FieldType.boolean), "qGoesOn", 4, 122, 0, 0)
set_option maxHeartbeats 4000000 in
set_option maxRecDepth 100000 in
theorem v_X12_qGoesOn_p115 {G : Gl} {F : Fr} {sh : Shp} {v0 : Nat} {Q : Int32 → Mem → Prop} {K0 : Mem → Prop} {m : Mem} (hK0 : ∀ (m : Mem), K0 m → V G F M_X12_qGoesOn sh 0 0 (Zi G F sh Q) 0 [(0, .ref (G.1 + v0))] [] m) (h : X12_qGoesOn_p115 sh v0 Q K0 m) : V G F M_X12_qGoesOn sh 0 0 (Zi G F sh Q) 115 [(0, .ref (G.1 + v0))] [] m := by
  unfold X12_qGoesOn_p115 at h
  refine v_aload_n 0 0 dX12_qGoesOn_115 rfl rfl ?_
  obtain ⟨o55, h⟩ := h
  refine v_cVv [] mv_X12_qEndsPart ml_RX12_645 ⟨_, _, rfl⟩ o55 rfl rfl (Nat.le_of_ble_eq_true rfl) (Nat.le_of_ble_eq_true rfl) (Nat.le_of_ble_eq_true rfl) (Nat.zero_le _) (Nat.zero_le _) dX12_qGoesOn_116 (c_X12_qEndsPart h) (fun m54 h => ?_)
  refine v_goto 0 dX12_qGoesOn_119 (by decide) ?_
  refine v_sub [0] rfl ?_
  exact hK0  _ h
set_option maxHeartbeats 4000000 in
set_option maxRecDepth 100000 in
theorem v_X12_qGoesOn_p112 {G : Gl} {F : Fr} {sh : Shp} {v0 : Nat} {s0 : Nat} {s1 : Int32} {Q : Int32 → Mem → Prop} {K0 : Mem → Prop} {m : Mem} (hK0 : ∀ (m : Mem), K0 m → V G F M_X12_qGoesOn sh 0 0 (Zi G F sh Q) 0 [(0, .ref (G.1 + v0))] [] m) (h : X12_qGoesOn_p112 sh v0 s1 s0 Q K0 m) : V G F M_X12_qGoesOn sh 0 0 (Zi G F sh Q) 112 [(0, .ref (G.1 + v0))] [.int s1, .ref (G.1 + s0)] m := by
  unfold X12_qGoesOn_p112 at h
  obtain ⟨o58, h⟩ := h
  refine v_cVv [.int _] mv_X12_qCode ml_RX12_621 ⟨_, _, rfl⟩ o58 rfl rfl (Nat.le_of_ble_eq_true rfl) (Nat.le_of_ble_eq_true rfl) (Nat.le_of_ble_eq_true rfl) (Nat.zero_le _) (Nat.zero_le _) dX12_qGoesOn_112 (c_X12_qCode h) (fun m57 h => ?_)
  refine v_sub [0] rfl ?_
  exact v_X12_qGoesOn_p115 hK0 h
set_option maxHeartbeats 4000000 in
set_option maxRecDepth 100000 in
theorem v_X12_qGoesOn_p43 {G : Gl} {F : Fr} {sh : Shp} {v0 : Nat} {Q : Int32 → Mem → Prop} {K0 : Mem → Prop} {m : Mem} (hK0 : ∀ (m : Mem), K0 m → V G F M_X12_qGoesOn sh 0 0 (Zi G F sh Q) 0 [(0, .ref (G.1 + v0))] [] m) (h : X12_qGoesOn_p43 sh v0 Q K0 m) : V G F M_X12_qGoesOn sh 0 0 (Zi G F sh Q) 43 [(0, .ref (G.1 + v0))] [] m := by
  unfold X12_qGoesOn_p43 at h
  refine v_aload_n 0 0 dX12_qGoesOn_43 rfl rfl ?_
  refine v_dup dX12_qGoesOn_44 rfl ?_
  obtain ⟨o27, h⟩ := h
  refine v_gI 12 2 dX12_qGoesOn_45 fg_RX12_291 o27 ?_
  refine v_iconst (1 : Int32) dX12_qGoesOn_48 (by decide) ?_
  refine v_iadd dX12_qGoesOn_49 ?_
  refine v_pI 12 2 dX12_qGoesOn_50 fw_RX12_291 o27 ?_
  replace h := bnd_e h
  refine v_aload_n 0 0 dX12_qGoesOn_53 rfl rfl ?_
  refine v_cVv [] mv_X12_qDropsToBracket ml_RX12_651 ⟨_, _, rfl⟩ o27 rfl rfl (Nat.le_of_ble_eq_true rfl) (Nat.le_of_ble_eq_true rfl) (Nat.le_of_ble_eq_true rfl) (Nat.zero_le _) (Nat.zero_le _) dX12_qGoesOn_54 (c_X12_qDropsToBracket h) (fun m30 h => ?_)
  refine v_aload_n 0 0 dX12_qGoesOn_57 rfl rfl ?_
  refine v_dup dX12_qGoesOn_58 rfl ?_
  refine v_gI 12 111 dX12_qGoesOn_59 fg_RX12_375 o27 ?_
  refine v_iconst (1 : Int32) dX12_qGoesOn_62 (by decide) ?_
  refine v_isub dX12_qGoesOn_63 ?_
  refine v_pI 12 111 dX12_qGoesOn_64 fw_RX12_375 o27 ?_
  replace h := bnd_e h
  refine v_aload_n 0 0 dX12_qGoesOn_67 rfl rfl ?_
  refine v_dup dX12_qGoesOn_68 rfl ?_
  refine v_gI 12 112 dX12_qGoesOn_69 fg_RX12_378 o27 ?_
  refine v_iconst (1 : Int32) dX12_qGoesOn_72 (by decide) ?_
  refine v_isub dX12_qGoesOn_73 ?_
  refine v_pI 12 112 dX12_qGoesOn_74 fw_RX12_378 o27 ?_
  replace h := bnd_e h
  refine v_aload_n 0 0 dX12_qGoesOn_77 rfl rfl ?_
  obtain ⟨b33, e34, h⟩ := h
  refine v_gR 12 110 dX12_qGoesOn_78 fg_RX12_273 o27 e34 ?_
  refine v_aload_n 0 0 dX12_qGoesOn_81 rfl rfl ?_
  refine v_gI 12 111 dX12_qGoesOn_82 fg_RX12_375 o27 ?_
  obtain ⟨i35, h⟩ := h
  refine v_iald dX12_qGoesOn_85 i35 ?_
  refine v_bipush (20 : Int32) dX12_qGoesOn_86 (by decide) ?_
  refine v_icmp_eq 115 dX12_qGoesOn_88 (by decide) (fun hc => ?_) (fun hc => ?_)
  · replace h := Eq.mp (if_pos hc) h
    refine v_sub [0] rfl ?_
    exact v_X12_qGoesOn_p115 hK0 h
  · replace h := Eq.mp (if_neg hc) h
    refine v_aload_n 0 0 dX12_qGoesOn_91 rfl rfl ?_
    refine v_aload_n 0 0 dX12_qGoesOn_92 rfl rfl ?_
    refine v_gR 12 110 dX12_qGoesOn_93 fg_RX12_273 o27 e34 ?_
    refine v_aload_n 0 0 dX12_qGoesOn_96 rfl rfl ?_
    refine v_gI 12 111 dX12_qGoesOn_97 fg_RX12_375 o27 ?_
    refine v_iald dX12_qGoesOn_100 i35 ?_
    refine v_bipush (23 : Int32) dX12_qGoesOn_101 (by decide) ?_
    refine v_icmp_ne 110 dX12_qGoesOn_103 (by decide) (fun hc => ?_) (fun hc => ?_)
    · replace h := Eq.mp (if_neg hc) h
      refine v_bipush (6 : Int32) dX12_qGoesOn_110 (by decide) ?_
      refine v_sub [0] rfl ?_
      exact v_X12_qGoesOn_p112 hK0 h
    · replace h := Eq.mp (if_pos hc) h
      refine v_iconst (5 : Int32) dX12_qGoesOn_106 (by decide) ?_
      refine v_goto 112 dX12_qGoesOn_107 (by decide) ?_
      refine v_sub [0] rfl ?_
      exact v_X12_qGoesOn_p112 hK0 h
set_option maxHeartbeats 4000000 in
set_option maxRecDepth 100000 in
theorem v_X12_qGoesOn_p178 {G : Gl} {F : Fr} {sh : Shp} {v0 : Nat} {v1 : Int32} {Q : Int32 → Mem → Prop} {K162 : Mem → Prop} {m : Mem} (hK162 : ∀ (m : Mem), K162 m → V G F M_X12_qGoesOn sh 0 0 (Zi G F sh Q) 162 [(0, .ref (G.1 + v0)), (1, .int v1)] [] m) (h : X12_qGoesOn_p178 sh v0 v1 Q K162 m) : V G F M_X12_qGoesOn sh 0 0 (Zi G F sh Q) 178 [(0, .ref (G.1 + v0)), (1, .int v1)] [] m := by
  unfold X12_qGoesOn_p178 at h
  refine v_aload_n 0 0 dX12_qGoesOn_178 rfl rfl ?_
  obtain ⟨o85, h⟩ := h
  refine v_cVv [] mv_X12_qDrops ml_RX12_627 ⟨_, _, rfl⟩ o85 rfl rfl (Nat.le_of_ble_eq_true rfl) (Nat.le_of_ble_eq_true rfl) (Nat.le_of_ble_eq_true rfl) (Nat.zero_le _) (Nat.zero_le _) dX12_qGoesOn_179 (c_X12_qDrops h) (fun m84 h => ?_)
  refine v_goto 162 dX12_qGoesOn_182 (by decide) ?_
  refine v_sub [0, 1] rfl ?_
  exact hK162  _ h
set_option maxHeartbeats 4000000 in
set_option maxRecDepth 100000 in
theorem v_X12_qGoesOn_p162b {G : Gl} {F : Fr} {sh : Shp} {v0 : Nat} {v1 : Int32} {Q : Int32 → Mem → Prop} {K162 : Mem → Prop} {m : Mem} (hK162 : ∀ (m : Mem), K162 m → V G F M_X12_qGoesOn sh 0 0 (Zi G F sh Q) 162 [(0, .ref (G.1 + v0)), (1, .int v1)] [] m) (h : X12_qGoesOn_p162b sh v0 v1 Q K162 m) : V G F M_X12_qGoesOn sh 0 0 (Zi G F sh Q) 162 [(0, .ref (G.1 + v0)), (1, .int v1)] [] m := by
  unfold X12_qGoesOn_p162b at h
  refine v_aload_n 0 0 dX12_qGoesOn_162 rfl rfl ?_
  refine v_iconst (3 : Int32) dX12_qGoesOn_163 (by decide) ?_
  obtain ⟨o61, h⟩ := h
  refine v_cVi [.int _] mv_X12_qIsOn ml_RX12_654 ⟨_, _, rfl⟩ o61 rfl rfl (Nat.le_of_ble_eq_true rfl) (Nat.le_of_ble_eq_true rfl) (Nat.le_of_ble_eq_true rfl) (Nat.zero_le _) (Nat.zero_le _) dX12_qGoesOn_164 (c_X12_qIsOn h) (fun r59 m60 h => ?_)
  refine v_if_ne 178 dX12_qGoesOn_167 (by decide) (fun hc => ?_) (fun hc => ?_)
  · replace h := Eq.mp (if_neg hc) h
    refine v_sub [0, 1] rfl ?_
    exact v_X12_qGoesOn_p178 hK162 h
  · replace h := Eq.mp (if_pos hc) h
    refine v_aload_n 0 0 dX12_qGoesOn_170 rfl rfl ?_
    refine v_iconst (4 : Int32) dX12_qGoesOn_171 (by decide) ?_
    refine v_cVi [.int _] mv_X12_qIsOn ml_RX12_654 ⟨_, _, rfl⟩ o61 rfl rfl (Nat.le_of_ble_eq_true rfl) (Nat.le_of_ble_eq_true rfl) (Nat.le_of_ble_eq_true rfl) (Nat.zero_le _) (Nat.zero_le _) dX12_qGoesOn_172 (c_X12_qIsOn h) (fun r62 m63 h => ?_)
    refine v_if_eq 185 dX12_qGoesOn_175 (by decide) (fun hc => ?_) (fun hc => ?_)
    · replace h := Eq.mp (if_pos hc) h
      refine v_aload_n 0 0 dX12_qGoesOn_185 rfl rfl ?_
      obtain ⟨b64, e65, h⟩ := h
      refine v_gR 12 110 dX12_qGoesOn_186 fg_RX12_273 o61 e65 ?_
      refine v_aload_n 0 0 dX12_qGoesOn_189 rfl rfl ?_
      refine v_gI 12 111 dX12_qGoesOn_190 fg_RX12_375 o61 ?_
      refine v_iload_n 1 1 dX12_qGoesOn_193 rfl rfl ?_
      obtain ⟨i66, h⟩ := h
      refine v_iast dX12_qGoesOn_194 i66 ?_
      replace h := bnd_e h
      refine v_aload_n 0 0 dX12_qGoesOn_195 rfl rfl ?_
      refine v_dup dX12_qGoesOn_196 rfl ?_
      refine v_gI 12 111 dX12_qGoesOn_197 fg_RX12_375 o61 ?_
      refine v_iconst (1 : Int32) dX12_qGoesOn_200 (by decide) ?_
      refine v_iadd dX12_qGoesOn_201 ?_
      refine v_pI 12 111 dX12_qGoesOn_202 fw_RX12_375 o61 ?_
      replace h := bnd_e h
      refine v_iconst (1 : Int32) dX12_qGoesOn_205 (by decide) ?_
      exact v_iret dX12_qGoesOn_206 rfl (by decide) h
    · replace h := Eq.mp (if_neg hc) h
      refine v_sub [0, 1] rfl ?_
      exact v_X12_qGoesOn_p178 hK162 h
set_option maxHeartbeats 4000000 in
set_option maxRecDepth 100000 in
theorem v_X12_qGoesOn_p162 {G : Gl} {F : Fr} {sh : Shp} {v0 : Nat} {v1 : Int32} {Q : Int32 → Mem → Prop} {m : Mem} (h : X12_qGoesOn_p162 sh v0 v1 Q m) : V G F M_X12_qGoesOn sh 0 0 (Zi G F sh Q) 162 [(0, .ref (G.1 + v0)), (1, .int v1)] [] m := by
  obtain ⟨n, h⟩ := h
  induction n generalizing  m with
  | zero => exact h.elim
  | succ n ih => exact v_X12_qGoesOn_p162b (fun  _ h => ih h) h
set_option maxHeartbeats 4000000 in
set_option maxRecDepth 100000 in
theorem v_X12_qGoesOn_p161 {G : Gl} {F : Fr} {sh : Shp} {v0 : Nat} {s0 : Int32} {Q : Int32 → Mem → Prop} {m : Mem} (h : X12_qGoesOn_p161 sh v0 s0 Q m) : V G F M_X12_qGoesOn sh 0 0 (Zi G F sh Q) 161 [(0, .ref (G.1 + v0))] [.int s0] m := by
  unfold X12_qGoesOn_p161 at h
  refine v_istore_n (ls' := [(1, .int _), (0, .ref _)]) 1 dX12_qGoesOn_161 rfl (Nat.le_of_ble_eq_true rfl) rfl ?_
  refine v_sub [1, 0] rfl ?_
  exact v_X12_qGoesOn_p162 h
set_option maxHeartbeats 4000000 in
set_option maxRecDepth 100000 in
theorem v_X12_qGoesOn_p140 {G : Gl} {F : Fr} {sh : Shp} {v0 : Nat} {Q : Int32 → Mem → Prop} {m : Mem} (h : X12_qGoesOn_p140 sh v0 Q m) : V G F M_X12_qGoesOn sh 0 0 (Zi G F sh Q) 140 [(0, .ref (G.1 + v0))] [] m := by
  unfold X12_qGoesOn_p140 at h
  refine v_aload_n 0 0 dX12_qGoesOn_140 rfl rfl ?_
  obtain ⟨o36, h⟩ := h
  obtain ⟨b37, e38, h⟩ := h
  refine v_gR 12 0 dX12_qGoesOn_141 fg_RX12_7 o36 e38 ?_
  refine v_aload_n 0 0 dX12_qGoesOn_144 rfl rfl ?_
  refine v_gI 12 2 dX12_qGoesOn_145 fg_RX12_291 o36 ?_
  refine v_iconst (1 : Int32) dX12_qGoesOn_148 (by decide) ?_
  refine v_isub dX12_qGoesOn_149 ?_
  obtain ⟨i39, h⟩ := h
  refine v_iald dX12_qGoesOn_150 i39 ?_
  refine v_bipush (42 : Int32) dX12_qGoesOn_151 (by decide) ?_
  refine v_icmp_ne 160 dX12_qGoesOn_153 (by decide) (fun hc => ?_) (fun hc => ?_)
  · replace h := Eq.mp (if_neg hc) h
    refine v_iconst (4 : Int32) dX12_qGoesOn_160 (by decide) ?_
    refine v_sub [0] rfl ?_
    exact v_X12_qGoesOn_p161 h
  · replace h := Eq.mp (if_pos hc) h
    refine v_iconst (3 : Int32) dX12_qGoesOn_156 (by decide) ?_
    refine v_goto 161 dX12_qGoesOn_157 (by decide) ?_
    refine v_sub [0] rfl ?_
    exact v_X12_qGoesOn_p161 h
set_option maxHeartbeats 4000000 in
set_option maxRecDepth 100000 in
theorem v_X12_qGoesOn_p279 {G : Gl} {F : Fr} {sh : Shp} {v0 : Nat} {v1 : Int32} {Q : Int32 → Mem → Prop} {K247 : Mem → Prop} {m : Mem} (hK247 : ∀ (m : Mem), K247 m → V G F M_X12_qGoesOn sh 0 0 (Zi G F sh Q) 247 [(0, .ref (G.1 + v0)), (1, .int v1)] [] m) (h : X12_qGoesOn_p279 sh v0 v1 Q K247 m) : V G F M_X12_qGoesOn sh 0 0 (Zi G F sh Q) 279 [(0, .ref (G.1 + v0)), (1, .int v1)] [] m := by
  unfold X12_qGoesOn_p279 at h
  refine v_aload_n 0 0 dX12_qGoesOn_279 rfl rfl ?_
  obtain ⟨o88, h⟩ := h
  refine v_cVv [] mv_X12_qDrops ml_RX12_627 ⟨_, _, rfl⟩ o88 rfl rfl (Nat.le_of_ble_eq_true rfl) (Nat.le_of_ble_eq_true rfl) (Nat.le_of_ble_eq_true rfl) (Nat.zero_le _) (Nat.zero_le _) dX12_qGoesOn_280 (c_X12_qDrops h) (fun m87 h => ?_)
  refine v_goto 247 dX12_qGoesOn_283 (by decide) ?_
  refine v_sub [0, 1] rfl ?_
  exact hK247  _ h
set_option maxHeartbeats 4000000 in
set_option maxRecDepth 100000 in
theorem v_X12_qGoesOn_p247b {G : Gl} {F : Fr} {sh : Shp} {v0 : Nat} {v1 : Int32} {Q : Int32 → Mem → Prop} {K247 : Mem → Prop} {m : Mem} (hK247 : ∀ (m : Mem), K247 m → V G F M_X12_qGoesOn sh 0 0 (Zi G F sh Q) 247 [(0, .ref (G.1 + v0)), (1, .int v1)] [] m) (h : X12_qGoesOn_p247b sh v0 v1 Q K247 m) : V G F M_X12_qGoesOn sh 0 0 (Zi G F sh Q) 247 [(0, .ref (G.1 + v0)), (1, .int v1)] [] m := by
  unfold X12_qGoesOn_p247b at h
  refine v_aload_n 0 0 dX12_qGoesOn_247 rfl rfl ?_
  refine v_iconst (3 : Int32) dX12_qGoesOn_248 (by decide) ?_
  obtain ⟨o71, h⟩ := h
  refine v_cVi [.int _] mv_X12_qIsOn ml_RX12_654 ⟨_, _, rfl⟩ o71 rfl rfl (Nat.le_of_ble_eq_true rfl) (Nat.le_of_ble_eq_true rfl) (Nat.le_of_ble_eq_true rfl) (Nat.zero_le _) (Nat.zero_le _) dX12_qGoesOn_249 (c_X12_qIsOn h) (fun r69 m70 h => ?_)
  refine v_if_ne 279 dX12_qGoesOn_252 (by decide) (fun hc => ?_) (fun hc => ?_)
  · replace h := Eq.mp (if_neg hc) h
    refine v_sub [0, 1] rfl ?_
    exact v_X12_qGoesOn_p279 hK247 h
  · replace h := Eq.mp (if_pos hc) h
    refine v_aload_n 0 0 dX12_qGoesOn_255 rfl rfl ?_
    refine v_iconst (4 : Int32) dX12_qGoesOn_256 (by decide) ?_
    refine v_cVi [.int _] mv_X12_qIsOn ml_RX12_654 ⟨_, _, rfl⟩ o71 rfl rfl (Nat.le_of_ble_eq_true rfl) (Nat.le_of_ble_eq_true rfl) (Nat.le_of_ble_eq_true rfl) (Nat.zero_le _) (Nat.zero_le _) dX12_qGoesOn_257 (c_X12_qIsOn h) (fun r72 m73 h => ?_)
    refine v_if_ne 279 dX12_qGoesOn_260 (by decide) (fun hc => ?_) (fun hc => ?_)
    · replace h := Eq.mp (if_neg hc) h
      refine v_sub [0, 1] rfl ?_
      exact v_X12_qGoesOn_p279 hK247 h
    · replace h := Eq.mp (if_pos hc) h
      refine v_aload_n 0 0 dX12_qGoesOn_263 rfl rfl ?_
      refine v_iconst (1 : Int32) dX12_qGoesOn_264 (by decide) ?_
      refine v_cVi [.int _] mv_X12_qIsOn ml_RX12_654 ⟨_, _, rfl⟩ o71 rfl rfl (Nat.le_of_ble_eq_true rfl) (Nat.le_of_ble_eq_true rfl) (Nat.le_of_ble_eq_true rfl) (Nat.zero_le _) (Nat.zero_le _) dX12_qGoesOn_265 (c_X12_qIsOn h) (fun r74 m75 h => ?_)
      refine v_if_ne 279 dX12_qGoesOn_268 (by decide) (fun hc => ?_) (fun hc => ?_)
      · replace h := Eq.mp (if_neg hc) h
        refine v_sub [0, 1] rfl ?_
        exact v_X12_qGoesOn_p279 hK247 h
      · replace h := Eq.mp (if_pos hc) h
        refine v_aload_n 0 0 dX12_qGoesOn_271 rfl rfl ?_
        refine v_iconst (2 : Int32) dX12_qGoesOn_272 (by decide) ?_
        refine v_cVi [.int _] mv_X12_qIsOn ml_RX12_654 ⟨_, _, rfl⟩ o71 rfl rfl (Nat.le_of_ble_eq_true rfl) (Nat.le_of_ble_eq_true rfl) (Nat.le_of_ble_eq_true rfl) (Nat.zero_le _) (Nat.zero_le _) dX12_qGoesOn_273 (c_X12_qIsOn h) (fun r76 m77 h => ?_)
        refine v_if_eq 286 dX12_qGoesOn_276 (by decide) (fun hc => ?_) (fun hc => ?_)
        · replace h := Eq.mp (if_pos hc) h
          refine v_aload_n 0 0 dX12_qGoesOn_286 rfl rfl ?_
          obtain ⟨b78, e79, h⟩ := h
          refine v_gR 12 110 dX12_qGoesOn_287 fg_RX12_273 o71 e79 ?_
          refine v_aload_n 0 0 dX12_qGoesOn_290 rfl rfl ?_
          refine v_gI 12 111 dX12_qGoesOn_291 fg_RX12_375 o71 ?_
          refine v_iload_n 1 1 dX12_qGoesOn_294 rfl rfl ?_
          obtain ⟨i80, h⟩ := h
          refine v_iast dX12_qGoesOn_295 i80 ?_
          replace h := bnd_e h
          refine v_aload_n 0 0 dX12_qGoesOn_296 rfl rfl ?_
          refine v_dup dX12_qGoesOn_297 rfl ?_
          refine v_gI 12 111 dX12_qGoesOn_298 fg_RX12_375 o71 ?_
          refine v_iconst (1 : Int32) dX12_qGoesOn_301 (by decide) ?_
          refine v_iadd dX12_qGoesOn_302 ?_
          refine v_pI 12 111 dX12_qGoesOn_303 fw_RX12_375 o71 ?_
          replace h := bnd_e h
          refine v_iconst (1 : Int32) dX12_qGoesOn_306 (by decide) ?_
          exact v_iret dX12_qGoesOn_307 rfl (by decide) h
        · replace h := Eq.mp (if_neg hc) h
          refine v_sub [0, 1] rfl ?_
          exact v_X12_qGoesOn_p279 hK247 h
set_option maxHeartbeats 4000000 in
set_option maxRecDepth 100000 in
theorem v_X12_qGoesOn_p247 {G : Gl} {F : Fr} {sh : Shp} {v0 : Nat} {v1 : Int32} {Q : Int32 → Mem → Prop} {m : Mem} (h : X12_qGoesOn_p247 sh v0 v1 Q m) : V G F M_X12_qGoesOn sh 0 0 (Zi G F sh Q) 247 [(0, .ref (G.1 + v0)), (1, .int v1)] [] m := by
  obtain ⟨n, h⟩ := h
  induction n generalizing  m with
  | zero => exact h.elim
  | succ n ih => exact v_X12_qGoesOn_p247b (fun  _ h => ih h) h
set_option maxHeartbeats 4000000 in
set_option maxRecDepth 100000 in
theorem v_X12_qGoesOn_p246 {G : Gl} {F : Fr} {sh : Shp} {v0 : Nat} {s0 : Int32} {Q : Int32 → Mem → Prop} {m : Mem} (h : X12_qGoesOn_p246 sh v0 s0 Q m) : V G F M_X12_qGoesOn sh 0 0 (Zi G F sh Q) 246 [(0, .ref (G.1 + v0))] [.int s0] m := by
  unfold X12_qGoesOn_p246 at h
  refine v_istore_n (ls' := [(1, .int _), (0, .ref _)]) 1 dX12_qGoesOn_246 rfl (Nat.le_of_ble_eq_true rfl) rfl ?_
  refine v_sub [1, 0] rfl ?_
  exact v_X12_qGoesOn_p247 h
set_option maxHeartbeats 4000000 in
set_option maxRecDepth 100000 in
theorem v_X12_qGoesOn_p225 {G : Gl} {F : Fr} {sh : Shp} {v0 : Nat} {Q : Int32 → Mem → Prop} {m : Mem} (h : X12_qGoesOn_p225 sh v0 Q m) : V G F M_X12_qGoesOn sh 0 0 (Zi G F sh Q) 225 [(0, .ref (G.1 + v0))] [] m := by
  unfold X12_qGoesOn_p225 at h
  refine v_aload_n 0 0 dX12_qGoesOn_225 rfl rfl ?_
  obtain ⟨o40, h⟩ := h
  obtain ⟨b41, e42, h⟩ := h
  refine v_gR 12 0 dX12_qGoesOn_226 fg_RX12_7 o40 e42 ?_
  refine v_aload_n 0 0 dX12_qGoesOn_229 rfl rfl ?_
  refine v_gI 12 2 dX12_qGoesOn_230 fg_RX12_291 o40 ?_
  refine v_iconst (1 : Int32) dX12_qGoesOn_233 (by decide) ?_
  refine v_isub dX12_qGoesOn_234 ?_
  obtain ⟨i43, h⟩ := h
  refine v_iald dX12_qGoesOn_235 i43 ?_
  refine v_bipush (43 : Int32) dX12_qGoesOn_236 (by decide) ?_
  refine v_icmp_ne 245 dX12_qGoesOn_238 (by decide) (fun hc => ?_) (fun hc => ?_)
  · replace h := Eq.mp (if_neg hc) h
    refine v_iconst (2 : Int32) dX12_qGoesOn_245 (by decide) ?_
    refine v_sub [0] rfl ?_
    exact v_X12_qGoesOn_p246 h
  · replace h := Eq.mp (if_pos hc) h
    refine v_iconst (1 : Int32) dX12_qGoesOn_241 (by decide) ?_
    refine v_goto 246 dX12_qGoesOn_242 (by decide) ?_
    refine v_sub [0] rfl ?_
    exact v_X12_qGoesOn_p246 h
set_option maxHeartbeats 4000000 in
set_option maxRecDepth 100000 in
theorem v_X12_qGoesOn_p326 {G : Gl} {F : Fr} {sh : Shp} {v0 : Nat} {Q : Int32 → Mem → Prop} {m : Mem} (h : X12_qGoesOn_p326 sh v0 Q m) : V G F M_X12_qGoesOn sh 0 0 (Zi G F sh Q) 326 [(0, .ref (G.1 + v0))] [] m := by
  unfold X12_qGoesOn_p326 at h
  refine v_aload_n 0 0 dX12_qGoesOn_326 rfl rfl ?_
  refine v_bipush (44 : Int32) dX12_qGoesOn_327 (by decide) ?_
  obtain ⟨o46, h⟩ := h
  refine v_cVv [.int _] mv_X12_asksSign ml_RX12_358 ⟨_, _, rfl⟩ o46 rfl rfl (Nat.le_of_ble_eq_true rfl) (Nat.le_of_ble_eq_true rfl) (Nat.le_of_ble_eq_true rfl) (Nat.zero_le _) (Nat.zero_le _) dX12_qGoesOn_329 (c_X12_asksSign h) (fun m45 h => ?_)
  refine v_aload_n 0 0 dX12_qGoesOn_332 rfl rfl ?_
  refine v_gI 12 5 dX12_qGoesOn_333 fg_RX12_285 o46 ?_
  refine v_if_eq 341 dX12_qGoesOn_336 (by decide) (fun hc => ?_) (fun hc => ?_)
  · replace h := Eq.mp (if_pos hc) h
    refine v_aload_n 0 0 dX12_qGoesOn_341 rfl rfl ?_
    refine v_cVv [] mv_X12_qDropsToBracket ml_RX12_651 ⟨_, _, rfl⟩ o46 rfl rfl (Nat.le_of_ble_eq_true rfl) (Nat.le_of_ble_eq_true rfl) (Nat.le_of_ble_eq_true rfl) (Nat.zero_le _) (Nat.zero_le _) dX12_qGoesOn_342 (c_X12_qDropsToBracket h) (fun m48 h => ?_)
    refine v_aload_n 0 0 dX12_qGoesOn_345 rfl rfl ?_
    obtain ⟨b49, e50, h⟩ := h
    refine v_gR 12 110 dX12_qGoesOn_346 fg_RX12_273 o46 e50 ?_
    refine v_aload_n 0 0 dX12_qGoesOn_349 rfl rfl ?_
    refine v_gI 12 111 dX12_qGoesOn_350 fg_RX12_375 o46 ?_
    refine v_iconst (1 : Int32) dX12_qGoesOn_353 (by decide) ?_
    refine v_isub dX12_qGoesOn_354 ?_
    refine v_dup2 dX12_qGoesOn_355 rfl rfl ?_
    obtain ⟨i51, h⟩ := h
    refine v_iald dX12_qGoesOn_356 i51 ?_
    refine v_iconst (2 : Int32) dX12_qGoesOn_357 (by decide) ?_
    refine v_iadd dX12_qGoesOn_358 ?_
    refine v_iast dX12_qGoesOn_359 i51 ?_
    replace h := bnd_e h
    refine v_iconst (1 : Int32) dX12_qGoesOn_360 (by decide) ?_
    exact v_iret dX12_qGoesOn_361 rfl (by decide) h
  · replace h := Eq.mp (if_neg hc) h
    refine v_iconst (0 : Int32) dX12_qGoesOn_339 (by decide) ?_
    exact v_iret dX12_qGoesOn_340 rfl (by decide) h
set_option maxHeartbeats 4000000 in
set_option maxRecDepth 100000 in
theorem v_X12_qGoesOn_p122 {G : Gl} {F : Fr} {sh : Shp} {v0 : Nat} {Q : Int32 → Mem → Prop} {m : Mem} (h : X12_qGoesOn_p122 sh v0 Q m) : V G F M_X12_qGoesOn sh 0 0 (Zi G F sh Q) 122 [(0, .ref (G.1 + v0))] [] m := by
  unfold X12_qGoesOn_p122 at h
  refine v_aload_n 0 0 dX12_qGoesOn_122 rfl rfl ?_
  refine v_bipush (42 : Int32) dX12_qGoesOn_123 (by decide) ?_
  obtain ⟨o12, h⟩ := h
  refine v_cVi [.int _] mv_X12_takesSign ml_RX12_319 ⟨_, _, rfl⟩ o12 rfl rfl (Nat.le_of_ble_eq_true rfl) (Nat.le_of_ble_eq_true rfl) (Nat.le_of_ble_eq_true rfl) (Nat.zero_le _) (Nat.zero_le _) dX12_qGoesOn_125 (c_X12_takesSign h) (fun r10 m11 h => ?_)
  refine v_if_ne 140 dX12_qGoesOn_128 (by decide) (fun hc => ?_) (fun hc => ?_)
  · replace h := Eq.mp (if_neg hc) h
    refine v_sub [0] rfl ?_
    exact v_X12_qGoesOn_p140 h
  · replace h := Eq.mp (if_pos hc) h
    refine v_aload_n 0 0 dX12_qGoesOn_131 rfl rfl ?_
    refine v_bipush (47 : Int32) dX12_qGoesOn_132 (by decide) ?_
    refine v_cVi [.int _] mv_X12_takesSign ml_RX12_319 ⟨_, _, rfl⟩ o12 rfl rfl (Nat.le_of_ble_eq_true rfl) (Nat.le_of_ble_eq_true rfl) (Nat.le_of_ble_eq_true rfl) (Nat.zero_le _) (Nat.zero_le _) dX12_qGoesOn_134 (c_X12_takesSign h) (fun r13 m14 h => ?_)
    refine v_if_eq 207 dX12_qGoesOn_137 (by decide) (fun hc => ?_) (fun hc => ?_)
    · replace h := Eq.mp (if_pos hc) h
      refine v_aload_n 0 0 dX12_qGoesOn_207 rfl rfl ?_
      refine v_bipush (43 : Int32) dX12_qGoesOn_208 (by decide) ?_
      refine v_cVi [.int _] mv_X12_takesSign ml_RX12_319 ⟨_, _, rfl⟩ o12 rfl rfl (Nat.le_of_ble_eq_true rfl) (Nat.le_of_ble_eq_true rfl) (Nat.le_of_ble_eq_true rfl) (Nat.zero_le _) (Nat.zero_le _) dX12_qGoesOn_210 (c_X12_takesSign h) (fun r15 m16 h => ?_)
      refine v_if_ne 225 dX12_qGoesOn_213 (by decide) (fun hc => ?_) (fun hc => ?_)
      · replace h := Eq.mp (if_neg hc) h
        refine v_sub [0] rfl ?_
        exact v_X12_qGoesOn_p225 h
      · replace h := Eq.mp (if_pos hc) h
        refine v_aload_n 0 0 dX12_qGoesOn_216 rfl rfl ?_
        refine v_bipush (45 : Int32) dX12_qGoesOn_217 (by decide) ?_
        refine v_cVi [.int _] mv_X12_takesSign ml_RX12_319 ⟨_, _, rfl⟩ o12 rfl rfl (Nat.le_of_ble_eq_true rfl) (Nat.le_of_ble_eq_true rfl) (Nat.le_of_ble_eq_true rfl) (Nat.zero_le _) (Nat.zero_le _) dX12_qGoesOn_219 (c_X12_takesSign h) (fun r17 m18 h => ?_)
        refine v_if_eq 308 dX12_qGoesOn_222 (by decide) (fun hc => ?_) (fun hc => ?_)
        · replace h := Eq.mp (if_pos hc) h
          refine v_aload_n 0 0 dX12_qGoesOn_308 rfl rfl ?_
          refine v_cVi [] mv_X12_qBracket ml_RX12_648 ⟨_, _, rfl⟩ o12 rfl rfl (Nat.le_of_ble_eq_true rfl) (Nat.le_of_ble_eq_true rfl) (Nat.le_of_ble_eq_true rfl) (Nat.zero_le _) (Nat.zero_le _) dX12_qGoesOn_309 (c_X12_qBracket h) (fun r19 m20 h => ?_)
          refine v_bipush (21 : Int32) dX12_qGoesOn_312 (by decide) ?_
          refine v_icmp_eq 326 dX12_qGoesOn_314 (by decide) (fun hc => ?_) (fun hc => ?_)
          · replace h := Eq.mp (if_pos hc) h
            refine v_sub [0] rfl ?_
            exact v_X12_qGoesOn_p326 h
          · replace h := Eq.mp (if_neg hc) h
            refine v_aload_n 0 0 dX12_qGoesOn_317 rfl rfl ?_
            refine v_cVi [] mv_X12_qBracket ml_RX12_648 ⟨_, _, rfl⟩ o12 rfl rfl (Nat.le_of_ble_eq_true rfl) (Nat.le_of_ble_eq_true rfl) (Nat.le_of_ble_eq_true rfl) (Nat.zero_le _) (Nat.zero_le _) dX12_qGoesOn_318 (c_X12_qBracket h) (fun r21 m22 h => ?_)
            refine v_bipush (22 : Int32) dX12_qGoesOn_321 (by decide) ?_
            refine v_icmp_ne 362 dX12_qGoesOn_323 (by decide) (fun hc => ?_) (fun hc => ?_)
            · replace h := Eq.mp (if_neg hc) h
              refine v_aload_n 0 0 dX12_qGoesOn_362 rfl rfl ?_
              refine v_cVi [] mv_X12_qBracket ml_RX12_648 ⟨_, _, rfl⟩ o12 rfl rfl (Nat.le_of_ble_eq_true rfl) (Nat.le_of_ble_eq_true rfl) (Nat.le_of_ble_eq_true rfl) (Nat.zero_le _) (Nat.zero_le _) dX12_qGoesOn_363 (c_X12_qBracket h) (fun r23 m24 h => ?_)
              refine v_iconst (-1 : Int32) dX12_qGoesOn_366 (by decide) ?_
              refine v_icmp_eq 386 dX12_qGoesOn_367 (by decide) (fun hc => ?_) (fun hc => ?_)
              · replace h := Eq.mp (if_pos hc) h
                refine v_iconst (0 : Int32) dX12_qGoesOn_386 (by decide) ?_
                exact v_iret dX12_qGoesOn_387 rfl (by decide) h
              · replace h := Eq.mp (if_neg hc) h
                refine v_aload_n 0 0 dX12_qGoesOn_370 rfl rfl ?_
                refine v_gI 12 5 dX12_qGoesOn_371 fg_RX12_285 o12 ?_
                refine v_if_ne 386 dX12_qGoesOn_374 (by decide) (fun hc => ?_) (fun hc => ?_)
                · replace h := Eq.mp (if_neg hc) h
                  refine v_iconst (0 : Int32) dX12_qGoesOn_386 (by decide) ?_
                  exact v_iret dX12_qGoesOn_387 rfl (by decide) h
                · replace h := Eq.mp (if_pos hc) h
                  refine v_aload_n 0 0 dX12_qGoesOn_377 rfl rfl ?_
                  refine v_iconst (1 : Int32) dX12_qGoesOn_378 (by decide) ?_
                  refine v_aload_n 0 0 dX12_qGoesOn_379 rfl rfl ?_
                  refine v_gI 12 2 dX12_qGoesOn_380 fg_RX12_291 o12 ?_
                  refine v_cVv [.int _, .int _] mv_X12_fail ml_RX12_315 ⟨_, _, rfl⟩ o12 rfl rfl (Nat.le_of_ble_eq_true rfl) (Nat.le_of_ble_eq_true rfl) (Nat.le_of_ble_eq_true rfl) (Nat.zero_le _) (Nat.zero_le _) dX12_qGoesOn_383 (c_X12_fail h) (fun m26 h => ?_)
                  refine v_iconst (0 : Int32) dX12_qGoesOn_386 (by decide) ?_
                  exact v_iret dX12_qGoesOn_387 rfl (by decide) h
            · replace h := Eq.mp (if_pos hc) h
              refine v_sub [0] rfl ?_
              exact v_X12_qGoesOn_p326 h
        · replace h := Eq.mp (if_neg hc) h
          refine v_sub [0] rfl ?_
          exact v_X12_qGoesOn_p225 h
    · replace h := Eq.mp (if_neg hc) h
      refine v_sub [0] rfl ?_
      exact v_X12_qGoesOn_p140 h
set_option maxHeartbeats 4000000 in
set_option maxRecDepth 100000 in
theorem v_X12_qGoesOn_p0b {G : Gl} {F : Fr} {sh : Shp} {v0 : Nat} {Q : Int32 → Mem → Prop} {K0 : Mem → Prop} {m : Mem} (hK0 : ∀ (m : Mem), K0 m → V G F M_X12_qGoesOn sh 0 0 (Zi G F sh Q) 0 [(0, .ref (G.1 + v0))] [] m) (h : X12_qGoesOn_p0b sh v0 Q K0 m) : V G F M_X12_qGoesOn sh 0 0 (Zi G F sh Q) 0 [(0, .ref (G.1 + v0))] [] m := by
  unfold X12_qGoesOn_p0b at h
  refine v_aload_n 0 0 dX12_qGoesOn_0 rfl rfl ?_
  obtain ⟨o1, h⟩ := h
  refine v_gI 12 5 dX12_qGoesOn_1 fg_RX12_285 o1 ?_
  refine v_if_ne 122 dX12_qGoesOn_4 (by decide) (fun hc => ?_) (fun hc => ?_)
  · replace h := Eq.mp (if_neg hc) h
    refine v_sub [0] rfl ?_
    exact v_X12_qGoesOn_p122 h
  · replace h := Eq.mp (if_pos hc) h
    refine v_aload_n 0 0 dX12_qGoesOn_7 rfl rfl ?_
    refine v_cVi [] mv_X12_look ml_RX12_297 ⟨_, _, rfl⟩ o1 rfl rfl (Nat.le_of_ble_eq_true rfl) (Nat.le_of_ble_eq_true rfl) (Nat.le_of_ble_eq_true rfl) (Nat.zero_le _) (Nat.zero_le _) dX12_qGoesOn_8 (c_X12_look h) (fun r2 m3 h => ?_)
    refine v_bipush (41 : Int32) dX12_qGoesOn_11 (by decide) ?_
    refine v_icmp_ne 122 dX12_qGoesOn_13 (by decide) (fun hc => ?_) (fun hc => ?_)
    · replace h := Eq.mp (if_neg hc) h
      refine v_sub [0] rfl ?_
      exact v_X12_qGoesOn_p122 h
    · replace h := Eq.mp (if_pos hc) h
      refine v_aload_n 0 0 dX12_qGoesOn_16 rfl rfl ?_
      refine v_cVi [] mv_X12_qBracket ml_RX12_648 ⟨_, _, rfl⟩ o1 rfl rfl (Nat.le_of_ble_eq_true rfl) (Nat.le_of_ble_eq_true rfl) (Nat.le_of_ble_eq_true rfl) (Nat.zero_le _) (Nat.zero_le _) dX12_qGoesOn_17 (c_X12_qBracket h) (fun r4 m5 h => ?_)
      refine v_bipush (20 : Int32) dX12_qGoesOn_20 (by decide) ?_
      refine v_icmp_eq 43 dX12_qGoesOn_22 (by decide) (fun hc => ?_) (fun hc => ?_)
      · replace h := Eq.mp (if_pos hc) h
        refine v_sub [0] rfl ?_
        exact v_X12_qGoesOn_p43 hK0 h
      · replace h := Eq.mp (if_neg hc) h
        refine v_aload_n 0 0 dX12_qGoesOn_25 rfl rfl ?_
        refine v_cVi [] mv_X12_qBracket ml_RX12_648 ⟨_, _, rfl⟩ o1 rfl rfl (Nat.le_of_ble_eq_true rfl) (Nat.le_of_ble_eq_true rfl) (Nat.le_of_ble_eq_true rfl) (Nat.zero_le _) (Nat.zero_le _) dX12_qGoesOn_26 (c_X12_qBracket h) (fun r6 m7 h => ?_)
        refine v_bipush (23 : Int32) dX12_qGoesOn_29 (by decide) ?_
        refine v_icmp_eq 43 dX12_qGoesOn_31 (by decide) (fun hc => ?_) (fun hc => ?_)
        · replace h := Eq.mp (if_pos hc) h
          refine v_sub [0] rfl ?_
          exact v_X12_qGoesOn_p43 hK0 h
        · replace h := Eq.mp (if_neg hc) h
          refine v_aload_n 0 0 dX12_qGoesOn_34 rfl rfl ?_
          refine v_cVi [] mv_X12_qBracket ml_RX12_648 ⟨_, _, rfl⟩ o1 rfl rfl (Nat.le_of_ble_eq_true rfl) (Nat.le_of_ble_eq_true rfl) (Nat.le_of_ble_eq_true rfl) (Nat.zero_le _) (Nat.zero_le _) dX12_qGoesOn_35 (c_X12_qBracket h) (fun r8 m9 h => ?_)
          refine v_bipush (24 : Int32) dX12_qGoesOn_38 (by decide) ?_
          refine v_icmp_ne 122 dX12_qGoesOn_40 (by decide) (fun hc => ?_) (fun hc => ?_)
          · replace h := Eq.mp (if_neg hc) h
            refine v_sub [0] rfl ?_
            exact v_X12_qGoesOn_p122 h
          · replace h := Eq.mp (if_pos hc) h
            refine v_sub [0] rfl ?_
            exact v_X12_qGoesOn_p43 hK0 h
set_option maxHeartbeats 4000000 in
set_option maxRecDepth 100000 in
theorem v_X12_qGoesOn_p0 {G : Gl} {F : Fr} {sh : Shp} {v0 : Nat} {Q : Int32 → Mem → Prop} {m : Mem} (h : X12_qGoesOn_p0 sh v0 Q m) : V G F M_X12_qGoesOn sh 0 0 (Zi G F sh Q) 0 [(0, .ref (G.1 + v0))] [] m := by
  obtain ⟨n, h⟩ := h
  induction n generalizing  m with
  | zero => exact h.elim
  | succ n ih => exact v_X12_qGoesOn_p0b (fun  _ h => ih h) h
set_option maxHeartbeats 4000000 in
set_option maxRecDepth 100000 in
theorem c_X12_qGoesOn {l : Launch} {G : Gl} {sh : Shp} {v0 : Nat} {Q : Int32 → Mem → Prop} {m : Mem} (h : wp_X12_qGoesOn sh v0 Q m) : Cni l G yX12_qGoesOn cX12_qGoesOn 2 (Option.some FieldType.boolean) 4 122 sh [.ref (G.1 + v0)] m Q := by
  refine con_i (ls := [(0, .ref (G.1 + v0))]) (by decide +kernel) rfl (Nat.le_of_ble_eq_true rfl) (fun F => ?_)
  show V G F M_X12_qGoesOn sh 0 0 (Zi G F sh Q) 0 [(0, .ref (G.1 + v0))] [] m
  unfold wp_X12_qGoesOn at h
  refine v_sub [0] rfl ?_
  exact v_X12_qGoesOn_p0 h
/-! CalledRiverModel.qKind -/
theorem dX12_qKind_0 : decode cX12_qKind 0 = .ok (.aload_n 0, 1) := by decide +kernel
theorem dX12_qKind_1 : decode cX12_qKind 1 = .ok (.aload_n 0, 1) := by decide +kernel
theorem dX12_qKind_2 : decode cX12_qKind 2 = .ok (.getfield 189, 3) := by decide +kernel
theorem dX12_qKind_5 : decode cX12_qKind 5 = .ok (.invokevirtual 312, 3) := by decide +kernel
theorem dX12_qKind_8 : decode cX12_qKind 8 = .ok (.ifCond .eq 7, 3) := by decide +kernel
theorem dX12_qKind_11 : decode cX12_qKind 11 = .ok (.iconst 0, 1) := by decide +kernel
theorem dX12_qKind_12 : decode cX12_qKind 12 = .ok (.goto 64, 3) := by decide +kernel
theorem dX12_qKind_15 : decode cX12_qKind 15 = .ok (.aload_n 0, 1) := by decide +kernel
theorem dX12_qKind_16 : decode cX12_qKind 16 = .ok (.aload_n 0, 1) := by decide +kernel
theorem dX12_qKind_17 : decode cX12_qKind 17 = .ok (.getfield 192, 3) := by decide +kernel
theorem dX12_qKind_20 : decode cX12_qKind 20 = .ok (.invokevirtual 312, 3) := by decide +kernel
theorem dX12_qKind_23 : decode cX12_qKind 23 = .ok (.ifCond .eq 7, 3) := by decide +kernel
theorem dX12_qKind_26 : decode cX12_qKind 26 = .ok (.iconst 1, 1) := by decide +kernel
theorem dX12_qKind_27 : decode cX12_qKind 27 = .ok (.goto 49, 3) := by decide +kernel
theorem dX12_qKind_30 : decode cX12_qKind 30 = .ok (.aload_n 0, 1) := by decide +kernel
theorem dX12_qKind_31 : decode cX12_qKind 31 = .ok (.aload_n 0, 1) := by decide +kernel
theorem dX12_qKind_32 : decode cX12_qKind 32 = .ok (.getfield 195, 3) := by decide +kernel
theorem dX12_qKind_35 : decode cX12_qKind 35 = .ok (.invokevirtual 312, 3) := by decide +kernel
theorem dX12_qKind_38 : decode cX12_qKind 38 = .ok (.ifCond .eq 7, 3) := by decide +kernel
theorem dX12_qKind_41 : decode cX12_qKind 41 = .ok (.iconst 2, 1) := by decide +kernel
theorem dX12_qKind_42 : decode cX12_qKind 42 = .ok (.goto 34, 3) := by decide +kernel
theorem dX12_qKind_45 : decode cX12_qKind 45 = .ok (.aload_n 0, 1) := by decide +kernel
theorem dX12_qKind_46 : decode cX12_qKind 46 = .ok (.aload_n 0, 1) := by decide +kernel
theorem dX12_qKind_47 : decode cX12_qKind 47 = .ok (.getfield 198, 3) := by decide +kernel
theorem dX12_qKind_50 : decode cX12_qKind 50 = .ok (.invokevirtual 312, 3) := by decide +kernel
theorem dX12_qKind_53 : decode cX12_qKind 53 = .ok (.ifCond .eq 7, 3) := by decide +kernel
theorem dX12_qKind_56 : decode cX12_qKind 56 = .ok (.iconst 3, 1) := by decide +kernel
theorem dX12_qKind_57 : decode cX12_qKind 57 = .ok (.goto 19, 3) := by decide +kernel
theorem dX12_qKind_60 : decode cX12_qKind 60 = .ok (.aload_n 0, 1) := by decide +kernel
theorem dX12_qKind_61 : decode cX12_qKind 61 = .ok (.aload_n 0, 1) := by decide +kernel
theorem dX12_qKind_62 : decode cX12_qKind 62 = .ok (.getfield 201, 3) := by decide +kernel
theorem dX12_qKind_65 : decode cX12_qKind 65 = .ok (.invokevirtual 312, 3) := by decide +kernel
theorem dX12_qKind_68 : decode cX12_qKind 68 = .ok (.ifCond .eq 7, 3) := by decide +kernel
theorem dX12_qKind_71 : decode cX12_qKind 71 = .ok (.iconst 4, 1) := by decide +kernel
theorem dX12_qKind_72 : decode cX12_qKind 72 = .ok (.goto 4, 3) := by decide +kernel
theorem dX12_qKind_75 : decode cX12_qKind 75 = .ok (.iconst 5, 1) := by decide +kernel
theorem dX12_qKind_76 : decode cX12_qKind 76 = .ok (.istore_n 1, 1) := by decide +kernel
theorem dX12_qKind_77 : decode cX12_qKind 77 = .ok (.iload_n 1, 1) := by decide +kernel
theorem dX12_qKind_78 : decode cX12_qKind 78 = .ok (.iconst 5, 1) := by decide +kernel
theorem dX12_qKind_79 : decode cX12_qKind 79 = .ok (.if_icmp .ne 11, 3) := by decide +kernel
theorem dX12_qKind_82 : decode cX12_qKind 82 = .ok (.aload_n 0, 1) := by decide +kernel
theorem dX12_qKind_83 : decode cX12_qKind 83 = .ok (.aload_n 0, 1) := by decide +kernel
theorem dX12_qKind_84 : decode cX12_qKind 84 = .ok (.getfield 204, 3) := by decide +kernel
theorem dX12_qKind_87 : decode cX12_qKind 87 = .ok (.invokevirtual 350, 3) := by decide +kernel
theorem dX12_qKind_90 : decode cX12_qKind 90 = .ok (.iload_n 1, 1) := by decide +kernel
theorem dX12_qKind_91 : decode cX12_qKind 91 = .ok (.ireturn, 1) := by decide +kernel
def X12_qKind_p76 (sh : Shp) (v0 : Nat) (s0 : Int32) (Q : Int32 → Mem → Prop) (m : Mem) : Prop :=
  if s0 = (5 : Int32) then (Ob sh v0 12 ∧ ∃ b23 : Nat, m.2.2 v0 86 = some b23 ∧ (wp_X12_asks sh v0 b23 (fun m26 => Q s0 m26) m)) else (Q s0 m)
def wp_X12_qKind (sh : Shp) (v0 : Nat) (Q : Int32 → Mem → Prop) (m : Mem) : Prop :=
  Ob sh v0 12 ∧ ∃ b2 : Nat, m.2.2 v0 81 = some b2 ∧ (wp_X12_takes sh v0 b2 (fun r4 m5 => if r4 = 0 then (∃ b6 : Nat, m5.2.2 v0 82 = some b6 ∧ (wp_X12_takes sh v0 b6 (fun r8 m9 => if r8 = 0 then (∃ b10 : Nat, m9.2.2 v0 83 = some b10 ∧ (wp_X12_takes sh v0 b10 (fun r12 m13 => if r12 = 0 then (∃ b14 : Nat, m13.2.2 v0 84 = some b14 ∧ (wp_X12_takes sh v0 b14 (fun r16 m17 => if r16 = 0 then (∃ b18 : Nat, m17.2.2 v0 85 = some b18 ∧ (wp_X12_takes sh v0 b18 (fun r20 m21 => if r20 = 0 then (X12_qKind_p76 sh v0 (5 : Int32) Q m21) else (X12_qKind_p76 sh v0 (4 : Int32) Q m21)) m17)) else (X12_qKind_p76 sh v0 (3 : Int32) Q m17)) m13)) else (X12_qKind_p76 sh v0 (2 : Int32) Q m13)) m9)) else (X12_qKind_p76 sh v0 (1 : Int32) Q m9)) m5)) else (X12_qKind_p76 sh v0 (0 : Int32) Q m5)) m)
abbrev M_X12_qKind : Mi := (cX12_qKind, 2, RX12, (Option.some FieldType.int), "qKind", 5, 145, 0, 0)
set_option maxHeartbeats 4000000 in
set_option maxRecDepth 100000 in
theorem v_X12_qKind_p76 {G : Gl} {F : Fr} {sh : Shp} {v0 : Nat} {s0 : Int32} {Q : Int32 → Mem → Prop} {m : Mem} (h : X12_qKind_p76 sh v0 s0 Q m) : V G F M_X12_qKind sh 0 0 (Zi G F sh Q) 76 [(0, .ref (G.1 + v0))] [.int s0] m := by
  unfold X12_qKind_p76 at h
  refine v_istore_n (ls' := [(1, .int _), (0, .ref _)]) 1 dX12_qKind_76 rfl (Nat.le_of_ble_eq_true rfl) rfl ?_
  refine v_iload_n 1 0 dX12_qKind_77 rfl rfl ?_
  refine v_iconst (5 : Int32) dX12_qKind_78 (by decide) ?_
  refine v_icmp_ne 90 dX12_qKind_79 (by decide) (fun hc => ?_) (fun hc => ?_)
  · replace h := Eq.mp (if_neg hc) h
    refine v_iload_n 1 0 dX12_qKind_90 rfl rfl ?_
    exact v_iret dX12_qKind_91 rfl rfl h
  · replace h := Eq.mp (if_pos hc) h
    refine v_aload_n 0 1 dX12_qKind_82 rfl rfl ?_
    refine v_aload_n 0 1 dX12_qKind_83 rfl rfl ?_
    obtain ⟨o22, h⟩ := h
    obtain ⟨b23, e24, h⟩ := h
    refine v_gR 12 86 dX12_qKind_84 fg_RX12_204 o22 e24 ?_
    refine v_cVv [.ref _] mv_X12_asks ml_RX12_350 ⟨_, _, rfl⟩ o22 rfl rfl (Nat.le_of_ble_eq_true rfl) (Nat.le_of_ble_eq_true rfl) (Nat.le_of_ble_eq_true rfl) (Nat.zero_le _) (Nat.zero_le _) dX12_qKind_87 (c_X12_asks h) (fun m26 h => ?_)
    refine v_iload_n 1 0 dX12_qKind_90 rfl rfl ?_
    exact v_iret dX12_qKind_91 rfl rfl h
set_option maxHeartbeats 4000000 in
set_option maxRecDepth 100000 in
theorem c_X12_qKind {l : Launch} {G : Gl} {sh : Shp} {v0 : Nat} {Q : Int32 → Mem → Prop} {m : Mem} (h : wp_X12_qKind sh v0 Q m) : Cni l G yX12_qKind cX12_qKind 2 (Option.some FieldType.int) 5 145 sh [.ref (G.1 + v0)] m Q := by
  refine con_i (ls := [(0, .ref (G.1 + v0))]) (by decide +kernel) rfl (Nat.le_of_ble_eq_true rfl) (fun F => ?_)
  show V G F M_X12_qKind sh 0 0 (Zi G F sh Q) 0 [(0, .ref (G.1 + v0))] [] m
  unfold wp_X12_qKind at h
  refine v_aload_n 0 0 dX12_qKind_0 rfl rfl ?_
  refine v_aload_n 0 0 dX12_qKind_1 rfl rfl ?_
  obtain ⟨o1, h⟩ := h
  obtain ⟨b2, e3, h⟩ := h
  refine v_gR 12 81 dX12_qKind_2 fg_RX12_189 o1 e3 ?_
  refine v_cVi [.ref _] mv_X12_takes ml_RX12_312 ⟨_, _, rfl⟩ o1 rfl rfl (Nat.le_of_ble_eq_true rfl) (Nat.le_of_ble_eq_true rfl) (Nat.le_of_ble_eq_true rfl) (Nat.zero_le _) (Nat.zero_le _) dX12_qKind_5 (c_X12_takes h) (fun r4 m5 h => ?_)
  refine v_if_eq 15 dX12_qKind_8 (by decide) (fun hc => ?_) (fun hc => ?_)
  · replace h := Eq.mp (if_pos hc) h
    refine v_aload_n 0 0 dX12_qKind_15 rfl rfl ?_
    refine v_aload_n 0 0 dX12_qKind_16 rfl rfl ?_
    obtain ⟨b6, e7, h⟩ := h
    refine v_gR 12 82 dX12_qKind_17 fg_RX12_192 o1 e7 ?_
    refine v_cVi [.ref _] mv_X12_takes ml_RX12_312 ⟨_, _, rfl⟩ o1 rfl rfl (Nat.le_of_ble_eq_true rfl) (Nat.le_of_ble_eq_true rfl) (Nat.le_of_ble_eq_true rfl) (Nat.zero_le _) (Nat.zero_le _) dX12_qKind_20 (c_X12_takes h) (fun r8 m9 h => ?_)
    refine v_if_eq 30 dX12_qKind_23 (by decide) (fun hc => ?_) (fun hc => ?_)
    · replace h := Eq.mp (if_pos hc) h
      refine v_aload_n 0 0 dX12_qKind_30 rfl rfl ?_
      refine v_aload_n 0 0 dX12_qKind_31 rfl rfl ?_
      obtain ⟨b10, e11, h⟩ := h
      refine v_gR 12 83 dX12_qKind_32 fg_RX12_195 o1 e11 ?_
      refine v_cVi [.ref _] mv_X12_takes ml_RX12_312 ⟨_, _, rfl⟩ o1 rfl rfl (Nat.le_of_ble_eq_true rfl) (Nat.le_of_ble_eq_true rfl) (Nat.le_of_ble_eq_true rfl) (Nat.zero_le _) (Nat.zero_le _) dX12_qKind_35 (c_X12_takes h) (fun r12 m13 h => ?_)
      refine v_if_eq 45 dX12_qKind_38 (by decide) (fun hc => ?_) (fun hc => ?_)
      · replace h := Eq.mp (if_pos hc) h
        refine v_aload_n 0 0 dX12_qKind_45 rfl rfl ?_
        refine v_aload_n 0 0 dX12_qKind_46 rfl rfl ?_
        obtain ⟨b14, e15, h⟩ := h
        refine v_gR 12 84 dX12_qKind_47 fg_RX12_198 o1 e15 ?_
        refine v_cVi [.ref _] mv_X12_takes ml_RX12_312 ⟨_, _, rfl⟩ o1 rfl rfl (Nat.le_of_ble_eq_true rfl) (Nat.le_of_ble_eq_true rfl) (Nat.le_of_ble_eq_true rfl) (Nat.zero_le _) (Nat.zero_le _) dX12_qKind_50 (c_X12_takes h) (fun r16 m17 h => ?_)
        refine v_if_eq 60 dX12_qKind_53 (by decide) (fun hc => ?_) (fun hc => ?_)
        · replace h := Eq.mp (if_pos hc) h
          refine v_aload_n 0 0 dX12_qKind_60 rfl rfl ?_
          refine v_aload_n 0 0 dX12_qKind_61 rfl rfl ?_
          obtain ⟨b18, e19, h⟩ := h
          refine v_gR 12 85 dX12_qKind_62 fg_RX12_201 o1 e19 ?_
          refine v_cVi [.ref _] mv_X12_takes ml_RX12_312 ⟨_, _, rfl⟩ o1 rfl rfl (Nat.le_of_ble_eq_true rfl) (Nat.le_of_ble_eq_true rfl) (Nat.le_of_ble_eq_true rfl) (Nat.zero_le _) (Nat.zero_le _) dX12_qKind_65 (c_X12_takes h) (fun r20 m21 h => ?_)
          refine v_if_eq 75 dX12_qKind_68 (by decide) (fun hc => ?_) (fun hc => ?_)
          · replace h := Eq.mp (if_pos hc) h
            refine v_iconst (5 : Int32) dX12_qKind_75 (by decide) ?_
            refine v_sub [0] rfl ?_
            exact v_X12_qKind_p76 h
          · replace h := Eq.mp (if_neg hc) h
            refine v_iconst (4 : Int32) dX12_qKind_71 (by decide) ?_
            refine v_goto 76 dX12_qKind_72 (by decide) ?_
            refine v_sub [0] rfl ?_
            exact v_X12_qKind_p76 h
        · replace h := Eq.mp (if_neg hc) h
          refine v_iconst (3 : Int32) dX12_qKind_56 (by decide) ?_
          refine v_goto 76 dX12_qKind_57 (by decide) ?_
          refine v_sub [0] rfl ?_
          exact v_X12_qKind_p76 h
      · replace h := Eq.mp (if_neg hc) h
        refine v_iconst (2 : Int32) dX12_qKind_41 (by decide) ?_
        refine v_goto 76 dX12_qKind_42 (by decide) ?_
        refine v_sub [0] rfl ?_
        exact v_X12_qKind_p76 h
    · replace h := Eq.mp (if_neg hc) h
      refine v_iconst (1 : Int32) dX12_qKind_26 (by decide) ?_
      refine v_goto 76 dX12_qKind_27 (by decide) ?_
      refine v_sub [0] rfl ?_
      exact v_X12_qKind_p76 h
  · replace h := Eq.mp (if_neg hc) h
    refine v_iconst (0 : Int32) dX12_qKind_11 (by decide) ?_
    refine v_goto 76 dX12_qKind_12 (by decide) ?_
    refine v_sub [0] rfl ?_
    exact v_X12_qKind_p76 h
