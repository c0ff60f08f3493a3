/-! CalledRiver$Way.enter -/
theorem dX10_enter_0 : decode cX10_enter 0 = .ok (.aload_n 0, 1) := by decide +kernel
theorem dX10_enter_1 : decode cX10_enter 1 = .ok (.iload_n 3, 1) := by decide +kernel
theorem dX10_enter_2 : decode cX10_enter 2 = .ok (.putfield 18, 3) := by decide +kernel
theorem dX10_enter_5 : decode cX10_enter 5 = .ok (.aload_n 0, 1) := by decide +kernel
theorem dX10_enter_6 : decode cX10_enter 6 = .ok (.getfield 9, 3) := by decide +kernel
theorem dX10_enter_9 : decode cX10_enter 9 = .ok (.iload_n 3, 1) := by decide +kernel
theorem dX10_enter_10 : decode cX10_enter 10 = .ok (.iload_n 2, 1) := by decide +kernel
theorem dX10_enter_11 : decode cX10_enter 11 = .ok (.iastore, 1) := by decide +kernel
theorem dX10_enter_12 : decode cX10_enter 12 = .ok (.aload_n 0, 1) := by decide +kernel
theorem dX10_enter_13 : decode cX10_enter 13 = .ok (.getfield 15, 3) := by decide +kernel
theorem dX10_enter_16 : decode cX10_enter 16 = .ok (.iload_n 2, 1) := by decide +kernel
theorem dX10_enter_17 : decode cX10_enter 17 = .ok (.iload_n 3, 1) := by decide +kernel
theorem dX10_enter_18 : decode cX10_enter 18 = .ok (.iastore, 1) := by decide +kernel
theorem dX10_enter_19 : decode cX10_enter 19 = .ok (.aload_n 0, 1) := by decide +kernel
theorem dX10_enter_20 : decode cX10_enter 20 = .ok (.aload_n 1, 1) := by decide +kernel
theorem dX10_enter_21 : decode cX10_enter 21 = .ok (.iload_n 2, 1) := by decide +kernel
theorem dX10_enter_22 : decode cX10_enter 22 = .ok (.invokevirtual 68, 3) := by decide +kernel
theorem dX10_enter_25 : decode cX10_enter 25 = .ok (.aload_n 1, 1) := by decide +kernel
theorem dX10_enter_26 : decode cX10_enter 26 = .ok (.getfield 72, 3) := by decide +kernel
theorem dX10_enter_29 : decode cX10_enter 29 = .ok (.iconst 1, 1) := by decide +kernel
theorem dX10_enter_30 : decode cX10_enter 30 = .ok (.isub, 1) := by decide +kernel
theorem dX10_enter_31 : decode cX10_enter 31 = .ok (.if_icmp .ne 7, 3) := by decide +kernel
theorem dX10_enter_34 : decode cX10_enter 34 = .ok (.iconst 1, 1) := by decide +kernel
theorem dX10_enter_35 : decode cX10_enter 35 = .ok (.goto 4, 3) := by decide +kernel
theorem dX10_enter_38 : decode cX10_enter 38 = .ok (.iconst 0, 1) := by decide +kernel
theorem dX10_enter_39 : decode cX10_enter 39 = .ok (.putfield 31, 3) := by decide +kernel
theorem dX10_enter_42 : decode cX10_enter 42 = .ok (.aload_n 1, 1) := by decide +kernel
theorem dX10_enter_43 : decode cX10_enter 43 = .ok (.getfield 75, 3) := by decide +kernel
theorem dX10_enter_46 : decode cX10_enter 46 = .ok (.iload_n 2, 1) := by decide +kernel
theorem dX10_enter_47 : decode cX10_enter 47 = .ok (.iaload, 1) := by decide +kernel
theorem dX10_enter_48 : decode cX10_enter 48 = .ok (.istore 4, 2) := by decide +kernel
theorem dX10_enter_50 : decode cX10_enter 50 = .ok (.iload 4, 2) := by decide +kernel
theorem dX10_enter_52 : decode cX10_enter 52 = .ok (.iconst (-1), 1) := by decide +kernel
theorem dX10_enter_53 : decode cX10_enter 53 = .ok (.if_icmp .eq 27, 3) := by decide +kernel
theorem dX10_enter_56 : decode cX10_enter 56 = .ok (.iload_n 3, 1) := by decide +kernel
theorem dX10_enter_57 : decode cX10_enter 57 = .ok (.aload_n 1, 1) := by decide +kernel
theorem dX10_enter_58 : decode cX10_enter 58 = .ok (.getfield 78, 3) := by decide +kernel
theorem dX10_enter_61 : decode cX10_enter 61 = .ok (.iload 4, 2) := by decide +kernel
theorem dX10_enter_63 : decode cX10_enter 63 = .ok (.iaload, 1) := by decide +kernel
theorem dX10_enter_64 : decode cX10_enter 64 = .ok (.if_icmp .gt 16, 3) := by decide +kernel
theorem dX10_enter_67 : decode cX10_enter 67 = .ok (.aload_n 0, 1) := by decide +kernel
theorem dX10_enter_68 : decode cX10_enter 68 = .ok (.dup, 1) := by decide +kernel
theorem dX10_enter_69 : decode cX10_enter 69 = .ok (.getfield 35, 3) := by decide +kernel
theorem dX10_enter_72 : decode cX10_enter 72 = .ok (.iconst 1, 1) := by decide +kernel
theorem dX10_enter_73 : decode cX10_enter 73 = .ok (.iload 4, 2) := by decide +kernel
theorem dX10_enter_75 : decode cX10_enter 75 = .ok (.ishl, 1) := by decide +kernel
theorem dX10_enter_76 : decode cX10_enter 76 = .ok (.ior, 1) := by decide +kernel
theorem dX10_enter_77 : decode cX10_enter 77 = .ok (.putfield 35, 3) := by decide +kernel
theorem dX10_enter_80 : decode cX10_enter 80 = .ok (.return_, 1) := by decide +kernel
def X10_enter_p39 (sh : Shp) (v0 : Nat) (v1 : Nat) (v2 : Int32) (v3 : Int32) (s1 : Int32) (s0 : Nat) (Q : Mem → Prop) (m : Mem) : Prop :=
  Ob sh s0 10 ∧ (s1 = 0 ∨ s1 = 1) ∧ bnd (sI m s0 3 s1) (fun m15 => Ob sh v1 5 ∧ ∃ b17 : Nat, m15.2.2 v1 7 = some b17 ∧ (Ix sh b17 100 v2 ∧ (if (m15.1 b17 v2.toNatClampNeg) = (-1 : Int32) then (Q m15) else (∃ b20 : Nat, m15.2.2 v1 10 = some b20 ∧ (Ix sh b20 100 (m15.1 b17 v2.toNatClampNeg) ∧ (if (m15.1 b20 (m15.1 b17 v2.toNatClampNeg).toNatClampNeg) < v3 then (Q m15) else (Ob sh v0 10 ∧ (bnd (sI m15 v0 4 ((m15.1 v0 4) ||| ((1 : Int32) <<< ((m15.1 b17 v2.toNatClampNeg) &&& 31)))) (fun m24 => Q m24)))))))))
def wp_X10_enter (sh : Shp) (v0 : Nat) (v1 : Nat) (v2 : Int32) (v3 : Int32) (Q : Mem → Prop) (m : Mem) : Prop :=
  Ob sh v0 10 ∧ bnd (sI m v0 2 v3) (fun m2 => ∃ b3 : Nat, m2.2.2 v0 0 = some b3 ∧ (Ix sh b3 100 v3 ∧ bnd (sI m2 b3 v3.toNatClampNeg v2) (fun m6 => ∃ b7 : Nat, m6.2.2 v0 1 = some b7 ∧ (Ix sh b7 100 v2 ∧ bnd (sI m6 b7 v2.toNatClampNeg v3) (fun m10 => Ob sh v1 5 ∧ wp_X5_rowOf sh v1 v2 (fun r11 m12 => if r11 = ((m12.1 v1 1) - (1 : Int32)) then (X10_enter_p39 sh v0 v1 v2 v3 (1 : Int32) v0 Q m12) else (X10_enter_p39 sh v0 v1 v2 v3 (0 : Int32) v0 Q m12)) m10)))))
abbrev M_X10_enter : Mi := (cX10_enter, 5, RX10, (none : Option FieldType), "enter", 2, 81, 0, 0)
set_option maxHeartbeats 4000000 in
set_option maxRecDepth 100000 in
theorem v_X10_enter_p39 {G : Gl} {F : Fr} {sh : Shp} {v0 : Nat} {v1 : Nat} {v2 : Int32} {v3 : Int32} {s0 : Nat} {s1 : Int32} {Q : Mem → Prop} {m : Mem} (h : X10_enter_p39 sh v0 v1 v2 v3 s1 s0 Q m) : V G F M_X10_enter sh 0 0 (Zv G F sh Q) 39 [(0, .ref (G.1 + v0)), (1, .ref (G.1 + v1)), (2, .int v2), (3, .int v3)] [.int s1, .ref (G.1 + s0)] m := by
  unfold X10_enter_p39 at h
  obtain ⟨o14, h⟩ := h
  obtain ⟨hx, h⟩ := h
  refine v_pZ 10 3 dX10_enter_39 fw_RX10_31 o14 hx ?_
  replace h := bnd_e h
  refine v_aload_n 1 1 dX10_enter_42 rfl rfl ?_
  obtain ⟨o16, h⟩ := h
  obtain ⟨b17, e18, h⟩ := h
  refine v_gR 5 7 dX10_enter_43 fg_RX10_75 o16 e18 ?_
  refine v_iload_n 2 2 dX10_enter_46 rfl rfl ?_
  obtain ⟨i19, h⟩ := h
  refine v_iald dX10_enter_47 i19 ?_
  refine v_istore (ls' := [(4, .int _), (0, .ref _), (1, .ref _), (2, .int _), (3, .int _)]) 4 dX10_enter_48 (Nat.le_of_ble_eq_true rfl) rfl ?_
  refine v_iload 4 0 dX10_enter_50 rfl ?_
  refine v_iconst (-1 : Int32) dX10_enter_52 (by decide) ?_
  refine v_icmp_eq 80 dX10_enter_53 (by decide) (fun hc => ?_) (fun hc => ?_)
  · replace h := Eq.mp (if_pos hc) h
    exact v_vret dX10_enter_80 rfl h
  · replace h := Eq.mp (if_neg hc) h
    refine v_iload_n 3 4 dX10_enter_56 rfl rfl ?_
    refine v_aload_n 1 2 dX10_enter_57 rfl rfl ?_
    obtain ⟨b20, e21, h⟩ := h
    refine v_gR 5 10 dX10_enter_58 fg_RX10_78 o16 e21 ?_
    refine v_iload 4 0 dX10_enter_61 rfl ?_
    obtain ⟨i22, h⟩ := h
    refine v_iald dX10_enter_63 i22 ?_
    refine v_icmp_gt 80 dX10_enter_64 (by decide) (fun hc => ?_) (fun hc => ?_)
    · replace h := Eq.mp (if_pos hc) h
      exact v_vret dX10_enter_80 rfl h
    · replace h := Eq.mp (if_neg hc) h
      refine v_aload_n 0 1 dX10_enter_67 rfl rfl ?_
      refine v_dup dX10_enter_68 rfl ?_
      obtain ⟨o23, h⟩ := h
      refine v_gI 10 4 dX10_enter_69 fg_RX10_35 o23 ?_
      refine v_iconst (1 : Int32) dX10_enter_72 (by decide) ?_
      refine v_iload 4 0 dX10_enter_73 rfl ?_
      refine v_ishl dX10_enter_75 ?_
      refine v_ior dX10_enter_76 ?_
      refine v_pI 10 4 dX10_enter_77 fw_RX10_35 o23 ?_
      replace h := bnd_e h
      exact v_vret dX10_enter_80 rfl h
set_option maxHeartbeats 4000000 in
set_option maxRecDepth 100000 in
theorem c_X10_enter {l : Launch} {G : Gl} {sh : Shp} {v0 : Nat} {v1 : Nat} {v2 : Int32} {v3 : Int32} {Q : Mem → Prop} {m : Mem} (h : wp_X10_enter sh v0 v1 v2 v3 Q m) : Cnv l G yX10_enter cX10_enter 5 (none : Option FieldType) 2 81 sh [.ref (G.1 + v0), .ref (G.1 + v1), .int v2, .int v3] m Q := by
  refine con_v (ls := [(0, .ref (G.1 + v0)), (1, .ref (G.1 + v1)), (2, .int v2), (3, .int v3)]) (by decide +kernel) rfl (Nat.le_of_ble_eq_true rfl) (fun F => ?_)
  show V G F M_X10_enter sh 0 0 (Zv G F sh Q) 0 [(0, .ref (G.1 + v0)), (1, .ref (G.1 + v1)), (2, .int v2), (3, .int v3)] [] m
  unfold wp_X10_enter at h
  refine v_aload_n 0 0 dX10_enter_0 rfl rfl ?_
  refine v_iload_n 3 3 dX10_enter_1 rfl rfl ?_
  obtain ⟨o1, h⟩ := h
  refine v_pI 10 2 dX10_enter_2 fw_RX10_18 o1 ?_
  replace h := bnd_e h
  refine v_aload_n 0 0 dX10_enter_5 rfl rfl ?_
  obtain ⟨b3, e4, h⟩ := h
  refine v_gR 10 0 dX10_enter_6 fg_RX10_9 o1 e4 ?_
  refine v_iload_n 3 3 dX10_enter_9 rfl rfl ?_
  refine v_iload_n 2 2 dX10_enter_10 rfl rfl ?_
  obtain ⟨i5, h⟩ := h
  refine v_iast dX10_enter_11 i5 ?_
  replace h := bnd_e h
  refine v_aload_n 0 0 dX10_enter_12 rfl rfl ?_
  obtain ⟨b7, e8, h⟩ := h
  refine v_gR 10 1 dX10_enter_13 fg_RX10_15 o1 e8 ?_
  refine v_iload_n 2 2 dX10_enter_16 rfl rfl ?_
  refine v_iload_n 3 3 dX10_enter_17 rfl rfl ?_
  obtain ⟨i9, h⟩ := h
  refine v_iast dX10_enter_18 i9 ?_
  replace h := bnd_e h
  refine v_aload_n 0 0 dX10_enter_19 rfl rfl ?_
  refine v_aload_n 1 1 dX10_enter_20 rfl rfl ?_
  refine v_iload_n 2 2 dX10_enter_21 rfl rfl ?_
  obtain ⟨o13, h⟩ := h
  refine v_cVi [.int _] mv_X5_rowOf ml_RX10_68 ⟨_, _, rfl⟩ o13 rfl rfl (Nat.le_of_ble_eq_true rfl) (Nat.le_of_ble_eq_true rfl) (Nat.le_of_ble_eq_true rfl) (Nat.zero_le _) (Nat.zero_le _) dX10_enter_22 (c_X5_rowOf h) (fun r11 m12 h => ?_)
  refine v_aload_n 1 1 dX10_enter_25 rfl rfl ?_
  refine v_gI 5 1 dX10_enter_26 fg_RX10_72 o13 ?_
  refine v_iconst (1 : Int32) dX10_enter_29 (by decide) ?_
  refine v_isub dX10_enter_30 ?_
  refine v_icmp_ne 38 dX10_enter_31 (by decide) (fun hc => ?_) (fun hc => ?_)
  · replace h := Eq.mp (if_neg hc) h
    refine v_iconst (0 : Int32) dX10_enter_38 (by decide) ?_
    refine v_sub [0, 1, 2, 3] rfl ?_
    exact v_X10_enter_p39 h
  · replace h := Eq.mp (if_pos hc) h
    refine v_iconst (1 : Int32) dX10_enter_34 (by decide) ?_
    refine v_goto 39 dX10_enter_35 (by decide) ?_
    refine v_sub [0, 1, 2, 3] rfl ?_
    exact v_X10_enter_p39 h
/-! CalledRiver$Way.isBetterThan -/
theorem dX10_isBetterThan_0 : decode cX10_isBetterThan 0 = .ok (.aload_n 0, 1) := by decide +kernel
theorem dX10_isBetterThan_1 : decode cX10_isBetterThan 1 = .ok (.getfield 35, 3) := by decide +kernel
theorem dX10_isBetterThan_4 : decode cX10_isBetterThan 4 = .ok (.invokestatic 108, 3) := by decide +kernel
theorem dX10_isBetterThan_7 : decode cX10_isBetterThan 7 = .ok (.aload_n 1, 1) := by decide +kernel
theorem dX10_isBetterThan_8 : decode cX10_isBetterThan 8 = .ok (.getfield 35, 3) := by decide +kernel
theorem dX10_isBetterThan_11 : decode cX10_isBetterThan 11 = .ok (.invokestatic 108, 3) := by decide +kernel
theorem dX10_isBetterThan_14 : decode cX10_isBetterThan 14 = .ok (.isub, 1) := by decide +kernel
theorem dX10_isBetterThan_15 : decode cX10_isBetterThan 15 = .ok (.istore_n 2, 1) := by decide +kernel
theorem dX10_isBetterThan_16 : decode cX10_isBetterThan 16 = .ok (.iload_n 2, 1) := by decide +kernel
theorem dX10_isBetterThan_17 : decode cX10_isBetterThan 17 = .ok (.ifCond .gt 18, 3) := by decide +kernel
theorem dX10_isBetterThan_20 : decode cX10_isBetterThan 20 = .ok (.iload_n 2, 1) := by decide +kernel
theorem dX10_isBetterThan_21 : decode cX10_isBetterThan 21 = .ok (.ifCond .ne 18, 3) := by decide +kernel
theorem dX10_isBetterThan_24 : decode cX10_isBetterThan 24 = .ok (.aload_n 0, 1) := by decide +kernel
theorem dX10_isBetterThan_25 : decode cX10_isBetterThan 25 = .ok (.getfield 18, 3) := by decide +kernel
theorem dX10_isBetterThan_28 : decode cX10_isBetterThan 28 = .ok (.aload_n 1, 1) := by decide +kernel
theorem dX10_isBetterThan_29 : decode cX10_isBetterThan 29 = .ok (.getfield 18, 3) := by decide +kernel
theorem dX10_isBetterThan_32 : decode cX10_isBetterThan 32 = .ok (.if_icmp .ge 7, 3) := by decide +kernel
theorem dX10_isBetterThan_35 : decode cX10_isBetterThan 35 = .ok (.iconst 1, 1) := by decide +kernel
theorem dX10_isBetterThan_36 : decode cX10_isBetterThan 36 = .ok (.goto 4, 3) := by decide +kernel
theorem dX10_isBetterThan_39 : decode cX10_isBetterThan 39 = .ok (.iconst 0, 1) := by decide +kernel
theorem dX10_isBetterThan_40 : decode cX10_isBetterThan 40 = .ok (.ireturn, 1) := by decide +kernel
def wp_X10_isBetterThan (sh : Shp) (v0 : Nat) (v1 : Nat) (Q : Int32 → Mem → Prop) (m : Mem) : Prop :=
  Ob sh v0 10 ∧ (wp_J6_bitCount_0f7a4 sh (m.1 v0 4) (fun r2 m3 => Ob sh v1 10 ∧ (wp_J6_bitCount_0f7a4 sh (m3.1 v1 4) (fun r5 m6 => if 0 < (r2 - r5) then (Q (1 : Int32) m6) else (if (r2 - r5) = 0 then (if (m6.1 v1 2) ≤ (m6.1 v0 2) then (Q (0 : Int32) m6) else (Q (1 : Int32) m6)) else (Q (0 : Int32) m6))) m3)) m)
abbrev M_X10_isBetterThan : Mi := (cX10_isBetterThan, 3, RX10, (Option.some FieldType.boolean), "isBetterThan", 2, 80, 0, 0)
set_option maxHeartbeats 4000000 in
set_option maxRecDepth 100000 in
theorem c_X10_isBetterThan {l : Launch} {G : Gl} {sh : Shp} {v0 : Nat} {v1 : Nat} {Q : Int32 → Mem → Prop} {m : Mem} (h : wp_X10_isBetterThan sh v0 v1 Q m) : Cni l G yX10_isBetterThan cX10_isBetterThan 3 (Option.some FieldType.boolean) 2 80 sh [.ref (G.1 + v0), .ref (G.1 + v1)] m Q := by
  refine con_i (ls := [(0, .ref (G.1 + v0)), (1, .ref (G.1 + v1))]) (by decide +kernel) rfl (Nat.le_of_ble_eq_true rfl) (fun F => ?_)
  show V G F M_X10_isBetterThan sh 0 0 (Zi G F sh Q) 0 [(0, .ref (G.1 + v0)), (1, .ref (G.1 + v1))] [] m
  unfold wp_X10_isBetterThan at h
  refine v_aload_n 0 0 dX10_isBetterThan_0 rfl rfl ?_
  obtain ⟨o1, h⟩ := h
  refine v_gI 10 4 dX10_isBetterThan_1 fg_RX10_35 o1 ?_
  refine v_cSi [.int _] mv_J6_bitCount_0f7a4 ml_RX10_108 rfl rfl (Nat.le_of_ble_eq_true rfl) (Nat.le_of_ble_eq_true rfl) (Nat.le_of_ble_eq_true rfl) (Nat.zero_le _) (Nat.zero_le _) dX10_isBetterThan_4 (c_J6_bitCount_0f7a4 h) (fun r2 m3 h => ?_)
  refine v_aload_n 1 1 dX10_isBetterThan_7 rfl rfl ?_
  obtain ⟨o4, h⟩ := h
  refine v_gI 10 4 dX10_isBetterThan_8 fg_RX10_35 o4 ?_
  refine v_cSi [.int _] mv_J6_bitCount_0f7a4 ml_RX10_108 rfl rfl (Nat.le_of_ble_eq_true rfl) (Nat.le_of_ble_eq_true rfl) (Nat.le_of_ble_eq_true rfl) (Nat.zero_le _) (Nat.zero_le _) dX10_isBetterThan_11 (c_J6_bitCount_0f7a4 h) (fun r5 m6 h => ?_)
  refine v_isub dX10_isBetterThan_14 ?_
  refine v_istore_n (ls' := [(2, .int _), (0, .ref _), (1, .ref _)]) 2 dX10_isBetterThan_15 rfl (Nat.le_of_ble_eq_true rfl) rfl ?_
  refine v_iload_n 2 0 dX10_isBetterThan_16 rfl rfl ?_
  refine v_if_gt 35 dX10_isBetterThan_17 (by decide) (fun hc => ?_) (fun hc => ?_)
  · replace h := Eq.mp (if_pos hc) h
    refine v_iconst (1 : Int32) dX10_isBetterThan_35 (by decide) ?_
    refine v_goto 40 dX10_isBetterThan_36 (by decide) ?_
    exact v_iret dX10_isBetterThan_40 rfl (by decide) h
  · replace h := Eq.mp (if_neg hc) h
    refine v_iload_n 2 0 dX10_isBetterThan_20 rfl rfl ?_
    refine v_if_ne 39 dX10_isBetterThan_21 (by decide) (fun hc => ?_) (fun hc => ?_)
    · replace h := Eq.mp (if_neg hc) h
      refine v_iconst (0 : Int32) dX10_isBetterThan_39 (by decide) ?_
      exact v_iret dX10_isBetterThan_40 rfl (by decide) h
    · replace h := Eq.mp (if_pos hc) h
      refine v_aload_n 0 1 dX10_isBetterThan_24 rfl rfl ?_
      refine v_gI 10 2 dX10_isBetterThan_25 fg_RX10_18 o1 ?_
      refine v_aload_n 1 2 dX10_isBetterThan_28 rfl rfl ?_
      refine v_gI 10 2 dX10_isBetterThan_29 fg_RX10_18 o4 ?_
      refine v_icmp_ge 39 dX10_isBetterThan_32 (by decide) (fun hc => ?_) (fun hc => ?_)
      · replace h := Eq.mp (if_pos hc) h
        refine v_iconst (0 : Int32) dX10_isBetterThan_39 (by decide) ?_
        exact v_iret dX10_isBetterThan_40 rfl (by decide) h
      · replace h := Eq.mp (if_neg hc) h
        refine v_iconst (1 : Int32) dX10_isBetterThan_35 (by decide) ?_
        refine v_goto 40 dX10_isBetterThan_36 (by decide) ?_
        exact v_iret dX10_isBetterThan_40 rfl (by decide) h
/-! CalledRiver$Way.nextPlace -/
theorem dX10_nextPlace_0 : decode cX10_nextPlace 0 = .ok (.aload_n 0, 1) := by decide +kernel
theorem dX10_nextPlace_1 : decode cX10_nextPlace 1 = .ok (.getfield 22, 3) := by decide +kernel
theorem dX10_nextPlace_4 : decode cX10_nextPlace 4 = .ok (.bipush 7, 2) := by decide +kernel
theorem dX10_nextPlace_6 : decode cX10_nextPlace 6 = .ok (.aload_n 0, 1) := by decide +kernel
theorem dX10_nextPlace_7 : decode cX10_nextPlace 7 = .ok (.getfield 18, 3) := by decide +kernel
theorem dX10_nextPlace_10 : decode cX10_nextPlace 10 = .ok (.iconst 1, 1) := by decide +kernel
theorem dX10_nextPlace_11 : decode cX10_nextPlace 11 = .ok (.iadd, 1) := by decide +kernel
theorem dX10_nextPlace_12 : decode cX10_nextPlace 12 = .ok (.iastore, 1) := by decide +kernel
theorem dX10_nextPlace_13 : decode cX10_nextPlace 13 = .ok (.iconst (-1), 1) := by decide +kernel
theorem dX10_nextPlace_14 : decode cX10_nextPlace 14 = .ok (.istore 4, 2) := by decide +kernel
theorem dX10_nextPlace_16 : decode cX10_nextPlace 16 = .ok (.iconst 0, 1) := by decide +kernel
theorem dX10_nextPlace_17 : decode cX10_nextPlace 17 = .ok (.istore 5, 2) := by decide +kernel
theorem dX10_nextPlace_19 : decode cX10_nextPlace 19 = .ok (.iconst 0, 1) := by decide +kernel
theorem dX10_nextPlace_20 : decode cX10_nextPlace 20 = .ok (.istore 6, 2) := by decide +kernel
theorem dX10_nextPlace_22 : decode cX10_nextPlace 22 = .ok (.iload 6, 2) := by decide +kernel
theorem dX10_nextPlace_24 : decode cX10_nextPlace 24 = .ok (.iconst 4, 1) := by decide +kernel
theorem dX10_nextPlace_25 : decode cX10_nextPlace 25 = .ok (.if_icmp .ge 157, 3) := by decide +kernel
theorem dX10_nextPlace_28 : decode cX10_nextPlace 28 = .ok (.aload_n 1, 1) := by decide +kernel
theorem dX10_nextPlace_29 : decode cX10_nextPlace 29 = .ok (.iload_n 3, 1) := by decide +kernel
theorem dX10_nextPlace_30 : decode cX10_nextPlace 30 = .ok (.iload 6, 2) := by decide +kernel
theorem dX10_nextPlace_32 : decode cX10_nextPlace 32 = .ok (.invokevirtual 81, 3) := by decide +kernel
theorem dX10_nextPlace_35 : decode cX10_nextPlace 35 = .ok (.istore 7, 2) := by decide +kernel
theorem dX10_nextPlace_37 : decode cX10_nextPlace 37 = .ok (.iload 7, 2) := by decide +kernel
theorem dX10_nextPlace_39 : decode cX10_nextPlace 39 = .ok (.iconst (-1), 1) := by decide +kernel
theorem dX10_nextPlace_40 : decode cX10_nextPlace 40 = .ok (.if_icmp .eq 136, 3) := by decide +kernel
theorem dX10_nextPlace_43 : decode cX10_nextPlace 43 = .ok (.aload_n 0, 1) := by decide +kernel
theorem dX10_nextPlace_44 : decode cX10_nextPlace 44 = .ok (.getfield 15, 3) := by decide +kernel
theorem dX10_nextPlace_47 : decode cX10_nextPlace 47 = .ok (.iload 7, 2) := by decide +kernel
theorem dX10_nextPlace_49 : decode cX10_nextPlace 49 = .ok (.iaload, 1) := by decide +kernel
theorem dX10_nextPlace_50 : decode cX10_nextPlace 50 = .ok (.iconst (-1), 1) := by decide +kernel
theorem dX10_nextPlace_51 : decode cX10_nextPlace 51 = .ok (.if_icmp .ne 125, 3) := by decide +kernel
theorem dX10_nextPlace_54 : decode cX10_nextPlace 54 = .ok (.aload_n 2, 1) := by decide +kernel
theorem dX10_nextPlace_55 : decode cX10_nextPlace 55 = .ok (.iload_n 3, 1) := by decide +kernel
theorem dX10_nextPlace_56 : decode cX10_nextPlace 56 = .ok (.iload 7, 2) := by decide +kernel
theorem dX10_nextPlace_58 : decode cX10_nextPlace 58 = .ok (.invokevirtual 85, 3) := by decide +kernel
theorem dX10_nextPlace_61 : decode cX10_nextPlace 61 = .ok (.ifCond .eq 115, 3) := by decide +kernel
theorem dX10_nextPlace_64 : decode cX10_nextPlace 64 = .ok (.aload_n 1, 1) := by decide +kernel
theorem dX10_nextPlace_65 : decode cX10_nextPlace 65 = .ok (.getfield 75, 3) := by decide +kernel
theorem dX10_nextPlace_68 : decode cX10_nextPlace 68 = .ok (.iload 7, 2) := by decide +kernel
theorem dX10_nextPlace_70 : decode cX10_nextPlace 70 = .ok (.iaload, 1) := by decide +kernel
theorem dX10_nextPlace_71 : decode cX10_nextPlace 71 = .ok (.istore 8, 2) := by decide +kernel
theorem dX10_nextPlace_73 : decode cX10_nextPlace 73 = .ok (.aload_n 0, 1) := by decide +kernel
theorem dX10_nextPlace_74 : decode cX10_nextPlace 74 = .ok (.getfield 22, 3) := by decide +kernel
theorem dX10_nextPlace_77 : decode cX10_nextPlace 77 = .ok (.iconst 1, 1) := by decide +kernel
theorem dX10_nextPlace_78 : decode cX10_nextPlace 78 = .ok (.iload 8, 2) := by decide +kernel
theorem dX10_nextPlace_80 : decode cX10_nextPlace 80 = .ok (.iconst (-1), 1) := by decide +kernel
theorem dX10_nextPlace_81 : decode cX10_nextPlace 81 = .ok (.if_icmp .ne 7, 3) := by decide +kernel
theorem dX10_nextPlace_84 : decode cX10_nextPlace 84 = .ok (.iconst 0, 1) := by decide +kernel
theorem dX10_nextPlace_85 : decode cX10_nextPlace 85 = .ok (.goto 10, 3) := by decide +kernel
theorem dX10_nextPlace_88 : decode cX10_nextPlace 88 = .ok (.aload_n 2, 1) := by decide +kernel
theorem dX10_nextPlace_89 : decode cX10_nextPlace 89 = .ok (.getfield 89, 3) := by decide +kernel
theorem dX10_nextPlace_92 : decode cX10_nextPlace 92 = .ok (.iload 8, 2) := by decide +kernel
theorem dX10_nextPlace_94 : decode cX10_nextPlace 94 = .ok (.iaload, 1) := by decide +kernel
theorem dX10_nextPlace_95 : decode cX10_nextPlace 95 = .ok (.iastore, 1) := by decide +kernel
theorem dX10_nextPlace_96 : decode cX10_nextPlace 96 = .ok (.aload_n 0, 1) := by decide +kernel
theorem dX10_nextPlace_97 : decode cX10_nextPlace 97 = .ok (.getfield 22, 3) := by decide +kernel
theorem dX10_nextPlace_100 : decode cX10_nextPlace 100 = .ok (.iconst 2, 1) := by decide +kernel
theorem dX10_nextPlace_101 : decode cX10_nextPlace 101 = .ok (.aload_n 2, 1) := by decide +kernel
theorem dX10_nextPlace_102 : decode cX10_nextPlace 102 = .ok (.getfield 92, 3) := by decide +kernel
theorem dX10_nextPlace_105 : decode cX10_nextPlace 105 = .ok (.iload 7, 2) := by decide +kernel
theorem dX10_nextPlace_107 : decode cX10_nextPlace 107 = .ok (.iaload, 1) := by decide +kernel
theorem dX10_nextPlace_108 : decode cX10_nextPlace 108 = .ok (.iastore, 1) := by decide +kernel
theorem dX10_nextPlace_109 : decode cX10_nextPlace 109 = .ok (.aload_n 0, 1) := by decide +kernel
theorem dX10_nextPlace_110 : decode cX10_nextPlace 110 = .ok (.getfield 22, 3) := by decide +kernel
theorem dX10_nextPlace_113 : decode cX10_nextPlace 113 = .ok (.iconst 5, 1) := by decide +kernel
theorem dX10_nextPlace_114 : decode cX10_nextPlace 114 = .ok (.aload_n 2, 1) := by decide +kernel
theorem dX10_nextPlace_115 : decode cX10_nextPlace 115 = .ok (.getfield 95, 3) := by decide +kernel
theorem dX10_nextPlace_118 : decode cX10_nextPlace 118 = .ok (.iload 7, 2) := by decide +kernel
theorem dX10_nextPlace_120 : decode cX10_nextPlace 120 = .ok (.iaload, 1) := by decide +kernel
theorem dX10_nextPlace_121 : decode cX10_nextPlace 121 = .ok (.iastore, 1) := by decide +kernel
theorem dX10_nextPlace_122 : decode cX10_nextPlace 122 = .ok (.aload_n 0, 1) := by decide +kernel
theorem dX10_nextPlace_123 : decode cX10_nextPlace 123 = .ok (.getfield 22, 3) := by decide +kernel
theorem dX10_nextPlace_126 : decode cX10_nextPlace 126 = .ok (.bipush 6, 2) := by decide +kernel
theorem dX10_nextPlace_128 : decode cX10_nextPlace 128 = .ok (.aload_n 1, 1) := by decide +kernel
theorem dX10_nextPlace_129 : decode cX10_nextPlace 129 = .ok (.getfield 72, 3) := by decide +kernel
theorem dX10_nextPlace_132 : decode cX10_nextPlace 132 = .ok (.iconst 1, 1) := by decide +kernel
theorem dX10_nextPlace_133 : decode cX10_nextPlace 133 = .ok (.isub, 1) := by decide +kernel
theorem dX10_nextPlace_134 : decode cX10_nextPlace 134 = .ok (.aload_n 1, 1) := by decide +kernel
theorem dX10_nextPlace_135 : decode cX10_nextPlace 135 = .ok (.iload 7, 2) := by decide +kernel
theorem dX10_nextPlace_137 : decode cX10_nextPlace 137 = .ok (.invokevirtual 68, 3) := by decide +kernel
theorem dX10_nextPlace_140 : decode cX10_nextPlace 140 = .ok (.isub, 1) := by decide +kernel
theorem dX10_nextPlace_141 : decode cX10_nextPlace 141 = .ok (.iastore, 1) := by decide +kernel
theorem dX10_nextPlace_142 : decode cX10_nextPlace 142 = .ok (.aload_n 1, 1) := by decide +kernel
theorem dX10_nextPlace_143 : decode cX10_nextPlace 143 = .ok (.getfield 98, 3) := by decide +kernel
theorem dX10_nextPlace_146 : decode cX10_nextPlace 146 = .ok (.aload_n 0, 1) := by decide +kernel
theorem dX10_nextPlace_147 : decode cX10_nextPlace 147 = .ok (.getfield 22, 3) := by decide +kernel
theorem dX10_nextPlace_150 : decode cX10_nextPlace 150 = .ok (.invokevirtual 102, 3) := by decide +kernel
theorem dX10_nextPlace_153 : decode cX10_nextPlace 153 = .ok (.istore 9, 2) := by decide +kernel
theorem dX10_nextPlace_155 : decode cX10_nextPlace 155 = .ok (.iload 4, 2) := by decide +kernel
theorem dX10_nextPlace_157 : decode cX10_nextPlace 157 = .ok (.iconst (-1), 1) := by decide +kernel
theorem dX10_nextPlace_158 : decode cX10_nextPlace 158 = .ok (.if_icmp .eq 10, 3) := by decide +kernel
theorem dX10_nextPlace_161 : decode cX10_nextPlace 161 = .ok (.iload 9, 2) := by decide +kernel
theorem dX10_nextPlace_163 : decode cX10_nextPlace 163 = .ok (.iload 5, 2) := by decide +kernel
theorem dX10_nextPlace_165 : decode cX10_nextPlace 165 = .ok (.if_icmp .le 11, 3) := by decide +kernel
theorem dX10_nextPlace_168 : decode cX10_nextPlace 168 = .ok (.iload 7, 2) := by decide +kernel
theorem dX10_nextPlace_170 : decode cX10_nextPlace 170 = .ok (.istore 4, 2) := by decide +kernel
theorem dX10_nextPlace_172 : decode cX10_nextPlace 172 = .ok (.iload 9, 2) := by decide +kernel
theorem dX10_nextPlace_174 : decode cX10_nextPlace 174 = .ok (.istore 5, 2) := by decide +kernel
theorem dX10_nextPlace_176 : decode cX10_nextPlace 176 = .ok (.iinc 6 1, 3) := by decide +kernel
theorem dX10_nextPlace_179 : decode cX10_nextPlace 179 = .ok (.goto (-157), 3) := by decide +kernel
theorem dX10_nextPlace_182 : decode cX10_nextPlace 182 = .ok (.iload 4, 2) := by decide +kernel
theorem dX10_nextPlace_184 : decode cX10_nextPlace 184 = .ok (.ireturn, 1) := by decide +kernel
def X10_nextPlace_p176 (sh : Shp) (v0 : Nat) (v1 : Nat) (v2 : Nat) (v3 : Int32) (v4 : Int32) (v5 : Int32) (v6 : Int32) (Q : Int32 → Mem → Prop) (K22 : Int32 → Int32 → Int32 → Mem → Prop) (m : Mem) : Prop :=
  K22 v4 v5 (v6 + (1 : Int32)) m
def X10_nextPlace_p168 (sh : Shp) (v0 : Nat) (v1 : Nat) (v2 : Nat) (v3 : Int32) (v6 : Int32) (v7 : Int32) (v9 : Int32) (Q : Int32 → Mem → Prop) (K22 : Int32 → Int32 → Int32 → Mem → Prop) (m : Mem) : Prop :=
  X10_nextPlace_p176 sh v0 v1 v2 v3 v7 v9 v6 Q K22 m
def X10_nextPlace_p95 (sh : Shp) (v0 : Nat) (v1 : Nat) (v2 : Nat) (v3 : Int32) (v4 : Int32) (v5 : Int32) (v6 : Int32) (v7 : Int32) (s2 : Int32) (s1 : Int32) (s0 : Nat) (Q : Int32 → Mem → Prop) (K22 : Int32 → Int32 → Int32 → Mem → Prop) (m : Mem) : Prop :=
  Ix sh s0 100 s1 ∧ bnd (sI m s0 s1.toNatClampNeg s2) (fun m25 => Ob sh v0 10 ∧ ∃ b27 : Nat, m25.2.2 v0 6 = some b27 ∧ (Ob sh v2 1 ∧ ∃ b30 : Nat, m25.2.2 v2 4 = some b30 ∧ (Ix sh b30 100 v7 ∧ (Ix sh b27 100 (2 : Int32) ∧ bnd (sI m25 b27 (2 : Int32).toNatClampNeg (m25.1 b30 v7.toNatClampNeg)) (fun m34 => ∃ b35 : Nat, m34.2.2 v2 2 = some b35 ∧ (Ix sh b35 100 v7 ∧ (Ix sh b27 100 (5 : Int32) ∧ bnd (sI m34 b27 (5 : Int32).toNatClampNeg (m34.1 b35 v7.toNatClampNeg)) (fun m39 => Ob sh v1 5 ∧ (wp_X5_rowOf sh v1 v7 (fun r41 m42 => Ix sh b27 100 (6 : Int32) ∧ bnd (sI m42 b27 (6 : Int32).toNatClampNeg (((m39.1 v1 1) - (1 : Int32)) - r41)) (fun m44 => ∃ b45 : Nat, m44.2.2 v1 15 = some b45 ∧ (∃ b47 : Nat, m44.2.2 v0 6 = some b47 ∧ (Ob sh b45 0 ∧ wp_X0_worth sh b45 b47 (fun r49 m50 => if v4 = (-1 : Int32) then (X10_nextPlace_p168 sh v0 v1 v2 v3 v6 v7 r49 Q K22 m50) else (if r49 ≤ v5 then (X10_nextPlace_p176 sh v0 v1 v2 v3 v4 v5 v6 Q K22 m50) else (X10_nextPlace_p168 sh v0 v1 v2 v3 v6 v7 r49 Q K22 m50))) m44)))) m39)))))))))
def X10_nextPlace_p22b (sh : Shp) (v0 : Nat) (v1 : Nat) (v2 : Nat) (v3 : Int32) (Q : Int32 → Mem → Prop) (K22 : Int32 → Int32 → Int32 → Mem → Prop) (v4 : Int32) (v5 : Int32) (v6 : Int32) (m : Mem) : Prop :=
  if (4 : Int32) ≤ v6 then (Q v4 m) else (Ob sh v1 5 ∧ wp_X5_beside sh v1 v3 v6 (fun r6 m7 => if r6 = (-1 : Int32) then (X10_nextPlace_p176 sh v0 v1 v2 v3 v4 v5 v6 Q K22 m7) else (Ob sh v0 10 ∧ ∃ b10 : Nat, m7.2.2 v0 1 = some b10 ∧ (Ix sh b10 100 r6 ∧ (if (m7.1 b10 r6.toNatClampNeg) = (-1 : Int32) then (Ob sh v2 1 ∧ wp_X1_flows sh v2 v3 r6 (fun r13 m14 => if r13 = 0 then (X10_nextPlace_p176 sh v0 v1 v2 v3 v4 v5 v6 Q K22 m14) else (∃ b16 : Nat, m14.2.2 v1 7 = some b16 ∧ (Ix sh b16 100 r6 ∧ (∃ b19 : Nat, m14.2.2 v0 6 = some b19 ∧ (if (m14.1 b16 r6.toNatClampNeg) = (-1 : Int32) then (X10_nextPlace_p95 sh v0 v1 v2 v3 v4 v5 v6 r6 (0 : Int32) (1 : Int32) b19 Q K22 m14) else (∃ b21 : Nat, m14.2.2 v2 5 = some b21 ∧ (Ix sh b21 100 (m14.1 b16 r6.toNatClampNeg) ∧ (X10_nextPlace_p95 sh v0 v1 v2 v3 v4 v5 v6 r6 (m14.1 b21 (m14.1 b16 r6.toNatClampNeg).toNatClampNeg) (1 : Int32) b19 Q K22 m14)))))))) m7) else (X10_nextPlace_p176 sh v0 v1 v2 v3 v4 v5 v6 Q K22 m7))))) m)
def X10_nextPlace_p22n (sh : Shp) (v0 : Nat) (v1 : Nat) (v2 : Nat) (v3 : Int32) (Q : Int32 → Mem → Prop) : Nat → Int32 → Int32 → Int32 → Mem → Prop
  | 0 => fun _ _ _ _ => False
  | n + 1 => X10_nextPlace_p22b sh v0 v1 v2 v3 Q (X10_nextPlace_p22n sh v0 v1 v2 v3 Q n)
def X10_nextPlace_p22 (sh : Shp) (v0 : Nat) (v1 : Nat) (v2 : Nat) (v3 : Int32) (Q : Int32 → Mem → Prop) (v4 : Int32) (v5 : Int32) (v6 : Int32) (m : Mem) : Prop := ∃ n, X10_nextPlace_p22n sh v0 v1 v2 v3 Q n v4 v5 v6 m
def wp_X10_nextPlace (sh : Shp) (v0 : Nat) (v1 : Nat) (v2 : Nat) (v3 : Int32) (Q : Int32 → Mem → Prop) (m : Mem) : Prop :=
  Ob sh v0 10 ∧ ∃ b2 : Nat, m.2.2 v0 6 = some b2 ∧ (Ix sh b2 100 (7 : Int32) ∧ bnd (sI m b2 (7 : Int32).toNatClampNeg ((m.1 v0 2) + (1 : Int32))) (fun m5 => X10_nextPlace_p22 sh v0 v1 v2 v3 Q (-1 : Int32) (0 : Int32) (0 : Int32) m5))
abbrev M_X10_nextPlace : Mi := (cX10_nextPlace, 10, RX10, (Option.some FieldType.int), "nextPlace", 4, 133, 0, 0)
set_option maxHeartbeats 4000000 in
set_option maxRecDepth 100000 in
theorem v_X10_nextPlace_p176 {G : Gl} {F : Fr} {sh : Shp} {v0 : Nat} {v1 : Nat} {v2 : Nat} {v3 : Int32} {v4 : Int32} {v5 : Int32} {v6 : Int32} {Q : Int32 → Mem → Prop} {K22 : Int32 → Int32 → Int32 → Mem → Prop} {m : Mem} (hK22 : ∀ (x4 : Int32) (x5 : Int32) (x6 : Int32) (m : Mem), K22 x4 x5 x6 m → V G F M_X10_nextPlace sh 0 0 (Zi G F sh Q) 22 [(0, .ref (G.1 + v0)), (1, .ref (G.1 + v1)), (2, .ref (G.1 + v2)), (3, .int v3), (4, .int x4), (5, .int x5), (6, .int x6)] [] m) (h : X10_nextPlace_p176 sh v0 v1 v2 v3 v4 v5 v6 Q K22 m) : V G F M_X10_nextPlace sh 0 0 (Zi G F sh Q) 176 [(0, .ref (G.1 + v0)), (1, .ref (G.1 + v1)), (2, .ref (G.1 + v2)), (3, .int v3), (4, .int v4), (5, .int v5), (6, .int v6)] [] m := by
  unfold X10_nextPlace_p176 at h
  refine v_iinc (ls' := [(6, .int _), (0, .ref _), (1, .ref _), (2, .ref _), (3, .int _), (4, .int _), (5, .int _)]) 6 6 dX10_nextPlace_176 rfl (congrArg (HAdd.hAdd _) (by decide : Int32.ofInt (1) = (1 : Int32))) (Nat.le_of_ble_eq_true rfl) rfl ?_
  refine v_goto 22 dX10_nextPlace_179 (by decide) ?_
  refine v_sub [1, 2, 3, 4, 5, 6, 0] rfl ?_
  exact hK22 _ _ _ _ h
set_option maxHeartbeats 4000000 in
set_option maxRecDepth 100000 in
theorem v_X10_nextPlace_p168 {G : Gl} {F : Fr} {sh : Shp} {v0 : Nat} {v1 : Nat} {v2 : Nat} {v3 : Int32} {v6 : Int32} {v7 : Int32} {v9 : Int32} {Q : Int32 → Mem → Prop} {K22 : Int32 → Int32 → Int32 → Mem → Prop} {m : Mem} (hK22 : ∀ (x4 : Int32) (x5 : Int32) (x6 : Int32) (m : Mem), K22 x4 x5 x6 m → V G F M_X10_nextPlace sh 0 0 (Zi G F sh Q) 22 [(0, .ref (G.1 + v0)), (1, .ref (G.1 + v1)), (2, .ref (G.1 + v2)), (3, .int v3), (4, .int x4), (5, .int x5), (6, .int x6)] [] m) (h : X10_nextPlace_p168 sh v0 v1 v2 v3 v6 v7 v9 Q K22 m) : V G F M_X10_nextPlace sh 0 0 (Zi G F sh Q) 168 [(0, .ref (G.1 + v0)), (1, .ref (G.1 + v1)), (2, .ref (G.1 + v2)), (3, .int v3), (6, .int v6), (7, .int v7), (9, .int v9)] [] m := by
  unfold X10_nextPlace_p168 at h
  refine v_iload 7 5 dX10_nextPlace_168 rfl ?_
  refine v_istore (ls' := [(4, .int _), (0, .ref _), (1, .ref _), (2, .ref _), (3, .int _), (6, .int _), (7, .int _), (9, .int _)]) 4 dX10_nextPlace_170 (Nat.le_of_ble_eq_true rfl) rfl ?_
  refine v_iload 9 7 dX10_nextPlace_172 rfl ?_
  refine v_istore (ls' := [(5, .int _), (4, .int _), (0, .ref _), (1, .ref _), (2, .ref _), (3, .int _), (6, .int _), (7, .int _), (9, .int _)]) 5 dX10_nextPlace_174 (Nat.le_of_ble_eq_true rfl) rfl ?_
  refine v_sub [2, 3, 4, 5, 1, 0, 6] rfl ?_
  exact v_X10_nextPlace_p176 hK22 h
set_option maxHeartbeats 4000000 in
set_option maxRecDepth 100000 in
theorem v_X10_nextPlace_p95 {G : Gl} {F : Fr} {sh : Shp} {v0 : Nat} {v1 : Nat} {v2 : Nat} {v3 : Int32} {v4 : Int32} {v5 : Int32} {v6 : Int32} {v7 : Int32} {s0 : Nat} {s1 : Int32} {s2 : Int32} {Q : Int32 → Mem → Prop} {K22 : Int32 → Int32 → Int32 → Mem → Prop} {m : Mem} (hK22 : ∀ (x4 : Int32) (x5 : Int32) (x6 : Int32) (m : Mem), K22 x4 x5 x6 m → V G F M_X10_nextPlace sh 0 0 (Zi G F sh Q) 22 [(0, .ref (G.1 + v0)), (1, .ref (G.1 + v1)), (2, .ref (G.1 + v2)), (3, .int v3), (4, .int x4), (5, .int x5), (6, .int x6)] [] m) (h : X10_nextPlace_p95 sh v0 v1 v2 v3 v4 v5 v6 v7 s2 s1 s0 Q K22 m) : V G F M_X10_nextPlace sh 0 0 (Zi G F sh Q) 95 [(0, .ref (G.1 + v0)), (1, .ref (G.1 + v1)), (2, .ref (G.1 + v2)), (3, .int v3), (4, .int v4), (5, .int v5), (6, .int v6), (7, .int v7)] [.int s2, .int s1, .ref (G.1 + s0)] m := by
  unfold X10_nextPlace_p95 at h
  obtain ⟨i24, h⟩ := h
  refine v_iast dX10_nextPlace_95 i24 ?_
  replace h := bnd_e h
  refine v_aload_n 0 0 dX10_nextPlace_96 rfl rfl ?_
  obtain ⟨o26, h⟩ := h
  obtain ⟨b27, e28, h⟩ := h
  refine v_gR 10 6 dX10_nextPlace_97 fg_RX10_22 o26 e28 ?_
  refine v_iconst (2 : Int32) dX10_nextPlace_100 (by decide) ?_
  refine v_aload_n 2 2 dX10_nextPlace_101 rfl rfl ?_
  obtain ⟨o29, h⟩ := h
  obtain ⟨b30, e31, h⟩ := h
  refine v_gR 1 4 dX10_nextPlace_102 fg_RX10_92 o29 e31 ?_
  refine v_iload 7 7 dX10_nextPlace_105 rfl ?_
  obtain ⟨i32, h⟩ := h
  refine v_iald dX10_nextPlace_107 i32 ?_
  obtain ⟨i33, h⟩ := h
  refine v_iast dX10_nextPlace_108 i33 ?_
  replace h := bnd_e h
  refine v_aload_n 0 0 dX10_nextPlace_109 rfl rfl ?_
  refine v_gR 10 6 dX10_nextPlace_110 fg_RX10_22 o26 e28 ?_
  refine v_iconst (5 : Int32) dX10_nextPlace_113 (by decide) ?_
  refine v_aload_n 2 2 dX10_nextPlace_114 rfl rfl ?_
  obtain ⟨b35, e36, h⟩ := h
  refine v_gR 1 2 dX10_nextPlace_115 fg_RX10_95 o29 e36 ?_
  refine v_iload 7 7 dX10_nextPlace_118 rfl ?_
  obtain ⟨i37, h⟩ := h
  refine v_iald dX10_nextPlace_120 i37 ?_
  obtain ⟨i38, h⟩ := h
  refine v_iast dX10_nextPlace_121 i38 ?_
  replace h := bnd_e h
  refine v_aload_n 0 0 dX10_nextPlace_122 rfl rfl ?_
  refine v_gR 10 6 dX10_nextPlace_123 fg_RX10_22 o26 e28 ?_
  refine v_bipush (6 : Int32) dX10_nextPlace_126 (by decide) ?_
  refine v_aload_n 1 1 dX10_nextPlace_128 rfl rfl ?_
  obtain ⟨o40, h⟩ := h
  refine v_gI 5 1 dX10_nextPlace_129 fg_RX10_72 o40 ?_
  refine v_iconst (1 : Int32) dX10_nextPlace_132 (by decide) ?_
  refine v_isub dX10_nextPlace_133 ?_
  refine v_aload_n 1 1 dX10_nextPlace_134 rfl rfl ?_
  refine v_iload 7 7 dX10_nextPlace_135 rfl ?_
  refine v_cVi [.int _] mv_X5_rowOf ml_RX10_68 ⟨_, _, rfl⟩ o40 rfl rfl (Nat.le_of_ble_eq_true rfl) (Nat.le_of_ble_eq_true rfl) (Nat.le_of_ble_eq_true rfl) (Nat.zero_le _) (Nat.zero_le _) dX10_nextPlace_137 (c_X5_rowOf h) (fun r41 m42 h => ?_)
  refine v_isub dX10_nextPlace_140 ?_
  obtain ⟨i43, h⟩ := h
  refine v_iast dX10_nextPlace_141 i43 ?_
  replace h := bnd_e h
  refine v_aload_n 1 1 dX10_nextPlace_142 rfl rfl ?_
  obtain ⟨b45, e46, h⟩ := h
  refine v_gR 5 15 dX10_nextPlace_143 fg_RX10_98 o40 e46 ?_
  refine v_aload_n 0 0 dX10_nextPlace_146 rfl rfl ?_
  obtain ⟨b47, e48, h⟩ := h
  refine v_gR 10 6 dX10_nextPlace_147 fg_RX10_22 o26 e48 ?_
  obtain ⟨o51, h⟩ := h
  refine v_cVi [.ref _] mv_X0_worth ml_RX10_102 ⟨_, _, rfl⟩ o51 rfl rfl (Nat.le_of_ble_eq_true rfl) (Nat.le_of_ble_eq_true rfl) (Nat.le_of_ble_eq_true rfl) (Nat.zero_le _) (Nat.zero_le _) dX10_nextPlace_150 (c_X0_worth h) (fun r49 m50 h => ?_)
  refine v_istore (ls' := [(9, .int _), (0, .ref _), (1, .ref _), (2, .ref _), (3, .int _), (4, .int _), (5, .int _), (6, .int _), (7, .int _)]) 9 dX10_nextPlace_153 (Nat.le_of_ble_eq_true rfl) rfl ?_
  refine v_iload 4 5 dX10_nextPlace_155 rfl ?_
  refine v_iconst (-1 : Int32) dX10_nextPlace_157 (by decide) ?_
  refine v_icmp_eq 168 dX10_nextPlace_158 (by decide) (fun hc => ?_) (fun hc => ?_)
  · replace h := Eq.mp (if_pos hc) h
    refine v_sub [1, 2, 3, 4, 7, 8, 0] rfl ?_
    exact v_X10_nextPlace_p168 hK22 h
  · replace h := Eq.mp (if_neg hc) h
    refine v_iload 9 0 dX10_nextPlace_161 rfl ?_
    refine v_iload 5 6 dX10_nextPlace_163 rfl ?_
    refine v_icmp_le 176 dX10_nextPlace_165 (by decide) (fun hc => ?_) (fun hc => ?_)
    · replace h := Eq.mp (if_pos hc) h
      refine v_sub [1, 2, 3, 4, 5, 6, 7] rfl ?_
      exact v_X10_nextPlace_p176 hK22 h
    · replace h := Eq.mp (if_neg hc) h
      refine v_sub [1, 2, 3, 4, 7, 8, 0] rfl ?_
      exact v_X10_nextPlace_p168 hK22 h
set_option maxHeartbeats 4000000 in
set_option maxRecDepth 100000 in
theorem v_X10_nextPlace_p22b {G : Gl} {F : Fr} {sh : Shp} {v0 : Nat} {v1 : Nat} {v2 : Nat} {v3 : Int32} {v4 : Int32} {v5 : Int32} {v6 : Int32} {Q : Int32 → Mem → Prop} {K22 : Int32 → Int32 → Int32 → Mem → Prop} {m : Mem} (hK22 : ∀ (x4 : Int32) (x5 : Int32) (x6 : Int32) (m : Mem), K22 x4 x5 x6 m → V G F M_X10_nextPlace sh 0 0 (Zi G F sh Q) 22 [(0, .ref (G.1 + v0)), (1, .ref (G.1 + v1)), (2, .ref (G.1 + v2)), (3, .int v3), (4, .int x4), (5, .int x5), (6, .int x6)] [] m) (h : X10_nextPlace_p22b sh v0 v1 v2 v3 Q K22 v4 v5 v6 m) : V G F M_X10_nextPlace sh 0 0 (Zi G F sh Q) 22 [(0, .ref (G.1 + v0)), (1, .ref (G.1 + v1)), (2, .ref (G.1 + v2)), (3, .int v3), (4, .int v4), (5, .int v5), (6, .int v6)] [] m := by
  unfold X10_nextPlace_p22b at h
  refine v_iload 6 6 dX10_nextPlace_22 rfl ?_
  refine v_iconst (4 : Int32) dX10_nextPlace_24 (by decide) ?_
  refine v_icmp_ge 182 dX10_nextPlace_25 (by decide) (fun hc => ?_) (fun hc => ?_)
  · replace h := Eq.mp (if_pos hc) h
    refine v_iload 4 4 dX10_nextPlace_182 rfl ?_
    exact v_iret dX10_nextPlace_184 rfl rfl h
  · replace h := Eq.mp (if_neg hc) h
    refine v_aload_n 1 1 dX10_nextPlace_28 rfl rfl ?_
    refine v_iload_n 3 3 dX10_nextPlace_29 rfl rfl ?_
    refine v_iload 6 6 dX10_nextPlace_30 rfl ?_
    obtain ⟨o8, h⟩ := h
    refine v_cVi [.int _, .int _] mv_X5_beside ml_RX10_81 ⟨_, _, rfl⟩ o8 rfl rfl (Nat.le_of_ble_eq_true rfl) (Nat.le_of_ble_eq_true rfl) (Nat.le_of_ble_eq_true rfl) (Nat.zero_le _) (Nat.zero_le _) dX10_nextPlace_32 (c_X5_beside h) (fun r6 m7 h => ?_)
    refine v_istore (ls' := [(7, .int _), (0, .ref _), (1, .ref _), (2, .ref _), (3, .int _), (4, .int _), (5, .int _), (6, .int _)]) 7 dX10_nextPlace_35 (Nat.le_of_ble_eq_true rfl) rfl ?_
    refine v_iload 7 0 dX10_nextPlace_37 rfl ?_
    refine v_iconst (-1 : Int32) dX10_nextPlace_39 (by decide) ?_
    refine v_icmp_eq 176 dX10_nextPlace_40 (by decide) (fun hc => ?_) (fun hc => ?_)
    · replace h := Eq.mp (if_pos hc) h
      refine v_sub [1, 2, 3, 4, 5, 6, 7] rfl ?_
      exact v_X10_nextPlace_p176 hK22 h
    · replace h := Eq.mp (if_neg hc) h
      refine v_aload_n 0 1 dX10_nextPlace_43 rfl rfl ?_
      obtain ⟨o9, h⟩ := h
      obtain ⟨b10, e11, h⟩ := h
      refine v_gR 10 1 dX10_nextPlace_44 fg_RX10_15 o9 e11 ?_
      refine v_iload 7 0 dX10_nextPlace_47 rfl ?_
      obtain ⟨i12, h⟩ := h
      refine v_iald dX10_nextPlace_49 i12 ?_
      refine v_iconst (-1 : Int32) dX10_nextPlace_50 (by decide) ?_
      refine v_icmp_ne 176 dX10_nextPlace_51 (by decide) (fun hc => ?_) (fun hc => ?_)
      · replace h := Eq.mp (if_neg hc) h
        refine v_sub [1, 2, 3, 4, 5, 6, 7] rfl ?_
        exact v_X10_nextPlace_p176 hK22 h
      · replace h := Eq.mp (if_pos hc) h
        refine v_aload_n 2 3 dX10_nextPlace_54 rfl rfl ?_
        refine v_iload_n 3 4 dX10_nextPlace_55 rfl rfl ?_
        refine v_iload 7 0 dX10_nextPlace_56 rfl ?_
        obtain ⟨o15, h⟩ := h
        refine v_cVi [.int _, .int _] mv_X1_flows ml_RX10_85 ⟨_, _, rfl⟩ o15 rfl rfl (Nat.le_of_ble_eq_true rfl) (Nat.le_of_ble_eq_true rfl) (Nat.le_of_ble_eq_true rfl) (Nat.zero_le _) (Nat.zero_le _) dX10_nextPlace_58 (c_X1_flows h) (fun r13 m14 h => ?_)
        refine v_if_eq 176 dX10_nextPlace_61 (by decide) (fun hc => ?_) (fun hc => ?_)
        · replace h := Eq.mp (if_pos hc) h
          refine v_sub [1, 2, 3, 4, 5, 6, 7] rfl ?_
          exact v_X10_nextPlace_p176 hK22 h
        · replace h := Eq.mp (if_neg hc) h
          refine v_aload_n 1 2 dX10_nextPlace_64 rfl rfl ?_
          obtain ⟨b16, e17, h⟩ := h
          refine v_gR 5 7 dX10_nextPlace_65 fg_RX10_75 o8 e17 ?_
          refine v_iload 7 0 dX10_nextPlace_68 rfl ?_
          obtain ⟨i18, h⟩ := h
          refine v_iald dX10_nextPlace_70 i18 ?_
          refine v_istore (ls' := [(8, .int _), (7, .int _), (0, .ref _), (1, .ref _), (2, .ref _), (3, .int _), (4, .int _), (5, .int _), (6, .int _)]) 8 dX10_nextPlace_71 (Nat.le_of_ble_eq_true rfl) rfl ?_
          refine v_aload_n 0 2 dX10_nextPlace_73 rfl rfl ?_
          obtain ⟨b19, e20, h⟩ := h
          refine v_gR 10 6 dX10_nextPlace_74 fg_RX10_22 o9 e20 ?_
          refine v_iconst (1 : Int32) dX10_nextPlace_77 (by decide) ?_
          refine v_iload 8 0 dX10_nextPlace_78 rfl ?_
          refine v_iconst (-1 : Int32) dX10_nextPlace_80 (by decide) ?_
          refine v_icmp_ne 88 dX10_nextPlace_81 (by decide) (fun hc => ?_) (fun hc => ?_)
          · replace h := Eq.mp (if_neg hc) h
            refine v_aload_n 2 4 dX10_nextPlace_88 rfl rfl ?_
            obtain ⟨b21, e22, h⟩ := h
            refine v_gR 1 5 dX10_nextPlace_89 fg_RX10_89 o15 e22 ?_
            refine v_iload 8 0 dX10_nextPlace_92 rfl ?_
            obtain ⟨i23, h⟩ := h
            refine v_iald dX10_nextPlace_94 i23 ?_
            refine v_sub [2, 3, 4, 5, 6, 7, 8, 1] rfl ?_
            exact v_X10_nextPlace_p95 hK22 h
          · replace h := Eq.mp (if_pos hc) h
            refine v_iconst (0 : Int32) dX10_nextPlace_84 (by decide) ?_
            refine v_goto 95 dX10_nextPlace_85 (by decide) ?_
            refine v_sub [2, 3, 4, 5, 6, 7, 8, 1] rfl ?_
            exact v_X10_nextPlace_p95 hK22 h
set_option maxHeartbeats 4000000 in
set_option maxRecDepth 100000 in
theorem v_X10_nextPlace_p22 {G : Gl} {F : Fr} {sh : Shp} {v0 : Nat} {v1 : Nat} {v2 : Nat} {v3 : Int32} {v4 : Int32} {v5 : Int32} {v6 : Int32} {Q : Int32 → Mem → Prop} {m : Mem} (h : X10_nextPlace_p22 sh v0 v1 v2 v3 Q v4 v5 v6 m) : V G F M_X10_nextPlace sh 0 0 (Zi G F sh Q) 22 [(0, .ref (G.1 + v0)), (1, .ref (G.1 + v1)), (2, .ref (G.1 + v2)), (3, .int v3), (4, .int v4), (5, .int v5), (6, .int v6)] [] m := by
  obtain ⟨n, h⟩ := h
  induction n generalizing v4 v5 v6 m with
  | zero => exact h.elim
  | succ n ih => exact v_X10_nextPlace_p22b (fun _ _ _ _ h => ih h) h
set_option maxHeartbeats 4000000 in
set_option maxRecDepth 100000 in
theorem c_X10_nextPlace {l : Launch} {G : Gl} {sh : Shp} {v0 : Nat} {v1 : Nat} {v2 : Nat} {v3 : Int32} {Q : Int32 → Mem → Prop} {m : Mem} (h : wp_X10_nextPlace sh v0 v1 v2 v3 Q m) : Cni l G yX10_nextPlace cX10_nextPlace 10 (Option.some FieldType.int) 4 133 sh [.ref (G.1 + v0), .ref (G.1 + v1), .ref (G.1 + v2), .int v3] m Q := by
  refine con_i (ls := [(0, .ref (G.1 + v0)), (1, .ref (G.1 + v1)), (2, .ref (G.1 + v2)), (3, .int v3)]) (by decide +kernel) rfl (Nat.le_of_ble_eq_true rfl) (fun F => ?_)
  show V G F M_X10_nextPlace sh 0 0 (Zi G F sh Q) 0 [(0, .ref (G.1 + v0)), (1, .ref (G.1 + v1)), (2, .ref (G.1 + v2)), (3, .int v3)] [] m
  unfold wp_X10_nextPlace at h
  refine v_aload_n 0 0 dX10_nextPlace_0 rfl rfl ?_
  obtain ⟨o1, h⟩ := h
  obtain ⟨b2, e3, h⟩ := h
  refine v_gR 10 6 dX10_nextPlace_1 fg_RX10_22 o1 e3 ?_
  refine v_bipush (7 : Int32) dX10_nextPlace_4 (by decide) ?_
  refine v_aload_n 0 0 dX10_nextPlace_6 rfl rfl ?_
  refine v_gI 10 2 dX10_nextPlace_7 fg_RX10_18 o1 ?_
  refine v_iconst (1 : Int32) dX10_nextPlace_10 (by decide) ?_
  refine v_iadd dX10_nextPlace_11 ?_
  obtain ⟨i4, h⟩ := h
  refine v_iast dX10_nextPlace_12 i4 ?_
  replace h := bnd_e h
  refine v_iconst (-1 : Int32) dX10_nextPlace_13 (by decide) ?_
  refine v_istore (ls' := [(4, .int _), (0, .ref _), (1, .ref _), (2, .ref _), (3, .int _)]) 4 dX10_nextPlace_14 (Nat.le_of_ble_eq_true rfl) rfl ?_
  refine v_iconst (0 : Int32) dX10_nextPlace_16 (by decide) ?_
  refine v_istore (ls' := [(5, .int _), (4, .int _), (0, .ref _), (1, .ref _), (2, .ref _), (3, .int _)]) 5 dX10_nextPlace_17 (Nat.le_of_ble_eq_true rfl) rfl ?_
  refine v_iconst (0 : Int32) dX10_nextPlace_19 (by decide) ?_
  refine v_istore (ls' := [(6, .int _), (5, .int _), (4, .int _), (0, .ref _), (1, .ref _), (2, .ref _), (3, .int _)]) 6 dX10_nextPlace_20 (Nat.le_of_ble_eq_true rfl) rfl ?_
  refine v_sub [3, 4, 5, 6, 2, 1, 0] rfl ?_
  exact v_X10_nextPlace_p22 h
/-! CalledRiver$Way.lead -/
theorem dX10_lead_0 : decode cX10_lead 0 = .ok (.aload_n 0, 1) := by decide +kernel
theorem dX10_lead_1 : decode cX10_lead 1 = .ok (.iconst (-1), 1) := by decide +kernel
theorem dX10_lead_2 : decode cX10_lead 2 = .ok (.putfield 18, 3) := by decide +kernel
theorem dX10_lead_5 : decode cX10_lead 5 = .ok (.aload_n 0, 1) := by decide +kernel
theorem dX10_lead_6 : decode cX10_lead 6 = .ok (.iconst 0, 1) := by decide +kernel
theorem dX10_lead_7 : decode cX10_lead 7 = .ok (.putfield 31, 3) := by decide +kernel
theorem dX10_lead_10 : decode cX10_lead 10 = .ok (.aload_n 0, 1) := by decide +kernel
theorem dX10_lead_11 : decode cX10_lead 11 = .ok (.iconst 0, 1) := by decide +kernel
theorem dX10_lead_12 : decode cX10_lead 12 = .ok (.putfield 35, 3) := by decide +kernel
theorem dX10_lead_15 : decode cX10_lead 15 = .ok (.aload_n 0, 1) := by decide +kernel
theorem dX10_lead_16 : decode cX10_lead 16 = .ok (.iconst 1, 1) := by decide +kernel
theorem dX10_lead_17 : decode cX10_lead 17 = .ok (.putfield 38, 3) := by decide +kernel
theorem dX10_lead_20 : decode cX10_lead 20 = .ok (.aload_n 0, 1) := by decide +kernel
theorem dX10_lead_21 : decode cX10_lead 21 = .ok (.getfield 15, 3) := by decide +kernel
theorem dX10_lead_24 : decode cX10_lead 24 = .ok (.iconst (-1), 1) := by decide +kernel
theorem dX10_lead_25 : decode cX10_lead 25 = .ok (.invokestatic 25, 3) := by decide +kernel
theorem dX10_lead_28 : decode cX10_lead 28 = .ok (.aload_n 0, 1) := by decide +kernel
theorem dX10_lead_29 : decode cX10_lead 29 = .ok (.getfield 22, 3) := by decide +kernel
theorem dX10_lead_32 : decode cX10_lead 32 = .ok (.iconst 0, 1) := by decide +kernel
theorem dX10_lead_33 : decode cX10_lead 33 = .ok (.aload_n 2, 1) := by decide +kernel
theorem dX10_lead_34 : decode cX10_lead 34 = .ok (.getfield 41, 3) := by decide +kernel
theorem dX10_lead_37 : decode cX10_lead 37 = .ok (.iastore, 1) := by decide +kernel
theorem dX10_lead_38 : decode cX10_lead 38 = .ok (.aload_n 0, 1) := by decide +kernel
theorem dX10_lead_39 : decode cX10_lead 39 = .ok (.getfield 22, 3) := by decide +kernel
theorem dX10_lead_42 : decode cX10_lead 42 = .ok (.iconst 3, 1) := by decide +kernel
theorem dX10_lead_43 : decode cX10_lead 43 = .ok (.aload_n 1, 1) := by decide +kernel
theorem dX10_lead_44 : decode cX10_lead 44 = .ok (.getfield 46, 3) := by decide +kernel
theorem dX10_lead_47 : decode cX10_lead 47 = .ok (.iload_n 3, 1) := by decide +kernel
theorem dX10_lead_48 : decode cX10_lead 48 = .ok (.iaload, 1) := by decide +kernel
theorem dX10_lead_49 : decode cX10_lead 49 = .ok (.iastore, 1) := by decide +kernel
theorem dX10_lead_50 : decode cX10_lead 50 = .ok (.aload_n 0, 1) := by decide +kernel
theorem dX10_lead_51 : decode cX10_lead 51 = .ok (.getfield 22, 3) := by decide +kernel
theorem dX10_lead_54 : decode cX10_lead 54 = .ok (.iconst 4, 1) := by decide +kernel
theorem dX10_lead_55 : decode cX10_lead 55 = .ok (.aload_n 1, 1) := by decide +kernel
theorem dX10_lead_56 : decode cX10_lead 56 = .ok (.getfield 51, 3) := by decide +kernel
theorem dX10_lead_59 : decode cX10_lead 59 = .ok (.iload_n 3, 1) := by decide +kernel
theorem dX10_lead_60 : decode cX10_lead 60 = .ok (.iaload, 1) := by decide +kernel
theorem dX10_lead_61 : decode cX10_lead 61 = .ok (.iastore, 1) := by decide +kernel
theorem dX10_lead_62 : decode cX10_lead 62 = .ok (.aload_n 2, 1) := by decide +kernel
theorem dX10_lead_63 : decode cX10_lead 63 = .ok (.getfield 54, 3) := by decide +kernel
theorem dX10_lead_66 : decode cX10_lead 66 = .ok (.aload_n 1, 1) := by decide +kernel
theorem dX10_lead_67 : decode cX10_lead 67 = .ok (.getfield 57, 3) := by decide +kernel
theorem dX10_lead_70 : decode cX10_lead 70 = .ok (.iaload, 1) := by decide +kernel
theorem dX10_lead_71 : decode cX10_lead 71 = .ok (.iconst 1, 1) := by decide +kernel
theorem dX10_lead_72 : decode cX10_lead 72 = .ok (.if_icmp .ne 7, 3) := by decide +kernel
theorem dX10_lead_75 : decode cX10_lead 75 = .ok (.iconst (-1), 1) := by decide +kernel
theorem dX10_lead_76 : decode cX10_lead 76 = .ok (.goto 7, 3) := by decide +kernel
theorem dX10_lead_79 : decode cX10_lead 79 = .ok (.aload_n 1, 1) := by decide +kernel
theorem dX10_lead_80 : decode cX10_lead 80 = .ok (.getfield 57, 3) := by decide +kernel
theorem dX10_lead_83 : decode cX10_lead 83 = .ok (.istore 4, 2) := by decide +kernel
theorem dX10_lead_85 : decode cX10_lead 85 = .ok (.iconst 0, 1) := by decide +kernel
theorem dX10_lead_86 : decode cX10_lead 86 = .ok (.istore 5, 2) := by decide +kernel
theorem dX10_lead_88 : decode cX10_lead 88 = .ok (.iload 5, 2) := by decide +kernel
theorem dX10_lead_90 : decode cX10_lead 90 = .ok (.bipush 36, 2) := by decide +kernel
theorem dX10_lead_92 : decode cX10_lead 92 = .ok (.if_icmp .ge 45, 3) := by decide +kernel
theorem dX10_lead_95 : decode cX10_lead 95 = .ok (.iload 4, 2) := by decide +kernel
theorem dX10_lead_97 : decode cX10_lead 97 = .ok (.iconst (-1), 1) := by decide +kernel
theorem dX10_lead_98 : decode cX10_lead 98 = .ok (.if_icmp .eq 39, 3) := by decide +kernel
theorem dX10_lead_101 : decode cX10_lead 101 = .ok (.aload_n 0, 1) := by decide +kernel
theorem dX10_lead_102 : decode cX10_lead 102 = .ok (.aload_n 1, 1) := by decide +kernel
theorem dX10_lead_103 : decode cX10_lead 103 = .ok (.iload 4, 2) := by decide +kernel
theorem dX10_lead_105 : decode cX10_lead 105 = .ok (.iload 5, 2) := by decide +kernel
theorem dX10_lead_107 : decode cX10_lead 107 = .ok (.invokevirtual 60, 3) := by decide +kernel
theorem dX10_lead_110 : decode cX10_lead 110 = .ok (.aload_n 0, 1) := by decide +kernel
theorem dX10_lead_111 : decode cX10_lead 111 = .ok (.getfield 31, 3) := by decide +kernel
theorem dX10_lead_114 : decode cX10_lead 114 = .ok (.ifCond .eq 7, 3) := by decide +kernel
theorem dX10_lead_117 : decode cX10_lead 117 = .ok (.iconst (-1), 1) := by decide +kernel
theorem dX10_lead_118 : decode cX10_lead 118 = .ok (.goto 11, 3) := by decide +kernel
theorem dX10_lead_121 : decode cX10_lead 121 = .ok (.aload_n 0, 1) := by decide +kernel
theorem dX10_lead_122 : decode cX10_lead 122 = .ok (.aload_n 1, 1) := by decide +kernel
theorem dX10_lead_123 : decode cX10_lead 123 = .ok (.aload_n 2, 1) := by decide +kernel
theorem dX10_lead_124 : decode cX10_lead 124 = .ok (.iload 4, 2) := by decide +kernel
theorem dX10_lead_126 : decode cX10_lead 126 = .ok (.invokevirtual 64, 3) := by decide +kernel
theorem dX10_lead_129 : decode cX10_lead 129 = .ok (.istore 4, 2) := by decide +kernel
theorem dX10_lead_131 : decode cX10_lead 131 = .ok (.iinc 5 1, 3) := by decide +kernel
theorem dX10_lead_134 : decode cX10_lead 134 = .ok (.goto (-46), 3) := by decide +kernel
theorem dX10_lead_137 : decode cX10_lead 137 = .ok (.return_, 1) := by decide +kernel
def X10_lead_p129 (sh : Shp) (v0 : Nat) (v1 : Nat) (v2 : Nat) (v5 : Int32) (s0 : Int32) (Q : Mem → Prop) (K88 : Int32 → Int32 → Mem → Prop) (m : Mem) : Prop :=
  K88 s0 (v5 + (1 : Int32)) m
def X10_lead_p88b (sh : Shp) (v0 : Nat) (v1 : Nat) (v2 : Nat) (Q : Mem → Prop) (K88 : Int32 → Int32 → Mem → Prop) (v4 : Int32) (v5 : Int32) (m : Mem) : Prop :=
  if (36 : Int32) ≤ v5 then (Q m) else (if v4 = (-1 : Int32) then (Q m) else (Ob sh v0 10 ∧ wp_X10_enter sh v0 v1 v4 v5 (fun m30 => if (m30.1 v0 3) = 0 then (wp_X10_nextPlace sh v0 v1 v2 v4 (fun r32 m33 => X10_lead_p129 sh v0 v1 v2 v5 r32 Q K88 m33) m30) else (X10_lead_p129 sh v0 v1 v2 v5 (-1 : Int32) Q K88 m30)) m))
def X10_lead_p88n (sh : Shp) (v0 : Nat) (v1 : Nat) (v2 : Nat) (Q : Mem → Prop) : Nat → Int32 → Int32 → Mem → Prop
  | 0 => fun _ _ _ => False
  | n + 1 => X10_lead_p88b sh v0 v1 v2 Q (X10_lead_p88n sh v0 v1 v2 Q n)
def X10_lead_p88 (sh : Shp) (v0 : Nat) (v1 : Nat) (v2 : Nat) (Q : Mem → Prop) (v4 : Int32) (v5 : Int32) (m : Mem) : Prop := ∃ n, X10_lead_p88n sh v0 v1 v2 Q n v4 v5 m
def X10_lead_p83 (sh : Shp) (v0 : Nat) (v1 : Nat) (v2 : Nat) (s0 : Int32) (Q : Mem → Prop) (m : Mem) : Prop :=
  X10_lead_p88 sh v0 v1 v2 Q s0 (0 : Int32) m
def wp_X10_lead (sh : Shp) (v0 : Nat) (v1 : Nat) (v2 : Nat) (v3 : Int32) (Q : Mem → Prop) (m : Mem) : Prop :=
  Ob sh v0 10 ∧ bnd (sI m v0 2 (-1 : Int32)) (fun m2 => bnd (sI m2 v0 3 (0 : Int32)) (fun m3 => bnd (sI m3 v0 4 (0 : Int32)) (fun m4 => bnd (sI m4 v0 5 (1 : Int32)) (fun m5 => ∃ b6 : Nat, m5.2.2 v0 1 = some b6 ∧ (wp_J7_fill_53178 sh b6 (-1 : Int32) (fun m9 => ∃ b10 : Nat, m9.2.2 v0 6 = some b10 ∧ (Ob sh v2 1 ∧ (Ix sh b10 100 (0 : Int32) ∧ bnd (sI m9 b10 (0 : Int32).toNatClampNeg (m9.1 v2 0)) (fun m14 => Ob sh v1 5 ∧ ∃ b16 : Nat, m14.2.2 v1 13 = some b16 ∧ (Ix sh b16 100 v3 ∧ (Ix sh b10 100 (3 : Int32) ∧ bnd (sI m14 b10 (3 : Int32).toNatClampNeg (m14.1 b16 v3.toNatClampNeg)) (fun m20 => ∃ b21 : Nat, m20.2.2 v1 14 = some b21 ∧ (Ix sh b21 100 v3 ∧ (Ix sh b10 100 (4 : Int32) ∧ bnd (sI m20 b10 (4 : Int32).toNatClampNeg (m20.1 b21 v3.toNatClampNeg)) (fun m25 => ∃ b26 : Nat, m25.2.2 v2 3 = some b26 ∧ (Ix sh b26 100 (m25.1 v1 2) ∧ (if (m25.1 b26 (m25.1 v1 2).toNatClampNeg) = (1 : Int32) then (X10_lead_p83 sh v0 v1 v2 (-1 : Int32) Q m25) else (X10_lead_p83 sh v0 v1 v2 (m25.1 v1 2) Q m25))))))))))))) m5)))))
abbrev M_X10_lead : Mi := (cX10_lead, 6, RX10, (none : Option FieldType), "lead", 5, 162, 0, 0)
set_option maxHeartbeats 4000000 in
set_option maxRecDepth 100000 in
theorem v_X10_lead_p129 {G : Gl} {F : Fr} {sh : Shp} {v0 : Nat} {v1 : Nat} {v2 : Nat} {v5 : Int32} {s0 : Int32} {Q : Mem → Prop} {K88 : Int32 → Int32 → Mem → Prop} {m : Mem} (hK88 : ∀ (x4 : Int32) (x5 : Int32) (m : Mem), K88 x4 x5 m → V G F M_X10_lead sh 0 0 (Zv G F sh Q) 88 [(0, .ref (G.1 + v0)), (1, .ref (G.1 + v1)), (2, .ref (G.1 + v2)), (4, .int x4), (5, .int x5)] [] m) (h : X10_lead_p129 sh v0 v1 v2 v5 s0 Q K88 m) : V G F M_X10_lead sh 0 0 (Zv G F sh Q) 129 [(0, .ref (G.1 + v0)), (1, .ref (G.1 + v1)), (2, .ref (G.1 + v2)), (5, .int v5)] [.int s0] m := by
  unfold X10_lead_p129 at h
  refine v_istore (ls' := [(4, .int _), (0, .ref _), (1, .ref _), (2, .ref _), (5, .int _)]) 4 dX10_lead_129 (Nat.le_of_ble_eq_true rfl) rfl ?_
  refine v_iinc (ls' := [(5, .int _), (4, .int _), (0, .ref _), (1, .ref _), (2, .ref _)]) 5 4 dX10_lead_131 rfl (congrArg (HAdd.hAdd _) (by decide : Int32.ofInt (1) = (1 : Int32))) (Nat.le_of_ble_eq_true rfl) rfl ?_
  refine v_goto 88 dX10_lead_134 (by decide) ?_
  refine v_sub [2, 3, 4, 1, 0] rfl ?_
  exact hK88 _ _ _ h
set_option maxHeartbeats 4000000 in
set_option maxRecDepth 100000 in
theorem v_X10_lead_p88b {G : Gl} {F : Fr} {sh : Shp} {v0 : Nat} {v1 : Nat} {v2 : Nat} {v4 : Int32} {v5 : Int32} {Q : Mem → Prop} {K88 : Int32 → Int32 → Mem → Prop} {m : Mem} (hK88 : ∀ (x4 : Int32) (x5 : Int32) (m : Mem), K88 x4 x5 m → V G F M_X10_lead sh 0 0 (Zv G F sh Q) 88 [(0, .ref (G.1 + v0)), (1, .ref (G.1 + v1)), (2, .ref (G.1 + v2)), (4, .int x4), (5, .int x5)] [] m) (h : X10_lead_p88b sh v0 v1 v2 Q K88 v4 v5 m) : V G F M_X10_lead sh 0 0 (Zv G F sh Q) 88 [(0, .ref (G.1 + v0)), (1, .ref (G.1 + v1)), (2, .ref (G.1 + v2)), (4, .int v4), (5, .int v5)] [] m := by
  unfold X10_lead_p88b at h
  refine v_iload 5 4 dX10_lead_88 rfl ?_
  refine v_bipush (36 : Int32) dX10_lead_90 (by decide) ?_
  refine v_icmp_ge 137 dX10_lead_92 (by decide) (fun hc => ?_) (fun hc => ?_)
  · replace h := Eq.mp (if_pos hc) h
    exact v_vret dX10_lead_137 rfl h
  · replace h := Eq.mp (if_neg hc) h
    refine v_iload 4 3 dX10_lead_95 rfl ?_
    refine v_iconst (-1 : Int32) dX10_lead_97 (by decide) ?_
    refine v_icmp_eq 137 dX10_lead_98 (by decide) (fun hc => ?_) (fun hc => ?_)
    · replace h := Eq.mp (if_pos hc) h
      exact v_vret dX10_lead_137 rfl h
    · replace h := Eq.mp (if_neg hc) h
      refine v_aload_n 0 0 dX10_lead_101 rfl rfl ?_
      refine v_aload_n 1 1 dX10_lead_102 rfl rfl ?_
      refine v_iload 4 3 dX10_lead_103 rfl ?_
      refine v_iload 5 4 dX10_lead_105 rfl ?_
      obtain ⟨o31, h⟩ := h
      refine v_cVv [.ref _, .int _, .int _] mv_X10_enter ml_RX10_60 ⟨_, _, rfl⟩ o31 rfl rfl (Nat.le_of_ble_eq_true rfl) (Nat.le_of_ble_eq_true rfl) (Nat.le_of_ble_eq_true rfl) (Nat.zero_le _) (Nat.zero_le _) dX10_lead_107 (c_X10_enter h) (fun m30 h => ?_)
      refine v_aload_n 0 0 dX10_lead_110 rfl rfl ?_
      refine v_gI 10 3 dX10_lead_111 fg_RX10_31 o31 ?_
      refine v_if_eq 121 dX10_lead_114 (by decide) (fun hc => ?_) (fun hc => ?_)
      · replace h := Eq.mp (if_pos hc) h
        refine v_aload_n 0 0 dX10_lead_121 rfl rfl ?_
        refine v_aload_n 1 1 dX10_lead_122 rfl rfl ?_
        refine v_aload_n 2 2 dX10_lead_123 rfl rfl ?_
        refine v_iload 4 3 dX10_lead_124 rfl ?_
        refine v_cVi [.ref _, .ref _, .int _] mv_X10_nextPlace ml_RX10_64 ⟨_, _, rfl⟩ o31 rfl rfl (Nat.le_of_ble_eq_true rfl) (Nat.le_of_ble_eq_true rfl) (Nat.le_of_ble_eq_true rfl) (Nat.zero_le _) (Nat.zero_le _) dX10_lead_126 (c_X10_nextPlace h) (fun r32 m33 h => ?_)
        refine v_sub [0, 1, 2, 4] rfl ?_
        exact v_X10_lead_p129 hK88 h
      · replace h := Eq.mp (if_neg hc) h
        refine v_iconst (-1 : Int32) dX10_lead_117 (by decide) ?_
        refine v_goto 129 dX10_lead_118 (by decide) ?_
        refine v_sub [0, 1, 2, 4] rfl ?_
        exact v_X10_lead_p129 hK88 h
set_option maxHeartbeats 4000000 in
set_option maxRecDepth 100000 in
theorem v_X10_lead_p88 {G : Gl} {F : Fr} {sh : Shp} {v0 : Nat} {v1 : Nat} {v2 : Nat} {v4 : Int32} {v5 : Int32} {Q : Mem → Prop} {m : Mem} (h : X10_lead_p88 sh v0 v1 v2 Q v4 v5 m) : V G F M_X10_lead sh 0 0 (Zv G F sh Q) 88 [(0, .ref (G.1 + v0)), (1, .ref (G.1 + v1)), (2, .ref (G.1 + v2)), (4, .int v4), (5, .int v5)] [] m := by
  obtain ⟨n, h⟩ := h
  induction n generalizing v4 v5 m with
  | zero => exact h.elim
  | succ n ih => exact v_X10_lead_p88b (fun _ _ _ h => ih h) h
set_option maxHeartbeats 4000000 in
set_option maxRecDepth 100000 in
theorem v_X10_lead_p83 {G : Gl} {F : Fr} {sh : Shp} {v0 : Nat} {v1 : Nat} {v2 : Nat} {s0 : Int32} {Q : Mem → Prop} {m : Mem} (h : X10_lead_p83 sh v0 v1 v2 s0 Q m) : V G F M_X10_lead sh 0 0 (Zv G F sh Q) 83 [(0, .ref (G.1 + v0)), (1, .ref (G.1 + v1)), (2, .ref (G.1 + v2))] [.int s0] m := by
  unfold X10_lead_p83 at h
  refine v_istore (ls' := [(4, .int _), (0, .ref _), (1, .ref _), (2, .ref _)]) 4 dX10_lead_83 (Nat.le_of_ble_eq_true rfl) rfl ?_
  refine v_iconst (0 : Int32) dX10_lead_85 (by decide) ?_
  refine v_istore (ls' := [(5, .int _), (4, .int _), (0, .ref _), (1, .ref _), (2, .ref _)]) 5 dX10_lead_86 (Nat.le_of_ble_eq_true rfl) rfl ?_
  refine v_sub [2, 3, 4, 1, 0] rfl ?_
  exact v_X10_lead_p88 h
set_option maxHeartbeats 4000000 in
set_option maxRecDepth 100000 in
theorem c_X10_lead {l : Launch} {G : Gl} {sh : Shp} {v0 : Nat} {v1 : Nat} {v2 : Nat} {v3 : Int32} {Q : Mem → Prop} {m : Mem} (h : wp_X10_lead sh v0 v1 v2 v3 Q m) : Cnv l G yX10_lead cX10_lead 6 (none : Option FieldType) 5 162 sh [.ref (G.1 + v0), .ref (G.1 + v1), .ref (G.1 + v2), .int v3] m Q := by
  refine con_v (ls := [(0, .ref (G.1 + v0)), (1, .ref (G.1 + v1)), (2, .ref (G.1 + v2)), (3, .int v3)]) (by decide +kernel) rfl (Nat.le_of_ble_eq_true rfl) (fun F => ?_)
  show V G F M_X10_lead sh 0 0 (Zv G F sh Q) 0 [(0, .ref (G.1 + v0)), (1, .ref (G.1 + v1)), (2, .ref (G.1 + v2)), (3, .int v3)] [] m
  unfold wp_X10_lead at h
  refine v_aload_n 0 0 dX10_lead_0 rfl rfl ?_
  refine v_iconst (-1 : Int32) dX10_lead_1 (by decide) ?_
  obtain ⟨o1, h⟩ := h
  refine v_pI 10 2 dX10_lead_2 fw_RX10_18 o1 ?_
  replace h := bnd_e h
  refine v_aload_n 0 0 dX10_lead_5 rfl rfl ?_
  refine v_iconst (0 : Int32) dX10_lead_6 (by decide) ?_
  refine v_pZ 10 3 dX10_lead_7 fw_RX10_31 o1 (by decide) ?_
  replace h := bnd_e h
  refine v_aload_n 0 0 dX10_lead_10 rfl rfl ?_
  refine v_iconst (0 : Int32) dX10_lead_11 (by decide) ?_
  refine v_pI 10 4 dX10_lead_12 fw_RX10_35 o1 ?_
  replace h := bnd_e h
  refine v_aload_n 0 0 dX10_lead_15 rfl rfl ?_
  refine v_iconst (1 : Int32) dX10_lead_16 (by decide) ?_
  refine v_pZ 10 5 dX10_lead_17 fw_RX10_38 o1 (by decide) ?_
  replace h := bnd_e h
  refine v_aload_n 0 0 dX10_lead_20 rfl rfl ?_
  obtain ⟨b6, e7, h⟩ := h
  refine v_gR 10 1 dX10_lead_21 fg_RX10_15 o1 e7 ?_
  refine v_iconst (-1 : Int32) dX10_lead_24 (by decide) ?_
  refine v_cSv [.ref _, .int _] mv_J7_fill_53178 ml_RX10_25 rfl rfl (Nat.le_of_ble_eq_true rfl) (Nat.le_of_ble_eq_true rfl) (Nat.le_of_ble_eq_true rfl) (Nat.zero_le _) (Nat.zero_le _) dX10_lead_25 (c_J7_fill_53178 h) (fun m9 h => ?_)
  refine v_aload_n 0 0 dX10_lead_28 rfl rfl ?_
  obtain ⟨b10, e11, h⟩ := h
  refine v_gR 10 6 dX10_lead_29 fg_RX10_22 o1 e11 ?_
  refine v_iconst (0 : Int32) dX10_lead_32 (by decide) ?_
  refine v_aload_n 2 2 dX10_lead_33 rfl rfl ?_
  obtain ⟨o12, h⟩ := h
  refine v_gI 1 0 dX10_lead_34 fg_RX10_41 o12 ?_
  obtain ⟨i13, h⟩ := h
  refine v_iast dX10_lead_37 i13 ?_
  replace h := bnd_e h
  refine v_aload_n 0 0 dX10_lead_38 rfl rfl ?_
  refine v_gR 10 6 dX10_lead_39 fg_RX10_22 o1 e11 ?_
  refine v_iconst (3 : Int32) dX10_lead_42 (by decide) ?_
  refine v_aload_n 1 1 dX10_lead_43 rfl rfl ?_
  obtain ⟨o15, h⟩ := h
  obtain ⟨b16, e17, h⟩ := h
  refine v_gR 5 13 dX10_lead_44 fg_RX10_46 o15 e17 ?_
  refine v_iload_n 3 3 dX10_lead_47 rfl rfl ?_
  obtain ⟨i18, h⟩ := h
  refine v_iald dX10_lead_48 i18 ?_
  obtain ⟨i19, h⟩ := h
  refine v_iast dX10_lead_49 i19 ?_
  replace h := bnd_e h
  refine v_aload_n 0 0 dX10_lead_50 rfl rfl ?_
  refine v_gR 10 6 dX10_lead_51 fg_RX10_22 o1 e11 ?_
  refine v_iconst (4 : Int32) dX10_lead_54 (by decide) ?_
  refine v_aload_n 1 1 dX10_lead_55 rfl rfl ?_
  obtain ⟨b21, e22, h⟩ := h
  refine v_gR 5 14 dX10_lead_56 fg_RX10_51 o15 e22 ?_
  refine v_iload_n 3 3 dX10_lead_59 rfl rfl ?_
  obtain ⟨i23, h⟩ := h
  refine v_iald dX10_lead_60 i23 ?_
  obtain ⟨i24, h⟩ := h
  refine v_iast dX10_lead_61 i24 ?_
  replace h := bnd_e h
  refine v_aload_n 2 2 dX10_lead_62 rfl rfl ?_
  obtain ⟨b26, e27, h⟩ := h
  refine v_gR 1 3 dX10_lead_63 fg_RX10_54 o12 e27 ?_
  refine v_aload_n 1 1 dX10_lead_66 rfl rfl ?_
  refine v_gI 5 2 dX10_lead_67 fg_RX10_57 o15 ?_
  obtain ⟨i28, h⟩ := h
  refine v_iald dX10_lead_70 i28 ?_
  refine v_iconst (1 : Int32) dX10_lead_71 (by decide) ?_
  refine v_icmp_ne 79 dX10_lead_72 (by decide) (fun hc => ?_) (fun hc => ?_)
  · replace h := Eq.mp (if_neg hc) h
    refine v_aload_n 1 1 dX10_lead_79 rfl rfl ?_
    refine v_gI 5 2 dX10_lead_80 fg_RX10_57 o15 ?_
    refine v_sub [0, 1, 2] rfl ?_
    exact v_X10_lead_p83 h
  · replace h := Eq.mp (if_pos hc) h
    refine v_iconst (-1 : Int32) dX10_lead_75 (by decide) ?_
    refine v_goto 83 dX10_lead_76 (by decide) ?_
    refine v_sub [0, 1, 2] rfl ?_
    exact v_X10_lead_p83 h
/-! CalledRiver$Way.meetingWith -/
theorem dX10_meetingWith_0 : decode cX10_meetingWith 0 = .ok (.iload_n 2, 1) := by decide +kernel
theorem dX10_meetingWith_1 : decode cX10_meetingWith 1 = .ok (.iconst 1, 1) := by decide +kernel
theorem dX10_meetingWith_2 : decode cX10_meetingWith 2 = .ok (.iadd, 1) := by decide +kernel
theorem dX10_meetingWith_3 : decode cX10_meetingWith 3 = .ok (.istore_n 3, 1) := by decide +kernel
theorem dX10_meetingWith_4 : decode cX10_meetingWith 4 = .ok (.iload_n 3, 1) := by decide +kernel
theorem dX10_meetingWith_5 : decode cX10_meetingWith 5 = .ok (.aload_n 0, 1) := by decide +kernel
theorem dX10_meetingWith_6 : decode cX10_meetingWith 6 = .ok (.getfield 18, 3) := by decide +kernel
theorem dX10_meetingWith_9 : decode cX10_meetingWith 9 = .ok (.if_icmp .gt 31, 3) := by decide +kernel
theorem dX10_meetingWith_12 : decode cX10_meetingWith 12 = .ok (.aload_n 1, 1) := by decide +kernel
theorem dX10_meetingWith_13 : decode cX10_meetingWith 13 = .ok (.getfield 15, 3) := by decide +kernel
theorem dX10_meetingWith_16 : decode cX10_meetingWith 16 = .ok (.aload_n 0, 1) := by decide +kernel
theorem dX10_meetingWith_17 : decode cX10_meetingWith 17 = .ok (.getfield 9, 3) := by decide +kernel
theorem dX10_meetingWith_20 : decode cX10_meetingWith 20 = .ok (.iload_n 3, 1) := by decide +kernel
theorem dX10_meetingWith_21 : decode cX10_meetingWith 21 = .ok (.iaload, 1) := by decide +kernel
theorem dX10_meetingWith_22 : decode cX10_meetingWith 22 = .ok (.iaload, 1) := by decide +kernel
theorem dX10_meetingWith_23 : decode cX10_meetingWith 23 = .ok (.iload_n 2, 1) := by decide +kernel
theorem dX10_meetingWith_24 : decode cX10_meetingWith 24 = .ok (.if_icmp .le 10, 3) := by decide +kernel
theorem dX10_meetingWith_27 : decode cX10_meetingWith 27 = .ok (.aload_n 0, 1) := by decide +kernel
theorem dX10_meetingWith_28 : decode cX10_meetingWith 28 = .ok (.getfield 9, 3) := by decide +kernel
theorem dX10_meetingWith_31 : decode cX10_meetingWith 31 = .ok (.iload_n 3, 1) := by decide +kernel
theorem dX10_meetingWith_32 : decode cX10_meetingWith 32 = .ok (.iaload, 1) := by decide +kernel
theorem dX10_meetingWith_33 : decode cX10_meetingWith 33 = .ok (.ireturn, 1) := by decide +kernel
theorem dX10_meetingWith_34 : decode cX10_meetingWith 34 = .ok (.iinc 3 1, 3) := by decide +kernel
theorem dX10_meetingWith_37 : decode cX10_meetingWith 37 = .ok (.goto (-33), 3) := by decide +kernel
theorem dX10_meetingWith_40 : decode cX10_meetingWith 40 = .ok (.iconst (-1), 1) := by decide +kernel
theorem dX10_meetingWith_41 : decode cX10_meetingWith 41 = .ok (.ireturn, 1) := by decide +kernel
def X10_meetingWith_p4b (sh : Shp) (v0 : Nat) (v1 : Nat) (v2 : Int32) (Q : Int32 → Mem → Prop) (K4 : Int32 → Mem → Prop) (v3 : Int32) (m : Mem) : Prop :=
  Ob sh v0 10 ∧ (if (m.1 v0 2) < v3 then (Q (-1 : Int32) m) else (Ob sh v1 10 ∧ ∃ b3 : Nat, m.2.2 v1 1 = some b3 ∧ (∃ b5 : Nat, m.2.2 v0 0 = some b5 ∧ (Ix sh b5 100 v3 ∧ (Ix sh b3 100 (m.1 b5 v3.toNatClampNeg) ∧ (if (m.1 b3 (m.1 b5 v3.toNatClampNeg).toNatClampNeg) ≤ v2 then (K4 (v3 + (1 : Int32)) m) else (Q (m.1 b5 v3.toNatClampNeg) m)))))))
def X10_meetingWith_p4n (sh : Shp) (v0 : Nat) (v1 : Nat) (v2 : Int32) (Q : Int32 → Mem → Prop) : Nat → Int32 → Mem → Prop
  | 0 => fun _ _ => False
  | n + 1 => X10_meetingWith_p4b sh v0 v1 v2 Q (X10_meetingWith_p4n sh v0 v1 v2 Q n)
def X10_meetingWith_p4 (sh : Shp) (v0 : Nat) (v1 : Nat) (v2 : Int32) (Q : Int32 → Mem → Prop) (v3 : Int32) (m : Mem) : Prop := ∃ n, X10_meetingWith_p4n sh v0 v1 v2 Q n v3 m
def wp_X10_meetingWith (sh : Shp) (v0 : Nat) (v1 : Nat) (v2 : Int32) (Q : Int32 → Mem → Prop) (m : Mem) : Prop :=
  X10_meetingWith_p4 sh v0 v1 v2 Q (v2 + (1 : Int32)) m
abbrev M_X10_meetingWith : Mi := (cX10_meetingWith, 4, RX10, (Option.some FieldType.int), "meetingWith", 1, 60, 0, 0)
set_option maxHeartbeats 4000000 in
set_option maxRecDepth 100000 in
theorem v_X10_meetingWith_p4b {G : Gl} {F : Fr} {sh : Shp} {v0 : Nat} {v1 : Nat} {v2 : Int32} {v3 : Int32} {Q : Int32 → Mem → Prop} {K4 : Int32 → Mem → Prop} {m : Mem} (hK4 : ∀ (x3 : Int32) (m : Mem), K4 x3 m → V G F M_X10_meetingWith sh 0 0 (Zi G F sh Q) 4 [(0, .ref (G.1 + v0)), (1, .ref (G.1 + v1)), (2, .int v2), (3, .int x3)] [] m) (h : X10_meetingWith_p4b sh v0 v1 v2 Q K4 v3 m) : V G F M_X10_meetingWith sh 0 0 (Zi G F sh Q) 4 [(0, .ref (G.1 + v0)), (1, .ref (G.1 + v1)), (2, .int v2), (3, .int v3)] [] m := by
  unfold X10_meetingWith_p4b at h
  refine v_iload_n 3 3 dX10_meetingWith_4 rfl rfl ?_
  refine v_aload_n 0 0 dX10_meetingWith_5 rfl rfl ?_
  obtain ⟨o1, h⟩ := h
  refine v_gI 10 2 dX10_meetingWith_6 fg_RX10_18 o1 ?_
  refine v_icmp_gt 40 dX10_meetingWith_9 (by decide) (fun hc => ?_) (fun hc => ?_)
  · replace h := Eq.mp (if_pos hc) h
    refine v_iconst (-1 : Int32) dX10_meetingWith_40 (by decide) ?_
    exact v_iret dX10_meetingWith_41 rfl rfl h
  · replace h := Eq.mp (if_neg hc) h
    refine v_aload_n 1 1 dX10_meetingWith_12 rfl rfl ?_
    obtain ⟨o2, h⟩ := h
    obtain ⟨b3, e4, h⟩ := h
    refine v_gR 10 1 dX10_meetingWith_13 fg_RX10_15 o2 e4 ?_
    refine v_aload_n 0 0 dX10_meetingWith_16 rfl rfl ?_
    obtain ⟨b5, e6, h⟩ := h
    refine v_gR 10 0 dX10_meetingWith_17 fg_RX10_9 o1 e6 ?_
    refine v_iload_n 3 3 dX10_meetingWith_20 rfl rfl ?_
    obtain ⟨i7, h⟩ := h
    refine v_iald dX10_meetingWith_21 i7 ?_
    obtain ⟨i8, h⟩ := h
    refine v_iald dX10_meetingWith_22 i8 ?_
    refine v_iload_n 2 2 dX10_meetingWith_23 rfl rfl ?_
    refine v_icmp_le 34 dX10_meetingWith_24 (by decide) (fun hc => ?_) (fun hc => ?_)
    · replace h := Eq.mp (if_pos hc) h
      refine v_iinc (ls' := [(3, .int _), (0, .ref _), (1, .ref _), (2, .int _)]) 3 3 dX10_meetingWith_34 rfl (congrArg (HAdd.hAdd _) (by decide : Int32.ofInt (1) = (1 : Int32))) (Nat.le_of_ble_eq_true rfl) rfl ?_
      refine v_goto 4 dX10_meetingWith_37 (by decide) ?_
      refine v_sub [1, 2, 3, 0] rfl ?_
      exact hK4 _ _ h
    · replace h := Eq.mp (if_neg hc) h
      refine v_aload_n 0 0 dX10_meetingWith_27 rfl rfl ?_
      refine v_gR 10 0 dX10_meetingWith_28 fg_RX10_9 o1 e6 ?_
      refine v_iload_n 3 3 dX10_meetingWith_31 rfl rfl ?_
      refine v_iald dX10_meetingWith_32 i7 ?_
      exact v_iret dX10_meetingWith_33 rfl rfl h
set_option maxHeartbeats 4000000 in
set_option maxRecDepth 100000 in
theorem v_X10_meetingWith_p4 {G : Gl} {F : Fr} {sh : Shp} {v0 : Nat} {v1 : Nat} {v2 : Int32} {v3 : Int32} {Q : Int32 → Mem → Prop} {m : Mem} (h : X10_meetingWith_p4 sh v0 v1 v2 Q v3 m) : V G F M_X10_meetingWith sh 0 0 (Zi G F sh Q) 4 [(0, .ref (G.1 + v0)), (1, .ref (G.1 + v1)), (2, .int v2), (3, .int v3)] [] m := by
  obtain ⟨n, h⟩ := h
  induction n generalizing v3 m with
  | zero => exact h.elim
  | succ n ih => exact v_X10_meetingWith_p4b (fun _ _ h => ih h) h
set_option maxHeartbeats 4000000 in
set_option maxRecDepth 100000 in
theorem c_X10_meetingWith {l : Launch} {G : Gl} {sh : Shp} {v0 : Nat} {v1 : Nat} {v2 : Int32} {Q : Int32 → Mem → Prop} {m : Mem} (h : wp_X10_meetingWith sh v0 v1 v2 Q m) : Cni l G yX10_meetingWith cX10_meetingWith 4 (Option.some FieldType.int) 1 60 sh [.ref (G.1 + v0), .ref (G.1 + v1), .int v2] m Q := by
  refine con_i (ls := [(0, .ref (G.1 + v0)), (1, .ref (G.1 + v1)), (2, .int v2)]) (by decide +kernel) rfl (Nat.le_of_ble_eq_true rfl) (fun F => ?_)
  show V G F M_X10_meetingWith sh 0 0 (Zi G F sh Q) 0 [(0, .ref (G.1 + v0)), (1, .ref (G.1 + v1)), (2, .int v2)] [] m
  unfold wp_X10_meetingWith at h
  refine v_iload_n 2 2 dX10_meetingWith_0 rfl rfl ?_
  refine v_iconst (1 : Int32) dX10_meetingWith_1 (by decide) ?_
  refine v_iadd dX10_meetingWith_2 ?_
  refine v_istore_n (ls' := [(3, .int _), (0, .ref _), (1, .ref _), (2, .int _)]) 3 dX10_meetingWith_3 rfl (Nat.le_of_ble_eq_true rfl) rfl ?_
  refine v_sub [1, 2, 3, 0] rfl ?_
  exact v_X10_meetingWith_p4 h
/-! CalledRiver$Way.partingFrom -/
theorem dX10_partingFrom_0 : decode cX10_partingFrom 0 = .ok (.aload_n 0, 1) := by decide +kernel
theorem dX10_partingFrom_1 : decode cX10_partingFrom 1 = .ok (.getfield 18, 3) := by decide +kernel
theorem dX10_partingFrom_4 : decode cX10_partingFrom 4 = .ok (.aload_n 1, 1) := by decide +kernel
theorem dX10_partingFrom_5 : decode cX10_partingFrom 5 = .ok (.getfield 18, 3) := by decide +kernel
theorem dX10_partingFrom_8 : decode cX10_partingFrom 8 = .ok (.invokestatic 113, 3) := by decide +kernel
theorem dX10_partingFrom_11 : decode cX10_partingFrom 11 = .ok (.istore_n 2, 1) := by decide +kernel
theorem dX10_partingFrom_12 : decode cX10_partingFrom 12 = .ok (.iconst 0, 1) := by decide +kernel
theorem dX10_partingFrom_13 : decode cX10_partingFrom 13 = .ok (.istore_n 3, 1) := by decide +kernel
theorem dX10_partingFrom_14 : decode cX10_partingFrom 14 = .ok (.iload_n 3, 1) := by decide +kernel
theorem dX10_partingFrom_15 : decode cX10_partingFrom 15 = .ok (.iload_n 2, 1) := by decide +kernel
theorem dX10_partingFrom_16 : decode cX10_partingFrom 16 = .ok (.if_icmp .gt 28, 3) := by decide +kernel
theorem dX10_partingFrom_19 : decode cX10_partingFrom 19 = .ok (.aload_n 0, 1) := by decide +kernel
theorem dX10_partingFrom_20 : decode cX10_partingFrom 20 = .ok (.getfield 9, 3) := by decide +kernel
theorem dX10_partingFrom_23 : decode cX10_partingFrom 23 = .ok (.iload_n 3, 1) := by decide +kernel
theorem dX10_partingFrom_24 : decode cX10_partingFrom 24 = .ok (.iaload, 1) := by decide +kernel
theorem dX10_partingFrom_25 : decode cX10_partingFrom 25 = .ok (.aload_n 1, 1) := by decide +kernel
theorem dX10_partingFrom_26 : decode cX10_partingFrom 26 = .ok (.getfield 9, 3) := by decide +kernel
theorem dX10_partingFrom_29 : decode cX10_partingFrom 29 = .ok (.iload_n 3, 1) := by decide +kernel
theorem dX10_partingFrom_30 : decode cX10_partingFrom 30 = .ok (.iaload, 1) := by decide +kernel
theorem dX10_partingFrom_31 : decode cX10_partingFrom 31 = .ok (.if_icmp .eq 7, 3) := by decide +kernel
theorem dX10_partingFrom_34 : decode cX10_partingFrom 34 = .ok (.iload_n 3, 1) := by decide +kernel
theorem dX10_partingFrom_35 : decode cX10_partingFrom 35 = .ok (.iconst 1, 1) := by decide +kernel
theorem dX10_partingFrom_36 : decode cX10_partingFrom 36 = .ok (.isub, 1) := by decide +kernel
theorem dX10_partingFrom_37 : decode cX10_partingFrom 37 = .ok (.ireturn, 1) := by decide +kernel
theorem dX10_partingFrom_38 : decode cX10_partingFrom 38 = .ok (.iinc 3 1, 3) := by decide +kernel
theorem dX10_partingFrom_41 : decode cX10_partingFrom 41 = .ok (.goto (-27), 3) := by decide +kernel
theorem dX10_partingFrom_44 : decode cX10_partingFrom 44 = .ok (.aload_n 0, 1) := by decide +kernel
theorem dX10_partingFrom_45 : decode cX10_partingFrom 45 = .ok (.getfield 18, 3) := by decide +kernel
theorem dX10_partingFrom_48 : decode cX10_partingFrom 48 = .ok (.aload_n 1, 1) := by decide +kernel
theorem dX10_partingFrom_49 : decode cX10_partingFrom 49 = .ok (.getfield 18, 3) := by decide +kernel
theorem dX10_partingFrom_52 : decode cX10_partingFrom 52 = .ok (.if_icmp .ne 7, 3) := by decide +kernel
theorem dX10_partingFrom_55 : decode cX10_partingFrom 55 = .ok (.iconst (-1), 1) := by decide +kernel
theorem dX10_partingFrom_56 : decode cX10_partingFrom 56 = .ok (.goto 4, 3) := by decide +kernel
theorem dX10_partingFrom_59 : decode cX10_partingFrom 59 = .ok (.iload_n 2, 1) := by decide +kernel
theorem dX10_partingFrom_60 : decode cX10_partingFrom 60 = .ok (.ireturn, 1) := by decide +kernel
def X10_partingFrom_p14b (sh : Shp) (v0 : Nat) (v1 : Nat) (v2 : Int32) (Q : Int32 → Mem → Prop) (K14 : Int32 → Mem → Prop) (v3 : Int32) (m : Mem) : Prop :=
  if v2 < v3 then (Ob sh v0 10 ∧ (Ob sh v1 10 ∧ (if (m.1 v0 2) = (m.1 v1 2) then (Q (-1 : Int32) m) else (Q v2 m)))) else (Ob sh v0 10 ∧ ∃ b8 : Nat, m.2.2 v0 0 = some b8 ∧ (Ix sh b8 100 v3 ∧ (Ob sh v1 10 ∧ ∃ b12 : Nat, m.2.2 v1 0 = some b12 ∧ (Ix sh b12 100 v3 ∧ (if (m.1 b8 v3.toNatClampNeg) = (m.1 b12 v3.toNatClampNeg) then (K14 (v3 + (1 : Int32)) m) else (Q (v3 - (1 : Int32)) m))))))
def X10_partingFrom_p14n (sh : Shp) (v0 : Nat) (v1 : Nat) (v2 : Int32) (Q : Int32 → Mem → Prop) : Nat → Int32 → Mem → Prop
  | 0 => fun _ _ => False
  | n + 1 => X10_partingFrom_p14b sh v0 v1 v2 Q (X10_partingFrom_p14n sh v0 v1 v2 Q n)
def X10_partingFrom_p14 (sh : Shp) (v0 : Nat) (v1 : Nat) (v2 : Int32) (Q : Int32 → Mem → Prop) (v3 : Int32) (m : Mem) : Prop := ∃ n, X10_partingFrom_p14n sh v0 v1 v2 Q n v3 m
def wp_X10_partingFrom (sh : Shp) (v0 : Nat) (v1 : Nat) (Q : Int32 → Mem → Prop) (m : Mem) : Prop :=
  Ob sh v0 10 ∧ (Ob sh v1 10 ∧ (wp_J9_min_7cf53 sh (m.1 v0 2) (m.1 v1 2) (fun r3 m4 => X10_partingFrom_p14 sh v0 v1 r3 Q (0 : Int32) m4) m))
abbrev M_X10_partingFrom : Mi := (cX10_partingFrom, 4, RX10, (Option.some FieldType.int), "partingFrom", 2, 81, 0, 0)
set_option maxHeartbeats 4000000 in
set_option maxRecDepth 100000 in
theorem v_X10_partingFrom_p14b {G : Gl} {F : Fr} {sh : Shp} {v0 : Nat} {v1 : Nat} {v2 : Int32} {v3 : Int32} {Q : Int32 → Mem → Prop} {K14 : Int32 → Mem → Prop} {m : Mem} (hK14 : ∀ (x3 : Int32) (m : Mem), K14 x3 m → V G F M_X10_partingFrom sh 0 0 (Zi G F sh Q) 14 [(0, .ref (G.1 + v0)), (1, .ref (G.1 + v1)), (2, .int v2), (3, .int x3)] [] m) (h : X10_partingFrom_p14b sh v0 v1 v2 Q K14 v3 m) : V G F M_X10_partingFrom sh 0 0 (Zi G F sh Q) 14 [(0, .ref (G.1 + v0)), (1, .ref (G.1 + v1)), (2, .int v2), (3, .int v3)] [] m := by
  unfold X10_partingFrom_p14b at h
  refine v_iload_n 3 3 dX10_partingFrom_14 rfl rfl ?_
  refine v_iload_n 2 2 dX10_partingFrom_15 rfl rfl ?_
  refine v_icmp_gt 44 dX10_partingFrom_16 (by decide) (fun hc => ?_) (fun hc => ?_)
  · replace h := Eq.mp (if_pos hc) h
    refine v_aload_n 0 0 dX10_partingFrom_44 rfl rfl ?_
    obtain ⟨o5, h⟩ := h
    refine v_gI 10 2 dX10_partingFrom_45 fg_RX10_18 o5 ?_
    refine v_aload_n 1 1 dX10_partingFrom_48 rfl rfl ?_
    obtain ⟨o6, h⟩ := h
    refine v_gI 10 2 dX10_partingFrom_49 fg_RX10_18 o6 ?_
    refine v_icmp_ne 59 dX10_partingFrom_52 (by decide) (fun hc => ?_) (fun hc => ?_)
    · replace h := Eq.mp (if_neg hc) h
      refine v_iload_n 2 2 dX10_partingFrom_59 rfl rfl ?_
      exact v_iret dX10_partingFrom_60 rfl rfl h
    · replace h := Eq.mp (if_pos hc) h
      refine v_iconst (-1 : Int32) dX10_partingFrom_55 (by decide) ?_
      refine v_goto 60 dX10_partingFrom_56 (by decide) ?_
      exact v_iret dX10_partingFrom_60 rfl rfl h
  · replace h := Eq.mp (if_neg hc) h
    refine v_aload_n 0 0 dX10_partingFrom_19 rfl rfl ?_
    obtain ⟨o7, h⟩ := h
    obtain ⟨b8, e9, h⟩ := h
    refine v_gR 10 0 dX10_partingFrom_20 fg_RX10_9 o7 e9 ?_
    refine v_iload_n 3 3 dX10_partingFrom_23 rfl rfl ?_
    obtain ⟨i10, h⟩ := h
    refine v_iald dX10_partingFrom_24 i10 ?_
    refine v_aload_n 1 1 dX10_partingFrom_25 rfl rfl ?_
    obtain ⟨o11, h⟩ := h
    obtain ⟨b12, e13, h⟩ := h
    refine v_gR 10 0 dX10_partingFrom_26 fg_RX10_9 o11 e13 ?_
    refine v_iload_n 3 3 dX10_partingFrom_29 rfl rfl ?_
    obtain ⟨i14, h⟩ := h
    refine v_iald dX10_partingFrom_30 i14 ?_
    refine v_icmp_eq 38 dX10_partingFrom_31 (by decide) (fun hc => ?_) (fun hc => ?_)
    · replace h := Eq.mp (if_pos hc) h
      refine v_iinc (ls' := [(3, .int _), (0, .ref _), (1, .ref _), (2, .int _)]) 3 3 dX10_partingFrom_38 rfl (congrArg (HAdd.hAdd _) (by decide : Int32.ofInt (1) = (1 : Int32))) (Nat.le_of_ble_eq_true rfl) rfl ?_
      refine v_goto 14 dX10_partingFrom_41 (by decide) ?_
      refine v_sub [1, 2, 3, 0] rfl ?_
      exact hK14 _ _ h
    · replace h := Eq.mp (if_neg hc) h
      refine v_iload_n 3 3 dX10_partingFrom_34 rfl rfl ?_
      refine v_iconst (1 : Int32) dX10_partingFrom_35 (by decide) ?_
      refine v_isub dX10_partingFrom_36 ?_
      exact v_iret dX10_partingFrom_37 rfl rfl h
set_option maxHeartbeats 4000000 in
set_option maxRecDepth 100000 in
theorem v_X10_partingFrom_p14 {G : Gl} {F : Fr} {sh : Shp} {v0 : Nat} {v1 : Nat} {v2 : Int32} {v3 : Int32} {Q : Int32 → Mem → Prop} {m : Mem} (h : X10_partingFrom_p14 sh v0 v1 v2 Q v3 m) : V G F M_X10_partingFrom sh 0 0 (Zi G F sh Q) 14 [(0, .ref (G.1 + v0)), (1, .ref (G.1 + v1)), (2, .int v2), (3, .int v3)] [] m := by
  obtain ⟨n, h⟩ := h
  induction n generalizing v3 m with
  | zero => exact h.elim
  | succ n ih => exact v_X10_partingFrom_p14b (fun _ _ h => ih h) h
set_option maxHeartbeats 4000000 in
set_option maxRecDepth 100000 in
theorem c_X10_partingFrom {l : Launch} {G : Gl} {sh : Shp} {v0 : Nat} {v1 : Nat} {Q : Int32 → Mem → Prop} {m : Mem} (h : wp_X10_partingFrom sh v0 v1 Q m) : Cni l G yX10_partingFrom cX10_partingFrom 4 (Option.some FieldType.int) 2 81 sh [.ref (G.1 + v0), .ref (G.1 + v1)] m Q := by
  refine con_i (ls := [(0, .ref (G.1 + v0)), (1, .ref (G.1 + v1))]) (by decide +kernel) rfl (Nat.le_of_ble_eq_true rfl) (fun F => ?_)
  show V G F M_X10_partingFrom sh 0 0 (Zi G F sh Q) 0 [(0, .ref (G.1 + v0)), (1, .ref (G.1 + v1))] [] m
  unfold wp_X10_partingFrom at h
  refine v_aload_n 0 0 dX10_partingFrom_0 rfl rfl ?_
  obtain ⟨o1, h⟩ := h
  refine v_gI 10 2 dX10_partingFrom_1 fg_RX10_18 o1 ?_
  refine v_aload_n 1 1 dX10_partingFrom_4 rfl rfl ?_
  obtain ⟨o2, h⟩ := h
  refine v_gI 10 2 dX10_partingFrom_5 fg_RX10_18 o2 ?_
  refine v_cSi [.int _, .int _] mv_J9_min_7cf53 ml_RX10_113 rfl rfl (Nat.le_of_ble_eq_true rfl) (Nat.le_of_ble_eq_true rfl) (Nat.le_of_ble_eq_true rfl) (Nat.zero_le _) (Nat.zero_le _) dX10_partingFrom_8 (c_J9_min_7cf53 h) (fun r3 m4 h => ?_)
  refine v_istore_n (ls' := [(2, .int _), (0, .ref _), (1, .ref _)]) 2 dX10_partingFrom_11 rfl (Nat.le_of_ble_eq_true rfl) rfl ?_
  refine v_iconst (0 : Int32) dX10_partingFrom_12 (by decide) ?_
  refine v_istore_n (ls' := [(3, .int _), (2, .int _), (0, .ref _), (1, .ref _)]) 3 dX10_partingFrom_13 rfl (Nat.le_of_ble_eq_true rfl) rfl ?_
  refine v_sub [2, 3, 1, 0] rfl ?_
  exact v_X10_partingFrom_p14 h
/-! CalledRiver$Way.placeBy -/
theorem dX10_placeBy_0 : decode cX10_placeBy 0 = .ok (.iload_n 1, 1) := by decide +kernel
theorem dX10_placeBy_1 : decode cX10_placeBy 1 = .ok (.ifCond .lt 20, 3) := by decide +kernel
theorem dX10_placeBy_4 : decode cX10_placeBy 4 = .ok (.iload_n 1, 1) := by decide +kernel
theorem dX10_placeBy_5 : decode cX10_placeBy 5 = .ok (.aload_n 0, 1) := by decide +kernel
theorem dX10_placeBy_6 : decode cX10_placeBy 6 = .ok (.getfield 18, 3) := by decide +kernel
theorem dX10_placeBy_9 : decode cX10_placeBy 9 = .ok (.if_icmp .gt 12, 3) := by decide +kernel
theorem dX10_placeBy_12 : decode cX10_placeBy 12 = .ok (.aload_n 0, 1) := by decide +kernel
theorem dX10_placeBy_13 : decode cX10_placeBy 13 = .ok (.getfield 9, 3) := by decide +kernel
theorem dX10_placeBy_16 : decode cX10_placeBy 16 = .ok (.iload_n 1, 1) := by decide +kernel
theorem dX10_placeBy_17 : decode cX10_placeBy 17 = .ok (.iaload, 1) := by decide +kernel
theorem dX10_placeBy_18 : decode cX10_placeBy 18 = .ok (.goto 4, 3) := by decide +kernel
theorem dX10_placeBy_21 : decode cX10_placeBy 21 = .ok (.iconst (-1), 1) := by decide +kernel
theorem dX10_placeBy_22 : decode cX10_placeBy 22 = .ok (.ireturn, 1) := by decide +kernel
def wp_X10_placeBy (sh : Shp) (v0 : Nat) (v1 : Int32) (Q : Int32 → Mem → Prop) (m : Mem) : Prop :=
  if v1 < 0 then (Q (-1 : Int32) m) else (Ob sh v0 10 ∧ (if (m.1 v0 2) < v1 then (Q (-1 : Int32) m) else (∃ b2 : Nat, m.2.2 v0 0 = some b2 ∧ (Ix sh b2 100 v1 ∧ (Q (m.1 b2 v1.toNatClampNeg) m)))))
abbrev M_X10_placeBy : Mi := (cX10_placeBy, 2, RX10, (Option.some FieldType.int), "placeBy", 1, 60, 0, 0)
set_option maxHeartbeats 4000000 in
set_option maxRecDepth 100000 in
theorem c_X10_placeBy {l : Launch} {G : Gl} {sh : Shp} {v0 : Nat} {v1 : Int32} {Q : Int32 → Mem → Prop} {m : Mem} (h : wp_X10_placeBy sh v0 v1 Q m) : Cni l G yX10_placeBy cX10_placeBy 2 (Option.some FieldType.int) 1 60 sh [.ref (G.1 + v0), .int v1] m Q := by
  refine con_i (ls := [(0, .ref (G.1 + v0)), (1, .int v1)]) (by decide +kernel) rfl (Nat.le_of_ble_eq_true rfl) (fun F => ?_)
  show V G F M_X10_placeBy sh 0 0 (Zi G F sh Q) 0 [(0, .ref (G.1 + v0)), (1, .int v1)] [] m
  unfold wp_X10_placeBy at h
  refine v_iload_n 1 1 dX10_placeBy_0 rfl rfl ?_
  refine v_if_lt 21 dX10_placeBy_1 (by decide) (fun hc => ?_) (fun hc => ?_)
  · replace h := Eq.mp (if_pos hc) h
    refine v_iconst (-1 : Int32) dX10_placeBy_21 (by decide) ?_
    exact v_iret dX10_placeBy_22 rfl rfl h
  · replace h := Eq.mp (if_neg hc) h
    refine v_iload_n 1 1 dX10_placeBy_4 rfl rfl ?_
    refine v_aload_n 0 0 dX10_placeBy_5 rfl rfl ?_
    obtain ⟨o1, h⟩ := h
    refine v_gI 10 2 dX10_placeBy_6 fg_RX10_18 o1 ?_
    refine v_icmp_gt 21 dX10_placeBy_9 (by decide) (fun hc => ?_) (fun hc => ?_)
    · replace h := Eq.mp (if_pos hc) h
      refine v_iconst (-1 : Int32) dX10_placeBy_21 (by decide) ?_
      exact v_iret dX10_placeBy_22 rfl rfl h
    · replace h := Eq.mp (if_neg hc) h
      refine v_aload_n 0 0 dX10_placeBy_12 rfl rfl ?_
      obtain ⟨b2, e3, h⟩ := h
      refine v_gR 10 0 dX10_placeBy_13 fg_RX10_9 o1 e3 ?_
      refine v_iload_n 1 1 dX10_placeBy_16 rfl rfl ?_
      obtain ⟨i4, h⟩ := h
      refine v_iald dX10_placeBy_17 i4 ?_
      refine v_goto 22 dX10_placeBy_18 (by decide) ?_
      exact v_iret dX10_placeBy_22 rfl rfl h
/-! CalledRiver$Way.waters -/
theorem dX10_waters_0 : decode cX10_waters 0 = .ok (.aload_n 0, 1) := by decide +kernel
theorem dX10_waters_1 : decode cX10_waters 1 = .ok (.getfield 35, 3) := by decide +kernel
theorem dX10_waters_4 : decode cX10_waters 4 = .ok (.iload_n 1, 1) := by decide +kernel
theorem dX10_waters_5 : decode cX10_waters 5 = .ok (.ishr, 1) := by decide +kernel
theorem dX10_waters_6 : decode cX10_waters 6 = .ok (.iconst 1, 1) := by decide +kernel
theorem dX10_waters_7 : decode cX10_waters 7 = .ok (.iand, 1) := by decide +kernel
theorem dX10_waters_8 : decode cX10_waters 8 = .ok (.iconst 1, 1) := by decide +kernel
theorem dX10_waters_9 : decode cX10_waters 9 = .ok (.if_icmp .ne 7, 3) := by decide +kernel
theorem dX10_waters_12 : decode cX10_waters 12 = .ok (.iconst 1, 1) := by decide +kernel
theorem dX10_waters_13 : decode cX10_waters 13 = .ok (.goto 4, 3) := by decide +kernel
theorem dX10_waters_16 : decode cX10_waters 16 = .ok (.iconst 0, 1) := by decide +kernel
theorem dX10_waters_17 : decode cX10_waters 17 = .ok (.ireturn, 1) := by decide +kernel
def wp_X10_waters (sh : Shp) (v0 : Nat) (v1 : Int32) (Q : Int32 → Mem → Prop) (m : Mem) : Prop :=
  Ob sh v0 10 ∧ (if (((m.1 v0 4) >>> (v1 &&& 31)) &&& (1 : Int32)) = (1 : Int32) then (Q (1 : Int32) m) else (Q (0 : Int32) m))
abbrev M_X10_waters : Mi := (cX10_waters, 2, RX10, (Option.some FieldType.boolean), "waters", 1, 60, 0, 0)
set_option maxHeartbeats 4000000 in
set_option maxRecDepth 100000 in
theorem c_X10_waters {l : Launch} {G : Gl} {sh : Shp} {v0 : Nat} {v1 : Int32} {Q : Int32 → Mem → Prop} {m : Mem} (h : wp_X10_waters sh v0 v1 Q m) : Cni l G yX10_waters cX10_waters 2 (Option.some FieldType.boolean) 1 60 sh [.ref (G.1 + v0), .int v1] m Q := by
  refine con_i (ls := [(0, .ref (G.1 + v0)), (1, .int v1)]) (by decide +kernel) rfl (Nat.le_of_ble_eq_true rfl) (fun F => ?_)
  show V G F M_X10_waters sh 0 0 (Zi G F sh Q) 0 [(0, .ref (G.1 + v0)), (1, .int v1)] [] m
  unfold wp_X10_waters at h
  refine v_aload_n 0 0 dX10_waters_0 rfl rfl ?_
  obtain ⟨o1, h⟩ := h
  refine v_gI 10 4 dX10_waters_1 fg_RX10_35 o1 ?_
  refine v_iload_n 1 1 dX10_waters_4 rfl rfl ?_
  refine v_ishr dX10_waters_5 ?_
  refine v_iconst (1 : Int32) dX10_waters_6 (by decide) ?_
  refine v_iand dX10_waters_7 ?_
  refine v_iconst (1 : Int32) dX10_waters_8 (by decide) ?_
  refine v_icmp_ne 16 dX10_waters_9 (by decide) (fun hc => ?_) (fun hc => ?_)
  · replace h := Eq.mp (if_neg hc) h
    refine v_iconst (0 : Int32) dX10_waters_16 (by decide) ?_
    exact v_iret dX10_waters_17 rfl (by decide) h
  · replace h := Eq.mp (if_pos hc) h
    refine v_iconst (1 : Int32) dX10_waters_12 (by decide) ?_
    refine v_goto 17 dX10_waters_13 (by decide) ?_
    exact v_iret dX10_waters_17 rfl (by decide) h
/-! CalledRiver$Led.fewestFor -/
theorem dX2_fewestFor_0 : decode cX2_fewestFor 0 = .ok (.iconst (-1), 1) := by decide +kernel
theorem dX2_fewestFor_1 : decode cX2_fewestFor 1 = .ok (.istore_n 2, 1) := by decide +kernel
theorem dX2_fewestFor_2 : decode cX2_fewestFor 2 = .ok (.iconst 0, 1) := by decide +kernel
theorem dX2_fewestFor_3 : decode cX2_fewestFor 3 = .ok (.istore_n 3, 1) := by decide +kernel
theorem dX2_fewestFor_4 : decode cX2_fewestFor 4 = .ok (.iload_n 3, 1) := by decide +kernel
theorem dX2_fewestFor_5 : decode cX2_fewestFor 5 = .ok (.bipush 64, 2) := by decide +kernel
theorem dX2_fewestFor_7 : decode cX2_fewestFor 7 = .ok (.if_icmp .ge 60, 3) := by decide +kernel
theorem dX2_fewestFor_10 : decode cX2_fewestFor 10 = .ok (.aload_n 0, 1) := by decide +kernel
theorem dX2_fewestFor_11 : decode cX2_fewestFor 11 = .ok (.getfield 18, 3) := by decide +kernel
theorem dX2_fewestFor_14 : decode cX2_fewestFor 14 = .ok (.iload_n 3, 1) := by decide +kernel
theorem dX2_fewestFor_15 : decode cX2_fewestFor 15 = .ok (.iaload, 1) := by decide +kernel
theorem dX2_fewestFor_16 : decode cX2_fewestFor 16 = .ok (.iconst (-1), 1) := by decide +kernel
theorem dX2_fewestFor_17 : decode cX2_fewestFor 17 = .ok (.if_icmp .eq 14, 3) := by decide +kernel
theorem dX2_fewestFor_20 : decode cX2_fewestFor 20 = .ok (.iload_n 3, 1) := by decide +kernel
theorem dX2_fewestFor_21 : decode cX2_fewestFor 21 = .ok (.iload_n 1, 1) := by decide +kernel
theorem dX2_fewestFor_22 : decode cX2_fewestFor 22 = .ok (.iand, 1) := by decide +kernel
theorem dX2_fewestFor_23 : decode cX2_fewestFor 23 = .ok (.iload_n 1, 1) := by decide +kernel
theorem dX2_fewestFor_24 : decode cX2_fewestFor 24 = .ok (.if_icmp .ne 7, 3) := by decide +kernel
theorem dX2_fewestFor_27 : decode cX2_fewestFor 27 = .ok (.iconst 1, 1) := by decide +kernel
theorem dX2_fewestFor_28 : decode cX2_fewestFor 28 = .ok (.goto 4, 3) := by decide +kernel
theorem dX2_fewestFor_31 : decode cX2_fewestFor 31 = .ok (.iconst 0, 1) := by decide +kernel
theorem dX2_fewestFor_32 : decode cX2_fewestFor 32 = .ok (.istore 4, 2) := by decide +kernel
theorem dX2_fewestFor_34 : decode cX2_fewestFor 34 = .ok (.iload 4, 2) := by decide +kernel
theorem dX2_fewestFor_36 : decode cX2_fewestFor 36 = .ok (.ifCond .eq 25, 3) := by decide +kernel
theorem dX2_fewestFor_39 : decode cX2_fewestFor 39 = .ok (.iload_n 2, 1) := by decide +kernel
theorem dX2_fewestFor_40 : decode cX2_fewestFor 40 = .ok (.iconst (-1), 1) := by decide +kernel
theorem dX2_fewestFor_41 : decode cX2_fewestFor 41 = .ok (.if_icmp .eq 13, 3) := by decide +kernel
theorem dX2_fewestFor_44 : decode cX2_fewestFor 44 = .ok (.aload_n 0, 1) := by decide +kernel
theorem dX2_fewestFor_45 : decode cX2_fewestFor 45 = .ok (.getfield 18, 3) := by decide +kernel
theorem dX2_fewestFor_48 : decode cX2_fewestFor 48 = .ok (.iload_n 3, 1) := by decide +kernel
theorem dX2_fewestFor_49 : decode cX2_fewestFor 49 = .ok (.iaload, 1) := by decide +kernel
theorem dX2_fewestFor_50 : decode cX2_fewestFor 50 = .ok (.iload_n 2, 1) := by decide +kernel
theorem dX2_fewestFor_51 : decode cX2_fewestFor 51 = .ok (.if_icmp .ge 10, 3) := by decide +kernel
theorem dX2_fewestFor_54 : decode cX2_fewestFor 54 = .ok (.aload_n 0, 1) := by decide +kernel
theorem dX2_fewestFor_55 : decode cX2_fewestFor 55 = .ok (.getfield 18, 3) := by decide +kernel
theorem dX2_fewestFor_58 : decode cX2_fewestFor 58 = .ok (.iload_n 3, 1) := by decide +kernel
theorem dX2_fewestFor_59 : decode cX2_fewestFor 59 = .ok (.iaload, 1) := by decide +kernel
theorem dX2_fewestFor_60 : decode cX2_fewestFor 60 = .ok (.istore_n 2, 1) := by decide +kernel
theorem dX2_fewestFor_61 : decode cX2_fewestFor 61 = .ok (.iinc 3 1, 3) := by decide +kernel
theorem dX2_fewestFor_64 : decode cX2_fewestFor 64 = .ok (.goto (-60), 3) := by decide +kernel
theorem dX2_fewestFor_67 : decode cX2_fewestFor 67 = .ok (.iload_n 2, 1) := by decide +kernel
theorem dX2_fewestFor_68 : decode cX2_fewestFor 68 = .ok (.ireturn, 1) := by decide +kernel
def X2_fewestFor_p61 (sh : Shp) (v0 : Nat) (v1 : Int32) (v2 : Int32) (v3 : Int32) (Q : Int32 → Mem → Prop) (K4 : Int32 → Int32 → Mem → Prop) (m : Mem) : Prop :=
  K4 v2 (v3 + (1 : Int32)) m
def X2_fewestFor_p54 (sh : Shp) (v0 : Nat) (v1 : Int32) (v3 : Int32) (Q : Int32 → Mem → Prop) (K4 : Int32 → Int32 → Mem → Prop) (m : Mem) : Prop :=
  Ob sh v0 2 ∧ ∃ b10 : Nat, m.2.2 v0 3 = some b10 ∧ (Ix sh b10 100 v3 ∧ (X2_fewestFor_p61 sh v0 v1 (m.1 b10 v3.toNatClampNeg) v3 Q K4 m))
def X2_fewestFor_p32 (sh : Shp) (v0 : Nat) (v1 : Int32) (v2 : Int32) (v3 : Int32) (s0 : Int32) (Q : Int32 → Mem → Prop) (K4 : Int32 → Int32 → Mem → Prop) (m : Mem) : Prop :=
  if s0 = 0 then (X2_fewestFor_p61 sh v0 v1 v2 v3 Q K4 m) else (if v2 = (-1 : Int32) then (X2_fewestFor_p54 sh v0 v1 v3 Q K4 m) else (Ob sh v0 2 ∧ ∃ b6 : Nat, m.2.2 v0 3 = some b6 ∧ (Ix sh b6 100 v3 ∧ (if v2 ≤ (m.1 b6 v3.toNatClampNeg) then (X2_fewestFor_p61 sh v0 v1 v2 v3 Q K4 m) else (X2_fewestFor_p54 sh v0 v1 v3 Q K4 m)))))
def X2_fewestFor_p31 (sh : Shp) (v0 : Nat) (v1 : Int32) (v2 : Int32) (v3 : Int32) (Q : Int32 → Mem → Prop) (K4 : Int32 → Int32 → Mem → Prop) (m : Mem) : Prop :=
  X2_fewestFor_p32 sh v0 v1 v2 v3 (0 : Int32) Q K4 m
def X2_fewestFor_p4b (sh : Shp) (v0 : Nat) (v1 : Int32) (Q : Int32 → Mem → Prop) (K4 : Int32 → Int32 → Mem → Prop) (v2 : Int32) (v3 : Int32) (m : Mem) : Prop :=
  if (64 : Int32) ≤ v3 then (Q v2 m) else (Ob sh v0 2 ∧ ∃ b2 : Nat, m.2.2 v0 3 = some b2 ∧ (Ix sh b2 100 v3 ∧ (if (m.1 b2 v3.toNatClampNeg) = (-1 : Int32) then (X2_fewestFor_p31 sh v0 v1 v2 v3 Q K4 m) else (if (v3 &&& v1) = v1 then (X2_fewestFor_p32 sh v0 v1 v2 v3 (1 : Int32) Q K4 m) else (X2_fewestFor_p31 sh v0 v1 v2 v3 Q K4 m)))))
def X2_fewestFor_p4n (sh : Shp) (v0 : Nat) (v1 : Int32) (Q : Int32 → Mem → Prop) : Nat → Int32 → Int32 → Mem → Prop
  | 0 => fun _ _ _ => False
  | n + 1 => X2_fewestFor_p4b sh v0 v1 Q (X2_fewestFor_p4n sh v0 v1 Q n)
def X2_fewestFor_p4 (sh : Shp) (v0 : Nat) (v1 : Int32) (Q : Int32 → Mem → Prop) (v2 : Int32) (v3 : Int32) (m : Mem) : Prop := ∃ n, X2_fewestFor_p4n sh v0 v1 Q n v2 v3 m
def wp_X2_fewestFor (sh : Shp) (v0 : Nat) (v1 : Int32) (Q : Int32 → Mem → Prop) (m : Mem) : Prop :=
  X2_fewestFor_p4 sh v0 v1 Q (-1 : Int32) (0 : Int32) m
abbrev M_X2_fewestFor : Mi := (cX2_fewestFor, 5, RX2, (Option.some FieldType.int), "fewestFor", 1, 60, 0, 0)
set_option maxHeartbeats 4000000 in
set_option maxRecDepth 100000 in
theorem v_X2_fewestFor_p61 {G : Gl} {F : Fr} {sh : Shp} {v0 : Nat} {v1 : Int32} {v2 : Int32} {v3 : Int32} {Q : Int32 → Mem → Prop} {K4 : Int32 → Int32 → Mem → Prop} {m : Mem} (hK4 : ∀ (x2 : Int32) (x3 : Int32) (m : Mem), K4 x2 x3 m → V G F M_X2_fewestFor sh 0 0 (Zi G F sh Q) 4 [(0, .ref (G.1 + v0)), (1, .int v1), (2, .int x2), (3, .int x3)] [] m) (h : X2_fewestFor_p61 sh v0 v1 v2 v3 Q K4 m) : V G F M_X2_fewestFor sh 0 0 (Zi G F sh Q) 61 [(0, .ref (G.1 + v0)), (1, .int v1), (2, .int v2), (3, .int v3)] [] m := by
  unfold X2_fewestFor_p61 at h
  refine v_iinc (ls' := [(3, .int _), (0, .ref _), (1, .int _), (2, .int _)]) 3 3 dX2_fewestFor_61 rfl (congrArg (HAdd.hAdd _) (by decide : Int32.ofInt (1) = (1 : Int32))) (Nat.le_of_ble_eq_true rfl) rfl ?_
  refine v_goto 4 dX2_fewestFor_64 (by decide) ?_
  refine v_sub [1, 2, 3, 0] rfl ?_
  exact hK4 _ _ _ h
set_option maxHeartbeats 4000000 in
set_option maxRecDepth 100000 in
theorem v_X2_fewestFor_p54 {G : Gl} {F : Fr} {sh : Shp} {v0 : Nat} {v1 : Int32} {v3 : Int32} {Q : Int32 → Mem → Prop} {K4 : Int32 → Int32 → Mem → Prop} {m : Mem} (hK4 : ∀ (x2 : Int32) (x3 : Int32) (m : Mem), K4 x2 x3 m → V G F M_X2_fewestFor sh 0 0 (Zi G F sh Q) 4 [(0, .ref (G.1 + v0)), (1, .int v1), (2, .int x2), (3, .int x3)] [] m) (h : X2_fewestFor_p54 sh v0 v1 v3 Q K4 m) : V G F M_X2_fewestFor sh 0 0 (Zi G F sh Q) 54 [(0, .ref (G.1 + v0)), (1, .int v1), (3, .int v3)] [] m := by
  unfold X2_fewestFor_p54 at h
  refine v_aload_n 0 0 dX2_fewestFor_54 rfl rfl ?_
  obtain ⟨o9, h⟩ := h
  obtain ⟨b10, e11, h⟩ := h
  refine v_gR 2 3 dX2_fewestFor_55 fg_RX2_18 o9 e11 ?_
  refine v_iload_n 3 2 dX2_fewestFor_58 rfl rfl ?_
  obtain ⟨i12, h⟩ := h
  refine v_iald dX2_fewestFor_59 i12 ?_
  refine v_istore_n (ls' := [(2, .int _), (0, .ref _), (1, .int _), (3, .int _)]) 2 dX2_fewestFor_60 rfl (Nat.le_of_ble_eq_true rfl) rfl ?_
  refine v_sub [1, 2, 0, 3] rfl ?_
  exact v_X2_fewestFor_p61 hK4 h
set_option maxHeartbeats 4000000 in
set_option maxRecDepth 100000 in
theorem v_X2_fewestFor_p32 {G : Gl} {F : Fr} {sh : Shp} {v0 : Nat} {v1 : Int32} {v2 : Int32} {v3 : Int32} {s0 : Int32} {Q : Int32 → Mem → Prop} {K4 : Int32 → Int32 → Mem → Prop} {m : Mem} (hK4 : ∀ (x2 : Int32) (x3 : Int32) (m : Mem), K4 x2 x3 m → V G F M_X2_fewestFor sh 0 0 (Zi G F sh Q) 4 [(0, .ref (G.1 + v0)), (1, .int v1), (2, .int x2), (3, .int x3)] [] m) (h : X2_fewestFor_p32 sh v0 v1 v2 v3 s0 Q K4 m) : V G F M_X2_fewestFor sh 0 0 (Zi G F sh Q) 32 [(0, .ref (G.1 + v0)), (1, .int v1), (2, .int v2), (3, .int v3)] [.int s0] m := by
  unfold X2_fewestFor_p32 at h
  refine v_istore (ls' := [(4, .int _), (0, .ref _), (1, .int _), (2, .int _), (3, .int _)]) 4 dX2_fewestFor_32 (Nat.le_of_ble_eq_true rfl) rfl ?_
  refine v_iload 4 0 dX2_fewestFor_34 rfl ?_
  refine v_if_eq 61 dX2_fewestFor_36 (by decide) (fun hc => ?_) (fun hc => ?_)
  · replace h := Eq.mp (if_pos hc) h
    refine v_sub [1, 2, 3, 4] rfl ?_
    exact v_X2_fewestFor_p61 hK4 h
  · replace h := Eq.mp (if_neg hc) h
    refine v_iload_n 2 3 dX2_fewestFor_39 rfl rfl ?_
    refine v_iconst (-1 : Int32) dX2_fewestFor_40 (by decide) ?_
    refine v_icmp_eq 54 dX2_fewestFor_41 (by decide) (fun hc => ?_) (fun hc => ?_)
    · replace h := Eq.mp (if_pos hc) h
      refine v_sub [1, 2, 4] rfl ?_
      exact v_X2_fewestFor_p54 hK4 h
    · replace h := Eq.mp (if_neg hc) h
      refine v_aload_n 0 1 dX2_fewestFor_44 rfl rfl ?_
      obtain ⟨o5, h⟩ := h
      obtain ⟨b6, e7, h⟩ := h
      refine v_gR 2 3 dX2_fewestFor_45 fg_RX2_18 o5 e7 ?_
      refine v_iload_n 3 4 dX2_fewestFor_48 rfl rfl ?_
      obtain ⟨i8, h⟩ := h
      refine v_iald dX2_fewestFor_49 i8 ?_
      refine v_iload_n 2 3 dX2_fewestFor_50 rfl rfl ?_
      refine v_icmp_ge 61 dX2_fewestFor_51 (by decide) (fun hc => ?_) (fun hc => ?_)
      · replace h := Eq.mp (if_pos hc) h
        refine v_sub [1, 2, 3, 4] rfl ?_
        exact v_X2_fewestFor_p61 hK4 h
      · replace h := Eq.mp (if_neg hc) h
        refine v_sub [1, 2, 4] rfl ?_
        exact v_X2_fewestFor_p54 hK4 h
set_option maxHeartbeats 4000000 in
set_option maxRecDepth 100000 in
theorem v_X2_fewestFor_p31 {G : Gl} {F : Fr} {sh : Shp} {v0 : Nat} {v1 : Int32} {v2 : Int32} {v3 : Int32} {Q : Int32 → Mem → Prop} {K4 : Int32 → Int32 → Mem → Prop} {m : Mem} (hK4 : ∀ (x2 : Int32) (x3 : Int32) (m : Mem), K4 x2 x3 m → V G F M_X2_fewestFor sh 0 0 (Zi G F sh Q) 4 [(0, .ref (G.1 + v0)), (1, .int v1), (2, .int x2), (3, .int x3)] [] m) (h : X2_fewestFor_p31 sh v0 v1 v2 v3 Q K4 m) : V G F M_X2_fewestFor sh 0 0 (Zi G F sh Q) 31 [(0, .ref (G.1 + v0)), (1, .int v1), (2, .int v2), (3, .int v3)] [] m := by
  unfold X2_fewestFor_p31 at h
  refine v_iconst (0 : Int32) dX2_fewestFor_31 (by decide) ?_
  refine v_sub [0, 1, 2, 3] rfl ?_
  exact v_X2_fewestFor_p32 hK4 h
set_option maxHeartbeats 4000000 in
set_option maxRecDepth 100000 in
theorem v_X2_fewestFor_p4b {G : Gl} {F : Fr} {sh : Shp} {v0 : Nat} {v1 : Int32} {v2 : Int32} {v3 : Int32} {Q : Int32 → Mem → Prop} {K4 : Int32 → Int32 → Mem → Prop} {m : Mem} (hK4 : ∀ (x2 : Int32) (x3 : Int32) (m : Mem), K4 x2 x3 m → V G F M_X2_fewestFor sh 0 0 (Zi G F sh Q) 4 [(0, .ref (G.1 + v0)), (1, .int v1), (2, .int x2), (3, .int x3)] [] m) (h : X2_fewestFor_p4b sh v0 v1 Q K4 v2 v3 m) : V G F M_X2_fewestFor sh 0 0 (Zi G F sh Q) 4 [(0, .ref (G.1 + v0)), (1, .int v1), (2, .int v2), (3, .int v3)] [] m := by
  unfold X2_fewestFor_p4b at h
  refine v_iload_n 3 3 dX2_fewestFor_4 rfl rfl ?_
  refine v_bipush (64 : Int32) dX2_fewestFor_5 (by decide) ?_
  refine v_icmp_ge 67 dX2_fewestFor_7 (by decide) (fun hc => ?_) (fun hc => ?_)
  · replace h := Eq.mp (if_pos hc) h
    refine v_iload_n 2 2 dX2_fewestFor_67 rfl rfl ?_
    exact v_iret dX2_fewestFor_68 rfl rfl h
  · replace h := Eq.mp (if_neg hc) h
    refine v_aload_n 0 0 dX2_fewestFor_10 rfl rfl ?_
    obtain ⟨o1, h⟩ := h
    obtain ⟨b2, e3, h⟩ := h
    refine v_gR 2 3 dX2_fewestFor_11 fg_RX2_18 o1 e3 ?_
    refine v_iload_n 3 3 dX2_fewestFor_14 rfl rfl ?_
    obtain ⟨i4, h⟩ := h
    refine v_iald dX2_fewestFor_15 i4 ?_
    refine v_iconst (-1 : Int32) dX2_fewestFor_16 (by decide) ?_
    refine v_icmp_eq 31 dX2_fewestFor_17 (by decide) (fun hc => ?_) (fun hc => ?_)
    · replace h := Eq.mp (if_pos hc) h
      refine v_sub [0, 1, 2, 3] rfl ?_
      exact v_X2_fewestFor_p31 hK4 h
    · replace h := Eq.mp (if_neg hc) h
      refine v_iload_n 3 3 dX2_fewestFor_20 rfl rfl ?_
      refine v_iload_n 1 1 dX2_fewestFor_21 rfl rfl ?_
      refine v_iand dX2_fewestFor_22 ?_
      refine v_iload_n 1 1 dX2_fewestFor_23 rfl rfl ?_
      refine v_icmp_ne 31 dX2_fewestFor_24 (by decide) (fun hc => ?_) (fun hc => ?_)
      · replace h := Eq.mp (if_neg hc) h
        refine v_sub [0, 1, 2, 3] rfl ?_
        exact v_X2_fewestFor_p31 hK4 h
      · replace h := Eq.mp (if_pos hc) h
        refine v_iconst (1 : Int32) dX2_fewestFor_27 (by decide) ?_
        refine v_goto 32 dX2_fewestFor_28 (by decide) ?_
        refine v_sub [0, 1, 2, 3] rfl ?_
        exact v_X2_fewestFor_p32 hK4 h
set_option maxHeartbeats 4000000 in
set_option maxRecDepth 100000 in
theorem v_X2_fewestFor_p4 {G : Gl} {F : Fr} {sh : Shp} {v0 : Nat} {v1 : Int32} {v2 : Int32} {v3 : Int32} {Q : Int32 → Mem → Prop} {m : Mem} (h : X2_fewestFor_p4 sh v0 v1 Q v2 v3 m) : V G F M_X2_fewestFor sh 0 0 (Zi G F sh Q) 4 [(0, .ref (G.1 + v0)), (1, .int v1), (2, .int v2), (3, .int v3)] [] m := by
  obtain ⟨n, h⟩ := h
  induction n generalizing v2 v3 m with
  | zero => exact h.elim
  | succ n ih => exact v_X2_fewestFor_p4b (fun _ _ _ h => ih h) h
set_option maxHeartbeats 4000000 in
set_option maxRecDepth 100000 in
theorem c_X2_fewestFor {l : Launch} {G : Gl} {sh : Shp} {v0 : Nat} {v1 : Int32} {Q : Int32 → Mem → Prop} {m : Mem} (h : wp_X2_fewestFor sh v0 v1 Q m) : Cni l G yX2_fewestFor cX2_fewestFor 5 (Option.some FieldType.int) 1 60 sh [.ref (G.1 + v0), .int v1] m Q := by
  refine con_i (ls := [(0, .ref (G.1 + v0)), (1, .int v1)]) (by decide +kernel) rfl (Nat.le_of_ble_eq_true rfl) (fun F => ?_)
  show V G F M_X2_fewestFor sh 0 0 (Zi G F sh Q) 0 [(0, .ref (G.1 + v0)), (1, .int v1)] [] m
  unfold wp_X2_fewestFor at h
  refine v_iconst (-1 : Int32) dX2_fewestFor_0 (by decide) ?_
  refine v_istore_n (ls' := [(2, .int _), (0, .ref _), (1, .int _)]) 2 dX2_fewestFor_1 rfl (Nat.le_of_ble_eq_true rfl) rfl ?_
  refine v_iconst (0 : Int32) dX2_fewestFor_2 (by decide) ?_
  refine v_istore_n (ls' := [(3, .int _), (2, .int _), (0, .ref _), (1, .int _)]) 3 dX2_fewestFor_3 rfl (Nat.le_of_ble_eq_true rfl) rfl ?_
  refine v_sub [2, 3, 1, 0] rfl ?_
  exact v_X2_fewestFor_p4 h
/-! CalledRiver$Led.reach -/
theorem dX2_reach_0 : decode cX2_reach 0 = .ok (.aload_n 1, 1) := by decide +kernel
theorem dX2_reach_1 : decode cX2_reach 1 = .ok (.getfield 60, 3) := by decide +kernel
theorem dX2_reach_4 : decode cX2_reach 4 = .ok (.iload_n 2, 1) := by decide +kernel
theorem dX2_reach_5 : decode cX2_reach 5 = .ok (.iaload, 1) := by decide +kernel
theorem dX2_reach_6 : decode cX2_reach 6 = .ok (.istore 5, 2) := by decide +kernel
theorem dX2_reach_8 : decode cX2_reach 8 = .ok (.iload 5, 2) := by decide +kernel
theorem dX2_reach_10 : decode cX2_reach 10 = .ok (.iconst (-1), 1) := by decide +kernel
theorem dX2_reach_11 : decode cX2_reach 11 = .ok (.if_icmp .eq 24, 3) := by decide +kernel
theorem dX2_reach_14 : decode cX2_reach 14 = .ok (.iload 4, 2) := by decide +kernel
theorem dX2_reach_16 : decode cX2_reach 16 = .ok (.aload_n 1, 1) := by decide +kernel
theorem dX2_reach_17 : decode cX2_reach 17 = .ok (.getfield 63, 3) := by decide +kernel
theorem dX2_reach_20 : decode cX2_reach 20 = .ok (.iload 5, 2) := by decide +kernel
theorem dX2_reach_22 : decode cX2_reach 22 = .ok (.iaload, 1) := by decide +kernel
theorem dX2_reach_23 : decode cX2_reach 23 = .ok (.if_icmp .gt 12, 3) := by decide +kernel
theorem dX2_reach_26 : decode cX2_reach 26 = .ok (.iload_n 3, 1) := by decide +kernel
theorem dX2_reach_27 : decode cX2_reach 27 = .ok (.iconst 1, 1) := by decide +kernel
theorem dX2_reach_28 : decode cX2_reach 28 = .ok (.iload 5, 2) := by decide +kernel
theorem dX2_reach_30 : decode cX2_reach 30 = .ok (.ishl, 1) := by decide +kernel
theorem dX2_reach_31 : decode cX2_reach 31 = .ok (.ior, 1) := by decide +kernel
theorem dX2_reach_32 : decode cX2_reach 32 = .ok (.goto 4, 3) := by decide +kernel
theorem dX2_reach_35 : decode cX2_reach 35 = .ok (.iload_n 3, 1) := by decide +kernel
theorem dX2_reach_36 : decode cX2_reach 36 = .ok (.istore 6, 2) := by decide +kernel
theorem dX2_reach_38 : decode cX2_reach 38 = .ok (.iload_n 2, 1) := by decide +kernel
theorem dX2_reach_39 : decode cX2_reach 39 = .ok (.bipush 64, 2) := by decide +kernel
theorem dX2_reach_41 : decode cX2_reach 41 = .ok (.imul, 1) := by decide +kernel
theorem dX2_reach_42 : decode cX2_reach 42 = .ok (.iload 6, 2) := by decide +kernel
theorem dX2_reach_44 : decode cX2_reach 44 = .ok (.iadd, 1) := by decide +kernel
theorem dX2_reach_45 : decode cX2_reach 45 = .ok (.istore 7, 2) := by decide +kernel
theorem dX2_reach_47 : decode cX2_reach 47 = .ok (.aload_n 0, 1) := by decide +kernel
theorem dX2_reach_48 : decode cX2_reach 48 = .ok (.getfield 9, 3) := by decide +kernel
theorem dX2_reach_51 : decode cX2_reach 51 = .ok (.iload 7, 2) := by decide +kernel
theorem dX2_reach_53 : decode cX2_reach 53 = .ok (.iaload, 1) := by decide +kernel
theorem dX2_reach_54 : decode cX2_reach 54 = .ok (.iconst (-1), 1) := by decide +kernel
theorem dX2_reach_55 : decode cX2_reach 55 = .ok (.if_icmp .ne 15, 3) := by decide +kernel
theorem dX2_reach_58 : decode cX2_reach 58 = .ok (.aload_n 0, 1) := by decide +kernel
theorem dX2_reach_59 : decode cX2_reach 59 = .ok (.getfield 27, 3) := by decide +kernel
theorem dX2_reach_62 : decode cX2_reach 62 = .ok (.aload_n 0, 1) := by decide +kernel
theorem dX2_reach_63 : decode cX2_reach 63 = .ok (.getfield 15, 3) := by decide +kernel
theorem dX2_reach_66 : decode cX2_reach 66 = .ok (.arraylength, 1) := by decide +kernel
theorem dX2_reach_67 : decode cX2_reach 67 = .ok (.if_icmp .lt 4, 3) := by decide +kernel
theorem dX2_reach_70 : decode cX2_reach 70 = .ok (.return_, 1) := by decide +kernel
theorem dX2_reach_71 : decode cX2_reach 71 = .ok (.aload_n 0, 1) := by decide +kernel
theorem dX2_reach_72 : decode cX2_reach 72 = .ok (.getfield 9, 3) := by decide +kernel
theorem dX2_reach_75 : decode cX2_reach 75 = .ok (.iload 7, 2) := by decide +kernel
theorem dX2_reach_77 : decode cX2_reach 77 = .ok (.iload 4, 2) := by decide +kernel
theorem dX2_reach_79 : decode cX2_reach 79 = .ok (.iastore, 1) := by decide +kernel
theorem dX2_reach_80 : decode cX2_reach 80 = .ok (.aload_n 0, 1) := by decide +kernel
theorem dX2_reach_81 : decode cX2_reach 81 = .ok (.getfield 15, 3) := by decide +kernel
theorem dX2_reach_84 : decode cX2_reach 84 = .ok (.aload_n 0, 1) := by decide +kernel
theorem dX2_reach_85 : decode cX2_reach 85 = .ok (.getfield 27, 3) := by decide +kernel
theorem dX2_reach_88 : decode cX2_reach 88 = .ok (.iload 7, 2) := by decide +kernel
theorem dX2_reach_90 : decode cX2_reach 90 = .ok (.iastore, 1) := by decide +kernel
theorem dX2_reach_91 : decode cX2_reach 91 = .ok (.aload_n 0, 1) := by decide +kernel
theorem dX2_reach_92 : decode cX2_reach 92 = .ok (.dup, 1) := by decide +kernel
theorem dX2_reach_93 : decode cX2_reach 93 = .ok (.getfield 27, 3) := by decide +kernel
theorem dX2_reach_96 : decode cX2_reach 96 = .ok (.iconst 1, 1) := by decide +kernel
theorem dX2_reach_97 : decode cX2_reach 97 = .ok (.iadd, 1) := by decide +kernel
theorem dX2_reach_98 : decode cX2_reach 98 = .ok (.putfield 27, 3) := by decide +kernel
theorem dX2_reach_101 : decode cX2_reach 101 = .ok (.aload_n 0, 1) := by decide +kernel
theorem dX2_reach_102 : decode cX2_reach 102 = .ok (.getfield 18, 3) := by decide +kernel
theorem dX2_reach_105 : decode cX2_reach 105 = .ok (.iload 6, 2) := by decide +kernel
theorem dX2_reach_107 : decode cX2_reach 107 = .ok (.iaload, 1) := by decide +kernel
theorem dX2_reach_108 : decode cX2_reach 108 = .ok (.iconst (-1), 1) := by decide +kernel
theorem dX2_reach_109 : decode cX2_reach 109 = .ok (.if_icmp .ne 12, 3) := by decide +kernel
theorem dX2_reach_112 : decode cX2_reach 112 = .ok (.aload_n 0, 1) := by decide +kernel
theorem dX2_reach_113 : decode cX2_reach 113 = .ok (.getfield 18, 3) := by decide +kernel
theorem dX2_reach_116 : decode cX2_reach 116 = .ok (.iload 6, 2) := by decide +kernel
theorem dX2_reach_118 : decode cX2_reach 118 = .ok (.iload 4, 2) := by decide +kernel
theorem dX2_reach_120 : decode cX2_reach 120 = .ok (.iastore, 1) := by decide +kernel
theorem dX2_reach_121 : decode cX2_reach 121 = .ok (.return_, 1) := by decide +kernel
def X2_reach_p36 (sh : Shp) (v0 : Nat) (v2 : Int32) (v4 : Int32) (s0 : Int32) (Q : Mem → Prop) (m : Mem) : Prop :=
  Ob sh v0 2 ∧ ∃ b9 : Nat, m.2.2 v0 0 = some b9 ∧ (Ix sh b9 100 ((v2 * (64 : Int32)) + s0) ∧ (if (m.1 b9 ((v2 * (64 : Int32)) + s0).toNatClampNeg) = (-1 : Int32) then (∃ b12 : Nat, m.2.2 v0 1 = some b12 ∧ (∃ n14 : Nat, Ar sh b12 100 n14 ∧ (if (m.1 v0 2) < (nI n14) then (bnd (sI m b9 ((v2 * (64 : Int32)) + s0).toNatClampNeg v4) (fun m16 => Ix sh b12 100 (m16.1 v0 2) ∧ bnd (sI m16 b12 (m16.1 v0 2).toNatClampNeg ((v2 * (64 : Int32)) + s0)) (fun m18 => bnd (sI m18 v0 2 ((m18.1 v0 2) + (1 : Int32))) (fun m19 => ∃ b20 : Nat, m19.2.2 v0 3 = some b20 ∧ (Ix sh b20 100 s0 ∧ (if (m19.1 b20 s0.toNatClampNeg) = (-1 : Int32) then (bnd (sI m19 b20 s0.toNatClampNeg v4) (fun m23 => Q m23)) else (Q m19))))))) else (Q m)))) else (Q m)))
def X2_reach_p35 (sh : Shp) (v0 : Nat) (v2 : Int32) (v3 : Int32) (v4 : Int32) (Q : Mem → Prop) (m : Mem) : Prop :=
  X2_reach_p36 sh v0 v2 v4 v3 Q m
def wp_X2_reach (sh : Shp) (v0 : Nat) (v1 : Nat) (v2 : Int32) (v3 : Int32) (v4 : Int32) (Q : Mem → Prop) (m : Mem) : Prop :=
  Ob sh v1 5 ∧ ∃ b2 : Nat, m.2.2 v1 7 = some b2 ∧ (Ix sh b2 100 v2 ∧ (if (m.1 b2 v2.toNatClampNeg) = (-1 : Int32) then (X2_reach_p35 sh v0 v2 v3 v4 Q m) else (∃ b5 : Nat, m.2.2 v1 10 = some b5 ∧ (Ix sh b5 100 (m.1 b2 v2.toNatClampNeg) ∧ (if (m.1 b5 (m.1 b2 v2.toNatClampNeg).toNatClampNeg) < v4 then (X2_reach_p35 sh v0 v2 v3 v4 Q m) else (X2_reach_p36 sh v0 v2 v4 (v3 ||| ((1 : Int32) <<< ((m.1 b2 v2.toNatClampNeg) &&& 31))) Q m))))))
abbrev M_X2_reach : Mi := (cX2_reach, 8, RX2, (none : Option FieldType), "reach", 1, 60, 0, 0)
set_option maxHeartbeats 4000000 in
set_option maxRecDepth 100000 in
theorem v_X2_reach_p36 {G : Gl} {F : Fr} {sh : Shp} {v0 : Nat} {v2 : Int32} {v4 : Int32} {s0 : Int32} {Q : Mem → Prop} {m : Mem} (h : X2_reach_p36 sh v0 v2 v4 s0 Q m) : V G F M_X2_reach sh 0 0 (Zv G F sh Q) 36 [(0, .ref (G.1 + v0)), (2, .int v2), (4, .int v4)] [.int s0] m := by
  unfold X2_reach_p36 at h
  refine v_istore (ls' := [(6, .int _), (0, .ref _), (2, .int _), (4, .int _)]) 6 dX2_reach_36 (Nat.le_of_ble_eq_true rfl) rfl ?_
  refine v_iload_n 2 2 dX2_reach_38 rfl rfl ?_
  refine v_bipush (64 : Int32) dX2_reach_39 (by decide) ?_
  refine v_imul dX2_reach_41 ?_
  refine v_iload 6 0 dX2_reach_42 rfl ?_
  refine v_iadd dX2_reach_44 ?_
  refine v_istore (ls' := [(7, .int _), (6, .int _), (0, .ref _), (2, .int _), (4, .int _)]) 7 dX2_reach_45 (Nat.le_of_ble_eq_true rfl) rfl ?_
  refine v_aload_n 0 2 dX2_reach_47 rfl rfl ?_
  obtain ⟨o8, h⟩ := h
  obtain ⟨b9, e10, h⟩ := h
  refine v_gR 2 0 dX2_reach_48 fg_RX2_9 o8 e10 ?_
  refine v_iload 7 0 dX2_reach_51 rfl ?_
  obtain ⟨i11, h⟩ := h
  refine v_iald dX2_reach_53 i11 ?_
  refine v_iconst (-1 : Int32) dX2_reach_54 (by decide) ?_
  refine v_icmp_ne 70 dX2_reach_55 (by decide) (fun hc => ?_) (fun hc => ?_)
  · replace h := Eq.mp (if_neg hc) h
    exact v_vret dX2_reach_70 rfl h
  · replace h := Eq.mp (if_pos hc) h
    refine v_aload_n 0 2 dX2_reach_58 rfl rfl ?_
    refine v_gI 2 2 dX2_reach_59 fg_RX2_27 o8 ?_
    refine v_aload_n 0 2 dX2_reach_62 rfl rfl ?_
    obtain ⟨b12, e13, h⟩ := h
    refine v_gR 2 1 dX2_reach_63 fg_RX2_15 o8 e13 ?_
    obtain ⟨n14, l15, h⟩ := h
    refine v_alen dX2_reach_66 l15 (by decide) ?_
    refine v_icmp_lt 71 dX2_reach_67 (by decide) (fun hc => ?_) (fun hc => ?_)
    · replace h := Eq.mp (if_pos hc) h
      refine v_aload_n 0 2 dX2_reach_71 rfl rfl ?_
      refine v_gR 2 0 dX2_reach_72 fg_RX2_9 o8 e10 ?_
      refine v_iload 7 0 dX2_reach_75 rfl ?_
      refine v_iload 4 4 dX2_reach_77 rfl ?_
      refine v_iast dX2_reach_79 i11 ?_
      replace h := bnd_e h
      refine v_aload_n 0 2 dX2_reach_80 rfl rfl ?_
      refine v_gR 2 1 dX2_reach_81 fg_RX2_15 o8 e13 ?_
      refine v_aload_n 0 2 dX2_reach_84 rfl rfl ?_
      refine v_gI 2 2 dX2_reach_85 fg_RX2_27 o8 ?_
      refine v_iload 7 0 dX2_reach_88 rfl ?_
      obtain ⟨i17, h⟩ := h
      refine v_iast dX2_reach_90 i17 ?_
      replace h := bnd_e h
      refine v_aload_n 0 2 dX2_reach_91 rfl rfl ?_
      refine v_dup dX2_reach_92 rfl ?_
      refine v_gI 2 2 dX2_reach_93 fg_RX2_27 o8 ?_
      refine v_iconst (1 : Int32) dX2_reach_96 (by decide) ?_
      refine v_iadd dX2_reach_97 ?_
      refine v_pI 2 2 dX2_reach_98 fw_RX2_27 o8 ?_
      replace h := bnd_e h
      refine v_aload_n 0 2 dX2_reach_101 rfl rfl ?_
      obtain ⟨b20, e21, h⟩ := h
      refine v_gR 2 3 dX2_reach_102 fg_RX2_18 o8 e21 ?_
      refine v_iload 6 1 dX2_reach_105 rfl ?_
      obtain ⟨i22, h⟩ := h
      refine v_iald dX2_reach_107 i22 ?_
      refine v_iconst (-1 : Int32) dX2_reach_108 (by decide) ?_
      refine v_icmp_ne 121 dX2_reach_109 (by decide) (fun hc => ?_) (fun hc => ?_)
      · replace h := Eq.mp (if_neg hc) h
        exact v_vret dX2_reach_121 rfl h
      · replace h := Eq.mp (if_pos hc) h
        refine v_aload_n 0 2 dX2_reach_112 rfl rfl ?_
        refine v_gR 2 3 dX2_reach_113 fg_RX2_18 o8 e21 ?_
        refine v_iload 6 1 dX2_reach_116 rfl ?_
        refine v_iload 4 4 dX2_reach_118 rfl ?_
        refine v_iast dX2_reach_120 i22 ?_
        replace h := bnd_e h
        exact v_vret dX2_reach_121 rfl h
    · replace h := Eq.mp (if_neg hc) h
      exact v_vret dX2_reach_70 rfl h
set_option maxHeartbeats 4000000 in
set_option maxRecDepth 100000 in
theorem v_X2_reach_p35 {G : Gl} {F : Fr} {sh : Shp} {v0 : Nat} {v2 : Int32} {v3 : Int32} {v4 : Int32} {Q : Mem → Prop} {m : Mem} (h : X2_reach_p35 sh v0 v2 v3 v4 Q m) : V G F M_X2_reach sh 0 0 (Zv G F sh Q) 35 [(0, .ref (G.1 + v0)), (2, .int v2), (3, .int v3), (4, .int v4)] [] m := by
  unfold X2_reach_p35 at h
  refine v_iload_n 3 2 dX2_reach_35 rfl rfl ?_
  refine v_sub [0, 1, 3] rfl ?_
  exact v_X2_reach_p36 h
set_option maxHeartbeats 4000000 in
set_option maxRecDepth 100000 in
theorem c_X2_reach {l : Launch} {G : Gl} {sh : Shp} {v0 : Nat} {v1 : Nat} {v2 : Int32} {v3 : Int32} {v4 : Int32} {Q : Mem → Prop} {m : Mem} (h : wp_X2_reach sh v0 v1 v2 v3 v4 Q m) : Cnv l G yX2_reach cX2_reach 8 (none : Option FieldType) 1 60 sh [.ref (G.1 + v0), .ref (G.1 + v1), .int v2, .int v3, .int v4] m Q := by
  refine con_v (ls := [(0, .ref (G.1 + v0)), (1, .ref (G.1 + v1)), (2, .int v2), (3, .int v3), (4, .int v4)]) (by decide +kernel) rfl (Nat.le_of_ble_eq_true rfl) (fun F => ?_)
  show V G F M_X2_reach sh 0 0 (Zv G F sh Q) 0 [(0, .ref (G.1 + v0)), (1, .ref (G.1 + v1)), (2, .int v2), (3, .int v3), (4, .int v4)] [] m
  unfold wp_X2_reach at h
  refine v_aload_n 1 1 dX2_reach_0 rfl rfl ?_
  obtain ⟨o1, h⟩ := h
  obtain ⟨b2, e3, h⟩ := h
  refine v_gR 5 7 dX2_reach_1 fg_RX2_60 o1 e3 ?_
  refine v_iload_n 2 2 dX2_reach_4 rfl rfl ?_
  obtain ⟨i4, h⟩ := h
  refine v_iald dX2_reach_5 i4 ?_
  refine v_istore (ls' := [(5, .int _), (0, .ref _), (1, .ref _), (2, .int _), (3, .int _), (4, .int _)]) 5 dX2_reach_6 (Nat.le_of_ble_eq_true rfl) rfl ?_
  refine v_iload 5 0 dX2_reach_8 rfl ?_
  refine v_iconst (-1 : Int32) dX2_reach_10 (by decide) ?_
  refine v_icmp_eq 35 dX2_reach_11 (by decide) (fun hc => ?_) (fun hc => ?_)
  · replace h := Eq.mp (if_pos hc) h
    refine v_sub [1, 3, 4, 5] rfl ?_
    exact v_X2_reach_p35 h
  · replace h := Eq.mp (if_neg hc) h
    refine v_iload 4 5 dX2_reach_14 rfl ?_
    refine v_aload_n 1 2 dX2_reach_16 rfl rfl ?_
    obtain ⟨b5, e6, h⟩ := h
    refine v_gR 5 10 dX2_reach_17 fg_RX2_63 o1 e6 ?_
    refine v_iload 5 0 dX2_reach_20 rfl ?_
    obtain ⟨i7, h⟩ := h
    refine v_iald dX2_reach_22 i7 ?_
    refine v_icmp_gt 35 dX2_reach_23 (by decide) (fun hc => ?_) (fun hc => ?_)
    · replace h := Eq.mp (if_pos hc) h
      refine v_sub [1, 3, 4, 5] rfl ?_
      exact v_X2_reach_p35 h
    · replace h := Eq.mp (if_neg hc) h
      refine v_iload_n 3 4 dX2_reach_26 rfl rfl ?_
      refine v_iconst (1 : Int32) dX2_reach_27 (by decide) ?_
      refine v_iload 5 0 dX2_reach_28 rfl ?_
      refine v_ishl dX2_reach_30 ?_
      refine v_ior dX2_reach_31 ?_
      refine v_goto 36 dX2_reach_32 (by decide) ?_
      refine v_sub [1, 3, 5] rfl ?_
      exact v_X2_reach_p36 h
/-! CalledRiver$Led.goOn -/
theorem dX2_goOn_0 : decode cX2_goOn 0 = .ok (.iload_n 3, 1) := by decide +kernel
theorem dX2_goOn_1 : decode cX2_goOn 1 = .ok (.bipush 64, 2) := by decide +kernel
theorem dX2_goOn_3 : decode cX2_goOn 3 = .ok (.idiv, 1) := by decide +kernel
theorem dX2_goOn_4 : decode cX2_goOn 4 = .ok (.istore 4, 2) := by decide +kernel
theorem dX2_goOn_6 : decode cX2_goOn 6 = .ok (.aload_n 0, 1) := by decide +kernel
theorem dX2_goOn_7 : decode cX2_goOn 7 = .ok (.getfield 9, 3) := by decide +kernel
theorem dX2_goOn_10 : decode cX2_goOn 10 = .ok (.iload_n 3, 1) := by decide +kernel
theorem dX2_goOn_11 : decode cX2_goOn 11 = .ok (.iaload, 1) := by decide +kernel
theorem dX2_goOn_12 : decode cX2_goOn 12 = .ok (.iconst 1, 1) := by decide +kernel
theorem dX2_goOn_13 : decode cX2_goOn 13 = .ok (.iadd, 1) := by decide +kernel
theorem dX2_goOn_14 : decode cX2_goOn 14 = .ok (.istore 5, 2) := by decide +kernel
theorem dX2_goOn_16 : decode cX2_goOn 16 = .ok (.iload 5, 2) := by decide +kernel
theorem dX2_goOn_18 : decode cX2_goOn 18 = .ok (.bipush 40, 2) := by decide +kernel
theorem dX2_goOn_20 : decode cX2_goOn 20 = .ok (.if_icmp .le 4, 3) := by decide +kernel
theorem dX2_goOn_23 : decode cX2_goOn 23 = .ok (.return_, 1) := by decide +kernel
theorem dX2_goOn_24 : decode cX2_goOn 24 = .ok (.iconst 0, 1) := by decide +kernel
theorem dX2_goOn_25 : decode cX2_goOn 25 = .ok (.istore 6, 2) := by decide +kernel
theorem dX2_goOn_27 : decode cX2_goOn 27 = .ok (.iload 6, 2) := by decide +kernel
theorem dX2_goOn_29 : decode cX2_goOn 29 = .ok (.iconst 4, 1) := by decide +kernel
theorem dX2_goOn_30 : decode cX2_goOn 30 = .ok (.if_icmp .ge 49, 3) := by decide +kernel
theorem dX2_goOn_33 : decode cX2_goOn 33 = .ok (.aload_n 1, 1) := by decide +kernel
theorem dX2_goOn_34 : decode cX2_goOn 34 = .ok (.iload 4, 2) := by decide +kernel
theorem dX2_goOn_36 : decode cX2_goOn 36 = .ok (.iload 6, 2) := by decide +kernel
theorem dX2_goOn_38 : decode cX2_goOn 38 = .ok (.invokevirtual 52, 3) := by decide +kernel
theorem dX2_goOn_41 : decode cX2_goOn 41 = .ok (.istore 7, 2) := by decide +kernel
theorem dX2_goOn_43 : decode cX2_goOn 43 = .ok (.iload 7, 2) := by decide +kernel
theorem dX2_goOn_45 : decode cX2_goOn 45 = .ok (.iconst (-1), 1) := by decide +kernel
theorem dX2_goOn_46 : decode cX2_goOn 46 = .ok (.if_icmp .eq 27, 3) := by decide +kernel
theorem dX2_goOn_49 : decode cX2_goOn 49 = .ok (.aload_n 2, 1) := by decide +kernel
theorem dX2_goOn_50 : decode cX2_goOn 50 = .ok (.iload 4, 2) := by decide +kernel
theorem dX2_goOn_52 : decode cX2_goOn 52 = .ok (.iload 7, 2) := by decide +kernel
theorem dX2_goOn_54 : decode cX2_goOn 54 = .ok (.invokevirtual 56, 3) := by decide +kernel
theorem dX2_goOn_57 : decode cX2_goOn 57 = .ok (.ifCond .eq 16, 3) := by decide +kernel
theorem dX2_goOn_60 : decode cX2_goOn 60 = .ok (.aload_n 0, 1) := by decide +kernel
theorem dX2_goOn_61 : decode cX2_goOn 61 = .ok (.aload_n 1, 1) := by decide +kernel
theorem dX2_goOn_62 : decode cX2_goOn 62 = .ok (.iload 7, 2) := by decide +kernel
theorem dX2_goOn_64 : decode cX2_goOn 64 = .ok (.iload_n 3, 1) := by decide +kernel
theorem dX2_goOn_65 : decode cX2_goOn 65 = .ok (.bipush 64, 2) := by decide +kernel
theorem dX2_goOn_67 : decode cX2_goOn 67 = .ok (.irem, 1) := by decide +kernel
theorem dX2_goOn_68 : decode cX2_goOn 68 = .ok (.iload 5, 2) := by decide +kernel
theorem dX2_goOn_70 : decode cX2_goOn 70 = .ok (.invokevirtual 44, 3) := by decide +kernel
theorem dX2_goOn_73 : decode cX2_goOn 73 = .ok (.iinc 6 1, 3) := by decide +kernel
theorem dX2_goOn_76 : decode cX2_goOn 76 = .ok (.goto (-49), 3) := by decide +kernel
theorem dX2_goOn_79 : decode cX2_goOn 79 = .ok (.return_, 1) := by decide +kernel
def X2_goOn_p73 (sh : Shp) (v0 : Nat) (v1 : Nat) (v2 : Nat) (v3 : Int32) (v4 : Int32) (v5 : Int32) (v6 : Int32) (Q : Mem → Prop) (K27 : Int32 → Mem → Prop) (m : Mem) : Prop :=
  K27 (v6 + (1 : Int32)) m
def X2_goOn_p27b (sh : Shp) (v0 : Nat) (v1 : Nat) (v2 : Nat) (v3 : Int32) (v4 : Int32) (v5 : Int32) (Q : Mem → Prop) (K27 : Int32 → Mem → Prop) (v6 : Int32) (m : Mem) : Prop :=
  if (4 : Int32) ≤ v6 then (Q m) else (Ob sh v1 5 ∧ wp_X5_beside sh v1 v4 v6 (fun r5 m6 => if r5 = (-1 : Int32) then (X2_goOn_p73 sh v0 v1 v2 v3 v4 v5 v6 Q K27 m6) else (Ob sh v2 1 ∧ wp_X1_flows sh v2 v4 r5 (fun r8 m9 => if r8 = 0 then (X2_goOn_p73 sh v0 v1 v2 v3 v4 v5 v6 Q K27 m9) else (Ob sh v0 2 ∧ wp_X2_reach sh v0 v1 r5 (v3 - v3 / (64 : Int32) * (64 : Int32)) v5 (fun m12 => X2_goOn_p73 sh v0 v1 v2 v3 v4 v5 v6 Q K27 m12) m9)) m6)) m)
def X2_goOn_p27n (sh : Shp) (v0 : Nat) (v1 : Nat) (v2 : Nat) (v3 : Int32) (v4 : Int32) (v5 : Int32) (Q : Mem → Prop) : Nat → Int32 → Mem → Prop
  | 0 => fun _ _ => False
  | n + 1 => X2_goOn_p27b sh v0 v1 v2 v3 v4 v5 Q (X2_goOn_p27n sh v0 v1 v2 v3 v4 v5 Q n)
def X2_goOn_p27 (sh : Shp) (v0 : Nat) (v1 : Nat) (v2 : Nat) (v3 : Int32) (v4 : Int32) (v5 : Int32) (Q : Mem → Prop) (v6 : Int32) (m : Mem) : Prop := ∃ n, X2_goOn_p27n sh v0 v1 v2 v3 v4 v5 Q n v6 m
def wp_X2_goOn (sh : Shp) (v0 : Nat) (v1 : Nat) (v2 : Nat) (v3 : Int32) (Q : Mem → Prop) (m : Mem) : Prop :=
  Ob sh v0 2 ∧ ∃ b2 : Nat, m.2.2 v0 0 = some b2 ∧ (Ix sh b2 100 v3 ∧ (if ((m.1 b2 v3.toNatClampNeg) + (1 : Int32)) ≤ (40 : Int32) then (X2_goOn_p27 sh v0 v1 v2 v3 (v3 / (64 : Int32)) ((m.1 b2 v3.toNatClampNeg) + (1 : Int32)) Q (0 : Int32) m) else (Q m)))
abbrev M_X2_goOn : Mi := (cX2_goOn, 8, RX2, (none : Option FieldType), "goOn", 3, 105, 0, 0)
set_option maxHeartbeats 4000000 in
set_option maxRecDepth 100000 in
theorem v_X2_goOn_p73 {G : Gl} {F : Fr} {sh : Shp} {v0 : Nat} {v1 : Nat} {v2 : Nat} {v3 : Int32} {v4 : Int32} {v5 : Int32} {v6 : Int32} {Q : Mem → Prop} {K27 : Int32 → Mem → Prop} {m : Mem} (hK27 : ∀ (x6 : Int32) (m : Mem), K27 x6 m → V G F M_X2_goOn sh 0 0 (Zv G F sh Q) 27 [(0, .ref (G.1 + v0)), (1, .ref (G.1 + v1)), (2, .ref (G.1 + v2)), (3, .int v3), (4, .int v4), (5, .int v5), (6, .int x6)] [] m) (h : X2_goOn_p73 sh v0 v1 v2 v3 v4 v5 v6 Q K27 m) : V G F M_X2_goOn sh 0 0 (Zv G F sh Q) 73 [(0, .ref (G.1 + v0)), (1, .ref (G.1 + v1)), (2, .ref (G.1 + v2)), (3, .int v3), (4, .int v4), (5, .int v5), (6, .int v6)] [] m := by
  unfold X2_goOn_p73 at h
  refine v_iinc (ls' := [(6, .int _), (0, .ref _), (1, .ref _), (2, .ref _), (3, .int _), (4, .int _), (5, .int _)]) 6 6 dX2_goOn_73 rfl (congrArg (HAdd.hAdd _) (by decide : Int32.ofInt (1) = (1 : Int32))) (Nat.le_of_ble_eq_true rfl) rfl ?_
  refine v_goto 27 dX2_goOn_76 (by decide) ?_
  refine v_sub [1, 2, 3, 4, 5, 6, 0] rfl ?_
  exact hK27 _ _ h
set_option maxHeartbeats 4000000 in
set_option maxRecDepth 100000 in
theorem v_X2_goOn_p27b {G : Gl} {F : Fr} {sh : Shp} {v0 : Nat} {v1 : Nat} {v2 : Nat} {v3 : Int32} {v4 : Int32} {v5 : Int32} {v6 : Int32} {Q : Mem → Prop} {K27 : Int32 → Mem → Prop} {m : Mem} (hK27 : ∀ (x6 : Int32) (m : Mem), K27 x6 m → V G F M_X2_goOn sh 0 0 (Zv G F sh Q) 27 [(0, .ref (G.1 + v0)), (1, .ref (G.1 + v1)), (2, .ref (G.1 + v2)), (3, .int v3), (4, .int v4), (5, .int v5), (6, .int x6)] [] m) (h : X2_goOn_p27b sh v0 v1 v2 v3 v4 v5 Q K27 v6 m) : V G F M_X2_goOn sh 0 0 (Zv G F sh Q) 27 [(0, .ref (G.1 + v0)), (1, .ref (G.1 + v1)), (2, .ref (G.1 + v2)), (3, .int v3), (4, .int v4), (5, .int v5), (6, .int v6)] [] m := by
  unfold X2_goOn_p27b at h
  refine v_iload 6 6 dX2_goOn_27 rfl ?_
  refine v_iconst (4 : Int32) dX2_goOn_29 (by decide) ?_
  refine v_icmp_ge 79 dX2_goOn_30 (by decide) (fun hc => ?_) (fun hc => ?_)
  · replace h := Eq.mp (if_pos hc) h
    exact v_vret dX2_goOn_79 rfl h
  · replace h := Eq.mp (if_neg hc) h
    refine v_aload_n 1 1 dX2_goOn_33 rfl rfl ?_
    refine v_iload 4 4 dX2_goOn_34 rfl ?_
    refine v_iload 6 6 dX2_goOn_36 rfl ?_
    obtain ⟨o7, h⟩ := h
    refine v_cVi [.int _, .int _] mv_X5_beside ml_RX2_52 ⟨_, _, rfl⟩ o7 rfl rfl (Nat.le_of_ble_eq_true rfl) (Nat.le_of_ble_eq_true rfl) (Nat.le_of_ble_eq_true rfl) (Nat.zero_le _) (Nat.zero_le _) dX2_goOn_38 (c_X5_beside h) (fun r5 m6 h => ?_)
    refine v_istore (ls' := [(7, .int _), (0, .ref _), (1, .ref _), (2, .ref _), (3, .int _), (4, .int _), (5, .int _), (6, .int _)]) 7 dX2_goOn_41 (Nat.le_of_ble_eq_true rfl) rfl ?_
    refine v_iload 7 0 dX2_goOn_43 rfl ?_
    refine v_iconst (-1 : Int32) dX2_goOn_45 (by decide) ?_
    refine v_icmp_eq 73 dX2_goOn_46 (by decide) (fun hc => ?_) (fun hc => ?_)
    · replace h := Eq.mp (if_pos hc) h
      refine v_sub [1, 2, 3, 4, 5, 6, 7] rfl ?_
      exact v_X2_goOn_p73 hK27 h
    · replace h := Eq.mp (if_neg hc) h
      refine v_aload_n 2 3 dX2_goOn_49 rfl rfl ?_
      refine v_iload 4 5 dX2_goOn_50 rfl ?_
      refine v_iload 7 0 dX2_goOn_52 rfl ?_
      obtain ⟨o10, h⟩ := h
      refine v_cVi [.int _, .int _] mv_X1_flows ml_RX2_56 ⟨_, _, rfl⟩ o10 rfl rfl (Nat.le_of_ble_eq_true rfl) (Nat.le_of_ble_eq_true rfl) (Nat.le_of_ble_eq_true rfl) (Nat.zero_le _) (Nat.zero_le _) dX2_goOn_54 (c_X1_flows h) (fun r8 m9 h => ?_)
      refine v_if_eq 73 dX2_goOn_57 (by decide) (fun hc => ?_) (fun hc => ?_)
      · replace h := Eq.mp (if_pos hc) h
        refine v_sub [1, 2, 3, 4, 5, 6, 7] rfl ?_
        exact v_X2_goOn_p73 hK27 h
      · replace h := Eq.mp (if_neg hc) h
        refine v_aload_n 0 1 dX2_goOn_60 rfl rfl ?_
        refine v_aload_n 1 2 dX2_goOn_61 rfl rfl ?_
        refine v_iload 7 0 dX2_goOn_62 rfl ?_
        refine v_iload_n 3 4 dX2_goOn_64 rfl rfl ?_
        refine v_bipush (64 : Int32) dX2_goOn_65 (by decide) ?_
        refine v_irem dX2_goOn_67 (by decide) ?_
        refine v_iload 5 6 dX2_goOn_68 rfl ?_
        obtain ⟨o13, h⟩ := h
        refine v_cVv [.ref _, .int _, .int _, .int _] mv_X2_reach ml_RX2_44 ⟨_, _, rfl⟩ o13 rfl rfl (Nat.le_of_ble_eq_true rfl) (Nat.le_of_ble_eq_true rfl) (Nat.le_of_ble_eq_true rfl) (Nat.zero_le _) (Nat.zero_le _) dX2_goOn_70 (c_X2_reach h) (fun m12 h => ?_)
        refine v_sub [1, 2, 3, 4, 5, 6, 7] rfl ?_
        exact v_X2_goOn_p73 hK27 h
set_option maxHeartbeats 4000000 in
set_option maxRecDepth 100000 in
theorem v_X2_goOn_p27 {G : Gl} {F : Fr} {sh : Shp} {v0 : Nat} {v1 : Nat} {v2 : Nat} {v3 : Int32} {v4 : Int32} {v5 : Int32} {v6 : Int32} {Q : Mem → Prop} {m : Mem} (h : X2_goOn_p27 sh v0 v1 v2 v3 v4 v5 Q v6 m) : V G F M_X2_goOn sh 0 0 (Zv G F sh Q) 27 [(0, .ref (G.1 + v0)), (1, .ref (G.1 + v1)), (2, .ref (G.1 + v2)), (3, .int v3), (4, .int v4), (5, .int v5), (6, .int v6)] [] m := by
  obtain ⟨n, h⟩ := h
  induction n generalizing v6 m with
  | zero => exact h.elim
  | succ n ih => exact v_X2_goOn_p27b (fun _ _ h => ih h) h
set_option maxHeartbeats 4000000 in
set_option maxRecDepth 100000 in
theorem c_X2_goOn {l : Launch} {G : Gl} {sh : Shp} {v0 : Nat} {v1 : Nat} {v2 : Nat} {v3 : Int32} {Q : Mem → Prop} {m : Mem} (h : wp_X2_goOn sh v0 v1 v2 v3 Q m) : Cnv l G yX2_goOn cX2_goOn 8 (none : Option FieldType) 3 105 sh [.ref (G.1 + v0), .ref (G.1 + v1), .ref (G.1 + v2), .int v3] m Q := by
  refine con_v (ls := [(0, .ref (G.1 + v0)), (1, .ref (G.1 + v1)), (2, .ref (G.1 + v2)), (3, .int v3)]) (by decide +kernel) rfl (Nat.le_of_ble_eq_true rfl) (fun F => ?_)
  show V G F M_X2_goOn sh 0 0 (Zv G F sh Q) 0 [(0, .ref (G.1 + v0)), (1, .ref (G.1 + v1)), (2, .ref (G.1 + v2)), (3, .int v3)] [] m
  unfold wp_X2_goOn at h
  refine v_iload_n 3 3 dX2_goOn_0 rfl rfl ?_
  refine v_bipush (64 : Int32) dX2_goOn_1 (by decide) ?_
  refine v_idiv dX2_goOn_3 (by decide) ?_
  refine v_istore (ls' := [(4, .int _), (0, .ref _), (1, .ref _), (2, .ref _), (3, .int _)]) 4 dX2_goOn_4 (Nat.le_of_ble_eq_true rfl) rfl ?_
  refine v_aload_n 0 1 dX2_goOn_6 rfl rfl ?_
  obtain ⟨o1, h⟩ := h
  obtain ⟨b2, e3, h⟩ := h
  refine v_gR 2 0 dX2_goOn_7 fg_RX2_9 o1 e3 ?_
  refine v_iload_n 3 4 dX2_goOn_10 rfl rfl ?_
  obtain ⟨i4, h⟩ := h
  refine v_iald dX2_goOn_11 i4 ?_
  refine v_iconst (1 : Int32) dX2_goOn_12 (by decide) ?_
  refine v_iadd dX2_goOn_13 ?_
  refine v_istore (ls' := [(5, .int _), (4, .int _), (0, .ref _), (1, .ref _), (2, .ref _), (3, .int _)]) 5 dX2_goOn_14 (Nat.le_of_ble_eq_true rfl) rfl ?_
  refine v_iload 5 0 dX2_goOn_16 rfl ?_
  refine v_bipush (40 : Int32) dX2_goOn_18 (by decide) ?_
  refine v_icmp_le 24 dX2_goOn_20 (by decide) (fun hc => ?_) (fun hc => ?_)
  · replace h := Eq.mp (if_pos hc) h
    refine v_iconst (0 : Int32) dX2_goOn_24 (by decide) ?_
    refine v_istore (ls' := [(6, .int _), (5, .int _), (4, .int _), (0, .ref _), (1, .ref _), (2, .ref _), (3, .int _)]) 6 dX2_goOn_25 (Nat.le_of_ble_eq_true rfl) rfl ?_
    refine v_sub [3, 4, 5, 6, 2, 1, 0] rfl ?_
    exact v_X2_goOn_p27 h
  · replace h := Eq.mp (if_neg hc) h
    exact v_vret dX2_goOn_23 rfl h
/-! CalledRiver$Led.search -/
theorem dX2_search_0 : decode cX2_search 0 = .ok (.aload_n 0, 1) := by decide +kernel
theorem dX2_search_1 : decode cX2_search 1 = .ok (.getfield 9, 3) := by decide +kernel
theorem dX2_search_4 : decode cX2_search 4 = .ok (.iconst (-1), 1) := by decide +kernel
theorem dX2_search_5 : decode cX2_search 5 = .ok (.invokestatic 21, 3) := by decide +kernel
theorem dX2_search_8 : decode cX2_search 8 = .ok (.aload_n 0, 1) := by decide +kernel
theorem dX2_search_9 : decode cX2_search 9 = .ok (.getfield 18, 3) := by decide +kernel
theorem dX2_search_12 : decode cX2_search 12 = .ok (.iconst (-1), 1) := by decide +kernel
theorem dX2_search_13 : decode cX2_search 13 = .ok (.invokestatic 21, 3) := by decide +kernel
theorem dX2_search_16 : decode cX2_search 16 = .ok (.aload_n 0, 1) := by decide +kernel
theorem dX2_search_17 : decode cX2_search 17 = .ok (.iconst 0, 1) := by decide +kernel
theorem dX2_search_18 : decode cX2_search 18 = .ok (.putfield 27, 3) := by decide +kernel
theorem dX2_search_21 : decode cX2_search 21 = .ok (.aload_n 1, 1) := by decide +kernel
theorem dX2_search_22 : decode cX2_search 22 = .ok (.getfield 31, 3) := by decide +kernel
theorem dX2_search_25 : decode cX2_search 25 = .ok (.ifCond .eq 16, 3) := by decide +kernel
theorem dX2_search_28 : decode cX2_search 28 = .ok (.aload_n 2, 1) := by decide +kernel
theorem dX2_search_29 : decode cX2_search 29 = .ok (.getfield 36, 3) := by decide +kernel
theorem dX2_search_32 : decode cX2_search 32 = .ok (.aload_n 1, 1) := by decide +kernel
theorem dX2_search_33 : decode cX2_search 33 = .ok (.getfield 41, 3) := by decide +kernel
theorem dX2_search_36 : decode cX2_search 36 = .ok (.iaload, 1) := by decide +kernel
theorem dX2_search_37 : decode cX2_search 37 = .ok (.iconst 1, 1) := by decide +kernel
theorem dX2_search_38 : decode cX2_search 38 = .ok (.if_icmp .ne 4, 3) := by decide +kernel
theorem dX2_search_41 : decode cX2_search 41 = .ok (.return_, 1) := by decide +kernel
theorem dX2_search_42 : decode cX2_search 42 = .ok (.aload_n 0, 1) := by decide +kernel
theorem dX2_search_43 : decode cX2_search 43 = .ok (.aload_n 1, 1) := by decide +kernel
theorem dX2_search_44 : decode cX2_search 44 = .ok (.aload_n 1, 1) := by decide +kernel
theorem dX2_search_45 : decode cX2_search 45 = .ok (.getfield 41, 3) := by decide +kernel
theorem dX2_search_48 : decode cX2_search 48 = .ok (.iconst 0, 1) := by decide +kernel
theorem dX2_search_49 : decode cX2_search 49 = .ok (.iconst 0, 1) := by decide +kernel
theorem dX2_search_50 : decode cX2_search 50 = .ok (.invokevirtual 44, 3) := by decide +kernel
theorem dX2_search_53 : decode cX2_search 53 = .ok (.iconst 0, 1) := by decide +kernel
theorem dX2_search_54 : decode cX2_search 54 = .ok (.istore_n 3, 1) := by decide +kernel
theorem dX2_search_55 : decode cX2_search 55 = .ok (.iload_n 3, 1) := by decide +kernel
theorem dX2_search_56 : decode cX2_search 56 = .ok (.aload_n 0, 1) := by decide +kernel
theorem dX2_search_57 : decode cX2_search 57 = .ok (.getfield 15, 3) := by decide +kernel
theorem dX2_search_60 : decode cX2_search 60 = .ok (.arraylength, 1) := by decide +kernel
theorem dX2_search_61 : decode cX2_search 61 = .ok (.if_icmp .ge 29, 3) := by decide +kernel
theorem dX2_search_64 : decode cX2_search 64 = .ok (.iload_n 3, 1) := by decide +kernel
theorem dX2_search_65 : decode cX2_search 65 = .ok (.aload_n 0, 1) := by decide +kernel
theorem dX2_search_66 : decode cX2_search 66 = .ok (.getfield 27, 3) := by decide +kernel
theorem dX2_search_69 : decode cX2_search 69 = .ok (.if_icmp .ge 21, 3) := by decide +kernel
theorem dX2_search_72 : decode cX2_search 72 = .ok (.aload_n 0, 1) := by decide +kernel
theorem dX2_search_73 : decode cX2_search 73 = .ok (.aload_n 1, 1) := by decide +kernel
theorem dX2_search_74 : decode cX2_search 74 = .ok (.aload_n 2, 1) := by decide +kernel
theorem dX2_search_75 : decode cX2_search 75 = .ok (.aload_n 0, 1) := by decide +kernel
theorem dX2_search_76 : decode cX2_search 76 = .ok (.getfield 15, 3) := by decide +kernel
theorem dX2_search_79 : decode cX2_search 79 = .ok (.iload_n 3, 1) := by decide +kernel
theorem dX2_search_80 : decode cX2_search 80 = .ok (.iaload, 1) := by decide +kernel
theorem dX2_search_81 : decode cX2_search 81 = .ok (.invokevirtual 48, 3) := by decide +kernel
theorem dX2_search_84 : decode cX2_search 84 = .ok (.iinc 3 1, 3) := by decide +kernel
theorem dX2_search_87 : decode cX2_search 87 = .ok (.goto (-32), 3) := by decide +kernel
theorem dX2_search_90 : decode cX2_search 90 = .ok (.return_, 1) := by decide +kernel
def X2_search_p55b (sh : Shp) (v0 : Nat) (v1 : Nat) (v2 : Nat) (Q : Mem → Prop) (K55 : Int32 → Mem → Prop) (v3 : Int32) (m : Mem) : Prop :=
  Ob sh v0 2 ∧ ∃ b19 : Nat, m.2.2 v0 1 = some b19 ∧ (∃ n21 : Nat, Ar sh b19 100 n21 ∧ (if (nI n21) ≤ v3 then (Q m) else (if (m.1 v0 2) ≤ v3 then (Q m) else (Ix sh b19 100 v3 ∧ (wp_X2_goOn sh v0 v1 v2 (m.1 b19 v3.toNatClampNeg) (fun m25 => K55 (v3 + (1 : Int32)) m25) m)))))
def X2_search_p55n (sh : Shp) (v0 : Nat) (v1 : Nat) (v2 : Nat) (Q : Mem → Prop) : Nat → Int32 → Mem → Prop
  | 0 => fun _ _ => False
  | n + 1 => X2_search_p55b sh v0 v1 v2 Q (X2_search_p55n sh v0 v1 v2 Q n)
def X2_search_p55 (sh : Shp) (v0 : Nat) (v1 : Nat) (v2 : Nat) (Q : Mem → Prop) (v3 : Int32) (m : Mem) : Prop := ∃ n, X2_search_p55n sh v0 v1 v2 Q n v3 m
def wp_X2_search (sh : Shp) (v0 : Nat) (v1 : Nat) (v2 : Nat) (Q : Mem → Prop) (m : Mem) : Prop :=
  Ob sh v0 2 ∧ ∃ b2 : Nat, m.2.2 v0 0 = some b2 ∧ (wp_J7_fill_53178 sh b2 (-1 : Int32) (fun m5 => ∃ b6 : Nat, m5.2.2 v0 3 = some b6 ∧ (wp_J7_fill_53178 sh b6 (-1 : Int32) (fun m9 => bnd (sI m9 v0 2 (0 : Int32)) (fun m10 => Ob sh v1 5 ∧ (if (m10.1 v1 0) = 0 then (Q m10) else (Ob sh v2 1 ∧ ∃ b13 : Nat, m10.2.2 v2 3 = some b13 ∧ (Ix sh b13 100 (m10.1 v1 2) ∧ (if (m10.1 b13 (m10.1 v1 2).toNatClampNeg) = (1 : Int32) then (Q m10) else (wp_X2_reach sh v0 v1 (m10.1 v1 2) (0 : Int32) (0 : Int32) (fun m17 => X2_search_p55 sh v0 v1 v2 Q (0 : Int32) m17) m10))))))) m5)) m)
abbrev M_X2_search : Mi := (cX2_search, 4, RX2, (none : Option FieldType), "search", 4, 132, 0, 0)
set_option maxHeartbeats 4000000 in
set_option maxRecDepth 100000 in
theorem v_X2_search_p55b {G : Gl} {F : Fr} {sh : Shp} {v0 : Nat} {v1 : Nat} {v2 : Nat} {v3 : Int32} {Q : Mem → Prop} {K55 : Int32 → Mem → Prop} {m : Mem} (hK55 : ∀ (x3 : Int32) (m : Mem), K55 x3 m → V G F M_X2_search sh 0 0 (Zv G F sh Q) 55 [(0, .ref (G.1 + v0)), (1, .ref (G.1 + v1)), (2, .ref (G.1 + v2)), (3, .int x3)] [] m) (h : X2_search_p55b sh v0 v1 v2 Q K55 v3 m) : V G F M_X2_search sh 0 0 (Zv G F sh Q) 55 [(0, .ref (G.1 + v0)), (1, .ref (G.1 + v1)), (2, .ref (G.1 + v2)), (3, .int v3)] [] m := by
  unfold X2_search_p55b at h
  refine v_iload_n 3 3 dX2_search_55 rfl rfl ?_
  refine v_aload_n 0 0 dX2_search_56 rfl rfl ?_
  obtain ⟨o18, h⟩ := h
  obtain ⟨b19, e20, h⟩ := h
  refine v_gR 2 1 dX2_search_57 fg_RX2_15 o18 e20 ?_
  obtain ⟨n21, l22, h⟩ := h
  refine v_alen dX2_search_60 l22 (by decide) ?_
  refine v_icmp_ge 90 dX2_search_61 (by decide) (fun hc => ?_) (fun hc => ?_)
  · replace h := Eq.mp (if_pos hc) h
    exact v_vret dX2_search_90 rfl h
  · replace h := Eq.mp (if_neg hc) h
    refine v_iload_n 3 3 dX2_search_64 rfl rfl ?_
    refine v_aload_n 0 0 dX2_search_65 rfl rfl ?_
    refine v_gI 2 2 dX2_search_66 fg_RX2_27 o18 ?_
    refine v_icmp_ge 90 dX2_search_69 (by decide) (fun hc => ?_) (fun hc => ?_)
    · replace h := Eq.mp (if_pos hc) h
      exact v_vret dX2_search_90 rfl h
    · replace h := Eq.mp (if_neg hc) h
      refine v_aload_n 0 0 dX2_search_72 rfl rfl ?_
      refine v_aload_n 1 1 dX2_search_73 rfl rfl ?_
      refine v_aload_n 2 2 dX2_search_74 rfl rfl ?_
      refine v_aload_n 0 0 dX2_search_75 rfl rfl ?_
      refine v_gR 2 1 dX2_search_76 fg_RX2_15 o18 e20 ?_
      refine v_iload_n 3 3 dX2_search_79 rfl rfl ?_
      obtain ⟨i23, h⟩ := h
      refine v_iald dX2_search_80 i23 ?_
      refine v_cVv [.ref _, .ref _, .int _] mv_X2_goOn ml_RX2_48 ⟨_, _, rfl⟩ o18 rfl rfl (Nat.le_of_ble_eq_true rfl) (Nat.le_of_ble_eq_true rfl) (Nat.le_of_ble_eq_true rfl) (Nat.zero_le _) (Nat.zero_le _) dX2_search_81 (c_X2_goOn h) (fun m25 h => ?_)
      refine v_iinc (ls' := [(3, .int _), (0, .ref _), (1, .ref _), (2, .ref _)]) 3 3 dX2_search_84 rfl (congrArg (HAdd.hAdd _) (by decide : Int32.ofInt (1) = (1 : Int32))) (Nat.le_of_ble_eq_true rfl) rfl ?_
      refine v_goto 55 dX2_search_87 (by decide) ?_
      refine v_sub [1, 2, 3, 0] rfl ?_
      exact hK55 _ _ h
set_option maxHeartbeats 4000000 in
set_option maxRecDepth 100000 in
theorem v_X2_search_p55 {G : Gl} {F : Fr} {sh : Shp} {v0 : Nat} {v1 : Nat} {v2 : Nat} {v3 : Int32} {Q : Mem → Prop} {m : Mem} (h : X2_search_p55 sh v0 v1 v2 Q v3 m) : V G F M_X2_search sh 0 0 (Zv G F sh Q) 55 [(0, .ref (G.1 + v0)), (1, .ref (G.1 + v1)), (2, .ref (G.1 + v2)), (3, .int v3)] [] m := by
  obtain ⟨n, h⟩ := h
  induction n generalizing v3 m with
  | zero => exact h.elim
  | succ n ih => exact v_X2_search_p55b (fun _ _ h => ih h) h
set_option maxHeartbeats 4000000 in
set_option maxRecDepth 100000 in
theorem c_X2_search {l : Launch} {G : Gl} {sh : Shp} {v0 : Nat} {v1 : Nat} {v2 : Nat} {Q : Mem → Prop} {m : Mem} (h : wp_X2_search sh v0 v1 v2 Q m) : Cnv l G yX2_search cX2_search 4 (none : Option FieldType) 4 132 sh [.ref (G.1 + v0), .ref (G.1 + v1), .ref (G.1 + v2)] m Q := by
  refine con_v (ls := [(0, .ref (G.1 + v0)), (1, .ref (G.1 + v1)), (2, .ref (G.1 + v2))]) (by decide +kernel) rfl (Nat.le_of_ble_eq_true rfl) (fun F => ?_)
  show V G F M_X2_search sh 0 0 (Zv G F sh Q) 0 [(0, .ref (G.1 + v0)), (1, .ref (G.1 + v1)), (2, .ref (G.1 + v2))] [] m
  unfold wp_X2_search at h
  refine v_aload_n 0 0 dX2_search_0 rfl rfl ?_
  obtain ⟨o1, h⟩ := h
  obtain ⟨b2, e3, h⟩ := h
  refine v_gR 2 0 dX2_search_1 fg_RX2_9 o1 e3 ?_
  refine v_iconst (-1 : Int32) dX2_search_4 (by decide) ?_
  refine v_cSv [.ref _, .int _] mv_J7_fill_53178 ml_RX2_21 rfl rfl (Nat.le_of_ble_eq_true rfl) (Nat.le_of_ble_eq_true rfl) (Nat.le_of_ble_eq_true rfl) (Nat.zero_le _) (Nat.zero_le _) dX2_search_5 (c_J7_fill_53178 h) (fun m5 h => ?_)
  refine v_aload_n 0 0 dX2_search_8 rfl rfl ?_
  obtain ⟨b6, e7, h⟩ := h
  refine v_gR 2 3 dX2_search_9 fg_RX2_18 o1 e7 ?_
  refine v_iconst (-1 : Int32) dX2_search_12 (by decide) ?_
  refine v_cSv [.ref _, .int _] mv_J7_fill_53178 ml_RX2_21 rfl rfl (Nat.le_of_ble_eq_true rfl) (Nat.le_of_ble_eq_true rfl) (Nat.le_of_ble_eq_true rfl) (Nat.zero_le _) (Nat.zero_le _) dX2_search_13 (c_J7_fill_53178 h) (fun m9 h => ?_)
  refine v_aload_n 0 0 dX2_search_16 rfl rfl ?_
  refine v_iconst (0 : Int32) dX2_search_17 (by decide) ?_
  refine v_pI 2 2 dX2_search_18 fw_RX2_27 o1 ?_
  replace h := bnd_e h
  refine v_aload_n 1 1 dX2_search_21 rfl rfl ?_
  obtain ⟨o11, h⟩ := h
  refine v_gI 5 0 dX2_search_22 fg_RX2_31 o11 ?_
  refine v_if_eq 41 dX2_search_25 (by decide) (fun hc => ?_) (fun hc => ?_)
  · replace h := Eq.mp (if_pos hc) h
    exact v_vret dX2_search_41 rfl h
  · replace h := Eq.mp (if_neg hc) h
    refine v_aload_n 2 2 dX2_search_28 rfl rfl ?_
    obtain ⟨o12, h⟩ := h
    obtain ⟨b13, e14, h⟩ := h
    refine v_gR 1 3 dX2_search_29 fg_RX2_36 o12 e14 ?_
    refine v_aload_n 1 1 dX2_search_32 rfl rfl ?_
    refine v_gI 5 2 dX2_search_33 fg_RX2_41 o11 ?_
    obtain ⟨i15, h⟩ := h
    refine v_iald dX2_search_36 i15 ?_
    refine v_iconst (1 : Int32) dX2_search_37 (by decide) ?_
    refine v_icmp_ne 42 dX2_search_38 (by decide) (fun hc => ?_) (fun hc => ?_)
    · replace h := Eq.mp (if_neg hc) h
      refine v_aload_n 0 0 dX2_search_42 rfl rfl ?_
      refine v_aload_n 1 1 dX2_search_43 rfl rfl ?_
      refine v_aload_n 1 1 dX2_search_44 rfl rfl ?_
      refine v_gI 5 2 dX2_search_45 fg_RX2_41 o11 ?_
      refine v_iconst (0 : Int32) dX2_search_48 (by decide) ?_
      refine v_iconst (0 : Int32) dX2_search_49 (by decide) ?_
      refine v_cVv [.ref _, .int _, .int _, .int _] mv_X2_reach ml_RX2_44 ⟨_, _, rfl⟩ o1 rfl rfl (Nat.le_of_ble_eq_true rfl) (Nat.le_of_ble_eq_true rfl) (Nat.le_of_ble_eq_true rfl) (Nat.zero_le _) (Nat.zero_le _) dX2_search_50 (c_X2_reach h) (fun m17 h => ?_)
      refine v_iconst (0 : Int32) dX2_search_53 (by decide) ?_
      refine v_istore_n (ls' := [(3, .int _), (0, .ref _), (1, .ref _), (2, .ref _)]) 3 dX2_search_54 rfl (Nat.le_of_ble_eq_true rfl) rfl ?_
      refine v_sub [1, 2, 3, 0] rfl ?_
      exact v_X2_search_p55 h
    · replace h := Eq.mp (if_pos hc) h
      exact v_vret dX2_search_41 rfl h
/-! CalledRiver$Sight.fits -/
theorem dX7_fits_0 : decode cX7_fits 0 = .ok (.iconst 0, 1) := by decide +kernel
theorem dX7_fits_1 : decode cX7_fits 1 = .ok (.istore_n 2, 1) := by decide +kernel
theorem dX7_fits_2 : decode cX7_fits 2 = .ok (.iload_n 2, 1) := by decide +kernel
theorem dX7_fits_3 : decode cX7_fits 3 = .ok (.aload_n 0, 1) := by decide +kernel
theorem dX7_fits_4 : decode cX7_fits 4 = .ok (.getfield 28, 3) := by decide +kernel
theorem dX7_fits_7 : decode cX7_fits 7 = .ok (.if_icmp .ge 30, 3) := by decide +kernel
theorem dX7_fits_10 : decode cX7_fits 10 = .ok (.aload_n 1, 1) := by decide +kernel
theorem dX7_fits_11 : decode cX7_fits 11 = .ok (.aload_n 0, 1) := by decide +kernel
theorem dX7_fits_12 : decode cX7_fits 12 = .ok (.getfield 9, 3) := by decide +kernel
theorem dX7_fits_15 : decode cX7_fits 15 = .ok (.iload_n 2, 1) := by decide +kernel
theorem dX7_fits_16 : decode cX7_fits 16 = .ok (.iaload, 1) := by decide +kernel
theorem dX7_fits_17 : decode cX7_fits 17 = .ok (.invokevirtual 40, 3) := by decide +kernel
theorem dX7_fits_20 : decode cX7_fits 20 = .ok (.aload_n 0, 1) := by decide +kernel
theorem dX7_fits_21 : decode cX7_fits 21 = .ok (.getfield 15, 3) := by decide +kernel
theorem dX7_fits_24 : decode cX7_fits 24 = .ok (.iload_n 2, 1) := by decide +kernel
theorem dX7_fits_25 : decode cX7_fits 25 = .ok (.iaload, 1) := by decide +kernel
theorem dX7_fits_26 : decode cX7_fits 26 = .ok (.if_icmp .eq 5, 3) := by decide +kernel
theorem dX7_fits_29 : decode cX7_fits 29 = .ok (.iconst 0, 1) := by decide +kernel
theorem dX7_fits_30 : decode cX7_fits 30 = .ok (.ireturn, 1) := by decide +kernel
theorem dX7_fits_31 : decode cX7_fits 31 = .ok (.iinc 2 1, 3) := by decide +kernel
theorem dX7_fits_34 : decode cX7_fits 34 = .ok (.goto (-32), 3) := by decide +kernel
theorem dX7_fits_37 : decode cX7_fits 37 = .ok (.iconst 1, 1) := by decide +kernel
theorem dX7_fits_38 : decode cX7_fits 38 = .ok (.ireturn, 1) := by decide +kernel
def X7_fits_p2b (sh : Shp) (v0 : Nat) (v1 : Nat) (Q : Int32 → Mem → Prop) (K2 : Int32 → Mem → Prop) (v2 : Int32) (m : Mem) : Prop :=
  Ob sh v0 7 ∧ (if (m.1 v0 0) ≤ v2 then (Q (1 : Int32) m) else (∃ b2 : Nat, m.2.2 v0 1 = some b2 ∧ (Ix sh b2 100 v2 ∧ (Ob sh v1 10 ∧ wp_X10_placeBy sh v1 (m.1 b2 v2.toNatClampNeg) (fun r5 m6 => ∃ b8 : Nat, m6.2.2 v0 2 = some b8 ∧ (Ix sh b8 100 v2 ∧ (if r5 = (m6.1 b8 v2.toNatClampNeg) then (K2 (v2 + (1 : Int32)) m6) else (Q (0 : Int32) m6)))) m))))
def X7_fits_p2n (sh : Shp) (v0 : Nat) (v1 : Nat) (Q : Int32 → Mem → Prop) : Nat → Int32 → Mem → Prop
  | 0 => fun _ _ => False
  | n + 1 => X7_fits_p2b sh v0 v1 Q (X7_fits_p2n sh v0 v1 Q n)
def X7_fits_p2 (sh : Shp) (v0 : Nat) (v1 : Nat) (Q : Int32 → Mem → Prop) (v2 : Int32) (m : Mem) : Prop := ∃ n, X7_fits_p2n sh v0 v1 Q n v2 m
def wp_X7_fits (sh : Shp) (v0 : Nat) (v1 : Nat) (Q : Int32 → Mem → Prop) (m : Mem) : Prop :=
  X7_fits_p2 sh v0 v1 Q (0 : Int32) m
abbrev M_X7_fits : Mi := (cX7_fits, 3, RX7, (Option.some FieldType.boolean), "fits", 2, 81, 0, 0)
set_option maxHeartbeats 4000000 in
set_option maxRecDepth 100000 in
theorem v_X7_fits_p2b {G : Gl} {F : Fr} {sh : Shp} {v0 : Nat} {v1 : Nat} {v2 : Int32} {Q : Int32 → Mem → Prop} {K2 : Int32 → Mem → Prop} {m : Mem} (hK2 : ∀ (x2 : Int32) (m : Mem), K2 x2 m → V G F M_X7_fits sh 0 0 (Zi G F sh Q) 2 [(0, .ref (G.1 + v0)), (1, .ref (G.1 + v1)), (2, .int x2)] [] m) (h : X7_fits_p2b sh v0 v1 Q K2 v2 m) : V G F M_X7_fits sh 0 0 (Zi G F sh Q) 2 [(0, .ref (G.1 + v0)), (1, .ref (G.1 + v1)), (2, .int v2)] [] m := by
  unfold X7_fits_p2b at h
  refine v_iload_n 2 2 dX7_fits_2 rfl rfl ?_
  refine v_aload_n 0 0 dX7_fits_3 rfl rfl ?_
  obtain ⟨o1, h⟩ := h
  refine v_gI 7 0 dX7_fits_4 fg_RX7_28 o1 ?_
  refine v_icmp_ge 37 dX7_fits_7 (by decide) (fun hc => ?_) (fun hc => ?_)
  · replace h := Eq.mp (if_pos hc) h
    refine v_iconst (1 : Int32) dX7_fits_37 (by decide) ?_
    exact v_iret dX7_fits_38 rfl (by decide) h
  · replace h := Eq.mp (if_neg hc) h
    refine v_aload_n 1 1 dX7_fits_10 rfl rfl ?_
    refine v_aload_n 0 0 dX7_fits_11 rfl rfl ?_
    obtain ⟨b2, e3, h⟩ := h
    refine v_gR 7 1 dX7_fits_12 fg_RX7_9 o1 e3 ?_
    refine v_iload_n 2 2 dX7_fits_15 rfl rfl ?_
    obtain ⟨i4, h⟩ := h
    refine v_iald dX7_fits_16 i4 ?_
    obtain ⟨o7, h⟩ := h
    refine v_cVi [.int _] mv_X10_placeBy ml_RX7_40 ⟨_, _, rfl⟩ o7 rfl rfl (Nat.le_of_ble_eq_true rfl) (Nat.le_of_ble_eq_true rfl) (Nat.le_of_ble_eq_true rfl) (Nat.zero_le _) (Nat.zero_le _) dX7_fits_17 (c_X10_placeBy h) (fun r5 m6 h => ?_)
    refine v_aload_n 0 0 dX7_fits_20 rfl rfl ?_
    obtain ⟨b8, e9, h⟩ := h
    refine v_gR 7 2 dX7_fits_21 fg_RX7_15 o1 e9 ?_
    refine v_iload_n 2 2 dX7_fits_24 rfl rfl ?_
    obtain ⟨i10, h⟩ := h
    refine v_iald dX7_fits_25 i10 ?_
    refine v_icmp_eq 31 dX7_fits_26 (by decide) (fun hc => ?_) (fun hc => ?_)
    · replace h := Eq.mp (if_pos hc) h
      refine v_iinc (ls' := [(2, .int _), (0, .ref _), (1, .ref _)]) 2 2 dX7_fits_31 rfl (congrArg (HAdd.hAdd _) (by decide : Int32.ofInt (1) = (1 : Int32))) (Nat.le_of_ble_eq_true rfl) rfl ?_
      refine v_goto 2 dX7_fits_34 (by decide) ?_
      refine v_sub [1, 2, 0] rfl ?_
      exact hK2 _ _ h
    · replace h := Eq.mp (if_neg hc) h
      refine v_iconst (0 : Int32) dX7_fits_29 (by decide) ?_
      exact v_iret dX7_fits_30 rfl (by decide) h
set_option maxHeartbeats 4000000 in
set_option maxRecDepth 100000 in
theorem v_X7_fits_p2 {G : Gl} {F : Fr} {sh : Shp} {v0 : Nat} {v1 : Nat} {v2 : Int32} {Q : Int32 → Mem → Prop} {m : Mem} (h : X7_fits_p2 sh v0 v1 Q v2 m) : V G F M_X7_fits sh 0 0 (Zi G F sh Q) 2 [(0, .ref (G.1 + v0)), (1, .ref (G.1 + v1)), (2, .int v2)] [] m := by
  obtain ⟨n, h⟩ := h
  induction n generalizing v2 m with
  | zero => exact h.elim
  | succ n ih => exact v_X7_fits_p2b (fun _ _ h => ih h) h
set_option maxHeartbeats 4000000 in
set_option maxRecDepth 100000 in
theorem c_X7_fits {l : Launch} {G : Gl} {sh : Shp} {v0 : Nat} {v1 : Nat} {Q : Int32 → Mem → Prop} {m : Mem} (h : wp_X7_fits sh v0 v1 Q m) : Cni l G yX7_fits cX7_fits 3 (Option.some FieldType.boolean) 2 81 sh [.ref (G.1 + v0), .ref (G.1 + v1)] m Q := by
  refine con_i (ls := [(0, .ref (G.1 + v0)), (1, .ref (G.1 + v1))]) (by decide +kernel) rfl (Nat.le_of_ble_eq_true rfl) (fun F => ?_)
  show V G F M_X7_fits sh 0 0 (Zi G F sh Q) 0 [(0, .ref (G.1 + v0)), (1, .ref (G.1 + v1))] [] m
  unfold wp_X7_fits at h
  refine v_iconst (0 : Int32) dX7_fits_0 (by decide) ?_
  refine v_istore_n (ls' := [(2, .int _), (0, .ref _), (1, .ref _)]) 2 dX7_fits_1 rfl (Nat.le_of_ble_eq_true rfl) rfl ?_
  refine v_sub [1, 2, 0] rfl ?_
  exact v_X7_fits_p2 h
/-! CalledRiver$Sight.isSight -/
theorem dX7_isSight_0 : decode cX7_isSight 0 = .ok (.aload_n 0, 1) := by decide +kernel
theorem dX7_isSight_1 : decode cX7_isSight 1 = .ok (.getfield 22, 3) := by decide +kernel
theorem dX7_isSight_4 : decode cX7_isSight 4 = .ok (.iconst 3, 1) := by decide +kernel
theorem dX7_isSight_5 : decode cX7_isSight 5 = .ok (.idiv, 1) := by decide +kernel
theorem dX7_isSight_6 : decode cX7_isSight 6 = .ok (.istore_n 2, 1) := by decide +kernel
theorem dX7_isSight_7 : decode cX7_isSight 7 = .ok (.iload_n 2, 1) := by decide +kernel
theorem dX7_isSight_8 : decode cX7_isSight 8 = .ok (.iconst 1, 1) := by decide +kernel
theorem dX7_isSight_9 : decode cX7_isSight 9 = .ok (.if_icmp .lt 18, 3) := by decide +kernel
theorem dX7_isSight_12 : decode cX7_isSight 12 = .ok (.iload_n 2, 1) := by decide +kernel
theorem dX7_isSight_13 : decode cX7_isSight 13 = .ok (.bipush 16, 2) := by decide +kernel
theorem dX7_isSight_15 : decode cX7_isSight 15 = .ok (.if_icmp .gt 12, 3) := by decide +kernel
theorem dX7_isSight_18 : decode cX7_isSight 18 = .ok (.aload_n 0, 1) := by decide +kernel
theorem dX7_isSight_19 : decode cX7_isSight 19 = .ok (.getfield 22, 3) := by decide +kernel
theorem dX7_isSight_22 : decode cX7_isSight 22 = .ok (.iconst 3, 1) := by decide +kernel
theorem dX7_isSight_23 : decode cX7_isSight 23 = .ok (.irem, 1) := by decide +kernel
theorem dX7_isSight_24 : decode cX7_isSight 24 = .ok (.ifCond .eq 5, 3) := by decide +kernel
theorem dX7_isSight_27 : decode cX7_isSight 27 = .ok (.iconst 0, 1) := by decide +kernel
theorem dX7_isSight_28 : decode cX7_isSight 28 = .ok (.ireturn, 1) := by decide +kernel
theorem dX7_isSight_29 : decode cX7_isSight 29 = .ok (.iconst 0, 1) := by decide +kernel
theorem dX7_isSight_30 : decode cX7_isSight 30 = .ok (.istore_n 3, 1) := by decide +kernel
theorem dX7_isSight_31 : decode cX7_isSight 31 = .ok (.iload_n 3, 1) := by decide +kernel
theorem dX7_isSight_32 : decode cX7_isSight 32 = .ok (.aload_n 0, 1) := by decide +kernel
theorem dX7_isSight_33 : decode cX7_isSight 33 = .ok (.getfield 22, 3) := by decide +kernel
theorem dX7_isSight_36 : decode cX7_isSight 36 = .ok (.if_icmp .ge 58, 3) := by decide +kernel
theorem dX7_isSight_39 : decode cX7_isSight 39 = .ok (.aload_n 1, 1) := by decide +kernel
theorem dX7_isSight_40 : decode cX7_isSight 40 = .ok (.aload_n 0, 1) := by decide +kernel
theorem dX7_isSight_41 : decode cX7_isSight 41 = .ok (.getfield 31, 3) := by decide +kernel
theorem dX7_isSight_44 : decode cX7_isSight 44 = .ok (.iload_n 3, 1) := by decide +kernel
theorem dX7_isSight_45 : decode cX7_isSight 45 = .ok (.iconst 1, 1) := by decide +kernel
theorem dX7_isSight_46 : decode cX7_isSight 46 = .ok (.iadd, 1) := by decide +kernel
theorem dX7_isSight_47 : decode cX7_isSight 47 = .ok (.iaload, 1) := by decide +kernel
theorem dX7_isSight_48 : decode cX7_isSight 48 = .ok (.aload_n 0, 1) := by decide +kernel
theorem dX7_isSight_49 : decode cX7_isSight 49 = .ok (.getfield 31, 3) := by decide +kernel
theorem dX7_isSight_52 : decode cX7_isSight 52 = .ok (.iload_n 3, 1) := by decide +kernel
theorem dX7_isSight_53 : decode cX7_isSight 53 = .ok (.iconst 2, 1) := by decide +kernel
theorem dX7_isSight_54 : decode cX7_isSight 54 = .ok (.iadd, 1) := by decide +kernel
theorem dX7_isSight_55 : decode cX7_isSight 55 = .ok (.iaload, 1) := by decide +kernel
theorem dX7_isSight_56 : decode cX7_isSight 56 = .ok (.invokevirtual 34, 3) := by decide +kernel
theorem dX7_isSight_59 : decode cX7_isSight 59 = .ok (.iconst (-1), 1) := by decide +kernel
theorem dX7_isSight_60 : decode cX7_isSight 60 = .ok (.if_icmp .eq 7, 3) := by decide +kernel
theorem dX7_isSight_63 : decode cX7_isSight 63 = .ok (.iconst 1, 1) := by decide +kernel
theorem dX7_isSight_64 : decode cX7_isSight 64 = .ok (.goto 4, 3) := by decide +kernel
theorem dX7_isSight_67 : decode cX7_isSight 67 = .ok (.iconst 0, 1) := by decide +kernel
theorem dX7_isSight_68 : decode cX7_isSight 68 = .ok (.istore 4, 2) := by decide +kernel
theorem dX7_isSight_70 : decode cX7_isSight 70 = .ok (.aload_n 0, 1) := by decide +kernel
theorem dX7_isSight_71 : decode cX7_isSight 71 = .ok (.getfield 31, 3) := by decide +kernel
theorem dX7_isSight_74 : decode cX7_isSight 74 = .ok (.iload_n 3, 1) := by decide +kernel
theorem dX7_isSight_75 : decode cX7_isSight 75 = .ok (.iaload, 1) := by decide +kernel
theorem dX7_isSight_76 : decode cX7_isSight 76 = .ok (.bipush 40, 2) := by decide +kernel
theorem dX7_isSight_78 : decode cX7_isSight 78 = .ok (.if_icmp .gt 8, 3) := by decide +kernel
theorem dX7_isSight_81 : decode cX7_isSight 81 = .ok (.iload 4, 2) := by decide +kernel
theorem dX7_isSight_83 : decode cX7_isSight 83 = .ok (.ifCond .ne 5, 3) := by decide +kernel
theorem dX7_isSight_86 : decode cX7_isSight 86 = .ok (.iconst 0, 1) := by decide +kernel
theorem dX7_isSight_87 : decode cX7_isSight 87 = .ok (.ireturn, 1) := by decide +kernel
theorem dX7_isSight_88 : decode cX7_isSight 88 = .ok (.iinc 3 3, 3) := by decide +kernel
theorem dX7_isSight_91 : decode cX7_isSight 91 = .ok (.goto (-60), 3) := by decide +kernel
theorem dX7_isSight_94 : decode cX7_isSight 94 = .ok (.iconst 1, 1) := by decide +kernel
theorem dX7_isSight_95 : decode cX7_isSight 95 = .ok (.ireturn, 1) := by decide +kernel
def X7_isSight_p68 (sh : Shp) (v0 : Nat) (v1 : Nat) (v3 : Int32) (s0 : Int32) (Q : Int32 → Mem → Prop) (K31 : Int32 → Mem → Prop) (m : Mem) : Prop :=
  Ob sh v0 9 ∧ ∃ b11 : Nat, m.2.2 v0 0 = some b11 ∧ (Ix sh b11 100 v3 ∧ (if (40 : Int32) < (m.1 b11 v3.toNatClampNeg) then (Q (0 : Int32) m) else (if s0 = 0 then (Q (0 : Int32) m) else (K31 (v3 + (3 : Int32)) m))))
def X7_isSight_p31b (sh : Shp) (v0 : Nat) (v1 : Nat) (Q : Int32 → Mem → Prop) (K31 : Int32 → Mem → Prop) (v3 : Int32) (m : Mem) : Prop :=
  Ob sh v0 9 ∧ (if (m.1 v0 1) ≤ v3 then (Q (1 : Int32) m) else (∃ b3 : Nat, m.2.2 v0 0 = some b3 ∧ (Ix sh b3 100 (v3 + (1 : Int32)) ∧ (Ix sh b3 100 (v3 + (2 : Int32)) ∧ (Ob sh v1 5 ∧ wp_X5_placeOf sh v1 (m.1 b3 (v3 + (1 : Int32)).toNatClampNeg) (m.1 b3 (v3 + (2 : Int32)).toNatClampNeg) (fun r7 m8 => if r7 = (-1 : Int32) then (X7_isSight_p68 sh v0 v1 v3 (0 : Int32) Q K31 m8) else (X7_isSight_p68 sh v0 v1 v3 (1 : Int32) Q K31 m8)) m)))))
def X7_isSight_p31n (sh : Shp) (v0 : Nat) (v1 : Nat) (Q : Int32 → Mem → Prop) : Nat → Int32 → Mem → Prop
  | 0 => fun _ _ => False
  | n + 1 => X7_isSight_p31b sh v0 v1 Q (X7_isSight_p31n sh v0 v1 Q n)
def X7_isSight_p31 (sh : Shp) (v0 : Nat) (v1 : Nat) (Q : Int32 → Mem → Prop) (v3 : Int32) (m : Mem) : Prop := ∃ n, X7_isSight_p31n sh v0 v1 Q n v3 m
def wp_X7_isSight (sh : Shp) (v0 : Nat) (v1 : Nat) (Q : Int32 → Mem → Prop) (m : Mem) : Prop :=
  Ob sh v0 9 ∧ (if ((m.1 v0 1) / (3 : Int32)) < (1 : Int32) then (Q (0 : Int32) m) else (if (16 : Int32) < ((m.1 v0 1) / (3 : Int32)) then (Q (0 : Int32) m) else (if ((m.1 v0 1) - (m.1 v0 1) / (3 : Int32) * (3 : Int32)) = 0 then (X7_isSight_p31 sh v0 v1 Q (0 : Int32) m) else (Q (0 : Int32) m))))
abbrev M_X7_isSight : Mi := (cX7_isSight, 5, RX7, (Option.some FieldType.boolean), "isSight", 2, 83, 0, 0)
set_option maxHeartbeats 4000000 in
set_option maxRecDepth 100000 in
theorem v_X7_isSight_p68 {G : Gl} {F : Fr} {sh : Shp} {v0 : Nat} {v1 : Nat} {v3 : Int32} {s0 : Int32} {Q : Int32 → Mem → Prop} {K31 : Int32 → Mem → Prop} {m : Mem} (hK31 : ∀ (x3 : Int32) (m : Mem), K31 x3 m → V G F M_X7_isSight sh 0 0 (Zi G F sh Q) 31 [(0, .ref (G.1 + v0)), (1, .ref (G.1 + v1)), (3, .int x3)] [] m) (h : X7_isSight_p68 sh v0 v1 v3 s0 Q K31 m) : V G F M_X7_isSight sh 0 0 (Zi G F sh Q) 68 [(0, .ref (G.1 + v0)), (1, .ref (G.1 + v1)), (3, .int v3)] [.int s0] m := by
  unfold X7_isSight_p68 at h
  refine v_istore (ls' := [(4, .int _), (0, .ref _), (1, .ref _), (3, .int _)]) 4 dX7_isSight_68 (Nat.le_of_ble_eq_true rfl) rfl ?_
  refine v_aload_n 0 1 dX7_isSight_70 rfl rfl ?_
  obtain ⟨o10, h⟩ := h
  obtain ⟨b11, e12, h⟩ := h
  refine v_gR 9 0 dX7_isSight_71 fg_RX7_31 o10 e12 ?_
  refine v_iload_n 3 3 dX7_isSight_74 rfl rfl ?_
  obtain ⟨i13, h⟩ := h
  refine v_iald dX7_isSight_75 i13 ?_
  refine v_bipush (40 : Int32) dX7_isSight_76 (by decide) ?_
  refine v_icmp_gt 86 dX7_isSight_78 (by decide) (fun hc => ?_) (fun hc => ?_)
  · replace h := Eq.mp (if_pos hc) h
    refine v_iconst (0 : Int32) dX7_isSight_86 (by decide) ?_
    exact v_iret dX7_isSight_87 rfl (by decide) h
  · replace h := Eq.mp (if_neg hc) h
    refine v_iload 4 0 dX7_isSight_81 rfl ?_
    refine v_if_ne 88 dX7_isSight_83 (by decide) (fun hc => ?_) (fun hc => ?_)
    · replace h := Eq.mp (if_neg hc) h
      refine v_iinc (ls' := [(3, .int _), (4, .int _), (0, .ref _), (1, .ref _)]) 3 3 dX7_isSight_88 rfl (congrArg (HAdd.hAdd _) (by decide : Int32.ofInt (3) = (3 : Int32))) (Nat.le_of_ble_eq_true rfl) rfl ?_
      refine v_goto 31 dX7_isSight_91 (by decide) ?_
      refine v_sub [2, 3, 0] rfl ?_
      exact hK31 _ _ h
    · replace h := Eq.mp (if_pos hc) h
      refine v_iconst (0 : Int32) dX7_isSight_86 (by decide) ?_
      exact v_iret dX7_isSight_87 rfl (by decide) h
set_option maxHeartbeats 4000000 in
set_option maxRecDepth 100000 in
theorem v_X7_isSight_p31b {G : Gl} {F : Fr} {sh : Shp} {v0 : Nat} {v1 : Nat} {v3 : Int32} {Q : Int32 → Mem → Prop} {K31 : Int32 → Mem → Prop} {m : Mem} (hK31 : ∀ (x3 : Int32) (m : Mem), K31 x3 m → V G F M_X7_isSight sh 0 0 (Zi G F sh Q) 31 [(0, .ref (G.1 + v0)), (1, .ref (G.1 + v1)), (3, .int x3)] [] m) (h : X7_isSight_p31b sh v0 v1 Q K31 v3 m) : V G F M_X7_isSight sh 0 0 (Zi G F sh Q) 31 [(0, .ref (G.1 + v0)), (1, .ref (G.1 + v1)), (3, .int v3)] [] m := by
  unfold X7_isSight_p31b at h
  refine v_iload_n 3 2 dX7_isSight_31 rfl rfl ?_
  refine v_aload_n 0 0 dX7_isSight_32 rfl rfl ?_
  obtain ⟨o2, h⟩ := h
  refine v_gI 9 1 dX7_isSight_33 fg_RX7_22 o2 ?_
  refine v_icmp_ge 94 dX7_isSight_36 (by decide) (fun hc => ?_) (fun hc => ?_)
  · replace h := Eq.mp (if_pos hc) h
    refine v_iconst (1 : Int32) dX7_isSight_94 (by decide) ?_
    exact v_iret dX7_isSight_95 rfl (by decide) h
  · replace h := Eq.mp (if_neg hc) h
    refine v_aload_n 1 1 dX7_isSight_39 rfl rfl ?_
    refine v_aload_n 0 0 dX7_isSight_40 rfl rfl ?_
    obtain ⟨b3, e4, h⟩ := h
    refine v_gR 9 0 dX7_isSight_41 fg_RX7_31 o2 e4 ?_
    refine v_iload_n 3 2 dX7_isSight_44 rfl rfl ?_
    refine v_iconst (1 : Int32) dX7_isSight_45 (by decide) ?_
    refine v_iadd dX7_isSight_46 ?_
    obtain ⟨i5, h⟩ := h
    refine v_iald dX7_isSight_47 i5 ?_
    refine v_aload_n 0 0 dX7_isSight_48 rfl rfl ?_
    refine v_gR 9 0 dX7_isSight_49 fg_RX7_31 o2 e4 ?_
    refine v_iload_n 3 2 dX7_isSight_52 rfl rfl ?_
    refine v_iconst (2 : Int32) dX7_isSight_53 (by decide) ?_
    refine v_iadd dX7_isSight_54 ?_
    obtain ⟨i6, h⟩ := h
    refine v_iald dX7_isSight_55 i6 ?_
    obtain ⟨o9, h⟩ := h
    refine v_cVi [.int _, .int _] mv_X5_placeOf ml_RX7_34 ⟨_, _, rfl⟩ o9 rfl rfl (Nat.le_of_ble_eq_true rfl) (Nat.le_of_ble_eq_true rfl) (Nat.le_of_ble_eq_true rfl) (Nat.zero_le _) (Nat.zero_le _) dX7_isSight_56 (c_X5_placeOf h) (fun r7 m8 h => ?_)
    refine v_iconst (-1 : Int32) dX7_isSight_59 (by decide) ?_
    refine v_icmp_eq 67 dX7_isSight_60 (by decide) (fun hc => ?_) (fun hc => ?_)
    · replace h := Eq.mp (if_pos hc) h
      refine v_iconst (0 : Int32) dX7_isSight_67 (by decide) ?_
      refine v_sub [0, 1, 2] rfl ?_
      exact v_X7_isSight_p68 hK31 h
    · replace h := Eq.mp (if_neg hc) h
      refine v_iconst (1 : Int32) dX7_isSight_63 (by decide) ?_
      refine v_goto 68 dX7_isSight_64 (by decide) ?_
      refine v_sub [0, 1, 2] rfl ?_
      exact v_X7_isSight_p68 hK31 h
set_option maxHeartbeats 4000000 in
set_option maxRecDepth 100000 in
theorem v_X7_isSight_p31 {G : Gl} {F : Fr} {sh : Shp} {v0 : Nat} {v1 : Nat} {v3 : Int32} {Q : Int32 → Mem → Prop} {m : Mem} (h : X7_isSight_p31 sh v0 v1 Q v3 m) : V G F M_X7_isSight sh 0 0 (Zi G F sh Q) 31 [(0, .ref (G.1 + v0)), (1, .ref (G.1 + v1)), (3, .int v3)] [] m := by
  obtain ⟨n, h⟩ := h
  induction n generalizing v3 m with
  | zero => exact h.elim
  | succ n ih => exact v_X7_isSight_p31b (fun _ _ h => ih h) h
set_option maxHeartbeats 4000000 in
set_option maxRecDepth 100000 in
theorem c_X7_isSight {l : Launch} {G : Gl} {sh : Shp} {v0 : Nat} {v1 : Nat} {Q : Int32 → Mem → Prop} {m : Mem} (h : wp_X7_isSight sh v0 v1 Q m) : Cni l G yX7_isSight cX7_isSight 5 (Option.some FieldType.boolean) 2 83 sh [.ref (G.1 + v0), .ref (G.1 + v1)] m Q := by
  refine con_i (ls := [(0, .ref (G.1 + v0)), (1, .ref (G.1 + v1))]) (by decide +kernel) rfl (Nat.le_of_ble_eq_true rfl) (fun F => ?_)
  show V G F M_X7_isSight sh 0 0 (Zi G F sh Q) 0 [(0, .ref (G.1 + v0)), (1, .ref (G.1 + v1))] [] m
  unfold wp_X7_isSight at h
  refine v_aload_n 0 0 dX7_isSight_0 rfl rfl ?_
  obtain ⟨o1, h⟩ := h
  refine v_gI 9 1 dX7_isSight_1 fg_RX7_22 o1 ?_
  refine v_iconst (3 : Int32) dX7_isSight_4 (by decide) ?_
  refine v_idiv dX7_isSight_5 (by decide) ?_
  refine v_istore_n (ls' := [(2, .int _), (0, .ref _), (1, .ref _)]) 2 dX7_isSight_6 rfl (Nat.le_of_ble_eq_true rfl) rfl ?_
  refine v_iload_n 2 0 dX7_isSight_7 rfl rfl ?_
  refine v_iconst (1 : Int32) dX7_isSight_8 (by decide) ?_
  refine v_icmp_lt 27 dX7_isSight_9 (by decide) (fun hc => ?_) (fun hc => ?_)
  · replace h := Eq.mp (if_pos hc) h
    refine v_iconst (0 : Int32) dX7_isSight_27 (by decide) ?_
    exact v_iret dX7_isSight_28 rfl (by decide) h
  · replace h := Eq.mp (if_neg hc) h
    refine v_iload_n 2 0 dX7_isSight_12 rfl rfl ?_
    refine v_bipush (16 : Int32) dX7_isSight_13 (by decide) ?_
    refine v_icmp_gt 27 dX7_isSight_15 (by decide) (fun hc => ?_) (fun hc => ?_)
    · replace h := Eq.mp (if_pos hc) h
      refine v_iconst (0 : Int32) dX7_isSight_27 (by decide) ?_
      exact v_iret dX7_isSight_28 rfl (by decide) h
    · replace h := Eq.mp (if_neg hc) h
      refine v_aload_n 0 1 dX7_isSight_18 rfl rfl ?_
      refine v_gI 9 1 dX7_isSight_19 fg_RX7_22 o1 ?_
      refine v_iconst (3 : Int32) dX7_isSight_22 (by decide) ?_
      refine v_irem dX7_isSight_23 (by decide) ?_
      refine v_if_eq 29 dX7_isSight_24 (by decide) (fun hc => ?_) (fun hc => ?_)
      · replace h := Eq.mp (if_pos hc) h
        refine v_iconst (0 : Int32) dX7_isSight_29 (by decide) ?_
        refine v_istore_n (ls' := [(3, .int _), (2, .int _), (0, .ref _), (1, .ref _)]) 3 dX7_isSight_30 rfl (Nat.le_of_ble_eq_true rfl) rfl ?_
        refine v_sub [2, 3, 0] rfl ?_
        exact v_X7_isSight_p31 h
      · replace h := Eq.mp (if_neg hc) h
        refine v_iconst (0 : Int32) dX7_isSight_27 (by decide) ?_
        exact v_iret dX7_isSight_28 rfl (by decide) h
/-! CalledRiver$Sight.take -/
theorem dX7_take_0 : decode cX7_take 0 = .ok (.aload_n 1, 1) := by decide +kernel
theorem dX7_take_1 : decode cX7_take 1 = .ok (.aload_n 2, 1) := by decide +kernel
theorem dX7_take_2 : decode cX7_take 2 = .ok (.invokestatic 18, 3) := by decide +kernel
theorem dX7_take_5 : decode cX7_take 5 = .ok (.ifCond .ne 5, 3) := by decide +kernel
theorem dX7_take_8 : decode cX7_take 8 = .ok (.iconst 0, 1) := by decide +kernel
theorem dX7_take_9 : decode cX7_take 9 = .ok (.ireturn, 1) := by decide +kernel
theorem dX7_take_10 : decode cX7_take 10 = .ok (.aload_n 0, 1) := by decide +kernel
theorem dX7_take_11 : decode cX7_take 11 = .ok (.aload_n 1, 1) := by decide +kernel
theorem dX7_take_12 : decode cX7_take 12 = .ok (.getfield 22, 3) := by decide +kernel
theorem dX7_take_15 : decode cX7_take 15 = .ok (.iconst 3, 1) := by decide +kernel
theorem dX7_take_16 : decode cX7_take 16 = .ok (.idiv, 1) := by decide +kernel
theorem dX7_take_17 : decode cX7_take 17 = .ok (.putfield 28, 3) := by decide +kernel
theorem dX7_take_20 : decode cX7_take 20 = .ok (.iconst 0, 1) := by decide +kernel
theorem dX7_take_21 : decode cX7_take 21 = .ok (.istore_n 3, 1) := by decide +kernel
theorem dX7_take_22 : decode cX7_take 22 = .ok (.iload_n 3, 1) := by decide +kernel
theorem dX7_take_23 : decode cX7_take 23 = .ok (.aload_n 0, 1) := by decide +kernel
theorem dX7_take_24 : decode cX7_take 24 = .ok (.getfield 28, 3) := by decide +kernel
theorem dX7_take_27 : decode cX7_take 27 = .ok (.if_icmp .ge 53, 3) := by decide +kernel
theorem dX7_take_30 : decode cX7_take 30 = .ok (.aload_n 0, 1) := by decide +kernel
theorem dX7_take_31 : decode cX7_take 31 = .ok (.getfield 9, 3) := by decide +kernel
theorem dX7_take_34 : decode cX7_take 34 = .ok (.iload_n 3, 1) := by decide +kernel
theorem dX7_take_35 : decode cX7_take 35 = .ok (.aload_n 1, 1) := by decide +kernel
theorem dX7_take_36 : decode cX7_take 36 = .ok (.getfield 31, 3) := by decide +kernel
theorem dX7_take_39 : decode cX7_take 39 = .ok (.iconst 3, 1) := by decide +kernel
theorem dX7_take_40 : decode cX7_take 40 = .ok (.iload_n 3, 1) := by decide +kernel
theorem dX7_take_41 : decode cX7_take 41 = .ok (.imul, 1) := by decide +kernel
theorem dX7_take_42 : decode cX7_take 42 = .ok (.iaload, 1) := by decide +kernel
theorem dX7_take_43 : decode cX7_take 43 = .ok (.iastore, 1) := by decide +kernel
theorem dX7_take_44 : decode cX7_take 44 = .ok (.aload_n 0, 1) := by decide +kernel
theorem dX7_take_45 : decode cX7_take 45 = .ok (.getfield 15, 3) := by decide +kernel
theorem dX7_take_48 : decode cX7_take 48 = .ok (.iload_n 3, 1) := by decide +kernel
theorem dX7_take_49 : decode cX7_take 49 = .ok (.aload_n 2, 1) := by decide +kernel
theorem dX7_take_50 : decode cX7_take 50 = .ok (.aload_n 1, 1) := by decide +kernel
theorem dX7_take_51 : decode cX7_take 51 = .ok (.getfield 31, 3) := by decide +kernel
theorem dX7_take_54 : decode cX7_take 54 = .ok (.iconst 3, 1) := by decide +kernel
theorem dX7_take_55 : decode cX7_take 55 = .ok (.iload_n 3, 1) := by decide +kernel
theorem dX7_take_56 : decode cX7_take 56 = .ok (.imul, 1) := by decide +kernel
theorem dX7_take_57 : decode cX7_take 57 = .ok (.iconst 1, 1) := by decide +kernel
theorem dX7_take_58 : decode cX7_take 58 = .ok (.iadd, 1) := by decide +kernel
theorem dX7_take_59 : decode cX7_take 59 = .ok (.iaload, 1) := by decide +kernel
theorem dX7_take_60 : decode cX7_take 60 = .ok (.aload_n 1, 1) := by decide +kernel
theorem dX7_take_61 : decode cX7_take 61 = .ok (.getfield 31, 3) := by decide +kernel
theorem dX7_take_64 : decode cX7_take 64 = .ok (.iconst 3, 1) := by decide +kernel
theorem dX7_take_65 : decode cX7_take 65 = .ok (.iload_n 3, 1) := by decide +kernel
theorem dX7_take_66 : decode cX7_take 66 = .ok (.imul, 1) := by decide +kernel
theorem dX7_take_67 : decode cX7_take 67 = .ok (.iconst 2, 1) := by decide +kernel
theorem dX7_take_68 : decode cX7_take 68 = .ok (.iadd, 1) := by decide +kernel
theorem dX7_take_69 : decode cX7_take 69 = .ok (.iaload, 1) := by decide +kernel
theorem dX7_take_70 : decode cX7_take 70 = .ok (.invokevirtual 34, 3) := by decide +kernel
theorem dX7_take_73 : decode cX7_take 73 = .ok (.iastore, 1) := by decide +kernel
theorem dX7_take_74 : decode cX7_take 74 = .ok (.iinc 3 1, 3) := by decide +kernel
theorem dX7_take_77 : decode cX7_take 77 = .ok (.goto (-55), 3) := by decide +kernel
theorem dX7_take_80 : decode cX7_take 80 = .ok (.iconst 1, 1) := by decide +kernel
theorem dX7_take_81 : decode cX7_take 81 = .ok (.ireturn, 1) := by decide +kernel
def X7_take_p22b (sh : Shp) (v0 : Nat) (v1 : Nat) (v2 : Nat) (Q : Int32 → Mem → Prop) (K22 : Int32 → Mem → Prop) (v3 : Int32) (m : Mem) : Prop :=
  Ob sh v0 7 ∧ (if (m.1 v0 0) ≤ v3 then (Q (1 : Int32) m) else (∃ b7 : Nat, m.2.2 v0 1 = some b7 ∧ (Ob sh v1 9 ∧ ∃ b10 : Nat, m.2.2 v1 0 = some b10 ∧ (Ix sh b10 100 ((3 : Int32) * v3) ∧ (Ix sh b7 100 v3 ∧ bnd (sI m b7 v3.toNatClampNeg (m.1 b10 ((3 : Int32) * v3).toNatClampNeg)) (fun m14 => ∃ b15 : Nat, m14.2.2 v0 2 = some b15 ∧ (Ix sh b10 100 (((3 : Int32) * v3) + (1 : Int32)) ∧ (Ix sh b10 100 (((3 : Int32) * v3) + (2 : Int32)) ∧ (Ob sh v2 5 ∧ wp_X5_placeOf sh v2 (m14.1 b10 (((3 : Int32) * v3) + (1 : Int32)).toNatClampNeg) (m14.1 b10 (((3 : Int32) * v3) + (2 : Int32)).toNatClampNeg) (fun r19 m20 => Ix sh b15 100 v3 ∧ bnd (sI m20 b15 v3.toNatClampNeg r19) (fun m23 => K22 (v3 + (1 : Int32)) m23)) m14)))))))))
def X7_take_p22n (sh : Shp) (v0 : Nat) (v1 : Nat) (v2 : Nat) (Q : Int32 → Mem → Prop) : Nat → Int32 → Mem → Prop
  | 0 => fun _ _ => False
  | n + 1 => X7_take_p22b sh v0 v1 v2 Q (X7_take_p22n sh v0 v1 v2 Q n)
def X7_take_p22 (sh : Shp) (v0 : Nat) (v1 : Nat) (v2 : Nat) (Q : Int32 → Mem → Prop) (v3 : Int32) (m : Mem) : Prop := ∃ n, X7_take_p22n sh v0 v1 v2 Q n v3 m
def wp_X7_take (sh : Shp) (v0 : Nat) (v1 : Nat) (v2 : Nat) (Q : Int32 → Mem → Prop) (m : Mem) : Prop :=
  wp_X7_isSight sh v1 v2 (fun r1 m2 => if r1 = 0 then (Q (0 : Int32) m2) else (Ob sh v1 9 ∧ (Ob sh v0 7 ∧ bnd (sI m2 v0 0 ((m2.1 v1 1) / (3 : Int32))) (fun m5 => X7_take_p22 sh v0 v1 v2 Q (0 : Int32) m5)))) m
abbrev M_X7_take : Mi := (cX7_take, 4, RX7, (Option.some FieldType.boolean), "take", 3, 107, 0, 0)
set_option maxHeartbeats 4000000 in
set_option maxRecDepth 100000 in
theorem v_X7_take_p22b {G : Gl} {F : Fr} {sh : Shp} {v0 : Nat} {v1 : Nat} {v2 : Nat} {v3 : Int32} {Q : Int32 → Mem → Prop} {K22 : Int32 → Mem → Prop} {m : Mem} (hK22 : ∀ (x3 : Int32) (m : Mem), K22 x3 m → V G F M_X7_take sh 0 0 (Zi G F sh Q) 22 [(0, .ref (G.1 + v0)), (1, .ref (G.1 + v1)), (2, .ref (G.1 + v2)), (3, .int x3)] [] m) (h : X7_take_p22b sh v0 v1 v2 Q K22 v3 m) : V G F M_X7_take sh 0 0 (Zi G F sh Q) 22 [(0, .ref (G.1 + v0)), (1, .ref (G.1 + v1)), (2, .ref (G.1 + v2)), (3, .int v3)] [] m := by
  unfold X7_take_p22b at h
  refine v_iload_n 3 3 dX7_take_22 rfl rfl ?_
  refine v_aload_n 0 0 dX7_take_23 rfl rfl ?_
  obtain ⟨o6, h⟩ := h
  refine v_gI 7 0 dX7_take_24 fg_RX7_28 o6 ?_
  refine v_icmp_ge 80 dX7_take_27 (by decide) (fun hc => ?_) (fun hc => ?_)
  · replace h := Eq.mp (if_pos hc) h
    refine v_iconst (1 : Int32) dX7_take_80 (by decide) ?_
    exact v_iret dX7_take_81 rfl (by decide) h
  · replace h := Eq.mp (if_neg hc) h
    refine v_aload_n 0 0 dX7_take_30 rfl rfl ?_
    obtain ⟨b7, e8, h⟩ := h
    refine v_gR 7 1 dX7_take_31 fg_RX7_9 o6 e8 ?_
    refine v_iload_n 3 3 dX7_take_34 rfl rfl ?_
    refine v_aload_n 1 1 dX7_take_35 rfl rfl ?_
    obtain ⟨o9, h⟩ := h
    obtain ⟨b10, e11, h⟩ := h
    refine v_gR 9 0 dX7_take_36 fg_RX7_31 o9 e11 ?_
    refine v_iconst (3 : Int32) dX7_take_39 (by decide) ?_
    refine v_iload_n 3 3 dX7_take_40 rfl rfl ?_
    refine v_imul dX7_take_41 ?_
    obtain ⟨i12, h⟩ := h
    refine v_iald dX7_take_42 i12 ?_
    obtain ⟨i13, h⟩ := h
    refine v_iast dX7_take_43 i13 ?_
    replace h := bnd_e h
    refine v_aload_n 0 0 dX7_take_44 rfl rfl ?_
    obtain ⟨b15, e16, h⟩ := h
    refine v_gR 7 2 dX7_take_45 fg_RX7_15 o6 e16 ?_
    refine v_iload_n 3 3 dX7_take_48 rfl rfl ?_
    refine v_aload_n 2 2 dX7_take_49 rfl rfl ?_
    refine v_aload_n 1 1 dX7_take_50 rfl rfl ?_
    refine v_gR 9 0 dX7_take_51 fg_RX7_31 o9 e11 ?_
    refine v_iconst (3 : Int32) dX7_take_54 (by decide) ?_
    refine v_iload_n 3 3 dX7_take_55 rfl rfl ?_
    refine v_imul dX7_take_56 ?_
    refine v_iconst (1 : Int32) dX7_take_57 (by decide) ?_
    refine v_iadd dX7_take_58 ?_
    obtain ⟨i17, h⟩ := h
    refine v_iald dX7_take_59 i17 ?_
    refine v_aload_n 1 1 dX7_take_60 rfl rfl ?_
    refine v_gR 9 0 dX7_take_61 fg_RX7_31 o9 e11 ?_
    refine v_iconst (3 : Int32) dX7_take_64 (by decide) ?_
    refine v_iload_n 3 3 dX7_take_65 rfl rfl ?_
    refine v_imul dX7_take_66 ?_
    refine v_iconst (2 : Int32) dX7_take_67 (by decide) ?_
    refine v_iadd dX7_take_68 ?_
    obtain ⟨i18, h⟩ := h
    refine v_iald dX7_take_69 i18 ?_
    obtain ⟨o21, h⟩ := h
    refine v_cVi [.int _, .int _] mv_X5_placeOf ml_RX7_34 ⟨_, _, rfl⟩ o21 rfl rfl (Nat.le_of_ble_eq_true rfl) (Nat.le_of_ble_eq_true rfl) (Nat.le_of_ble_eq_true rfl) (Nat.zero_le _) (Nat.zero_le _) dX7_take_70 (c_X5_placeOf h) (fun r19 m20 h => ?_)
    obtain ⟨i22, h⟩ := h
    refine v_iast dX7_take_73 i22 ?_
    replace h := bnd_e h
    refine v_iinc (ls' := [(3, .int _), (0, .ref _), (1, .ref _), (2, .ref _)]) 3 3 dX7_take_74 rfl (congrArg (HAdd.hAdd _) (by decide : Int32.ofInt (1) = (1 : Int32))) (Nat.le_of_ble_eq_true rfl) rfl ?_
    refine v_goto 22 dX7_take_77 (by decide) ?_
    refine v_sub [1, 2, 3, 0] rfl ?_
    exact hK22 _ _ h
set_option maxHeartbeats 4000000 in
set_option maxRecDepth 100000 in
theorem v_X7_take_p22 {G : Gl} {F : Fr} {sh : Shp} {v0 : Nat} {v1 : Nat} {v2 : Nat} {v3 : Int32} {Q : Int32 → Mem → Prop} {m : Mem} (h : X7_take_p22 sh v0 v1 v2 Q v3 m) : V G F M_X7_take sh 0 0 (Zi G F sh Q) 22 [(0, .ref (G.1 + v0)), (1, .ref (G.1 + v1)), (2, .ref (G.1 + v2)), (3, .int v3)] [] m := by
  obtain ⟨n, h⟩ := h
  induction n generalizing v3 m with
  | zero => exact h.elim
  | succ n ih => exact v_X7_take_p22b (fun _ _ h => ih h) h
set_option maxHeartbeats 4000000 in
set_option maxRecDepth 100000 in
theorem c_X7_take {l : Launch} {G : Gl} {sh : Shp} {v0 : Nat} {v1 : Nat} {v2 : Nat} {Q : Int32 → Mem → Prop} {m : Mem} (h : wp_X7_take sh v0 v1 v2 Q m) : Cni l G yX7_take cX7_take 4 (Option.some FieldType.boolean) 3 107 sh [.ref (G.1 + v0), .ref (G.1 + v1), .ref (G.1 + v2)] m Q := by
  refine con_i (ls := [(0, .ref (G.1 + v0)), (1, .ref (G.1 + v1)), (2, .ref (G.1 + v2))]) (by decide +kernel) rfl (Nat.le_of_ble_eq_true rfl) (fun F => ?_)
  show V G F M_X7_take sh 0 0 (Zi G F sh Q) 0 [(0, .ref (G.1 + v0)), (1, .ref (G.1 + v1)), (2, .ref (G.1 + v2))] [] m
  unfold wp_X7_take at h
  refine v_aload_n 1 1 dX7_take_0 rfl rfl ?_
  refine v_aload_n 2 2 dX7_take_1 rfl rfl ?_
  refine v_cSi [.ref _, .ref _] mv_X7_isSight ml_RX7_18 rfl rfl (Nat.le_of_ble_eq_true rfl) (Nat.le_of_ble_eq_true rfl) (Nat.le_of_ble_eq_true rfl) (Nat.zero_le _) (Nat.zero_le _) dX7_take_2 (c_X7_isSight h) (fun r1 m2 h => ?_)
  refine v_if_ne 10 dX7_take_5 (by decide) (fun hc => ?_) (fun hc => ?_)
  · replace h := Eq.mp (if_neg hc) h
    refine v_aload_n 0 0 dX7_take_10 rfl rfl ?_
    refine v_aload_n 1 1 dX7_take_11 rfl rfl ?_
    obtain ⟨o3, h⟩ := h
    refine v_gI 9 1 dX7_take_12 fg_RX7_22 o3 ?_
    refine v_iconst (3 : Int32) dX7_take_15 (by decide) ?_
    refine v_idiv dX7_take_16 (by decide) ?_
    obtain ⟨o4, h⟩ := h
    refine v_pI 7 0 dX7_take_17 fw_RX7_28 o4 ?_
    replace h := bnd_e h
    refine v_iconst (0 : Int32) dX7_take_20 (by decide) ?_
    refine v_istore_n (ls' := [(3, .int _), (0, .ref _), (1, .ref _), (2, .ref _)]) 3 dX7_take_21 rfl (Nat.le_of_ble_eq_true rfl) rfl ?_
    refine v_sub [1, 2, 3, 0] rfl ?_
    exact v_X7_take_p22 h
  · replace h := Eq.mp (if_pos hc) h
    refine v_iconst (0 : Int32) dX7_take_8 (by decide) ?_
    exact v_iret dX7_take_9 rfl (by decide) h
