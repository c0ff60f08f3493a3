/-! CalledRiver$PlainReader.addMissingSums -/
theorem dX6_addMissingSums_0 : decode cX6_addMissingSums 0 = .ok (.aload_n 0, 1) := by decide +kernel
theorem dX6_addMissingSums_1 : decode cX6_addMissingSums 1 = .ok (.getfield 19, 3) := by decide +kernel
theorem dX6_addMissingSums_4 : decode cX6_addMissingSums 4 = .ok (.getfield 106, 3) := by decide +kernel
theorem dX6_addMissingSums_7 : decode cX6_addMissingSums 7 = .ok (.invokevirtual 125, 3) := by decide +kernel
theorem dX6_addMissingSums_10 : decode cX6_addMissingSums 10 = .ok (.ifCond .eq 40, 3) := by decide +kernel
theorem dX6_addMissingSums_13 : decode cX6_addMissingSums 13 = .ok (.aload_n 0, 1) := by decide +kernel
theorem dX6_addMissingSums_14 : decode cX6_addMissingSums 14 = .ok (.getfield 19, 3) := by decide +kernel
theorem dX6_addMissingSums_17 : decode cX6_addMissingSums 17 = .ok (.getfield 106, 3) := by decide +kernel
theorem dX6_addMissingSums_20 : decode cX6_addMissingSums 20 = .ok (.iconst 0, 1) := by decide +kernel
theorem dX6_addMissingSums_21 : decode cX6_addMissingSums 21 = .ok (.invokevirtual 184, 3) := by decide +kernel
theorem dX6_addMissingSums_24 : decode cX6_addMissingSums 24 = .ok (.aload_n 0, 1) := by decide +kernel
theorem dX6_addMissingSums_25 : decode cX6_addMissingSums 25 = .ok (.getfield 19, 3) := by decide +kernel
theorem dX6_addMissingSums_28 : decode cX6_addMissingSums 28 = .ok (.getfield 106, 3) := by decide +kernel
theorem dX6_addMissingSums_31 : decode cX6_addMissingSums 31 = .ok (.sipush 10006, 3) := by decide +kernel
theorem dX6_addMissingSums_34 : decode cX6_addMissingSums 34 = .ok (.invokevirtual 184, 3) := by decide +kernel
theorem dX6_addMissingSums_37 : decode cX6_addMissingSums 37 = .ok (.aload_n 0, 1) := by decide +kernel
theorem dX6_addMissingSums_38 : decode cX6_addMissingSums 38 = .ok (.getfield 19, 3) := by decide +kernel
theorem dX6_addMissingSums_41 : decode cX6_addMissingSums 41 = .ok (.getfield 106, 3) := by decide +kernel
theorem dX6_addMissingSums_44 : decode cX6_addMissingSums 44 = .ok (.sipush 10027, 3) := by decide +kernel
theorem dX6_addMissingSums_47 : decode cX6_addMissingSums 47 = .ok (.invokevirtual 184, 3) := by decide +kernel
theorem dX6_addMissingSums_50 : decode cX6_addMissingSums 50 = .ok (.aload_n 0, 1) := by decide +kernel
theorem dX6_addMissingSums_51 : decode cX6_addMissingSums 51 = .ok (.getfield 19, 3) := by decide +kernel
theorem dX6_addMissingSums_54 : decode cX6_addMissingSums 54 = .ok (.getfield 116, 3) := by decide +kernel
theorem dX6_addMissingSums_57 : decode cX6_addMissingSums 57 = .ok (.invokevirtual 125, 3) := by decide +kernel
theorem dX6_addMissingSums_60 : decode cX6_addMissingSums 60 = .ok (.ifCond .eq 16, 3) := by decide +kernel
theorem dX6_addMissingSums_63 : decode cX6_addMissingSums 63 = .ok (.aload_n 0, 1) := by decide +kernel
theorem dX6_addMissingSums_64 : decode cX6_addMissingSums 64 = .ok (.getfield 19, 3) := by decide +kernel
theorem dX6_addMissingSums_67 : decode cX6_addMissingSums 67 = .ok (.getfield 116, 3) := by decide +kernel
theorem dX6_addMissingSums_70 : decode cX6_addMissingSums 70 = .ok (.sipush 10001, 3) := by decide +kernel
theorem dX6_addMissingSums_73 : decode cX6_addMissingSums 73 = .ok (.invokevirtual 184, 3) := by decide +kernel
theorem dX6_addMissingSums_76 : decode cX6_addMissingSums 76 = .ok (.return_, 1) := by decide +kernel
def X6_addMissingSums_p50 (sh : Shp) (v0 : Nat) (Q : Mem → Prop) (m : Mem) : Prop :=
  Ob sh v0 6 ∧ ∃ b35 : Nat, m.2.2 v0 2 = some b35 ∧ (Ob sh b35 5 ∧ ∃ b38 : Nat, m.2.2 b35 16 = some b38 ∧ (Ob sh b38 0 ∧ wp_X0_isEmpty sh b38 (fun r40 m41 => if r40 = 0 then (Q m41) else (∃ b43 : Nat, m41.2.2 v0 2 = some b43 ∧ (Ob sh b43 5 ∧ ∃ b46 : Nat, m41.2.2 b43 16 = some b46 ∧ (Ob sh b46 0 ∧ wp_X0_add sh b46 (10001 : Int32) (fun m49 => Q m49) m41)))) m))
def wp_X6_addMissingSums (sh : Shp) (v0 : Nat) (Q : Mem → Prop) (m : Mem) : Prop :=
  Ob sh v0 6 ∧ ∃ b2 : Nat, m.2.2 v0 2 = some b2 ∧ (Ob sh b2 5 ∧ ∃ b5 : Nat, m.2.2 b2 15 = some b5 ∧ (Ob sh b5 0 ∧ wp_X0_isEmpty sh b5 (fun r7 m8 => if r7 = 0 then (X6_addMissingSums_p50 sh v0 Q m8) else (∃ b10 : Nat, m8.2.2 v0 2 = some b10 ∧ (Ob sh b10 5 ∧ ∃ b13 : Nat, m8.2.2 b10 15 = some b13 ∧ (Ob sh b13 0 ∧ wp_X0_add sh b13 (0 : Int32) (fun m16 => ∃ b18 : Nat, m16.2.2 v0 2 = some b18 ∧ (Ob sh b18 5 ∧ ∃ b21 : Nat, m16.2.2 b18 15 = some b21 ∧ (Ob sh b21 0 ∧ wp_X0_add sh b21 (10006 : Int32) (fun m24 => ∃ b26 : Nat, m24.2.2 v0 2 = some b26 ∧ (Ob sh b26 5 ∧ ∃ b29 : Nat, m24.2.2 b26 15 = some b29 ∧ (Ob sh b29 0 ∧ wp_X0_add sh b29 (10027 : Int32) (fun m32 => X6_addMissingSums_p50 sh v0 Q m32) m24))) m16))) m8)))) m))
abbrev M_X6_addMissingSums : Mi := (cX6_addMissingSums, 1, RX6, (none : Option FieldType), "addMissingSums", 2, 81, 0, 0)
set_option maxHeartbeats 4000000 in
set_option maxRecDepth 100000 in
theorem v_X6_addMissingSums_p50 {G : Gl} {F : Fr} {sh : Shp} {v0 : Nat} {Q : Mem → Prop} {m : Mem} (h : X6_addMissingSums_p50 sh v0 Q m) : V G F M_X6_addMissingSums sh 0 0 (Zv G F sh Q) 50 [(0, .ref (G.1 + v0))] [] m := by
  unfold X6_addMissingSums_p50 at h
  refine v_aload_n 0 0 dX6_addMissingSums_50 rfl rfl ?_
  obtain ⟨o34, h⟩ := h
  obtain ⟨b35, e36, h⟩ := h
  refine v_gR 6 2 dX6_addMissingSums_51 fg_RX6_19 o34 e36 ?_
  obtain ⟨o37, h⟩ := h
  obtain ⟨b38, e39, h⟩ := h
  refine v_gR 5 16 dX6_addMissingSums_54 fg_RX6_116 o37 e39 ?_
  obtain ⟨o42, h⟩ := h
  refine v_cVi [] mv_X0_isEmpty ml_RX6_125 ⟨_, _, rfl⟩ o42 rfl rfl (Nat.le_of_ble_eq_true rfl) (Nat.le_of_ble_eq_true rfl) (Nat.le_of_ble_eq_true rfl) (Nat.zero_le _) (Nat.zero_le _) dX6_addMissingSums_57 (c_X0_isEmpty h) (fun r40 m41 h => ?_)
  refine v_if_eq 76 dX6_addMissingSums_60 (by decide) (fun hc => ?_) (fun hc => ?_)
  · replace h := Eq.mp (if_pos hc) h
    exact v_vret dX6_addMissingSums_76 rfl h
  · replace h := Eq.mp (if_neg hc) h
    refine v_aload_n 0 0 dX6_addMissingSums_63 rfl rfl ?_
    obtain ⟨b43, e44, h⟩ := h
    refine v_gR 6 2 dX6_addMissingSums_64 fg_RX6_19 o34 e44 ?_
    obtain ⟨o45, h⟩ := h
    obtain ⟨b46, e47, h⟩ := h
    refine v_gR 5 16 dX6_addMissingSums_67 fg_RX6_116 o45 e47 ?_
    refine v_sipush (10001 : Int32) dX6_addMissingSums_70 (by decide) ?_
    obtain ⟨o50, h⟩ := h
    refine v_cVv [.int _] mv_X0_add ml_RX6_184 ⟨_, _, rfl⟩ o50 rfl rfl (Nat.le_of_ble_eq_true rfl) (Nat.le_of_ble_eq_true rfl) (Nat.le_of_ble_eq_true rfl) (Nat.zero_le _) (Nat.zero_le _) dX6_addMissingSums_73 (c_X0_add h) (fun m49 h => ?_)
    exact v_vret dX6_addMissingSums_76 rfl h
set_option maxHeartbeats 4000000 in
set_option maxRecDepth 100000 in
theorem c_X6_addMissingSums {l : Launch} {G : Gl} {sh : Shp} {v0 : Nat} {Q : Mem → Prop} {m : Mem} (h : wp_X6_addMissingSums sh v0 Q m) : Cnv l G yX6_addMissingSums cX6_addMissingSums 1 (none : Option FieldType) 2 81 sh [.ref (G.1 + v0)] m Q := by
  refine con_v (ls := [(0, .ref (G.1 + v0))]) (by decide +kernel) rfl (Nat.le_of_ble_eq_true rfl) (fun F => ?_)
  show V G F M_X6_addMissingSums sh 0 0 (Zv G F sh Q) 0 [(0, .ref (G.1 + v0))] [] m
  unfold wp_X6_addMissingSums at h
  refine v_aload_n 0 0 dX6_addMissingSums_0 rfl rfl ?_
  obtain ⟨o1, h⟩ := h
  obtain ⟨b2, e3, h⟩ := h
  refine v_gR 6 2 dX6_addMissingSums_1 fg_RX6_19 o1 e3 ?_
  obtain ⟨o4, h⟩ := h
  obtain ⟨b5, e6, h⟩ := h
  refine v_gR 5 15 dX6_addMissingSums_4 fg_RX6_106 o4 e6 ?_
  obtain ⟨o9, h⟩ := h
  refine v_cVi [] mv_X0_isEmpty ml_RX6_125 ⟨_, _, rfl⟩ o9 rfl rfl (Nat.le_of_ble_eq_true rfl) (Nat.le_of_ble_eq_true rfl) (Nat.le_of_ble_eq_true rfl) (Nat.zero_le _) (Nat.zero_le _) dX6_addMissingSums_7 (c_X0_isEmpty h) (fun r7 m8 h => ?_)
  refine v_if_eq 50 dX6_addMissingSums_10 (by decide) (fun hc => ?_) (fun hc => ?_)
  · replace h := Eq.mp (if_pos hc) h
    refine v_sub [0] rfl ?_
    exact v_X6_addMissingSums_p50 h
  · replace h := Eq.mp (if_neg hc) h
    refine v_aload_n 0 0 dX6_addMissingSums_13 rfl rfl ?_
    obtain ⟨b10, e11, h⟩ := h
    refine v_gR 6 2 dX6_addMissingSums_14 fg_RX6_19 o1 e11 ?_
    obtain ⟨o12, h⟩ := h
    obtain ⟨b13, e14, h⟩ := h
    refine v_gR 5 15 dX6_addMissingSums_17 fg_RX6_106 o12 e14 ?_
    refine v_iconst (0 : Int32) dX6_addMissingSums_20 (by decide) ?_
    obtain ⟨o17, h⟩ := h
    refine v_cVv [.int _] mv_X0_add ml_RX6_184 ⟨_, _, rfl⟩ o17 rfl rfl (Nat.le_of_ble_eq_true rfl) (Nat.le_of_ble_eq_true rfl) (Nat.le_of_ble_eq_true rfl) (Nat.zero_le _) (Nat.zero_le _) dX6_addMissingSums_21 (c_X0_add h) (fun m16 h => ?_)
    refine v_aload_n 0 0 dX6_addMissingSums_24 rfl rfl ?_
    obtain ⟨b18, e19, h⟩ := h
    refine v_gR 6 2 dX6_addMissingSums_25 fg_RX6_19 o1 e19 ?_
    obtain ⟨o20, h⟩ := h
    obtain ⟨b21, e22, h⟩ := h
    refine v_gR 5 15 dX6_addMissingSums_28 fg_RX6_106 o20 e22 ?_
    refine v_sipush (10006 : Int32) dX6_addMissingSums_31 (by decide) ?_
    obtain ⟨o25, h⟩ := h
    refine v_cVv [.int _] mv_X0_add ml_RX6_184 ⟨_, _, rfl⟩ o25 rfl rfl (Nat.le_of_ble_eq_true rfl) (Nat.le_of_ble_eq_true rfl) (Nat.le_of_ble_eq_true rfl) (Nat.zero_le _) (Nat.zero_le _) dX6_addMissingSums_34 (c_X0_add h) (fun m24 h => ?_)
    refine v_aload_n 0 0 dX6_addMissingSums_37 rfl rfl ?_
    obtain ⟨b26, e27, h⟩ := h
    refine v_gR 6 2 dX6_addMissingSums_38 fg_RX6_19 o1 e27 ?_
    obtain ⟨o28, h⟩ := h
    obtain ⟨b29, e30, h⟩ := h
    refine v_gR 5 15 dX6_addMissingSums_41 fg_RX6_106 o28 e30 ?_
    refine v_sipush (10027 : Int32) dX6_addMissingSums_44 (by decide) ?_
    obtain ⟨o33, h⟩ := h
    refine v_cVv [.int _] mv_X0_add ml_RX6_184 ⟨_, _, rfl⟩ o33 rfl rfl (Nat.le_of_ble_eq_true rfl) (Nat.le_of_ble_eq_true rfl) (Nat.le_of_ble_eq_true rfl) (Nat.zero_le _) (Nat.zero_le _) dX6_addMissingSums_47 (c_X0_add h) (fun m32 h => ?_)
    refine v_sub [0] rfl ?_
    exact v_X6_addMissingSums_p50 h
/-! CalledRiver$PlainReader.hasMore -/
theorem dX6_hasMore_0 : decode cX6_hasMore 0 = .ok (.aload_n 0, 1) := by decide +kernel
theorem dX6_hasMore_1 : decode cX6_hasMore 1 = .ok (.getfield 9, 3) := by decide +kernel
theorem dX6_hasMore_4 : decode cX6_hasMore 4 = .ok (.getfield 54, 3) := by decide +kernel
theorem dX6_hasMore_7 : decode cX6_hasMore 7 = .ok (.ifCond .eq 18, 3) := by decide +kernel
theorem dX6_hasMore_10 : decode cX6_hasMore 10 = .ok (.aload_n 0, 1) := by decide +kernel
theorem dX6_hasMore_11 : decode cX6_hasMore 11 = .ok (.getfield 9, 3) := by decide +kernel
theorem dX6_hasMore_14 : decode cX6_hasMore 14 = .ok (.getfield 54, 3) := by decide +kernel
theorem dX6_hasMore_17 : decode cX6_hasMore 17 = .ok (.iconst 5, 1) := by decide +kernel
theorem dX6_hasMore_18 : decode cX6_hasMore 18 = .ok (.if_icmp .eq 7, 3) := by decide +kernel
theorem dX6_hasMore_21 : decode cX6_hasMore 21 = .ok (.iconst 1, 1) := by decide +kernel
theorem dX6_hasMore_22 : decode cX6_hasMore 22 = .ok (.goto 4, 3) := by decide +kernel
theorem dX6_hasMore_25 : decode cX6_hasMore 25 = .ok (.iconst 0, 1) := by decide +kernel
theorem dX6_hasMore_26 : decode cX6_hasMore 26 = .ok (.ireturn, 1) := by decide +kernel
def wp_X6_hasMore (sh : Shp) (v0 : Nat) (Q : Int32 → Mem → Prop) (m : Mem) : Prop :=
  Ob sh v0 6 ∧ ∃ b2 : Nat, m.2.2 v0 0 = some b2 ∧ (Ob sh b2 9 ∧ (if (m.1 b2 2) = 0 then (Q (0 : Int32) m) else (if (m.1 b2 2) = (5 : Int32) then (Q (0 : Int32) m) else (Q (1 : Int32) m))))
abbrev M_X6_hasMore : Mi := (cX6_hasMore, 1, RX6, (Option.some FieldType.boolean), "hasMore", 1, 60, 0, 0)
set_option maxHeartbeats 4000000 in
set_option maxRecDepth 100000 in
theorem c_X6_hasMore {l : Launch} {G : Gl} {sh : Shp} {v0 : Nat} {Q : Int32 → Mem → Prop} {m : Mem} (h : wp_X6_hasMore sh v0 Q m) : Cni l G yX6_hasMore cX6_hasMore 1 (Option.some FieldType.boolean) 1 60 sh [.ref (G.1 + v0)] m Q := by
  refine con_i (ls := [(0, .ref (G.1 + v0))]) (by decide +kernel) rfl (Nat.le_of_ble_eq_true rfl) (fun F => ?_)
  show V G F M_X6_hasMore sh 0 0 (Zi G F sh Q) 0 [(0, .ref (G.1 + v0))] [] m
  unfold wp_X6_hasMore at h
  refine v_aload_n 0 0 dX6_hasMore_0 rfl rfl ?_
  obtain ⟨o1, h⟩ := h
  obtain ⟨b2, e3, h⟩ := h
  refine v_gR 6 0 dX6_hasMore_1 fg_RX6_9 o1 e3 ?_
  obtain ⟨o4, h⟩ := h
  refine v_gI 9 2 dX6_hasMore_4 fg_RX6_54 o4 ?_
  refine v_if_eq 25 dX6_hasMore_7 (by decide) (fun hc => ?_) (fun hc => ?_)
  · replace h := Eq.mp (if_pos hc) h
    refine v_iconst (0 : Int32) dX6_hasMore_25 (by decide) ?_
    exact v_iret dX6_hasMore_26 rfl (by decide) h
  · replace h := Eq.mp (if_neg hc) h
    refine v_aload_n 0 0 dX6_hasMore_10 rfl rfl ?_
    refine v_gR 6 0 dX6_hasMore_11 fg_RX6_9 o1 e3 ?_
    refine v_gI 9 2 dX6_hasMore_14 fg_RX6_54 o4 ?_
    refine v_iconst (5 : Int32) dX6_hasMore_17 (by decide) ?_
    refine v_icmp_eq 25 dX6_hasMore_18 (by decide) (fun hc => ?_) (fun hc => ?_)
    · replace h := Eq.mp (if_pos hc) h
      refine v_iconst (0 : Int32) dX6_hasMore_25 (by decide) ?_
      exact v_iret dX6_hasMore_26 rfl (by decide) h
    · replace h := Eq.mp (if_neg hc) h
      refine v_iconst (1 : Int32) dX6_hasMore_21 (by decide) ?_
      refine v_goto 26 dX6_hasMore_22 (by decide) ?_
      exact v_iret dX6_hasMore_26 rfl (by decide) h
/-! CalledRiver$PlainReader.isFull -/
theorem dX6_isFull_0 : decode cX6_isFull 0 = .ok (.iload_n 1, 1) := by decide +kernel
theorem dX6_isFull_1 : decode cX6_isFull 1 = .ok (.tableswitch 104 3 6 #[31, 49, 66, 85], 31) := by decide +kernel
theorem dX6_isFull_32 : decode cX6_isFull 32 = .ok (.aload_n 0, 1) := by decide +kernel
theorem dX6_isFull_33 : decode cX6_isFull 33 = .ok (.getfield 19, 3) := by decide +kernel
theorem dX6_isFull_36 : decode cX6_isFull 36 = .ok (.getfield 119, 3) := by decide +kernel
theorem dX6_isFull_39 : decode cX6_isFull 39 = .ok (.bipush 6, 2) := by decide +kernel
theorem dX6_isFull_41 : decode cX6_isFull 41 = .ok (.if_icmp .ne 7, 3) := by decide +kernel
theorem dX6_isFull_44 : decode cX6_isFull 44 = .ok (.iconst 1, 1) := by decide +kernel
theorem dX6_isFull_45 : decode cX6_isFull 45 = .ok (.goto 4, 3) := by decide +kernel
theorem dX6_isFull_48 : decode cX6_isFull 48 = .ok (.iconst 0, 1) := by decide +kernel
theorem dX6_isFull_49 : decode cX6_isFull 49 = .ok (.ireturn, 1) := by decide +kernel
theorem dX6_isFull_50 : decode cX6_isFull 50 = .ok (.aload_n 0, 1) := by decide +kernel
theorem dX6_isFull_51 : decode cX6_isFull 51 = .ok (.getfield 19, 3) := by decide +kernel
theorem dX6_isFull_54 : decode cX6_isFull 54 = .ok (.getfield 122, 3) := by decide +kernel
theorem dX6_isFull_57 : decode cX6_isFull 57 = .ok (.iconst 5, 1) := by decide +kernel
theorem dX6_isFull_58 : decode cX6_isFull 58 = .ok (.if_icmp .ne 7, 3) := by decide +kernel
theorem dX6_isFull_61 : decode cX6_isFull 61 = .ok (.iconst 1, 1) := by decide +kernel
theorem dX6_isFull_62 : decode cX6_isFull 62 = .ok (.goto 4, 3) := by decide +kernel
theorem dX6_isFull_65 : decode cX6_isFull 65 = .ok (.iconst 0, 1) := by decide +kernel
theorem dX6_isFull_66 : decode cX6_isFull 66 = .ok (.ireturn, 1) := by decide +kernel
theorem dX6_isFull_67 : decode cX6_isFull 67 = .ok (.aload_n 0, 1) := by decide +kernel
theorem dX6_isFull_68 : decode cX6_isFull 68 = .ok (.getfield 19, 3) := by decide +kernel
theorem dX6_isFull_71 : decode cX6_isFull 71 = .ok (.getfield 106, 3) := by decide +kernel
theorem dX6_isFull_74 : decode cX6_isFull 74 = .ok (.invokevirtual 125, 3) := by decide +kernel
theorem dX6_isFull_77 : decode cX6_isFull 77 = .ok (.ifCond .ne 7, 3) := by decide +kernel
theorem dX6_isFull_80 : decode cX6_isFull 80 = .ok (.iconst 1, 1) := by decide +kernel
theorem dX6_isFull_81 : decode cX6_isFull 81 = .ok (.goto 4, 3) := by decide +kernel
theorem dX6_isFull_84 : decode cX6_isFull 84 = .ok (.iconst 0, 1) := by decide +kernel
theorem dX6_isFull_85 : decode cX6_isFull 85 = .ok (.ireturn, 1) := by decide +kernel
theorem dX6_isFull_86 : decode cX6_isFull 86 = .ok (.aload_n 0, 1) := by decide +kernel
theorem dX6_isFull_87 : decode cX6_isFull 87 = .ok (.getfield 19, 3) := by decide +kernel
theorem dX6_isFull_90 : decode cX6_isFull 90 = .ok (.getfield 116, 3) := by decide +kernel
theorem dX6_isFull_93 : decode cX6_isFull 93 = .ok (.invokevirtual 125, 3) := by decide +kernel
theorem dX6_isFull_96 : decode cX6_isFull 96 = .ok (.ifCond .ne 7, 3) := by decide +kernel
theorem dX6_isFull_99 : decode cX6_isFull 99 = .ok (.iconst 1, 1) := by decide +kernel
theorem dX6_isFull_100 : decode cX6_isFull 100 = .ok (.goto 4, 3) := by decide +kernel
theorem dX6_isFull_103 : decode cX6_isFull 103 = .ok (.iconst 0, 1) := by decide +kernel
theorem dX6_isFull_104 : decode cX6_isFull 104 = .ok (.ireturn, 1) := by decide +kernel
theorem dX6_isFull_105 : decode cX6_isFull 105 = .ok (.iconst 0, 1) := by decide +kernel
theorem dX6_isFull_106 : decode cX6_isFull 106 = .ok (.ireturn, 1) := by decide +kernel
def wp_X6_isFull (sh : Shp) (v0 : Nat) (v1 : Int32) (Q : Int32 → Mem → Prop) (m : Mem) : Prop :=
  if v1 = (3 : Int32) then (Ob sh v0 6 ∧ ∃ b2 : Nat, m.2.2 v0 2 = some b2 ∧ (Ob sh b2 5 ∧ (if (m.1 b2 3) = (6 : Int32) then (Q (1 : Int32) m) else (Q (0 : Int32) m)))) else if v1 = (4 : Int32) then (Ob sh v0 6 ∧ ∃ b6 : Nat, m.2.2 v0 2 = some b6 ∧ (Ob sh b6 5 ∧ (if (m.1 b6 4) = (5 : Int32) then (Q (1 : Int32) m) else (Q (0 : Int32) m)))) else if v1 = (5 : Int32) then (Ob sh v0 6 ∧ ∃ b10 : Nat, m.2.2 v0 2 = some b10 ∧ (Ob sh b10 5 ∧ ∃ b13 : Nat, m.2.2 b10 15 = some b13 ∧ (Ob sh b13 0 ∧ wp_X0_isEmpty sh b13 (fun r15 m16 => if r15 = 0 then (Q (1 : Int32) m16) else (Q (0 : Int32) m16)) m))) else if v1 = (6 : Int32) then (Ob sh v0 6 ∧ ∃ b19 : Nat, m.2.2 v0 2 = some b19 ∧ (Ob sh b19 5 ∧ ∃ b22 : Nat, m.2.2 b19 16 = some b22 ∧ (Ob sh b22 0 ∧ wp_X0_isEmpty sh b22 (fun r24 m25 => if r24 = 0 then (Q (1 : Int32) m25) else (Q (0 : Int32) m25)) m))) else (Q (0 : Int32) m)
abbrev M_X6_isFull : Mi := (cX6_isFull, 2, RX6, (Option.some FieldType.boolean), "isFull", 2, 80, 0, 0)
set_option maxHeartbeats 4000000 in
set_option maxRecDepth 100000 in
theorem c_X6_isFull {l : Launch} {G : Gl} {sh : Shp} {v0 : Nat} {v1 : Int32} {Q : Int32 → Mem → Prop} {m : Mem} (h : wp_X6_isFull sh v0 v1 Q m) : Cni l G yX6_isFull cX6_isFull 2 (Option.some FieldType.boolean) 2 80 sh [.ref (G.1 + v0), .int v1] m Q := by
  refine con_i (ls := [(0, .ref (G.1 + v0)), (1, .int v1)]) (by decide +kernel) rfl (Nat.le_of_ble_eq_true rfl) (fun F => ?_)
  show V G F M_X6_isFull sh 0 0 (Zi G F sh Q) 0 [(0, .ref (G.1 + v0)), (1, .int v1)] [] m
  unfold wp_X6_isFull at h
  refine v_iload_n 1 1 dX6_isFull_0 rfl rfl ?_
  by_cases hc0 : v1 = (3 : Int32)
  · replace h := Eq.mp (if_pos hc0) h
    refine v_tabK (3 : Int32) hc0 32 dX6_isFull_1 (by decide) (by decide) rfl (by decide) ?_
    refine v_aload_n 0 0 dX6_isFull_32 rfl rfl ?_
    obtain ⟨o1, h⟩ := h
    obtain ⟨b2, e3, h⟩ := h
    refine v_gR 6 2 dX6_isFull_33 fg_RX6_19 o1 e3 ?_
    obtain ⟨o4, h⟩ := h
    refine v_gI 5 3 dX6_isFull_36 fg_RX6_119 o4 ?_
    refine v_bipush (6 : Int32) dX6_isFull_39 (by decide) ?_
    refine v_icmp_ne 48 dX6_isFull_41 (by decide) (fun hc => ?_) (fun hc => ?_)
    · replace h := Eq.mp (if_neg hc) h
      refine v_iconst (0 : Int32) dX6_isFull_48 (by decide) ?_
      exact v_iret dX6_isFull_49 rfl (by decide) h
    · replace h := Eq.mp (if_pos hc) h
      refine v_iconst (1 : Int32) dX6_isFull_44 (by decide) ?_
      refine v_goto 49 dX6_isFull_45 (by decide) ?_
      exact v_iret dX6_isFull_49 rfl (by decide) h
  replace h := Eq.mp (if_neg hc0) h
  by_cases hc1 : v1 = (4 : Int32)
  · replace h := Eq.mp (if_pos hc1) h
    refine v_tabK (4 : Int32) hc1 50 dX6_isFull_1 (by decide) (by decide) rfl (by decide) ?_
    refine v_aload_n 0 0 dX6_isFull_50 rfl rfl ?_
    obtain ⟨o5, h⟩ := h
    obtain ⟨b6, e7, h⟩ := h
    refine v_gR 6 2 dX6_isFull_51 fg_RX6_19 o5 e7 ?_
    obtain ⟨o8, h⟩ := h
    refine v_gI 5 4 dX6_isFull_54 fg_RX6_122 o8 ?_
    refine v_iconst (5 : Int32) dX6_isFull_57 (by decide) ?_
    refine v_icmp_ne 65 dX6_isFull_58 (by decide) (fun hc => ?_) (fun hc => ?_)
    · replace h := Eq.mp (if_neg hc) h
      refine v_iconst (0 : Int32) dX6_isFull_65 (by decide) ?_
      exact v_iret dX6_isFull_66 rfl (by decide) h
    · replace h := Eq.mp (if_pos hc) h
      refine v_iconst (1 : Int32) dX6_isFull_61 (by decide) ?_
      refine v_goto 66 dX6_isFull_62 (by decide) ?_
      exact v_iret dX6_isFull_66 rfl (by decide) h
  replace h := Eq.mp (if_neg hc1) h
  by_cases hc2 : v1 = (5 : Int32)
  · replace h := Eq.mp (if_pos hc2) h
    refine v_tabK (5 : Int32) hc2 67 dX6_isFull_1 (by decide) (by decide) rfl (by decide) ?_
    refine v_aload_n 0 0 dX6_isFull_67 rfl rfl ?_
    obtain ⟨o9, h⟩ := h
    obtain ⟨b10, e11, h⟩ := h
    refine v_gR 6 2 dX6_isFull_68 fg_RX6_19 o9 e11 ?_
    obtain ⟨o12, h⟩ := h
    obtain ⟨b13, e14, h⟩ := h
    refine v_gR 5 15 dX6_isFull_71 fg_RX6_106 o12 e14 ?_
    obtain ⟨o17, h⟩ := h
    refine v_cVi [] mv_X0_isEmpty ml_RX6_125 ⟨_, _, rfl⟩ o17 rfl rfl (Nat.le_of_ble_eq_true rfl) (Nat.le_of_ble_eq_true rfl) (Nat.le_of_ble_eq_true rfl) (Nat.zero_le _) (Nat.zero_le _) dX6_isFull_74 (c_X0_isEmpty h) (fun r15 m16 h => ?_)
    refine v_if_ne 84 dX6_isFull_77 (by decide) (fun hc => ?_) (fun hc => ?_)
    · replace h := Eq.mp (if_neg hc) h
      refine v_iconst (0 : Int32) dX6_isFull_84 (by decide) ?_
      exact v_iret dX6_isFull_85 rfl (by decide) h
    · replace h := Eq.mp (if_pos hc) h
      refine v_iconst (1 : Int32) dX6_isFull_80 (by decide) ?_
      refine v_goto 85 dX6_isFull_81 (by decide) ?_
      exact v_iret dX6_isFull_85 rfl (by decide) h
  replace h := Eq.mp (if_neg hc2) h
  by_cases hc3 : v1 = (6 : Int32)
  · replace h := Eq.mp (if_pos hc3) h
    refine v_tabK (6 : Int32) hc3 86 dX6_isFull_1 (by decide) (by decide) rfl (by decide) ?_
    refine v_aload_n 0 0 dX6_isFull_86 rfl rfl ?_
    obtain ⟨o18, h⟩ := h
    obtain ⟨b19, e20, h⟩ := h
    refine v_gR 6 2 dX6_isFull_87 fg_RX6_19 o18 e20 ?_
    obtain ⟨o21, h⟩ := h
    obtain ⟨b22, e23, h⟩ := h
    refine v_gR 5 16 dX6_isFull_90 fg_RX6_116 o21 e23 ?_
    obtain ⟨o26, h⟩ := h
    refine v_cVi [] mv_X0_isEmpty ml_RX6_125 ⟨_, _, rfl⟩ o26 rfl rfl (Nat.le_of_ble_eq_true rfl) (Nat.le_of_ble_eq_true rfl) (Nat.le_of_ble_eq_true rfl) (Nat.zero_le _) (Nat.zero_le _) dX6_isFull_93 (c_X0_isEmpty h) (fun r24 m25 h => ?_)
    refine v_if_ne 103 dX6_isFull_96 (by decide) (fun hc => ?_) (fun hc => ?_)
    · replace h := Eq.mp (if_neg hc) h
      refine v_iconst (0 : Int32) dX6_isFull_103 (by decide) ?_
      exact v_iret dX6_isFull_104 rfl (by decide) h
    · replace h := Eq.mp (if_pos hc) h
      refine v_iconst (1 : Int32) dX6_isFull_99 (by decide) ?_
      refine v_goto 104 dX6_isFull_100 (by decide) ?_
      exact v_iret dX6_isFull_104 rfl (by decide) h
  replace h := Eq.mp (if_neg hc3) h
  refine v_tabOut 105 dX6_isFull_1 (by have := lv_neT hc0 (a := 3) (by decide); have := lv_neT hc1 (a := 4) (by decide); have := lv_neT hc2 (a := 5) (by decide); have := lv_neT hc3 (a := 6) (by decide); omega) (by decide) ?_
  refine v_iconst (0 : Int32) dX6_isFull_105 (by decide) ?_
  exact v_iret dX6_isFull_106 rfl (by decide) h
/-! CalledRiver$PlainReader.readNewName -/
theorem dX6_readNewName_0 : decode cX6_readNewName 0 = .ok (.aload_n 0, 1) := by decide +kernel
theorem dX6_readNewName_1 : decode cX6_readNewName 1 = .ok (.getfield 9, 3) := by decide +kernel
theorem dX6_readNewName_4 : decode cX6_readNewName 4 = .ok (.getfield 43, 3) := by decide +kernel
theorem dX6_readNewName_7 : decode cX6_readNewName 7 = .ok (.istore_n 1, 1) := by decide +kernel
theorem dX6_readNewName_8 : decode cX6_readNewName 8 = .ok (.aload_n 0, 1) := by decide +kernel
theorem dX6_readNewName_9 : decode cX6_readNewName 9 = .ok (.getfield 9, 3) := by decide +kernel
theorem dX6_readNewName_12 : decode cX6_readNewName 12 = .ok (.invokevirtual 178, 3) := by decide +kernel
theorem dX6_readNewName_15 : decode cX6_readNewName 15 = .ok (.istore_n 2, 1) := by decide +kernel
theorem dX6_readNewName_16 : decode cX6_readNewName 16 = .ok (.aload_n 0, 1) := by decide +kernel
theorem dX6_readNewName_17 : decode cX6_readNewName 17 = .ok (.getfield 19, 3) := by decide +kernel
theorem dX6_readNewName_20 : decode cX6_readNewName 20 = .ok (.iload_n 2, 1) := by decide +kernel
theorem dX6_readNewName_21 : decode cX6_readNewName 21 = .ok (.invokevirtual 181, 3) := by decide +kernel
theorem dX6_readNewName_24 : decode cX6_readNewName 24 = .ok (.ifCond .eq 12, 3) := by decide +kernel
theorem dX6_readNewName_27 : decode cX6_readNewName 27 = .ok (.aload_n 0, 1) := by decide +kernel
theorem dX6_readNewName_28 : decode cX6_readNewName 28 = .ok (.getfield 9, 3) := by decide +kernel
theorem dX6_readNewName_31 : decode cX6_readNewName 31 = .ok (.iconst 3, 1) := by decide +kernel
theorem dX6_readNewName_32 : decode cX6_readNewName 32 = .ok (.iload_n 1, 1) := by decide +kernel
theorem dX6_readNewName_33 : decode cX6_readNewName 33 = .ok (.invokevirtual 47, 3) := by decide +kernel
theorem dX6_readNewName_36 : decode cX6_readNewName 36 = .ok (.iload_n 2, 1) := by decide +kernel
theorem dX6_readNewName_37 : decode cX6_readNewName 37 = .ok (.ireturn, 1) := by decide +kernel
def wp_X6_readNewName (sh : Shp) (v0 : Nat) (Q : Int32 → Mem → Prop) (m : Mem) : Prop :=
  Ob sh v0 6 ∧ ∃ b2 : Nat, m.2.2 v0 0 = some b2 ∧ (Ob sh b2 9 ∧ (wp_X9_takeName sh b2 (fun r5 m6 => ∃ b7 : Nat, m6.2.2 v0 2 = some b7 ∧ (Ob sh b7 5 ∧ wp_X5_isNamed sh b7 r5 (fun r9 m10 => if r9 = 0 then (Q r5 m10) else (∃ b12 : Nat, m10.2.2 v0 0 = some b12 ∧ (Ob sh b12 9 ∧ wp_X9_fail sh b12 (3 : Int32) (m.1 b2 3) (fun m15 => Q r5 m15) m10))) m6)) m))
abbrev M_X6_readNewName : Mi := (cX6_readNewName, 3, RX6, (Option.some FieldType.int), "readNewName", 12, 390, 0, 0)
set_option maxHeartbeats 4000000 in
set_option maxRecDepth 100000 in
theorem c_X6_readNewName {l : Launch} {G : Gl} {sh : Shp} {v0 : Nat} {Q : Int32 → Mem → Prop} {m : Mem} (h : wp_X6_readNewName sh v0 Q m) : Cni l G yX6_readNewName cX6_readNewName 3 (Option.some FieldType.int) 12 390 sh [.ref (G.1 + v0)] m Q := by
  refine con_i (ls := [(0, .ref (G.1 + v0))]) (by decide +kernel) rfl (Nat.le_of_ble_eq_true rfl) (fun F => ?_)
  show V G F M_X6_readNewName sh 0 0 (Zi G F sh Q) 0 [(0, .ref (G.1 + v0))] [] m
  unfold wp_X6_readNewName at h
  refine v_aload_n 0 0 dX6_readNewName_0 rfl rfl ?_
  obtain ⟨o1, h⟩ := h
  obtain ⟨b2, e3, h⟩ := h
  refine v_gR 6 0 dX6_readNewName_1 fg_RX6_9 o1 e3 ?_
  obtain ⟨o4, h⟩ := h
  refine v_gI 9 3 dX6_readNewName_4 fg_RX6_43 o4 ?_
  refine v_istore_n (ls' := [(1, .int _), (0, .ref _)]) 1 dX6_readNewName_7 rfl (Nat.le_of_ble_eq_true rfl) rfl ?_
  refine v_aload_n 0 1 dX6_readNewName_8 rfl rfl ?_
  refine v_gR 6 0 dX6_readNewName_9 fg_RX6_9 o1 e3 ?_
  refine v_cVi [] mv_X9_takeName ml_RX6_178 ⟨_, _, rfl⟩ o4 rfl rfl (Nat.le_of_ble_eq_true rfl) (Nat.le_of_ble_eq_true rfl) (Nat.le_of_ble_eq_true rfl) (Nat.zero_le _) (Nat.zero_le _) dX6_readNewName_12 (c_X9_takeName h) (fun r5 m6 h => ?_)
  refine v_istore_n (ls' := [(2, .int _), (1, .int _), (0, .ref _)]) 2 dX6_readNewName_15 rfl (Nat.le_of_ble_eq_true rfl) rfl ?_
  refine v_aload_n 0 2 dX6_readNewName_16 rfl rfl ?_
  obtain ⟨b7, e8, h⟩ := h
  refine v_gR 6 2 dX6_readNewName_17 fg_RX6_19 o1 e8 ?_
  refine v_iload_n 2 0 dX6_readNewName_20 rfl rfl ?_
  obtain ⟨o11, h⟩ := h
  refine v_cVi [.int _] mv_X5_isNamed ml_RX6_181 ⟨_, _, rfl⟩ o11 rfl rfl (Nat.le_of_ble_eq_true rfl) (Nat.le_of_ble_eq_true rfl) (Nat.le_of_ble_eq_true rfl) (Nat.zero_le _) (Nat.zero_le _) dX6_readNewName_21 (c_X5_isNamed h) (fun r9 m10 h => ?_)
  refine v_if_eq 36 dX6_readNewName_24 (by decide) (fun hc => ?_) (fun hc => ?_)
  · replace h := Eq.mp (if_pos hc) h
    refine v_iload_n 2 0 dX6_readNewName_36 rfl rfl ?_
    exact v_iret dX6_readNewName_37 rfl rfl h
  · replace h := Eq.mp (if_neg hc) h
    refine v_aload_n 0 2 dX6_readNewName_27 rfl rfl ?_
    obtain ⟨b12, e13, h⟩ := h
    refine v_gR 6 0 dX6_readNewName_28 fg_RX6_9 o1 e13 ?_
    refine v_iconst (3 : Int32) dX6_readNewName_31 (by decide) ?_
    refine v_iload_n 1 1 dX6_readNewName_32 rfl rfl ?_
    obtain ⟨o16, h⟩ := h
    refine v_cVv [.int _, .int _] mv_X9_fail ml_RX6_47 ⟨_, _, rfl⟩ o16 rfl rfl (Nat.le_of_ble_eq_true rfl) (Nat.le_of_ble_eq_true rfl) (Nat.le_of_ble_eq_true rfl) (Nat.zero_le _) (Nat.zero_le _) dX6_readNewName_33 (c_X9_fail h) (fun m15 h => ?_)
    refine v_iload_n 2 0 dX6_readNewName_36 rfl rfl ?_
    exact v_iret dX6_readNewName_37 rfl rfl h
/-! CalledRiver$PlainReader.readCaller -/
theorem dX6_readCaller_0 : decode cX6_readCaller 0 = .ok (.aload_n 0, 1) := by decide +kernel
theorem dX6_readCaller_1 : decode cX6_readCaller 1 = .ok (.getfield 19, 3) := by decide +kernel
theorem dX6_readCaller_4 : decode cX6_readCaller 4 = .ok (.getfield 122, 3) := by decide +kernel
theorem dX6_readCaller_7 : decode cX6_readCaller 7 = .ok (.istore_n 1, 1) := by decide +kernel
theorem dX6_readCaller_8 : decode cX6_readCaller 8 = .ok (.aload_n 0, 1) := by decide +kernel
theorem dX6_readCaller_9 : decode cX6_readCaller 9 = .ok (.getfield 19, 3) := by decide +kernel
theorem dX6_readCaller_12 : decode cX6_readCaller 12 = .ok (.getfield 168, 3) := by decide +kernel
theorem dX6_readCaller_15 : decode cX6_readCaller 15 = .ok (.iload_n 1, 1) := by decide +kernel
theorem dX6_readCaller_16 : decode cX6_readCaller 16 = .ok (.aload_n 0, 1) := by decide +kernel
theorem dX6_readCaller_17 : decode cX6_readCaller 17 = .ok (.invokevirtual 147, 3) := by decide +kernel
theorem dX6_readCaller_20 : decode cX6_readCaller 20 = .ok (.iastore, 1) := by decide +kernel
theorem dX6_readCaller_21 : decode cX6_readCaller 21 = .ok (.aload_n 0, 1) := by decide +kernel
theorem dX6_readCaller_22 : decode cX6_readCaller 22 = .ok (.getfield 9, 3) := by decide +kernel
theorem dX6_readCaller_25 : decode cX6_readCaller 25 = .ok (.ldc 171, 2) := by decide +kernel
theorem dX6_readCaller_27 : decode cX6_readCaller 27 = .ok (.invokevirtual 58, 3) := by decide +kernel
theorem dX6_readCaller_30 : decode cX6_readCaller 30 = .ok (.aload_n 0, 1) := by decide +kernel
theorem dX6_readCaller_31 : decode cX6_readCaller 31 = .ok (.getfield 19, 3) := by decide +kernel
theorem dX6_readCaller_34 : decode cX6_readCaller 34 = .ok (.getfield 173, 3) := by decide +kernel
theorem dX6_readCaller_37 : decode cX6_readCaller 37 = .ok (.iload_n 1, 1) := by decide +kernel
theorem dX6_readCaller_38 : decode cX6_readCaller 38 = .ok (.aload_n 0, 1) := by decide +kernel
theorem dX6_readCaller_39 : decode cX6_readCaller 39 = .ok (.getfield 9, 3) := by decide +kernel
theorem dX6_readCaller_42 : decode cX6_readCaller 42 = .ok (.iconst 0, 1) := by decide +kernel
theorem dX6_readCaller_43 : decode cX6_readCaller 43 = .ok (.bipush 9, 2) := by decide +kernel
theorem dX6_readCaller_45 : decode cX6_readCaller 45 = .ok (.invokevirtual 62, 3) := by decide +kernel
theorem dX6_readCaller_48 : decode cX6_readCaller 48 = .ok (.iastore, 1) := by decide +kernel
theorem dX6_readCaller_49 : decode cX6_readCaller 49 = .ok (.aload_n 0, 1) := by decide +kernel
theorem dX6_readCaller_50 : decode cX6_readCaller 50 = .ok (.getfield 9, 3) := by decide +kernel
theorem dX6_readCaller_53 : decode cX6_readCaller 53 = .ok (.ldc 175, 2) := by decide +kernel
theorem dX6_readCaller_55 : decode cX6_readCaller 55 = .ok (.invokevirtual 58, 3) := by decide +kernel
theorem dX6_readCaller_58 : decode cX6_readCaller 58 = .ok (.aload_n 0, 1) := by decide +kernel
theorem dX6_readCaller_59 : decode cX6_readCaller 59 = .ok (.getfield 19, 3) := by decide +kernel
theorem dX6_readCaller_62 : decode cX6_readCaller 62 = .ok (.getfield 176, 3) := by decide +kernel
theorem dX6_readCaller_65 : decode cX6_readCaller 65 = .ok (.iload_n 1, 1) := by decide +kernel
theorem dX6_readCaller_66 : decode cX6_readCaller 66 = .ok (.aload_n 0, 1) := by decide +kernel
theorem dX6_readCaller_67 : decode cX6_readCaller 67 = .ok (.getfield 9, 3) := by decide +kernel
theorem dX6_readCaller_70 : decode cX6_readCaller 70 = .ok (.iconst 0, 1) := by decide +kernel
theorem dX6_readCaller_71 : decode cX6_readCaller 71 = .ok (.bipush 9, 2) := by decide +kernel
theorem dX6_readCaller_73 : decode cX6_readCaller 73 = .ok (.invokevirtual 62, 3) := by decide +kernel
theorem dX6_readCaller_76 : decode cX6_readCaller 76 = .ok (.iastore, 1) := by decide +kernel
theorem dX6_readCaller_77 : decode cX6_readCaller 77 = .ok (.aload_n 0, 1) := by decide +kernel
theorem dX6_readCaller_78 : decode cX6_readCaller 78 = .ok (.getfield 19, 3) := by decide +kernel
theorem dX6_readCaller_81 : decode cX6_readCaller 81 = .ok (.dup, 1) := by decide +kernel
theorem dX6_readCaller_82 : decode cX6_readCaller 82 = .ok (.getfield 122, 3) := by decide +kernel
theorem dX6_readCaller_85 : decode cX6_readCaller 85 = .ok (.iconst 1, 1) := by decide +kernel
theorem dX6_readCaller_86 : decode cX6_readCaller 86 = .ok (.iadd, 1) := by decide +kernel
theorem dX6_readCaller_87 : decode cX6_readCaller 87 = .ok (.putfield 122, 3) := by decide +kernel
theorem dX6_readCaller_90 : decode cX6_readCaller 90 = .ok (.return_, 1) := by decide +kernel
def wp_X6_readCaller (sh : Shp) (v0 : Nat) (Q : Mem → Prop) (m : Mem) : Prop :=
  Ob sh v0 6 ∧ ∃ b2 : Nat, m.2.2 v0 2 = some b2 ∧ (Ob sh b2 5 ∧ (∃ b5 : Nat, m.2.2 b2 12 = some b5 ∧ (wp_X6_readNewName sh v0 (fun r7 m8 => Ix sh b5 100 (m.1 b2 4) ∧ bnd (sI m8 b5 (m.1 b2 4).toNatClampNeg r7) (fun m10 => ∃ b11 : Nat, m10.2.2 v0 0 = some b11 ∧ (Ob sh b11 9 ∧ wp_X9_takeWord sh b11 7 (fun m14 => ∃ b16 : Nat, m14.2.2 v0 2 = some b16 ∧ (Ob sh b16 5 ∧ ∃ b19 : Nat, m14.2.2 b16 13 = some b19 ∧ (∃ b21 : Nat, m14.2.2 v0 0 = some b21 ∧ (Ob sh b21 9 ∧ wp_X9_takeNumber sh b21 (0 : Int32) (9 : Int32) (fun r23 m24 => Ix sh b19 100 (m.1 b2 4) ∧ bnd (sI m24 b19 (m.1 b2 4).toNatClampNeg r23) (fun m27 => ∃ b28 : Nat, m27.2.2 v0 0 = some b28 ∧ (Ob sh b28 9 ∧ wp_X9_takeWord sh b28 8 (fun m31 => ∃ b33 : Nat, m31.2.2 v0 2 = some b33 ∧ (Ob sh b33 5 ∧ ∃ b36 : Nat, m31.2.2 b33 14 = some b36 ∧ (∃ b38 : Nat, m31.2.2 v0 0 = some b38 ∧ (Ob sh b38 9 ∧ wp_X9_takeNumber sh b38 (0 : Int32) (9 : Int32) (fun r40 m41 => Ix sh b36 100 (m.1 b2 4) ∧ bnd (sI m41 b36 (m.1 b2 4).toNatClampNeg r40) (fun m44 => ∃ b45 : Nat, m44.2.2 v0 2 = some b45 ∧ (Ob sh b45 5 ∧ (bnd (sI m44 b45 4 ((m44.1 b45 4) + (1 : Int32))) (fun m48 => Q m48))))) m31)))) m27))) m14)))) m10))) m)))
abbrev M_X6_readCaller : Mi := (cX6_readCaller, 2, RX6, (none : Option FieldType), "readCaller", 13, 412, 0, 0)
set_option maxHeartbeats 4000000 in
set_option maxRecDepth 100000 in
theorem c_X6_readCaller {l : Launch} {G : Gl} {sh : Shp} {v0 : Nat} {Q : Mem → Prop} {m : Mem} (h : wp_X6_readCaller sh v0 Q m) : Cnv l G yX6_readCaller cX6_readCaller 2 (none : Option FieldType) 13 412 sh [.ref (G.1 + v0)] m Q := by
  refine con_v (ls := [(0, .ref (G.1 + v0))]) (by decide +kernel) rfl (Nat.le_of_ble_eq_true rfl) (fun F => ?_)
  show V G F M_X6_readCaller sh 0 0 (Zv G F sh Q) 0 [(0, .ref (G.1 + v0))] [] m
  unfold wp_X6_readCaller at h
  refine v_aload_n 0 0 dX6_readCaller_0 rfl rfl ?_
  obtain ⟨o1, h⟩ := h
  obtain ⟨b2, e3, h⟩ := h
  refine v_gR 6 2 dX6_readCaller_1 fg_RX6_19 o1 e3 ?_
  obtain ⟨o4, h⟩ := h
  refine v_gI 5 4 dX6_readCaller_4 fg_RX6_122 o4 ?_
  refine v_istore_n (ls' := [(1, .int _), (0, .ref _)]) 1 dX6_readCaller_7 rfl (Nat.le_of_ble_eq_true rfl) rfl ?_
  refine v_aload_n 0 1 dX6_readCaller_8 rfl rfl ?_
  refine v_gR 6 2 dX6_readCaller_9 fg_RX6_19 o1 e3 ?_
  obtain ⟨b5, e6, h⟩ := h
  refine v_gR 5 12 dX6_readCaller_12 fg_RX6_168 o4 e6 ?_
  refine v_iload_n 1 0 dX6_readCaller_15 rfl rfl ?_
  refine v_aload_n 0 1 dX6_readCaller_16 rfl rfl ?_
  refine v_cVi [] mv_X6_readNewName ml_RX6_147 ⟨_, _, rfl⟩ o1 rfl rfl (Nat.le_of_ble_eq_true rfl) (Nat.le_of_ble_eq_true rfl) (Nat.le_of_ble_eq_true rfl) (Nat.zero_le _) (Nat.zero_le _) dX6_readCaller_17 (c_X6_readNewName h) (fun r7 m8 h => ?_)
  obtain ⟨i9, h⟩ := h
  refine v_iast dX6_readCaller_20 i9 ?_
  replace h := bnd_e h
  refine v_aload_n 0 1 dX6_readCaller_21 rfl rfl ?_
  obtain ⟨b11, e12, h⟩ := h
  refine v_gR 6 0 dX6_readCaller_22 fg_RX6_9 o1 e12 ?_
  refine v_ldcS (tx := "bold") 7 dX6_readCaller_25 (List.mem_of_getElem? (i := 7) rfl) ?_
  obtain ⟨o15, h⟩ := h
  refine v_cVv [.ref _] mv_X9_takeWord ml_RX6_58 ⟨_, _, rfl⟩ o15 rfl rfl (Nat.le_of_ble_eq_true rfl) (Nat.le_of_ble_eq_true rfl) (Nat.le_of_ble_eq_true rfl) (Nat.zero_le _) (Nat.zero_le _) dX6_readCaller_27 (c_X9_takeWord h) (fun m14 h => ?_)
  refine v_aload_n 0 1 dX6_readCaller_30 rfl rfl ?_
  obtain ⟨b16, e17, h⟩ := h
  refine v_gR 6 2 dX6_readCaller_31 fg_RX6_19 o1 e17 ?_
  obtain ⟨o18, h⟩ := h
  obtain ⟨b19, e20, h⟩ := h
  refine v_gR 5 13 dX6_readCaller_34 fg_RX6_173 o18 e20 ?_
  refine v_iload_n 1 0 dX6_readCaller_37 rfl rfl ?_
  refine v_aload_n 0 1 dX6_readCaller_38 rfl rfl ?_
  obtain ⟨b21, e22, h⟩ := h
  refine v_gR 6 0 dX6_readCaller_39 fg_RX6_9 o1 e22 ?_
  refine v_iconst (0 : Int32) dX6_readCaller_42 (by decide) ?_
  refine v_bipush (9 : Int32) dX6_readCaller_43 (by decide) ?_
  obtain ⟨o25, h⟩ := h
  refine v_cVi [.int _, .int _] mv_X9_takeNumber ml_RX6_62 ⟨_, _, rfl⟩ o25 rfl rfl (Nat.le_of_ble_eq_true rfl) (Nat.le_of_ble_eq_true rfl) (Nat.le_of_ble_eq_true rfl) (Nat.zero_le _) (Nat.zero_le _) dX6_readCaller_45 (c_X9_takeNumber h) (fun r23 m24 h => ?_)
  obtain ⟨i26, h⟩ := h
  refine v_iast dX6_readCaller_48 i26 ?_
  replace h := bnd_e h
  refine v_aload_n 0 1 dX6_readCaller_49 rfl rfl ?_
  obtain ⟨b28, e29, h⟩ := h
  refine v_gR 6 0 dX6_readCaller_50 fg_RX6_9 o1 e29 ?_
  refine v_ldcS (tx := "kind") 8 dX6_readCaller_53 (List.mem_of_getElem? (i := 8) rfl) ?_
  obtain ⟨o32, h⟩ := h
  refine v_cVv [.ref _] mv_X9_takeWord ml_RX6_58 ⟨_, _, rfl⟩ o32 rfl rfl (Nat.le_of_ble_eq_true rfl) (Nat.le_of_ble_eq_true rfl) (Nat.le_of_ble_eq_true rfl) (Nat.zero_le _) (Nat.zero_le _) dX6_readCaller_55 (c_X9_takeWord h) (fun m31 h => ?_)
  refine v_aload_n 0 1 dX6_readCaller_58 rfl rfl ?_
  obtain ⟨b33, e34, h⟩ := h
  refine v_gR 6 2 dX6_readCaller_59 fg_RX6_19 o1 e34 ?_
  obtain ⟨o35, h⟩ := h
  obtain ⟨b36, e37, h⟩ := h
  refine v_gR 5 14 dX6_readCaller_62 fg_RX6_176 o35 e37 ?_
  refine v_iload_n 1 0 dX6_readCaller_65 rfl rfl ?_
  refine v_aload_n 0 1 dX6_readCaller_66 rfl rfl ?_
  obtain ⟨b38, e39, h⟩ := h
  refine v_gR 6 0 dX6_readCaller_67 fg_RX6_9 o1 e39 ?_
  refine v_iconst (0 : Int32) dX6_readCaller_70 (by decide) ?_
  refine v_bipush (9 : Int32) dX6_readCaller_71 (by decide) ?_
  obtain ⟨o42, h⟩ := h
  refine v_cVi [.int _, .int _] mv_X9_takeNumber ml_RX6_62 ⟨_, _, rfl⟩ o42 rfl rfl (Nat.le_of_ble_eq_true rfl) (Nat.le_of_ble_eq_true rfl) (Nat.le_of_ble_eq_true rfl) (Nat.zero_le _) (Nat.zero_le _) dX6_readCaller_73 (c_X9_takeNumber h) (fun r40 m41 h => ?_)
  obtain ⟨i43, h⟩ := h
  refine v_iast dX6_readCaller_76 i43 ?_
  replace h := bnd_e h
  refine v_aload_n 0 1 dX6_readCaller_77 rfl rfl ?_
  obtain ⟨b45, e46, h⟩ := h
  refine v_gR 6 2 dX6_readCaller_78 fg_RX6_19 o1 e46 ?_
  refine v_dup dX6_readCaller_81 rfl ?_
  obtain ⟨o47, h⟩ := h
  refine v_gI 5 4 dX6_readCaller_82 fg_RX6_122 o47 ?_
  refine v_iconst (1 : Int32) dX6_readCaller_85 (by decide) ?_
  refine v_iadd dX6_readCaller_86 ?_
  refine v_pI 5 4 dX6_readCaller_87 fw_RX6_122 o47 ?_
  replace h := bnd_e h
  exact v_vret dX6_readCaller_90 rfl h
/-! CalledRiver$PlainReader.readPlace -/
theorem dX6_readPlace_0 : decode cX6_readPlace 0 = .ok (.aload_n 0, 1) := by decide +kernel
theorem dX6_readPlace_1 : decode cX6_readPlace 1 = .ok (.getfield 9, 3) := by decide +kernel
theorem dX6_readPlace_4 : decode cX6_readPlace 4 = .ok (.iconst 0, 1) := by decide +kernel
theorem dX6_readPlace_5 : decode cX6_readPlace 5 = .ok (.aload_n 0, 1) := by decide +kernel
theorem dX6_readPlace_6 : decode cX6_readPlace 6 = .ok (.getfield 19, 3) := by decide +kernel
theorem dX6_readPlace_9 : decode cX6_readPlace 9 = .ok (.getfield 66, 3) := by decide +kernel
theorem dX6_readPlace_12 : decode cX6_readPlace 12 = .ok (.iconst 1, 1) := by decide +kernel
theorem dX6_readPlace_13 : decode cX6_readPlace 13 = .ok (.isub, 1) := by decide +kernel
theorem dX6_readPlace_14 : decode cX6_readPlace 14 = .ok (.invokevirtual 62, 3) := by decide +kernel
theorem dX6_readPlace_17 : decode cX6_readPlace 17 = .ok (.istore_n 1, 1) := by decide +kernel
theorem dX6_readPlace_18 : decode cX6_readPlace 18 = .ok (.aload_n 0, 1) := by decide +kernel
theorem dX6_readPlace_19 : decode cX6_readPlace 19 = .ok (.aload_n 0, 1) := by decide +kernel
theorem dX6_readPlace_20 : decode cX6_readPlace 20 = .ok (.getfield 9, 3) := by decide +kernel
theorem dX6_readPlace_23 : decode cX6_readPlace 23 = .ok (.getfield 43, 3) := by decide +kernel
theorem dX6_readPlace_26 : decode cX6_readPlace 26 = .ok (.putfield 141, 3) := by decide +kernel
theorem dX6_readPlace_29 : decode cX6_readPlace 29 = .ok (.aload_n 0, 1) := by decide +kernel
theorem dX6_readPlace_30 : decode cX6_readPlace 30 = .ok (.getfield 9, 3) := by decide +kernel
theorem dX6_readPlace_33 : decode cX6_readPlace 33 = .ok (.iconst 0, 1) := by decide +kernel
theorem dX6_readPlace_34 : decode cX6_readPlace 34 = .ok (.aload_n 0, 1) := by decide +kernel
theorem dX6_readPlace_35 : decode cX6_readPlace 35 = .ok (.getfield 19, 3) := by decide +kernel
theorem dX6_readPlace_38 : decode cX6_readPlace 38 = .ok (.getfield 71, 3) := by decide +kernel
theorem dX6_readPlace_41 : decode cX6_readPlace 41 = .ok (.iconst 1, 1) := by decide +kernel
theorem dX6_readPlace_42 : decode cX6_readPlace 42 = .ok (.isub, 1) := by decide +kernel
theorem dX6_readPlace_43 : decode cX6_readPlace 43 = .ok (.invokevirtual 62, 3) := by decide +kernel
theorem dX6_readPlace_46 : decode cX6_readPlace 46 = .ok (.istore_n 2, 1) := by decide +kernel
theorem dX6_readPlace_47 : decode cX6_readPlace 47 = .ok (.iload_n 2, 1) := by decide +kernel
theorem dX6_readPlace_48 : decode cX6_readPlace 48 = .ok (.aload_n 0, 1) := by decide +kernel
theorem dX6_readPlace_49 : decode cX6_readPlace 49 = .ok (.getfield 19, 3) := by decide +kernel
theorem dX6_readPlace_52 : decode cX6_readPlace 52 = .ok (.getfield 66, 3) := by decide +kernel
theorem dX6_readPlace_55 : decode cX6_readPlace 55 = .ok (.imul, 1) := by decide +kernel
theorem dX6_readPlace_56 : decode cX6_readPlace 56 = .ok (.iload_n 1, 1) := by decide +kernel
theorem dX6_readPlace_57 : decode cX6_readPlace 57 = .ok (.iadd, 1) := by decide +kernel
theorem dX6_readPlace_58 : decode cX6_readPlace 58 = .ok (.ireturn, 1) := by decide +kernel
def wp_X6_readPlace (sh : Shp) (v0 : Nat) (Q : Int32 → Mem → Prop) (m : Mem) : Prop :=
  Ob sh v0 6 ∧ ∃ b2 : Nat, m.2.2 v0 0 = some b2 ∧ (∃ b4 : Nat, m.2.2 v0 2 = some b4 ∧ (Ob sh b4 5 ∧ (Ob sh b2 9 ∧ wp_X9_takeNumber sh b2 (0 : Int32) ((m.1 b4 0) - (1 : Int32)) (fun r7 m8 => ∃ b10 : Nat, m8.2.2 v0 0 = some b10 ∧ (Ob sh b10 9 ∧ (bnd (sI m8 v0 3 (m8.1 b10 3)) (fun m13 => ∃ b14 : Nat, m13.2.2 v0 2 = some b14 ∧ (Ob sh b14 5 ∧ (wp_X9_takeNumber sh b10 (0 : Int32) ((m13.1 b14 1) - (1 : Int32)) (fun r17 m18 => ∃ b19 : Nat, m18.2.2 v0 2 = some b19 ∧ (Ob sh b19 5 ∧ (Q ((r17 * (m18.1 b19 0)) + r7) m18))) m13)))))) m)))
abbrev M_X6_readPlace : Mi := (cX6_readPlace, 3, RX6, (Option.some FieldType.int), "readPlace", 4, 127, 0, 0)
set_option maxHeartbeats 4000000 in
set_option maxRecDepth 100000 in
theorem c_X6_readPlace {l : Launch} {G : Gl} {sh : Shp} {v0 : Nat} {Q : Int32 → Mem → Prop} {m : Mem} (h : wp_X6_readPlace sh v0 Q m) : Cni l G yX6_readPlace cX6_readPlace 3 (Option.some FieldType.int) 4 127 sh [.ref (G.1 + v0)] m Q := by
  refine con_i (ls := [(0, .ref (G.1 + v0))]) (by decide +kernel) rfl (Nat.le_of_ble_eq_true rfl) (fun F => ?_)
  show V G F M_X6_readPlace sh 0 0 (Zi G F sh Q) 0 [(0, .ref (G.1 + v0))] [] m
  unfold wp_X6_readPlace at h
  refine v_aload_n 0 0 dX6_readPlace_0 rfl rfl ?_
  obtain ⟨o1, h⟩ := h
  obtain ⟨b2, e3, h⟩ := h
  refine v_gR 6 0 dX6_readPlace_1 fg_RX6_9 o1 e3 ?_
  refine v_iconst (0 : Int32) dX6_readPlace_4 (by decide) ?_
  refine v_aload_n 0 0 dX6_readPlace_5 rfl rfl ?_
  obtain ⟨b4, e5, h⟩ := h
  refine v_gR 6 2 dX6_readPlace_6 fg_RX6_19 o1 e5 ?_
  obtain ⟨o6, h⟩ := h
  refine v_gI 5 0 dX6_readPlace_9 fg_RX6_66 o6 ?_
  refine v_iconst (1 : Int32) dX6_readPlace_12 (by decide) ?_
  refine v_isub dX6_readPlace_13 ?_
  obtain ⟨o9, h⟩ := h
  refine v_cVi [.int _, .int _] mv_X9_takeNumber ml_RX6_62 ⟨_, _, rfl⟩ o9 rfl rfl (Nat.le_of_ble_eq_true rfl) (Nat.le_of_ble_eq_true rfl) (Nat.le_of_ble_eq_true rfl) (Nat.zero_le _) (Nat.zero_le _) dX6_readPlace_14 (c_X9_takeNumber h) (fun r7 m8 h => ?_)
  refine v_istore_n (ls' := [(1, .int _), (0, .ref _)]) 1 dX6_readPlace_17 rfl (Nat.le_of_ble_eq_true rfl) rfl ?_
  refine v_aload_n 0 1 dX6_readPlace_18 rfl rfl ?_
  refine v_aload_n 0 1 dX6_readPlace_19 rfl rfl ?_
  obtain ⟨b10, e11, h⟩ := h
  refine v_gR 6 0 dX6_readPlace_20 fg_RX6_9 o1 e11 ?_
  obtain ⟨o12, h⟩ := h
  refine v_gI 9 3 dX6_readPlace_23 fg_RX6_43 o12 ?_
  refine v_pI 6 3 dX6_readPlace_26 fw_RX6_141 o1 ?_
  replace h := bnd_e h
  refine v_aload_n 0 1 dX6_readPlace_29 rfl rfl ?_
  refine v_gR 6 0 dX6_readPlace_30 fg_RX6_9 o1 e11 ?_
  refine v_iconst (0 : Int32) dX6_readPlace_33 (by decide) ?_
  refine v_aload_n 0 1 dX6_readPlace_34 rfl rfl ?_
  obtain ⟨b14, e15, h⟩ := h
  refine v_gR 6 2 dX6_readPlace_35 fg_RX6_19 o1 e15 ?_
  obtain ⟨o16, h⟩ := h
  refine v_gI 5 1 dX6_readPlace_38 fg_RX6_71 o16 ?_
  refine v_iconst (1 : Int32) dX6_readPlace_41 (by decide) ?_
  refine v_isub dX6_readPlace_42 ?_
  refine v_cVi [.int _, .int _] mv_X9_takeNumber ml_RX6_62 ⟨_, _, rfl⟩ o12 rfl rfl (Nat.le_of_ble_eq_true rfl) (Nat.le_of_ble_eq_true rfl) (Nat.le_of_ble_eq_true rfl) (Nat.zero_le _) (Nat.zero_le _) dX6_readPlace_43 (c_X9_takeNumber h) (fun r17 m18 h => ?_)
  refine v_istore_n (ls' := [(2, .int _), (1, .int _), (0, .ref _)]) 2 dX6_readPlace_46 rfl (Nat.le_of_ble_eq_true rfl) rfl ?_
  refine v_iload_n 2 0 dX6_readPlace_47 rfl rfl ?_
  refine v_aload_n 0 2 dX6_readPlace_48 rfl rfl ?_
  obtain ⟨b19, e20, h⟩ := h
  refine v_gR 6 2 dX6_readPlace_49 fg_RX6_19 o1 e20 ?_
  obtain ⟨o21, h⟩ := h
  refine v_gI 5 0 dX6_readPlace_52 fg_RX6_66 o21 ?_
  refine v_imul dX6_readPlace_55 ?_
  refine v_iload_n 1 1 dX6_readPlace_56 rfl rfl ?_
  refine v_iadd dX6_readPlace_57 ?_
  exact v_iret dX6_readPlace_58 rfl rfl h
/-! CalledRiver$PlainReader.readFarm -/
theorem dX6_readFarm_0 : decode cX6_readFarm 0 = .ok (.aload_n 0, 1) := by decide +kernel
theorem dX6_readFarm_1 : decode cX6_readFarm 1 = .ok (.getfield 19, 3) := by decide +kernel
theorem dX6_readFarm_4 : decode cX6_readFarm 4 = .ok (.getfield 119, 3) := by decide +kernel
theorem dX6_readFarm_7 : decode cX6_readFarm 7 = .ok (.istore_n 1, 1) := by decide +kernel
theorem dX6_readFarm_8 : decode cX6_readFarm 8 = .ok (.aload_n 0, 1) := by decide +kernel
theorem dX6_readFarm_9 : decode cX6_readFarm 9 = .ok (.getfield 19, 3) := by decide +kernel
theorem dX6_readFarm_12 : decode cX6_readFarm 12 = .ok (.getfield 144, 3) := by decide +kernel
theorem dX6_readFarm_15 : decode cX6_readFarm 15 = .ok (.iload_n 1, 1) := by decide +kernel
theorem dX6_readFarm_16 : decode cX6_readFarm 16 = .ok (.aload_n 0, 1) := by decide +kernel
theorem dX6_readFarm_17 : decode cX6_readFarm 17 = .ok (.invokevirtual 147, 3) := by decide +kernel
theorem dX6_readFarm_20 : decode cX6_readFarm 20 = .ok (.iastore, 1) := by decide +kernel
theorem dX6_readFarm_21 : decode cX6_readFarm 21 = .ok (.aload_n 0, 1) := by decide +kernel
theorem dX6_readFarm_22 : decode cX6_readFarm 22 = .ok (.getfield 9, 3) := by decide +kernel
theorem dX6_readFarm_25 : decode cX6_readFarm 25 = .ok (.ldc 150, 2) := by decide +kernel
theorem dX6_readFarm_27 : decode cX6_readFarm 27 = .ok (.invokevirtual 58, 3) := by decide +kernel
theorem dX6_readFarm_30 : decode cX6_readFarm 30 = .ok (.aload_n 0, 1) := by decide +kernel
theorem dX6_readFarm_31 : decode cX6_readFarm 31 = .ok (.invokevirtual 130, 3) := by decide +kernel
theorem dX6_readFarm_34 : decode cX6_readFarm 34 = .ok (.istore_n 2, 1) := by decide +kernel
theorem dX6_readFarm_35 : decode cX6_readFarm 35 = .ok (.aload_n 0, 1) := by decide +kernel
theorem dX6_readFarm_36 : decode cX6_readFarm 36 = .ok (.getfield 19, 3) := by decide +kernel
theorem dX6_readFarm_39 : decode cX6_readFarm 39 = .ok (.getfield 152, 3) := by decide +kernel
theorem dX6_readFarm_42 : decode cX6_readFarm 42 = .ok (.iload_n 2, 1) := by decide +kernel
theorem dX6_readFarm_43 : decode cX6_readFarm 43 = .ok (.iaload, 1) := by decide +kernel
theorem dX6_readFarm_44 : decode cX6_readFarm 44 = .ok (.iconst (-1), 1) := by decide +kernel
theorem dX6_readFarm_45 : decode cX6_readFarm 45 = .ok (.if_icmp .eq 15, 3) := by decide +kernel
theorem dX6_readFarm_48 : decode cX6_readFarm 48 = .ok (.aload_n 0, 1) := by decide +kernel
theorem dX6_readFarm_49 : decode cX6_readFarm 49 = .ok (.getfield 9, 3) := by decide +kernel
theorem dX6_readFarm_52 : decode cX6_readFarm 52 = .ok (.iconst 2, 1) := by decide +kernel
theorem dX6_readFarm_53 : decode cX6_readFarm 53 = .ok (.aload_n 0, 1) := by decide +kernel
theorem dX6_readFarm_54 : decode cX6_readFarm 54 = .ok (.getfield 141, 3) := by decide +kernel
theorem dX6_readFarm_57 : decode cX6_readFarm 57 = .ok (.invokevirtual 47, 3) := by decide +kernel
theorem dX6_readFarm_60 : decode cX6_readFarm 60 = .ok (.aload_n 0, 1) := by decide +kernel
theorem dX6_readFarm_61 : decode cX6_readFarm 61 = .ok (.getfield 9, 3) := by decide +kernel
theorem dX6_readFarm_64 : decode cX6_readFarm 64 = .ok (.ldc 155, 2) := by decide +kernel
theorem dX6_readFarm_66 : decode cX6_readFarm 66 = .ok (.invokevirtual 58, 3) := by decide +kernel
theorem dX6_readFarm_69 : decode cX6_readFarm 69 = .ok (.aload_n 0, 1) := by decide +kernel
theorem dX6_readFarm_70 : decode cX6_readFarm 70 = .ok (.getfield 19, 3) := by decide +kernel
theorem dX6_readFarm_73 : decode cX6_readFarm 73 = .ok (.getfield 157, 3) := by decide +kernel
theorem dX6_readFarm_76 : decode cX6_readFarm 76 = .ok (.iload_n 1, 1) := by decide +kernel
theorem dX6_readFarm_77 : decode cX6_readFarm 77 = .ok (.aload_n 0, 1) := by decide +kernel
theorem dX6_readFarm_78 : decode cX6_readFarm 78 = .ok (.getfield 9, 3) := by decide +kernel
theorem dX6_readFarm_81 : decode cX6_readFarm 81 = .ok (.iconst 1, 1) := by decide +kernel
theorem dX6_readFarm_82 : decode cX6_readFarm 82 = .ok (.bipush 40, 2) := by decide +kernel
theorem dX6_readFarm_84 : decode cX6_readFarm 84 = .ok (.invokevirtual 62, 3) := by decide +kernel
theorem dX6_readFarm_87 : decode cX6_readFarm 87 = .ok (.iastore, 1) := by decide +kernel
theorem dX6_readFarm_88 : decode cX6_readFarm 88 = .ok (.aload_n 0, 1) := by decide +kernel
theorem dX6_readFarm_89 : decode cX6_readFarm 89 = .ok (.getfield 9, 3) := by decide +kernel
theorem dX6_readFarm_92 : decode cX6_readFarm 92 = .ok (.ldc 160, 2) := by decide +kernel
theorem dX6_readFarm_94 : decode cX6_readFarm 94 = .ok (.invokevirtual 58, 3) := by decide +kernel
theorem dX6_readFarm_97 : decode cX6_readFarm 97 = .ok (.aload_n 0, 1) := by decide +kernel
theorem dX6_readFarm_98 : decode cX6_readFarm 98 = .ok (.getfield 19, 3) := by decide +kernel
theorem dX6_readFarm_101 : decode cX6_readFarm 101 = .ok (.getfield 162, 3) := by decide +kernel
theorem dX6_readFarm_104 : decode cX6_readFarm 104 = .ok (.iload_n 1, 1) := by decide +kernel
theorem dX6_readFarm_105 : decode cX6_readFarm 105 = .ok (.aload_n 0, 1) := by decide +kernel
theorem dX6_readFarm_106 : decode cX6_readFarm 106 = .ok (.getfield 9, 3) := by decide +kernel
theorem dX6_readFarm_109 : decode cX6_readFarm 109 = .ok (.iconst 0, 1) := by decide +kernel
theorem dX6_readFarm_110 : decode cX6_readFarm 110 = .ok (.bipush 9, 2) := by decide +kernel
theorem dX6_readFarm_112 : decode cX6_readFarm 112 = .ok (.invokevirtual 62, 3) := by decide +kernel
theorem dX6_readFarm_115 : decode cX6_readFarm 115 = .ok (.iastore, 1) := by decide +kernel
theorem dX6_readFarm_116 : decode cX6_readFarm 116 = .ok (.aload_n 0, 1) := by decide +kernel
theorem dX6_readFarm_117 : decode cX6_readFarm 117 = .ok (.getfield 19, 3) := by decide +kernel
theorem dX6_readFarm_120 : decode cX6_readFarm 120 = .ok (.getfield 165, 3) := by decide +kernel
theorem dX6_readFarm_123 : decode cX6_readFarm 123 = .ok (.iload_n 1, 1) := by decide +kernel
theorem dX6_readFarm_124 : decode cX6_readFarm 124 = .ok (.iload_n 2, 1) := by decide +kernel
theorem dX6_readFarm_125 : decode cX6_readFarm 125 = .ok (.iastore, 1) := by decide +kernel
theorem dX6_readFarm_126 : decode cX6_readFarm 126 = .ok (.aload_n 0, 1) := by decide +kernel
theorem dX6_readFarm_127 : decode cX6_readFarm 127 = .ok (.getfield 19, 3) := by decide +kernel
theorem dX6_readFarm_130 : decode cX6_readFarm 130 = .ok (.getfield 152, 3) := by decide +kernel
theorem dX6_readFarm_133 : decode cX6_readFarm 133 = .ok (.iload_n 2, 1) := by decide +kernel
theorem dX6_readFarm_134 : decode cX6_readFarm 134 = .ok (.iload_n 1, 1) := by decide +kernel
theorem dX6_readFarm_135 : decode cX6_readFarm 135 = .ok (.iastore, 1) := by decide +kernel
theorem dX6_readFarm_136 : decode cX6_readFarm 136 = .ok (.aload_n 0, 1) := by decide +kernel
theorem dX6_readFarm_137 : decode cX6_readFarm 137 = .ok (.getfield 19, 3) := by decide +kernel
theorem dX6_readFarm_140 : decode cX6_readFarm 140 = .ok (.dup, 1) := by decide +kernel
theorem dX6_readFarm_141 : decode cX6_readFarm 141 = .ok (.getfield 119, 3) := by decide +kernel
theorem dX6_readFarm_144 : decode cX6_readFarm 144 = .ok (.iconst 1, 1) := by decide +kernel
theorem dX6_readFarm_145 : decode cX6_readFarm 145 = .ok (.iadd, 1) := by decide +kernel
theorem dX6_readFarm_146 : decode cX6_readFarm 146 = .ok (.putfield 119, 3) := by decide +kernel
theorem dX6_readFarm_149 : decode cX6_readFarm 149 = .ok (.return_, 1) := by decide +kernel
def X6_readFarm_p60 (sh : Shp) (v0 : Nat) (v1 : Int32) (v2 : Int32) (Q : Mem → Prop) (m : Mem) : Prop :=
  Ob sh v0 6 ∧ ∃ b30 : Nat, m.2.2 v0 0 = some b30 ∧ (Ob sh b30 9 ∧ wp_X9_takeWord sh b30 5 (fun m33 => ∃ b35 : Nat, m33.2.2 v0 2 = some b35 ∧ (Ob sh b35 5 ∧ ∃ b38 : Nat, m33.2.2 b35 10 = some b38 ∧ (∃ b40 : Nat, m33.2.2 v0 0 = some b40 ∧ (Ob sh b40 9 ∧ wp_X9_takeNumber sh b40 (1 : Int32) (40 : Int32) (fun r42 m43 => Ix sh b38 100 v1 ∧ bnd (sI m43 b38 v1.toNatClampNeg r42) (fun m46 => ∃ b47 : Nat, m46.2.2 v0 0 = some b47 ∧ (Ob sh b47 9 ∧ wp_X9_takeWord sh b47 6 (fun m50 => ∃ b52 : Nat, m50.2.2 v0 2 = some b52 ∧ (Ob sh b52 5 ∧ ∃ b55 : Nat, m50.2.2 b52 11 = some b55 ∧ (∃ b57 : Nat, m50.2.2 v0 0 = some b57 ∧ (Ob sh b57 9 ∧ wp_X9_takeNumber sh b57 (0 : Int32) (9 : Int32) (fun r59 m60 => Ix sh b55 100 v1 ∧ bnd (sI m60 b55 v1.toNatClampNeg r59) (fun m63 => ∃ b64 : Nat, m63.2.2 v0 2 = some b64 ∧ (Ob sh b64 5 ∧ ∃ b67 : Nat, m63.2.2 b64 9 = some b67 ∧ (Ix sh b67 100 v1 ∧ bnd (sI m63 b67 v1.toNatClampNeg v2) (fun m70 => ∃ b71 : Nat, m70.2.2 b64 7 = some b71 ∧ (Ix sh b71 100 v2 ∧ bnd (sI m70 b71 v2.toNatClampNeg v1) (fun m74 => bnd (sI m74 b64 3 ((m74.1 b64 3) + (1 : Int32))) (fun m75 => Q m75)))))))) m50)))) m46))) m33)))) m)
def wp_X6_readFarm (sh : Shp) (v0 : Nat) (Q : Mem → Prop) (m : Mem) : Prop :=
  Ob sh v0 6 ∧ ∃ b2 : Nat, m.2.2 v0 2 = some b2 ∧ (Ob sh b2 5 ∧ (∃ b5 : Nat, m.2.2 b2 8 = some b5 ∧ (wp_X6_readNewName sh v0 (fun r7 m8 => Ix sh b5 100 (m.1 b2 3) ∧ bnd (sI m8 b5 (m.1 b2 3).toNatClampNeg r7) (fun m10 => ∃ b11 : Nat, m10.2.2 v0 0 = some b11 ∧ (Ob sh b11 9 ∧ wp_X9_takeWord sh b11 4 (fun m14 => wp_X6_readPlace sh v0 (fun r16 m17 => ∃ b18 : Nat, m17.2.2 v0 2 = some b18 ∧ (Ob sh b18 5 ∧ ∃ b21 : Nat, m17.2.2 b18 7 = some b21 ∧ (Ix sh b21 100 r16 ∧ (if (m17.1 b21 r16.toNatClampNeg) = (-1 : Int32) then (X6_readFarm_p60 sh v0 (m.1 b2 3) r16 Q m17) else (∃ b24 : Nat, m17.2.2 v0 0 = some b24 ∧ (Ob sh b24 9 ∧ wp_X9_fail sh b24 (2 : Int32) (m17.1 v0 3) (fun m27 => X6_readFarm_p60 sh v0 (m.1 b2 3) r16 Q m27) m17)))))) m14) m10))) m)))
abbrev M_X6_readFarm : Mi := (cX6_readFarm, 3, RX6, (none : Option FieldType), "readFarm", 13, 412, 0, 0)
set_option maxHeartbeats 4000000 in
set_option maxRecDepth 100000 in
theorem v_X6_readFarm_p60 {G : Gl} {F : Fr} {sh : Shp} {v0 : Nat} {v1 : Int32} {v2 : Int32} {Q : Mem → Prop} {m : Mem} (h : X6_readFarm_p60 sh v0 v1 v2 Q m) : V G F M_X6_readFarm sh 0 0 (Zv G F sh Q) 60 [(0, .ref (G.1 + v0)), (1, .int v1), (2, .int v2)] [] m := by
  unfold X6_readFarm_p60 at h
  refine v_aload_n 0 0 dX6_readFarm_60 rfl rfl ?_
  obtain ⟨o29, h⟩ := h
  obtain ⟨b30, e31, h⟩ := h
  refine v_gR 6 0 dX6_readFarm_61 fg_RX6_9 o29 e31 ?_
  refine v_ldcS (tx := "day") 5 dX6_readFarm_64 (List.mem_of_getElem? (i := 5) rfl) ?_
  obtain ⟨o34, h⟩ := h
  refine v_cVv [.ref _] mv_X9_takeWord ml_RX6_58 ⟨_, _, rfl⟩ o34 rfl rfl (Nat.le_of_ble_eq_true rfl) (Nat.le_of_ble_eq_true rfl) (Nat.le_of_ble_eq_true rfl) (Nat.zero_le _) (Nat.zero_le _) dX6_readFarm_66 (c_X9_takeWord h) (fun m33 h => ?_)
  refine v_aload_n 0 0 dX6_readFarm_69 rfl rfl ?_
  obtain ⟨b35, e36, h⟩ := h
  refine v_gR 6 2 dX6_readFarm_70 fg_RX6_19 o29 e36 ?_
  obtain ⟨o37, h⟩ := h
  obtain ⟨b38, e39, h⟩ := h
  refine v_gR 5 10 dX6_readFarm_73 fg_RX6_157 o37 e39 ?_
  refine v_iload_n 1 1 dX6_readFarm_76 rfl rfl ?_
  refine v_aload_n 0 0 dX6_readFarm_77 rfl rfl ?_
  obtain ⟨b40, e41, h⟩ := h
  refine v_gR 6 0 dX6_readFarm_78 fg_RX6_9 o29 e41 ?_
  refine v_iconst (1 : Int32) dX6_readFarm_81 (by decide) ?_
  refine v_bipush (40 : Int32) dX6_readFarm_82 (by decide) ?_
  obtain ⟨o44, h⟩ := h
  refine v_cVi [.int _, .int _] mv_X9_takeNumber ml_RX6_62 ⟨_, _, rfl⟩ o44 rfl rfl (Nat.le_of_ble_eq_true rfl) (Nat.le_of_ble_eq_true rfl) (Nat.le_of_ble_eq_true rfl) (Nat.zero_le _) (Nat.zero_le _) dX6_readFarm_84 (c_X9_takeNumber h) (fun r42 m43 h => ?_)
  obtain ⟨i45, h⟩ := h
  refine v_iast dX6_readFarm_87 i45 ?_
  replace h := bnd_e h
  refine v_aload_n 0 0 dX6_readFarm_88 rfl rfl ?_
  obtain ⟨b47, e48, h⟩ := h
  refine v_gR 6 0 dX6_readFarm_89 fg_RX6_9 o29 e48 ?_
  refine v_ldcS (tx := "pie") 6 dX6_readFarm_92 (List.mem_of_getElem? (i := 6) rfl) ?_
  obtain ⟨o51, h⟩ := h
  refine v_cVv [.ref _] mv_X9_takeWord ml_RX6_58 ⟨_, _, rfl⟩ o51 rfl rfl (Nat.le_of_ble_eq_true rfl) (Nat.le_of_ble_eq_true rfl) (Nat.le_of_ble_eq_true rfl) (Nat.zero_le _) (Nat.zero_le _) dX6_readFarm_94 (c_X9_takeWord h) (fun m50 h => ?_)
  refine v_aload_n 0 0 dX6_readFarm_97 rfl rfl ?_
  obtain ⟨b52, e53, h⟩ := h
  refine v_gR 6 2 dX6_readFarm_98 fg_RX6_19 o29 e53 ?_
  obtain ⟨o54, h⟩ := h
  obtain ⟨b55, e56, h⟩ := h
  refine v_gR 5 11 dX6_readFarm_101 fg_RX6_162 o54 e56 ?_
  refine v_iload_n 1 1 dX6_readFarm_104 rfl rfl ?_
  refine v_aload_n 0 0 dX6_readFarm_105 rfl rfl ?_
  obtain ⟨b57, e58, h⟩ := h
  refine v_gR 6 0 dX6_readFarm_106 fg_RX6_9 o29 e58 ?_
  refine v_iconst (0 : Int32) dX6_readFarm_109 (by decide) ?_
  refine v_bipush (9 : Int32) dX6_readFarm_110 (by decide) ?_
  obtain ⟨o61, h⟩ := h
  refine v_cVi [.int _, .int _] mv_X9_takeNumber ml_RX6_62 ⟨_, _, rfl⟩ o61 rfl rfl (Nat.le_of_ble_eq_true rfl) (Nat.le_of_ble_eq_true rfl) (Nat.le_of_ble_eq_true rfl) (Nat.zero_le _) (Nat.zero_le _) dX6_readFarm_112 (c_X9_takeNumber h) (fun r59 m60 h => ?_)
  obtain ⟨i62, h⟩ := h
  refine v_iast dX6_readFarm_115 i62 ?_
  replace h := bnd_e h
  refine v_aload_n 0 0 dX6_readFarm_116 rfl rfl ?_
  obtain ⟨b64, e65, h⟩ := h
  refine v_gR 6 2 dX6_readFarm_117 fg_RX6_19 o29 e65 ?_
  obtain ⟨o66, h⟩ := h
  obtain ⟨b67, e68, h⟩ := h
  refine v_gR 5 9 dX6_readFarm_120 fg_RX6_165 o66 e68 ?_
  refine v_iload_n 1 1 dX6_readFarm_123 rfl rfl ?_
  refine v_iload_n 2 2 dX6_readFarm_124 rfl rfl ?_
  obtain ⟨i69, h⟩ := h
  refine v_iast dX6_readFarm_125 i69 ?_
  replace h := bnd_e h
  refine v_aload_n 0 0 dX6_readFarm_126 rfl rfl ?_
  refine v_gR 6 2 dX6_readFarm_127 fg_RX6_19 o29 e65 ?_
  obtain ⟨b71, e72, h⟩ := h
  refine v_gR 5 7 dX6_readFarm_130 fg_RX6_152 o66 e72 ?_
  refine v_iload_n 2 2 dX6_readFarm_133 rfl rfl ?_
  refine v_iload_n 1 1 dX6_readFarm_134 rfl rfl ?_
  obtain ⟨i73, h⟩ := h
  refine v_iast dX6_readFarm_135 i73 ?_
  replace h := bnd_e h
  refine v_aload_n 0 0 dX6_readFarm_136 rfl rfl ?_
  refine v_gR 6 2 dX6_readFarm_137 fg_RX6_19 o29 e65 ?_
  refine v_dup dX6_readFarm_140 rfl ?_
  refine v_gI 5 3 dX6_readFarm_141 fg_RX6_119 o66 ?_
  refine v_iconst (1 : Int32) dX6_readFarm_144 (by decide) ?_
  refine v_iadd dX6_readFarm_145 ?_
  refine v_pI 5 3 dX6_readFarm_146 fw_RX6_119 o66 ?_
  replace h := bnd_e h
  exact v_vret dX6_readFarm_149 rfl h
set_option maxHeartbeats 4000000 in
set_option maxRecDepth 100000 in
theorem c_X6_readFarm {l : Launch} {G : Gl} {sh : Shp} {v0 : Nat} {Q : Mem → Prop} {m : Mem} (h : wp_X6_readFarm sh v0 Q m) : Cnv l G yX6_readFarm cX6_readFarm 3 (none : Option FieldType) 13 412 sh [.ref (G.1 + v0)] m Q := by
  refine con_v (ls := [(0, .ref (G.1 + v0))]) (by decide +kernel) rfl (Nat.le_of_ble_eq_true rfl) (fun F => ?_)
  show V G F M_X6_readFarm sh 0 0 (Zv G F sh Q) 0 [(0, .ref (G.1 + v0))] [] m
  unfold wp_X6_readFarm at h
  refine v_aload_n 0 0 dX6_readFarm_0 rfl rfl ?_
  obtain ⟨o1, h⟩ := h
  obtain ⟨b2, e3, h⟩ := h
  refine v_gR 6 2 dX6_readFarm_1 fg_RX6_19 o1 e3 ?_
  obtain ⟨o4, h⟩ := h
  refine v_gI 5 3 dX6_readFarm_4 fg_RX6_119 o4 ?_
  refine v_istore_n (ls' := [(1, .int _), (0, .ref _)]) 1 dX6_readFarm_7 rfl (Nat.le_of_ble_eq_true rfl) rfl ?_
  refine v_aload_n 0 1 dX6_readFarm_8 rfl rfl ?_
  refine v_gR 6 2 dX6_readFarm_9 fg_RX6_19 o1 e3 ?_
  obtain ⟨b5, e6, h⟩ := h
  refine v_gR 5 8 dX6_readFarm_12 fg_RX6_144 o4 e6 ?_
  refine v_iload_n 1 0 dX6_readFarm_15 rfl rfl ?_
  refine v_aload_n 0 1 dX6_readFarm_16 rfl rfl ?_
  refine v_cVi [] mv_X6_readNewName ml_RX6_147 ⟨_, _, rfl⟩ o1 rfl rfl (Nat.le_of_ble_eq_true rfl) (Nat.le_of_ble_eq_true rfl) (Nat.le_of_ble_eq_true rfl) (Nat.zero_le _) (Nat.zero_le _) dX6_readFarm_17 (c_X6_readNewName h) (fun r7 m8 h => ?_)
  obtain ⟨i9, h⟩ := h
  refine v_iast dX6_readFarm_20 i9 ?_
  replace h := bnd_e h
  refine v_aload_n 0 1 dX6_readFarm_21 rfl rfl ?_
  obtain ⟨b11, e12, h⟩ := h
  refine v_gR 6 0 dX6_readFarm_22 fg_RX6_9 o1 e12 ?_
  refine v_ldcS (tx := "at") 4 dX6_readFarm_25 (List.mem_of_getElem? (i := 4) rfl) ?_
  obtain ⟨o15, h⟩ := h
  refine v_cVv [.ref _] mv_X9_takeWord ml_RX6_58 ⟨_, _, rfl⟩ o15 rfl rfl (Nat.le_of_ble_eq_true rfl) (Nat.le_of_ble_eq_true rfl) (Nat.le_of_ble_eq_true rfl) (Nat.zero_le _) (Nat.zero_le _) dX6_readFarm_27 (c_X9_takeWord h) (fun m14 h => ?_)
  refine v_aload_n 0 1 dX6_readFarm_30 rfl rfl ?_
  refine v_cVi [] mv_X6_readPlace ml_RX6_130 ⟨_, _, rfl⟩ o1 rfl rfl (Nat.le_of_ble_eq_true rfl) (Nat.le_of_ble_eq_true rfl) (Nat.le_of_ble_eq_true rfl) (Nat.zero_le _) (Nat.zero_le _) dX6_readFarm_31 (c_X6_readPlace h) (fun r16 m17 h => ?_)
  refine v_istore_n (ls' := [(2, .int _), (1, .int _), (0, .ref _)]) 2 dX6_readFarm_34 rfl (Nat.le_of_ble_eq_true rfl) rfl ?_
  refine v_aload_n 0 2 dX6_readFarm_35 rfl rfl ?_
  obtain ⟨b18, e19, h⟩ := h
  refine v_gR 6 2 dX6_readFarm_36 fg_RX6_19 o1 e19 ?_
  obtain ⟨o20, h⟩ := h
  obtain ⟨b21, e22, h⟩ := h
  refine v_gR 5 7 dX6_readFarm_39 fg_RX6_152 o20 e22 ?_
  refine v_iload_n 2 0 dX6_readFarm_42 rfl rfl ?_
  obtain ⟨i23, h⟩ := h
  refine v_iald dX6_readFarm_43 i23 ?_
  refine v_iconst (-1 : Int32) dX6_readFarm_44 (by decide) ?_
  refine v_icmp_eq 60 dX6_readFarm_45 (by decide) (fun hc => ?_) (fun hc => ?_)
  · replace h := Eq.mp (if_pos hc) h
    refine v_sub [2, 1, 0] rfl ?_
    exact v_X6_readFarm_p60 h
  · replace h := Eq.mp (if_neg hc) h
    refine v_aload_n 0 2 dX6_readFarm_48 rfl rfl ?_
    obtain ⟨b24, e25, h⟩ := h
    refine v_gR 6 0 dX6_readFarm_49 fg_RX6_9 o1 e25 ?_
    refine v_iconst (2 : Int32) dX6_readFarm_52 (by decide) ?_
    refine v_aload_n 0 2 dX6_readFarm_53 rfl rfl ?_
    refine v_gI 6 3 dX6_readFarm_54 fg_RX6_141 o1 ?_
    obtain ⟨o28, h⟩ := h
    refine v_cVv [.int _, .int _] mv_X9_fail ml_RX6_47 ⟨_, _, rfl⟩ o28 rfl rfl (Nat.le_of_ble_eq_true rfl) (Nat.le_of_ble_eq_true rfl) (Nat.le_of_ble_eq_true rfl) (Nat.zero_le _) (Nat.zero_le _) dX6_readFarm_57 (c_X9_fail h) (fun m27 h => ?_)
    refine v_sub [2, 1, 0] rfl ?_
    exact v_X6_readFarm_p60 h
/-! CalledRiver$PlainReader.readHigh -/
theorem dX6_readHigh_0 : decode cX6_readHigh 0 = .ok (.aload_n 0, 1) := by decide +kernel
theorem dX6_readHigh_1 : decode cX6_readHigh 1 = .ok (.invokevirtual 130, 3) := by decide +kernel
theorem dX6_readHigh_4 : decode cX6_readHigh 4 = .ok (.istore_n 1, 1) := by decide +kernel
theorem dX6_readHigh_5 : decode cX6_readHigh 5 = .ok (.aload_n 0, 1) := by decide +kernel
theorem dX6_readHigh_6 : decode cX6_readHigh 6 = .ok (.getfield 19, 3) := by decide +kernel
theorem dX6_readHigh_9 : decode cX6_readHigh 9 = .ok (.getfield 134, 3) := by decide +kernel
theorem dX6_readHigh_12 : decode cX6_readHigh 12 = .ok (.iload_n 1, 1) := by decide +kernel
theorem dX6_readHigh_13 : decode cX6_readHigh 13 = .ok (.aload_n 0, 1) := by decide +kernel
theorem dX6_readHigh_14 : decode cX6_readHigh 14 = .ok (.getfield 9, 3) := by decide +kernel
theorem dX6_readHigh_17 : decode cX6_readHigh 17 = .ok (.iconst 0, 1) := by decide +kernel
theorem dX6_readHigh_18 : decode cX6_readHigh 18 = .ok (.bipush 9, 2) := by decide +kernel
theorem dX6_readHigh_20 : decode cX6_readHigh 20 = .ok (.invokevirtual 62, 3) := by decide +kernel
theorem dX6_readHigh_23 : decode cX6_readHigh 23 = .ok (.iastore, 1) := by decide +kernel
theorem dX6_readHigh_24 : decode cX6_readHigh 24 = .ok (.return_, 1) := by decide +kernel
def wp_X6_readHigh (sh : Shp) (v0 : Nat) (Q : Mem → Prop) (m : Mem) : Prop :=
  Ob sh v0 6 ∧ wp_X6_readPlace sh v0 (fun r1 m2 => ∃ b4 : Nat, m2.2.2 v0 2 = some b4 ∧ (Ob sh b4 5 ∧ ∃ b7 : Nat, m2.2.2 b4 5 = some b7 ∧ (∃ b9 : Nat, m2.2.2 v0 0 = some b9 ∧ (Ob sh b9 9 ∧ wp_X9_takeNumber sh b9 (0 : Int32) (9 : Int32) (fun r11 m12 => Ix sh b7 100 r1 ∧ bnd (sI m12 b7 r1.toNatClampNeg r11) (fun m15 => Q m15)) m2)))) m
abbrev M_X6_readHigh : Mi := (cX6_readHigh, 2, RX6, (none : Option FieldType), "readHigh", 5, 149, 0, 0)
set_option maxHeartbeats 4000000 in
set_option maxRecDepth 100000 in
theorem c_X6_readHigh {l : Launch} {G : Gl} {sh : Shp} {v0 : Nat} {Q : Mem → Prop} {m : Mem} (h : wp_X6_readHigh sh v0 Q m) : Cnv l G yX6_readHigh cX6_readHigh 2 (none : Option FieldType) 5 149 sh [.ref (G.1 + v0)] m Q := by
  refine con_v (ls := [(0, .ref (G.1 + v0))]) (by decide +kernel) rfl (Nat.le_of_ble_eq_true rfl) (fun F => ?_)
  show V G F M_X6_readHigh sh 0 0 (Zv G F sh Q) 0 [(0, .ref (G.1 + v0))] [] m
  unfold wp_X6_readHigh at h
  refine v_aload_n 0 0 dX6_readHigh_0 rfl rfl ?_
  obtain ⟨o3, h⟩ := h
  refine v_cVi [] mv_X6_readPlace ml_RX6_130 ⟨_, _, rfl⟩ o3 rfl rfl (Nat.le_of_ble_eq_true rfl) (Nat.le_of_ble_eq_true rfl) (Nat.le_of_ble_eq_true rfl) (Nat.zero_le _) (Nat.zero_le _) dX6_readHigh_1 (c_X6_readPlace h) (fun r1 m2 h => ?_)
  refine v_istore_n (ls' := [(1, .int _), (0, .ref _)]) 1 dX6_readHigh_4 rfl (Nat.le_of_ble_eq_true rfl) rfl ?_
  refine v_aload_n 0 1 dX6_readHigh_5 rfl rfl ?_
  obtain ⟨b4, e5, h⟩ := h
  refine v_gR 6 2 dX6_readHigh_6 fg_RX6_19 o3 e5 ?_
  obtain ⟨o6, h⟩ := h
  obtain ⟨b7, e8, h⟩ := h
  refine v_gR 5 5 dX6_readHigh_9 fg_RX6_134 o6 e8 ?_
  refine v_iload_n 1 0 dX6_readHigh_12 rfl rfl ?_
  refine v_aload_n 0 1 dX6_readHigh_13 rfl rfl ?_
  obtain ⟨b9, e10, h⟩ := h
  refine v_gR 6 0 dX6_readHigh_14 fg_RX6_9 o3 e10 ?_
  refine v_iconst (0 : Int32) dX6_readHigh_17 (by decide) ?_
  refine v_bipush (9 : Int32) dX6_readHigh_18 (by decide) ?_
  obtain ⟨o13, h⟩ := h
  refine v_cVi [.int _, .int _] mv_X9_takeNumber ml_RX6_62 ⟨_, _, rfl⟩ o13 rfl rfl (Nat.le_of_ble_eq_true rfl) (Nat.le_of_ble_eq_true rfl) (Nat.le_of_ble_eq_true rfl) (Nat.zero_le _) (Nat.zero_le _) dX6_readHigh_20 (c_X9_takeNumber h) (fun r11 m12 h => ?_)
  obtain ⟨i14, h⟩ := h
  refine v_iast dX6_readHigh_23 i14 ?_
  replace h := bnd_e h
  exact v_vret dX6_readHigh_24 rfl h
/-! CalledRiver$PlainReader.readSides -/
theorem dX6_readSides_0 : decode cX6_readSides 0 = .ok (.aload_n 0, 1) := by decide +kernel
theorem dX6_readSides_1 : decode cX6_readSides 1 = .ok (.getfield 9, 3) := by decide +kernel
theorem dX6_readSides_4 : decode cX6_readSides 4 = .ok (.ldc 57, 2) := by decide +kernel
theorem dX6_readSides_6 : decode cX6_readSides 6 = .ok (.invokevirtual 58, 3) := by decide +kernel
theorem dX6_readSides_9 : decode cX6_readSides 9 = .ok (.aload_n 0, 1) := by decide +kernel
theorem dX6_readSides_10 : decode cX6_readSides 10 = .ok (.getfield 19, 3) := by decide +kernel
theorem dX6_readSides_13 : decode cX6_readSides 13 = .ok (.aload_n 0, 1) := by decide +kernel
theorem dX6_readSides_14 : decode cX6_readSides 14 = .ok (.getfield 9, 3) := by decide +kernel
theorem dX6_readSides_17 : decode cX6_readSides 17 = .ok (.iconst 2, 1) := by decide +kernel
theorem dX6_readSides_18 : decode cX6_readSides 18 = .ok (.bipush 6, 2) := by decide +kernel
theorem dX6_readSides_20 : decode cX6_readSides 20 = .ok (.invokevirtual 62, 3) := by decide +kernel
theorem dX6_readSides_23 : decode cX6_readSides 23 = .ok (.putfield 66, 3) := by decide +kernel
theorem dX6_readSides_26 : decode cX6_readSides 26 = .ok (.aload_n 0, 1) := by decide +kernel
theorem dX6_readSides_27 : decode cX6_readSides 27 = .ok (.getfield 9, 3) := by decide +kernel
theorem dX6_readSides_30 : decode cX6_readSides 30 = .ok (.ldc 69, 2) := by decide +kernel
theorem dX6_readSides_32 : decode cX6_readSides 32 = .ok (.invokevirtual 58, 3) := by decide +kernel
theorem dX6_readSides_35 : decode cX6_readSides 35 = .ok (.aload_n 0, 1) := by decide +kernel
theorem dX6_readSides_36 : decode cX6_readSides 36 = .ok (.getfield 19, 3) := by decide +kernel
theorem dX6_readSides_39 : decode cX6_readSides 39 = .ok (.aload_n 0, 1) := by decide +kernel
theorem dX6_readSides_40 : decode cX6_readSides 40 = .ok (.getfield 9, 3) := by decide +kernel
theorem dX6_readSides_43 : decode cX6_readSides 43 = .ok (.iconst 2, 1) := by decide +kernel
theorem dX6_readSides_44 : decode cX6_readSides 44 = .ok (.bipush 6, 2) := by decide +kernel
theorem dX6_readSides_46 : decode cX6_readSides 46 = .ok (.invokevirtual 62, 3) := by decide +kernel
theorem dX6_readSides_49 : decode cX6_readSides 49 = .ok (.putfield 71, 3) := by decide +kernel
theorem dX6_readSides_52 : decode cX6_readSides 52 = .ok (.aload_n 0, 1) := by decide +kernel
theorem dX6_readSides_53 : decode cX6_readSides 53 = .ok (.getfield 9, 3) := by decide +kernel
theorem dX6_readSides_56 : decode cX6_readSides 56 = .ok (.bipush 59, 2) := by decide +kernel
theorem dX6_readSides_58 : decode cX6_readSides 58 = .ok (.invokevirtual 74, 3) := by decide +kernel
theorem dX6_readSides_61 : decode cX6_readSides 61 = .ok (.return_, 1) := by decide +kernel
def wp_X6_readSides (sh : Shp) (v0 : Nat) (Q : Mem → Prop) (m : Mem) : Prop :=
  Ob sh v0 6 ∧ ∃ b2 : Nat, m.2.2 v0 0 = some b2 ∧ (Ob sh b2 9 ∧ wp_X9_takeWord sh b2 0 (fun m5 => ∃ b7 : Nat, m5.2.2 v0 2 = some b7 ∧ (∃ b9 : Nat, m5.2.2 v0 0 = some b9 ∧ (Ob sh b9 9 ∧ wp_X9_takeNumber sh b9 (2 : Int32) (6 : Int32) (fun r11 m12 => Ob sh b7 5 ∧ bnd (sI m12 b7 0 r11) (fun m15 => ∃ b16 : Nat, m15.2.2 v0 0 = some b16 ∧ (Ob sh b16 9 ∧ wp_X9_takeWord sh b16 1 (fun m19 => ∃ b21 : Nat, m19.2.2 v0 2 = some b21 ∧ (∃ b23 : Nat, m19.2.2 v0 0 = some b23 ∧ (Ob sh b23 9 ∧ wp_X9_takeNumber sh b23 (2 : Int32) (6 : Int32) (fun r25 m26 => Ob sh b21 5 ∧ bnd (sI m26 b21 1 r25) (fun m29 => ∃ b30 : Nat, m29.2.2 v0 0 = some b30 ∧ (Ob sh b30 9 ∧ wp_X9_takeSign sh b30 (59 : Int32) (fun m33 => Q m33) m29))) m19))) m15))) m5))) m)
abbrev M_X6_readSides : Mi := (cX6_readSides, 1, RX6, (none : Option FieldType), "readSides", 12, 389, 0, 0)
set_option maxHeartbeats 4000000 in
set_option maxRecDepth 100000 in
theorem c_X6_readSides {l : Launch} {G : Gl} {sh : Shp} {v0 : Nat} {Q : Mem → Prop} {m : Mem} (h : wp_X6_readSides sh v0 Q m) : Cnv l G yX6_readSides cX6_readSides 1 (none : Option FieldType) 12 389 sh [.ref (G.1 + v0)] m Q := by
  refine con_v (ls := [(0, .ref (G.1 + v0))]) (by decide +kernel) rfl (Nat.le_of_ble_eq_true rfl) (fun F => ?_)
  show V G F M_X6_readSides sh 0 0 (Zv G F sh Q) 0 [(0, .ref (G.1 + v0))] [] m
  unfold wp_X6_readSides at h
  refine v_aload_n 0 0 dX6_readSides_0 rfl rfl ?_
  obtain ⟨o1, h⟩ := h
  obtain ⟨b2, e3, h⟩ := h
  refine v_gR 6 0 dX6_readSides_1 fg_RX6_9 o1 e3 ?_
  refine v_ldcS (tx := "plain") 0 dX6_readSides_4 (List.mem_of_getElem? (i := 0) rfl) ?_
  obtain ⟨o6, h⟩ := h
  refine v_cVv [.ref _] mv_X9_takeWord ml_RX6_58 ⟨_, _, rfl⟩ o6 rfl rfl (Nat.le_of_ble_eq_true rfl) (Nat.le_of_ble_eq_true rfl) (Nat.le_of_ble_eq_true rfl) (Nat.zero_le _) (Nat.zero_le _) dX6_readSides_6 (c_X9_takeWord h) (fun m5 h => ?_)
  refine v_aload_n 0 0 dX6_readSides_9 rfl rfl ?_
  obtain ⟨b7, e8, h⟩ := h
  refine v_gR 6 2 dX6_readSides_10 fg_RX6_19 o1 e8 ?_
  refine v_aload_n 0 0 dX6_readSides_13 rfl rfl ?_
  obtain ⟨b9, e10, h⟩ := h
  refine v_gR 6 0 dX6_readSides_14 fg_RX6_9 o1 e10 ?_
  refine v_iconst (2 : Int32) dX6_readSides_17 (by decide) ?_
  refine v_bipush (6 : Int32) dX6_readSides_18 (by decide) ?_
  obtain ⟨o13, h⟩ := h
  refine v_cVi [.int _, .int _] mv_X9_takeNumber ml_RX6_62 ⟨_, _, rfl⟩ o13 rfl rfl (Nat.le_of_ble_eq_true rfl) (Nat.le_of_ble_eq_true rfl) (Nat.le_of_ble_eq_true rfl) (Nat.zero_le _) (Nat.zero_le _) dX6_readSides_20 (c_X9_takeNumber h) (fun r11 m12 h => ?_)
  obtain ⟨o14, h⟩ := h
  refine v_pI 5 0 dX6_readSides_23 fw_RX6_66 o14 ?_
  replace h := bnd_e h
  refine v_aload_n 0 0 dX6_readSides_26 rfl rfl ?_
  obtain ⟨b16, e17, h⟩ := h
  refine v_gR 6 0 dX6_readSides_27 fg_RX6_9 o1 e17 ?_
  refine v_ldcS (tx := "by") 1 dX6_readSides_30 (List.mem_of_getElem? (i := 1) rfl) ?_
  obtain ⟨o20, h⟩ := h
  refine v_cVv [.ref _] mv_X9_takeWord ml_RX6_58 ⟨_, _, rfl⟩ o20 rfl rfl (Nat.le_of_ble_eq_true rfl) (Nat.le_of_ble_eq_true rfl) (Nat.le_of_ble_eq_true rfl) (Nat.zero_le _) (Nat.zero_le _) dX6_readSides_32 (c_X9_takeWord h) (fun m19 h => ?_)
  refine v_aload_n 0 0 dX6_readSides_35 rfl rfl ?_
  obtain ⟨b21, e22, h⟩ := h
  refine v_gR 6 2 dX6_readSides_36 fg_RX6_19 o1 e22 ?_
  refine v_aload_n 0 0 dX6_readSides_39 rfl rfl ?_
  obtain ⟨b23, e24, h⟩ := h
  refine v_gR 6 0 dX6_readSides_40 fg_RX6_9 o1 e24 ?_
  refine v_iconst (2 : Int32) dX6_readSides_43 (by decide) ?_
  refine v_bipush (6 : Int32) dX6_readSides_44 (by decide) ?_
  obtain ⟨o27, h⟩ := h
  refine v_cVi [.int _, .int _] mv_X9_takeNumber ml_RX6_62 ⟨_, _, rfl⟩ o27 rfl rfl (Nat.le_of_ble_eq_true rfl) (Nat.le_of_ble_eq_true rfl) (Nat.le_of_ble_eq_true rfl) (Nat.zero_le _) (Nat.zero_le _) dX6_readSides_46 (c_X9_takeNumber h) (fun r25 m26 h => ?_)
  obtain ⟨o28, h⟩ := h
  refine v_pI 5 1 dX6_readSides_49 fw_RX6_71 o28 ?_
  replace h := bnd_e h
  refine v_aload_n 0 0 dX6_readSides_52 rfl rfl ?_
  obtain ⟨b30, e31, h⟩ := h
  refine v_gR 6 0 dX6_readSides_53 fg_RX6_9 o1 e31 ?_
  refine v_bipush (59 : Int32) dX6_readSides_56 (by decide) ?_
  obtain ⟨o34, h⟩ := h
  refine v_cVv [.int _] mv_X9_takeSign ml_RX6_74 ⟨_, _, rfl⟩ o34 rfl rfl (Nat.le_of_ble_eq_true rfl) (Nat.le_of_ble_eq_true rfl) (Nat.le_of_ble_eq_true rfl) (Nat.zero_le _) (Nat.zero_le _) dX6_readSides_58 (c_X9_takeSign h) (fun m33 h => ?_)
  exact v_vret dX6_readSides_61 rfl h
/-! CalledRiver$PlainReader.readStone -/
theorem dX6_readStone_0 : decode cX6_readStone 0 = .ok (.aload_n 0, 1) := by decide +kernel
theorem dX6_readStone_1 : decode cX6_readStone 1 = .ok (.invokevirtual 130, 3) := by decide +kernel
theorem dX6_readStone_4 : decode cX6_readStone 4 = .ok (.istore_n 1, 1) := by decide +kernel
theorem dX6_readStone_5 : decode cX6_readStone 5 = .ok (.aload_n 0, 1) := by decide +kernel
theorem dX6_readStone_6 : decode cX6_readStone 6 = .ok (.getfield 19, 3) := by decide +kernel
theorem dX6_readStone_9 : decode cX6_readStone 9 = .ok (.getfield 138, 3) := by decide +kernel
theorem dX6_readStone_12 : decode cX6_readStone 12 = .ok (.iload_n 1, 1) := by decide +kernel
theorem dX6_readStone_13 : decode cX6_readStone 13 = .ok (.iaload, 1) := by decide +kernel
theorem dX6_readStone_14 : decode cX6_readStone 14 = .ok (.iconst 1, 1) := by decide +kernel
theorem dX6_readStone_15 : decode cX6_readStone 15 = .ok (.if_icmp .ne 15, 3) := by decide +kernel
theorem dX6_readStone_18 : decode cX6_readStone 18 = .ok (.aload_n 0, 1) := by decide +kernel
theorem dX6_readStone_19 : decode cX6_readStone 19 = .ok (.getfield 9, 3) := by decide +kernel
theorem dX6_readStone_22 : decode cX6_readStone 22 = .ok (.iconst 2, 1) := by decide +kernel
theorem dX6_readStone_23 : decode cX6_readStone 23 = .ok (.aload_n 0, 1) := by decide +kernel
theorem dX6_readStone_24 : decode cX6_readStone 24 = .ok (.getfield 141, 3) := by decide +kernel
theorem dX6_readStone_27 : decode cX6_readStone 27 = .ok (.invokevirtual 47, 3) := by decide +kernel
theorem dX6_readStone_30 : decode cX6_readStone 30 = .ok (.aload_n 0, 1) := by decide +kernel
theorem dX6_readStone_31 : decode cX6_readStone 31 = .ok (.getfield 19, 3) := by decide +kernel
theorem dX6_readStone_34 : decode cX6_readStone 34 = .ok (.getfield 138, 3) := by decide +kernel
theorem dX6_readStone_37 : decode cX6_readStone 37 = .ok (.iload_n 1, 1) := by decide +kernel
theorem dX6_readStone_38 : decode cX6_readStone 38 = .ok (.iconst 1, 1) := by decide +kernel
theorem dX6_readStone_39 : decode cX6_readStone 39 = .ok (.iastore, 1) := by decide +kernel
theorem dX6_readStone_40 : decode cX6_readStone 40 = .ok (.return_, 1) := by decide +kernel
def X6_readStone_p30 (sh : Shp) (v0 : Nat) (v1 : Int32) (Q : Mem → Prop) (m : Mem) : Prop :=
  Ob sh v0 6 ∧ ∃ b16 : Nat, m.2.2 v0 2 = some b16 ∧ (Ob sh b16 5 ∧ ∃ b19 : Nat, m.2.2 b16 6 = some b19 ∧ (Ix sh b19 100 v1 ∧ bnd (sI m b19 v1.toNatClampNeg (1 : Int32)) (fun m22 => Q m22)))
def wp_X6_readStone (sh : Shp) (v0 : Nat) (Q : Mem → Prop) (m : Mem) : Prop :=
  Ob sh v0 6 ∧ wp_X6_readPlace sh v0 (fun r1 m2 => ∃ b4 : Nat, m2.2.2 v0 2 = some b4 ∧ (Ob sh b4 5 ∧ ∃ b7 : Nat, m2.2.2 b4 6 = some b7 ∧ (Ix sh b7 100 r1 ∧ (if (m2.1 b7 r1.toNatClampNeg) = (1 : Int32) then (∃ b10 : Nat, m2.2.2 v0 0 = some b10 ∧ (Ob sh b10 9 ∧ wp_X9_fail sh b10 (2 : Int32) (m2.1 v0 3) (fun m13 => X6_readStone_p30 sh v0 r1 Q m13) m2)) else (X6_readStone_p30 sh v0 r1 Q m2))))) m
abbrev M_X6_readStone : Mi := (cX6_readStone, 2, RX6, (none : Option FieldType), "readStone", 5, 149, 0, 0)
set_option maxHeartbeats 4000000 in
set_option maxRecDepth 100000 in
theorem v_X6_readStone_p30 {G : Gl} {F : Fr} {sh : Shp} {v0 : Nat} {v1 : Int32} {Q : Mem → Prop} {m : Mem} (h : X6_readStone_p30 sh v0 v1 Q m) : V G F M_X6_readStone sh 0 0 (Zv G F sh Q) 30 [(0, .ref (G.1 + v0)), (1, .int v1)] [] m := by
  unfold X6_readStone_p30 at h
  refine v_aload_n 0 0 dX6_readStone_30 rfl rfl ?_
  obtain ⟨o15, h⟩ := h
  obtain ⟨b16, e17, h⟩ := h
  refine v_gR 6 2 dX6_readStone_31 fg_RX6_19 o15 e17 ?_
  obtain ⟨o18, h⟩ := h
  obtain ⟨b19, e20, h⟩ := h
  refine v_gR 5 6 dX6_readStone_34 fg_RX6_138 o18 e20 ?_
  refine v_iload_n 1 1 dX6_readStone_37 rfl rfl ?_
  refine v_iconst (1 : Int32) dX6_readStone_38 (by decide) ?_
  obtain ⟨i21, h⟩ := h
  refine v_iast dX6_readStone_39 i21 ?_
  replace h := bnd_e h
  exact v_vret dX6_readStone_40 rfl h
set_option maxHeartbeats 4000000 in
set_option maxRecDepth 100000 in
theorem c_X6_readStone {l : Launch} {G : Gl} {sh : Shp} {v0 : Nat} {Q : Mem → Prop} {m : Mem} (h : wp_X6_readStone sh v0 Q m) : Cnv l G yX6_readStone cX6_readStone 2 (none : Option FieldType) 5 149 sh [.ref (G.1 + v0)] m Q := by
  refine con_v (ls := [(0, .ref (G.1 + v0))]) (by decide +kernel) rfl (Nat.le_of_ble_eq_true rfl) (fun F => ?_)
  show V G F M_X6_readStone sh 0 0 (Zv G F sh Q) 0 [(0, .ref (G.1 + v0))] [] m
  unfold wp_X6_readStone at h
  refine v_aload_n 0 0 dX6_readStone_0 rfl rfl ?_
  obtain ⟨o3, h⟩ := h
  refine v_cVi [] mv_X6_readPlace ml_RX6_130 ⟨_, _, rfl⟩ o3 rfl rfl (Nat.le_of_ble_eq_true rfl) (Nat.le_of_ble_eq_true rfl) (Nat.le_of_ble_eq_true rfl) (Nat.zero_le _) (Nat.zero_le _) dX6_readStone_1 (c_X6_readPlace h) (fun r1 m2 h => ?_)
  refine v_istore_n (ls' := [(1, .int _), (0, .ref _)]) 1 dX6_readStone_4 rfl (Nat.le_of_ble_eq_true rfl) rfl ?_
  refine v_aload_n 0 1 dX6_readStone_5 rfl rfl ?_
  obtain ⟨b4, e5, h⟩ := h
  refine v_gR 6 2 dX6_readStone_6 fg_RX6_19 o3 e5 ?_
  obtain ⟨o6, h⟩ := h
  obtain ⟨b7, e8, h⟩ := h
  refine v_gR 5 6 dX6_readStone_9 fg_RX6_138 o6 e8 ?_
  refine v_iload_n 1 0 dX6_readStone_12 rfl rfl ?_
  obtain ⟨i9, h⟩ := h
  refine v_iald dX6_readStone_13 i9 ?_
  refine v_iconst (1 : Int32) dX6_readStone_14 (by decide) ?_
  refine v_icmp_ne 30 dX6_readStone_15 (by decide) (fun hc => ?_) (fun hc => ?_)
  · replace h := Eq.mp (if_neg hc) h
    refine v_sub [1, 0] rfl ?_
    exact v_X6_readStone_p30 h
  · replace h := Eq.mp (if_pos hc) h
    refine v_aload_n 0 1 dX6_readStone_18 rfl rfl ?_
    obtain ⟨b10, e11, h⟩ := h
    refine v_gR 6 0 dX6_readStone_19 fg_RX6_9 o3 e11 ?_
    refine v_iconst (2 : Int32) dX6_readStone_22 (by decide) ?_
    refine v_aload_n 0 1 dX6_readStone_23 rfl rfl ?_
    refine v_gI 6 3 dX6_readStone_24 fg_RX6_141 o3 ?_
    obtain ⟨o14, h⟩ := h
    refine v_cVv [.int _, .int _] mv_X9_fail ml_RX6_47 ⟨_, _, rfl⟩ o14 rfl rfl (Nat.le_of_ble_eq_true rfl) (Nat.le_of_ble_eq_true rfl) (Nat.le_of_ble_eq_true rfl) (Nat.zero_le _) (Nat.zero_le _) dX6_readStone_27 (c_X9_fail h) (fun m13 h => ?_)
    refine v_sub [1, 0] rfl ?_
    exact v_X6_readStone_p30 h
/-! CalledRiver$SumReader.readSumOf -/
theorem dX8_readSumOf_0 : decode cX8_readSumOf 0 = .ok (.aload_n 0, 1) := by decide +kernel
theorem dX8_readSumOf_1 : decode cX8_readSumOf 1 = .ok (.iload_n 1, 1) := by decide +kernel
theorem dX8_readSumOf_2 : decode cX8_readSumOf 2 = .ok (.aload_n 2, 1) := by decide +kernel
theorem dX8_readSumOf_3 : decode cX8_readSumOf 3 = .ok (.invokevirtual 19, 3) := by decide +kernel
theorem dX8_readSumOf_6 : decode cX8_readSumOf 6 = .ok (.aload_n 0, 1) := by decide +kernel
theorem dX8_readSumOf_7 : decode cX8_readSumOf 7 = .ok (.iconst 0, 1) := by decide +kernel
theorem dX8_readSumOf_8 : decode cX8_readSumOf 8 = .ok (.invokevirtual 23, 3) := by decide +kernel
theorem dX8_readSumOf_11 : decode cX8_readSumOf 11 = .ok (.return_, 1) := by decide +kernel
def wp_X8_readSumOf (sh : Shp) (v0 : Nat) (v1 : Int32) (v2 : Nat) (Q : Mem → Prop) (m : Mem) : Prop :=
  Ob sh v0 8 ∧ wp_X8_begin sh v0 v1 v2 (fun m2 => wpG 60 4 sh v0 (0 : Int32) (fun m5 => Q m5) m2) m
abbrev M_X8_readSumOf : Mi := (cX8_readSumOf, 3, RX8, (none : Option FieldType), "readSumOf", 75, 4223, 0, 0)
set_option maxHeartbeats 4000000 in
set_option maxRecDepth 100000 in
theorem c_X8_readSumOf {l : Launch} {G : Gl} {sh : Shp} {v0 : Nat} {v1 : Int32} {v2 : Nat} {Q : Mem → Prop} {m : Mem} (h : wp_X8_readSumOf sh v0 v1 v2 Q m) : Cnv l G yX8_readSumOf cX8_readSumOf 3 (none : Option FieldType) 75 4223 sh [.ref (G.1 + v0), .int v1, .ref (G.1 + v2)] m Q := by
  refine con_v (ls := [(0, .ref (G.1 + v0)), (1, .int v1), (2, .ref (G.1 + v2))]) (by decide +kernel) rfl (Nat.le_of_ble_eq_true rfl) (fun F => ?_)
  show V G F M_X8_readSumOf sh 0 0 (Zv G F sh Q) 0 [(0, .ref (G.1 + v0)), (1, .int v1), (2, .ref (G.1 + v2))] [] m
  unfold wp_X8_readSumOf at h
  refine v_aload_n 0 0 dX8_readSumOf_0 rfl rfl ?_
  refine v_iload_n 1 1 dX8_readSumOf_1 rfl rfl ?_
  refine v_aload_n 2 2 dX8_readSumOf_2 rfl rfl ?_
  obtain ⟨o3, h⟩ := h
  refine v_cVv [.int _, .ref _] mv_X8_begin ml_RX8_19 ⟨_, _, rfl⟩ o3 rfl rfl (Nat.le_of_ble_eq_true rfl) (Nat.le_of_ble_eq_true rfl) (Nat.le_of_ble_eq_true rfl) (Nat.zero_le _) (Nat.zero_le _) dX8_readSumOf_3 (c_X8_begin h) (fun m2 h => ?_)
  refine v_aload_n 0 0 dX8_readSumOf_6 rfl rfl ?_
  refine v_iconst (0 : Int32) dX8_readSumOf_7 (by decide) ?_
  refine v_cVv [.int _] mv_X8_readSum ml_RX8_23 ⟨_, _, rfl⟩ o3 rfl rfl (Nat.le_of_ble_eq_true rfl) (Nat.le_of_ble_eq_true rfl) (Nat.le_of_ble_eq_true rfl) (Nat.zero_le _) (Nat.zero_le _) dX8_readSumOf_8 ((gr_all (l := Fl F) (G := G) 60).2.2.2.2.1 h) (fun m5 h => ?_)
  exact v_vret dX8_readSumOf_11 rfl h
/-! CalledRiver$PlainReader.readStatement -/
theorem dX6_readStatement_0 : decode cX6_readStatement 0 = .ok (.aload_n 0, 1) := by decide +kernel
theorem dX6_readStatement_1 : decode cX6_readStatement 1 = .ok (.getfield 9, 3) := by decide +kernel
theorem dX6_readStatement_4 : decode cX6_readStatement 4 = .ok (.ldc 78, 2) := by decide +kernel
theorem dX6_readStatement_6 : decode cX6_readStatement 6 = .ok (.invokevirtual 80, 3) := by decide +kernel
theorem dX6_readStatement_9 : decode cX6_readStatement 9 = .ok (.istore_n 1, 1) := by decide +kernel
theorem dX6_readStatement_10 : decode cX6_readStatement 10 = .ok (.aload_n 0, 1) := by decide +kernel
theorem dX6_readStatement_11 : decode cX6_readStatement 11 = .ok (.iload_n 1, 1) := by decide +kernel
theorem dX6_readStatement_12 : decode cX6_readStatement 12 = .ok (.invokevirtual 84, 3) := by decide +kernel
theorem dX6_readStatement_15 : decode cX6_readStatement 15 = .ok (.ifCond .eq 19, 3) := by decide +kernel
theorem dX6_readStatement_18 : decode cX6_readStatement 18 = .ok (.aload_n 0, 1) := by decide +kernel
theorem dX6_readStatement_19 : decode cX6_readStatement 19 = .ok (.getfield 9, 3) := by decide +kernel
theorem dX6_readStatement_22 : decode cX6_readStatement 22 = .ok (.iconst 5, 1) := by decide +kernel
theorem dX6_readStatement_23 : decode cX6_readStatement 23 = .ok (.aload_n 0, 1) := by decide +kernel
theorem dX6_readStatement_24 : decode cX6_readStatement 24 = .ok (.getfield 9, 3) := by decide +kernel
theorem dX6_readStatement_27 : decode cX6_readStatement 27 = .ok (.getfield 43, 3) := by decide +kernel
theorem dX6_readStatement_30 : decode cX6_readStatement 30 = .ok (.invokevirtual 47, 3) := by decide +kernel
theorem dX6_readStatement_33 : decode cX6_readStatement 33 = .ok (.return_, 1) := by decide +kernel
theorem dX6_readStatement_34 : decode cX6_readStatement 34 = .ok (.iload_n 1, 1) := by decide +kernel
theorem dX6_readStatement_35 : decode cX6_readStatement 35 = .ok (.iconst (-1), 1) := by decide +kernel
theorem dX6_readStatement_36 : decode cX6_readStatement 36 = .ok (.if_icmp .ne 19, 3) := by decide +kernel
theorem dX6_readStatement_39 : decode cX6_readStatement 39 = .ok (.aload_n 0, 1) := by decide +kernel
theorem dX6_readStatement_40 : decode cX6_readStatement 40 = .ok (.getfield 9, 3) := by decide +kernel
theorem dX6_readStatement_43 : decode cX6_readStatement 43 = .ok (.iconst 1, 1) := by decide +kernel
theorem dX6_readStatement_44 : decode cX6_readStatement 44 = .ok (.aload_n 0, 1) := by decide +kernel
theorem dX6_readStatement_45 : decode cX6_readStatement 45 = .ok (.getfield 9, 3) := by decide +kernel
theorem dX6_readStatement_48 : decode cX6_readStatement 48 = .ok (.getfield 43, 3) := by decide +kernel
theorem dX6_readStatement_51 : decode cX6_readStatement 51 = .ok (.invokevirtual 47, 3) := by decide +kernel
theorem dX6_readStatement_54 : decode cX6_readStatement 54 = .ok (.return_, 1) := by decide +kernel
theorem dX6_readStatement_55 : decode cX6_readStatement 55 = .ok (.aload_n 0, 1) := by decide +kernel
theorem dX6_readStatement_56 : decode cX6_readStatement 56 = .ok (.getfield 9, 3) := by decide +kernel
theorem dX6_readStatement_59 : decode cX6_readStatement 59 = .ok (.invokevirtual 88, 3) := by decide +kernel
theorem dX6_readStatement_62 : decode cX6_readStatement 62 = .ok (.iload_n 1, 1) := by decide +kernel
theorem dX6_readStatement_63 : decode cX6_readStatement 63 = .ok (.tableswitch 136 0 6 #[41, 48, 55, 82, 89, 96, 116], 41) := by decide +kernel
theorem dX6_readStatement_104 : decode cX6_readStatement 104 = .ok (.aload_n 0, 1) := by decide +kernel
theorem dX6_readStatement_105 : decode cX6_readStatement 105 = .ok (.invokevirtual 91, 3) := by decide +kernel
theorem dX6_readStatement_108 : decode cX6_readStatement 108 = .ok (.goto 91, 3) := by decide +kernel
theorem dX6_readStatement_111 : decode cX6_readStatement 111 = .ok (.aload_n 0, 1) := by decide +kernel
theorem dX6_readStatement_112 : decode cX6_readStatement 112 = .ok (.invokevirtual 94, 3) := by decide +kernel
theorem dX6_readStatement_115 : decode cX6_readStatement 115 = .ok (.goto 84, 3) := by decide +kernel
theorem dX6_readStatement_118 : decode cX6_readStatement 118 = .ok (.aload_n 0, 1) := by decide +kernel
theorem dX6_readStatement_119 : decode cX6_readStatement 119 = .ok (.getfield 19, 3) := by decide +kernel
theorem dX6_readStatement_122 : decode cX6_readStatement 122 = .ok (.aload_n 0, 1) := by decide +kernel
theorem dX6_readStatement_123 : decode cX6_readStatement 123 = .ok (.getfield 9, 3) := by decide +kernel
theorem dX6_readStatement_126 : decode cX6_readStatement 126 = .ok (.iconst 0, 1) := by decide +kernel
theorem dX6_readStatement_127 : decode cX6_readStatement 127 = .ok (.aload_n 0, 1) := by decide +kernel
theorem dX6_readStatement_128 : decode cX6_readStatement 128 = .ok (.getfield 19, 3) := by decide +kernel
theorem dX6_readStatement_131 : decode cX6_readStatement 131 = .ok (.getfield 66, 3) := by decide +kernel
theorem dX6_readStatement_134 : decode cX6_readStatement 134 = .ok (.iconst 1, 1) := by decide +kernel
theorem dX6_readStatement_135 : decode cX6_readStatement 135 = .ok (.isub, 1) := by decide +kernel
theorem dX6_readStatement_136 : decode cX6_readStatement 136 = .ok (.invokevirtual 62, 3) := by decide +kernel
theorem dX6_readStatement_139 : decode cX6_readStatement 139 = .ok (.putfield 97, 3) := by decide +kernel
theorem dX6_readStatement_142 : decode cX6_readStatement 142 = .ok (.goto 57, 3) := by decide +kernel
theorem dX6_readStatement_145 : decode cX6_readStatement 145 = .ok (.aload_n 0, 1) := by decide +kernel
theorem dX6_readStatement_146 : decode cX6_readStatement 146 = .ok (.invokevirtual 100, 3) := by decide +kernel
theorem dX6_readStatement_149 : decode cX6_readStatement 149 = .ok (.goto 50, 3) := by decide +kernel
theorem dX6_readStatement_152 : decode cX6_readStatement 152 = .ok (.aload_n 0, 1) := by decide +kernel
theorem dX6_readStatement_153 : decode cX6_readStatement 153 = .ok (.invokevirtual 103, 3) := by decide +kernel
theorem dX6_readStatement_156 : decode cX6_readStatement 156 = .ok (.goto 43, 3) := by decide +kernel
theorem dX6_readStatement_159 : decode cX6_readStatement 159 = .ok (.aload_n 0, 1) := by decide +kernel
theorem dX6_readStatement_160 : decode cX6_readStatement 160 = .ok (.getfield 15, 3) := by decide +kernel
theorem dX6_readStatement_163 : decode cX6_readStatement 163 = .ok (.sipush 255, 3) := by decide +kernel
theorem dX6_readStatement_166 : decode cX6_readStatement 166 = .ok (.aload_n 0, 1) := by decide +kernel
theorem dX6_readStatement_167 : decode cX6_readStatement 167 = .ok (.getfield 19, 3) := by decide +kernel
theorem dX6_readStatement_170 : decode cX6_readStatement 170 = .ok (.getfield 106, 3) := by decide +kernel
theorem dX6_readStatement_173 : decode cX6_readStatement 173 = .ok (.invokevirtual 110, 3) := by decide +kernel
theorem dX6_readStatement_176 : decode cX6_readStatement 176 = .ok (.goto 23, 3) := by decide +kernel
theorem dX6_readStatement_179 : decode cX6_readStatement 179 = .ok (.aload_n 0, 1) := by decide +kernel
theorem dX6_readStatement_180 : decode cX6_readStatement 180 = .ok (.getfield 15, 3) := by decide +kernel
theorem dX6_readStatement_183 : decode cX6_readStatement 183 = .ok (.sipush 263, 3) := by decide +kernel
theorem dX6_readStatement_186 : decode cX6_readStatement 186 = .ok (.aload_n 0, 1) := by decide +kernel
theorem dX6_readStatement_187 : decode cX6_readStatement 187 = .ok (.getfield 19, 3) := by decide +kernel
theorem dX6_readStatement_190 : decode cX6_readStatement 190 = .ok (.getfield 116, 3) := by decide +kernel
theorem dX6_readStatement_193 : decode cX6_readStatement 193 = .ok (.invokevirtual 110, 3) := by decide +kernel
theorem dX6_readStatement_196 : decode cX6_readStatement 196 = .ok (.goto 3, 3) := by decide +kernel
theorem dX6_readStatement_199 : decode cX6_readStatement 199 = .ok (.aload_n 0, 1) := by decide +kernel
theorem dX6_readStatement_200 : decode cX6_readStatement 200 = .ok (.getfield 9, 3) := by decide +kernel
theorem dX6_readStatement_203 : decode cX6_readStatement 203 = .ok (.bipush 59, 2) := by decide +kernel
theorem dX6_readStatement_205 : decode cX6_readStatement 205 = .ok (.invokevirtual 74, 3) := by decide +kernel
theorem dX6_readStatement_208 : decode cX6_readStatement 208 = .ok (.return_, 1) := by decide +kernel
def X6_readStatement_p199 (sh : Shp) (v0 : Nat) (Q : Mem → Prop) (m : Mem) : Prop :=
  Ob sh v0 6 ∧ ∃ b62 : Nat, m.2.2 v0 0 = some b62 ∧ (Ob sh b62 9 ∧ wp_X9_takeSign sh b62 (59 : Int32) (fun m65 => Q m65) m)
def wp_X6_readStatement (sh : Shp) (v0 : Nat) (Q : Mem → Prop) (m : Mem) : Prop :=
  Ob sh v0 6 ∧ ∃ b2 : Nat, m.2.2 v0 0 = some b2 ∧ (Ob sh b2 9 ∧ wp_X9_wordIn sh b2 2 (fun r4 m5 => wp_X6_isFull sh v0 r4 (fun r7 m8 => if r7 = 0 then (if r4 = (-1 : Int32) then (∃ b51 : Nat, m8.2.2 v0 0 = some b51 ∧ (Ob sh b51 9 ∧ (wp_X9_fail sh b51 (1 : Int32) (m8.1 b51 3) (fun m55 => Q m55) m8))) else (∃ b9 : Nat, m8.2.2 v0 0 = some b9 ∧ (Ob sh b9 9 ∧ wp_X9_advance sh b9 (fun m12 => if r4 = (0 : Int32) then (wp_X6_readHigh sh v0 (fun m15 => X6_readStatement_p199 sh v0 Q m15) m12) else if r4 = (1 : Int32) then (wp_X6_readStone sh v0 (fun m17 => X6_readStatement_p199 sh v0 Q m17) m12) else if r4 = (2 : Int32) then (∃ b18 : Nat, m12.2.2 v0 2 = some b18 ∧ (∃ b20 : Nat, m12.2.2 v0 0 = some b20 ∧ (Ob sh b18 5 ∧ (Ob sh b20 9 ∧ wp_X9_takeNumber sh b20 (0 : Int32) ((m12.1 b18 0) - (1 : Int32)) (fun r23 m24 => bnd (sI m24 b18 2 r23) (fun m26 => X6_readStatement_p199 sh v0 Q m26)) m12)))) else if r4 = (3 : Int32) then (wp_X6_readFarm sh v0 (fun m28 => X6_readStatement_p199 sh v0 Q m28) m12) else if r4 = (4 : Int32) then (wp_X6_readCaller sh v0 (fun m30 => X6_readStatement_p199 sh v0 Q m30) m12) else if r4 = (5 : Int32) then (∃ b31 : Nat, m12.2.2 v0 1 = some b31 ∧ (∃ b33 : Nat, m12.2.2 v0 2 = some b33 ∧ (Ob sh b33 5 ∧ ∃ b36 : Nat, m12.2.2 b33 15 = some b36 ∧ (Ob sh b31 8 ∧ wp_X8_readSumOf sh b31 (255 : Int32) b36 (fun m39 => X6_readStatement_p199 sh v0 Q m39) m12)))) else if r4 = (6 : Int32) then (∃ b41 : Nat, m12.2.2 v0 1 = some b41 ∧ (∃ b43 : Nat, m12.2.2 v0 2 = some b43 ∧ (Ob sh b43 5 ∧ ∃ b46 : Nat, m12.2.2 b43 16 = some b46 ∧ (Ob sh b41 8 ∧ wp_X8_readSumOf sh b41 (263 : Int32) b46 (fun m49 => X6_readStatement_p199 sh v0 Q m49) m12)))) else (X6_readStatement_p199 sh v0 Q m12)) m8))) else (∃ b56 : Nat, m8.2.2 v0 0 = some b56 ∧ (Ob sh b56 9 ∧ (wp_X9_fail sh b56 (5 : Int32) (m8.1 b56 3) (fun m60 => Q m60) m8)))) m5) m)
abbrev M_X6_readStatement : Mi := (cX6_readStatement, 2, RX6, (none : Option FieldType), "readStatement", 76, 4245, 0, 0)
set_option maxHeartbeats 4000000 in
set_option maxRecDepth 100000 in
theorem v_X6_readStatement_p199 {G : Gl} {F : Fr} {sh : Shp} {v0 : Nat} {Q : Mem → Prop} {m : Mem} (h : X6_readStatement_p199 sh v0 Q m) : V G F M_X6_readStatement sh 0 0 (Zv G F sh Q) 199 [(0, .ref (G.1 + v0))] [] m := by
  unfold X6_readStatement_p199 at h
  refine v_aload_n 0 0 dX6_readStatement_199 rfl rfl ?_
  obtain ⟨o61, h⟩ := h
  obtain ⟨b62, e63, h⟩ := h
  refine v_gR 6 0 dX6_readStatement_200 fg_RX6_9 o61 e63 ?_
  refine v_bipush (59 : Int32) dX6_readStatement_203 (by decide) ?_
  obtain ⟨o66, h⟩ := h
  refine v_cVv [.int _] mv_X9_takeSign ml_RX6_74 ⟨_, _, rfl⟩ o66 rfl rfl (Nat.le_of_ble_eq_true rfl) (Nat.le_of_ble_eq_true rfl) (Nat.le_of_ble_eq_true rfl) (Nat.zero_le _) (Nat.zero_le _) dX6_readStatement_205 (c_X9_takeSign h) (fun m65 h => ?_)
  exact v_vret dX6_readStatement_208 rfl h
set_option maxHeartbeats 4000000 in
set_option maxRecDepth 100000 in
theorem c_X6_readStatement {l : Launch} {G : Gl} {sh : Shp} {v0 : Nat} {Q : Mem → Prop} {m : Mem} (h : wp_X6_readStatement sh v0 Q m) : Cnv l G yX6_readStatement cX6_readStatement 2 (none : Option FieldType) 76 4245 sh [.ref (G.1 + v0)] m Q := by
  refine con_v (ls := [(0, .ref (G.1 + v0))]) (by decide +kernel) rfl (Nat.le_of_ble_eq_true rfl) (fun F => ?_)
  show V G F M_X6_readStatement sh 0 0 (Zv G F sh Q) 0 [(0, .ref (G.1 + v0))] [] m
  unfold wp_X6_readStatement at h
  refine v_aload_n 0 0 dX6_readStatement_0 rfl rfl ?_
  obtain ⟨o1, h⟩ := h
  obtain ⟨b2, e3, h⟩ := h
  refine v_gR 6 0 dX6_readStatement_1 fg_RX6_9 o1 e3 ?_
  refine v_ldcS (tx := "high stone source farm caller goes bakes") 2 dX6_readStatement_4 (List.mem_of_getElem? (i := 2) rfl) ?_
  obtain ⟨o6, h⟩ := h
  refine v_cVi [.ref _] mv_X9_wordIn ml_RX6_80 ⟨_, _, rfl⟩ o6 rfl rfl (Nat.le_of_ble_eq_true rfl) (Nat.le_of_ble_eq_true rfl) (Nat.le_of_ble_eq_true rfl) (Nat.zero_le _) (Nat.zero_le _) dX6_readStatement_6 (c_X9_wordIn h) (fun r4 m5 h => ?_)
  refine v_istore_n (ls' := [(1, .int _), (0, .ref _)]) 1 dX6_readStatement_9 rfl (Nat.le_of_ble_eq_true rfl) rfl ?_
  refine v_aload_n 0 1 dX6_readStatement_10 rfl rfl ?_
  refine v_iload_n 1 0 dX6_readStatement_11 rfl rfl ?_
  refine v_cVi [.int _] mv_X6_isFull ml_RX6_84 ⟨_, _, rfl⟩ o1 rfl rfl (Nat.le_of_ble_eq_true rfl) (Nat.le_of_ble_eq_true rfl) (Nat.le_of_ble_eq_true rfl) (Nat.zero_le _) (Nat.zero_le _) dX6_readStatement_12 (c_X6_isFull h) (fun r7 m8 h => ?_)
  refine v_if_eq 34 dX6_readStatement_15 (by decide) (fun hc => ?_) (fun hc => ?_)
  · replace h := Eq.mp (if_pos hc) h
    refine v_iload_n 1 0 dX6_readStatement_34 rfl rfl ?_
    refine v_iconst (-1 : Int32) dX6_readStatement_35 (by decide) ?_
    refine v_icmp_ne 55 dX6_readStatement_36 (by decide) (fun hc => ?_) (fun hc => ?_)
    · replace h := Eq.mp (if_neg hc) h
      refine v_aload_n 0 1 dX6_readStatement_55 rfl rfl ?_
      obtain ⟨b9, e10, h⟩ := h
      refine v_gR 6 0 dX6_readStatement_56 fg_RX6_9 o1 e10 ?_
      obtain ⟨o13, h⟩ := h
      refine v_cVv [] mv_X9_advance ml_RX6_88 ⟨_, _, rfl⟩ o13 rfl rfl (Nat.le_of_ble_eq_true rfl) (Nat.le_of_ble_eq_true rfl) (Nat.le_of_ble_eq_true rfl) (Nat.zero_le _) (Nat.zero_le _) dX6_readStatement_59 (c_X9_advance h) (fun m12 h => ?_)
      refine v_iload_n 1 0 dX6_readStatement_62 rfl rfl ?_
      by_cases hc0 : r4 = (0 : Int32)
      · replace h := Eq.mp (if_pos hc0) h
        refine v_tabK (0 : Int32) hc0 104 dX6_readStatement_63 (by decide) (by decide) rfl (by decide) ?_
        refine v_aload_n 0 1 dX6_readStatement_104 rfl rfl ?_
        refine v_cVv [] mv_X6_readHigh ml_RX6_91 ⟨_, _, rfl⟩ o1 rfl rfl (Nat.le_of_ble_eq_true rfl) (Nat.le_of_ble_eq_true rfl) (Nat.le_of_ble_eq_true rfl) (Nat.zero_le _) (Nat.zero_le _) dX6_readStatement_105 (c_X6_readHigh h) (fun m15 h => ?_)
        refine v_goto 199 dX6_readStatement_108 (by decide) ?_
        refine v_sub [1] rfl ?_
        exact v_X6_readStatement_p199 h
      replace h := Eq.mp (if_neg hc0) h
      by_cases hc1 : r4 = (1 : Int32)
      · replace h := Eq.mp (if_pos hc1) h
        refine v_tabK (1 : Int32) hc1 111 dX6_readStatement_63 (by decide) (by decide) rfl (by decide) ?_
        refine v_aload_n 0 1 dX6_readStatement_111 rfl rfl ?_
        refine v_cVv [] mv_X6_readStone ml_RX6_94 ⟨_, _, rfl⟩ o1 rfl rfl (Nat.le_of_ble_eq_true rfl) (Nat.le_of_ble_eq_true rfl) (Nat.le_of_ble_eq_true rfl) (Nat.zero_le _) (Nat.zero_le _) dX6_readStatement_112 (c_X6_readStone h) (fun m17 h => ?_)
        refine v_goto 199 dX6_readStatement_115 (by decide) ?_
        refine v_sub [1] rfl ?_
        exact v_X6_readStatement_p199 h
      replace h := Eq.mp (if_neg hc1) h
      by_cases hc2 : r4 = (2 : Int32)
      · replace h := Eq.mp (if_pos hc2) h
        refine v_tabK (2 : Int32) hc2 118 dX6_readStatement_63 (by decide) (by decide) rfl (by decide) ?_
        refine v_aload_n 0 1 dX6_readStatement_118 rfl rfl ?_
        obtain ⟨b18, e19, h⟩ := h
        refine v_gR 6 2 dX6_readStatement_119 fg_RX6_19 o1 e19 ?_
        refine v_aload_n 0 1 dX6_readStatement_122 rfl rfl ?_
        obtain ⟨b20, e21, h⟩ := h
        refine v_gR 6 0 dX6_readStatement_123 fg_RX6_9 o1 e21 ?_
        refine v_iconst (0 : Int32) dX6_readStatement_126 (by decide) ?_
        refine v_aload_n 0 1 dX6_readStatement_127 rfl rfl ?_
        refine v_gR 6 2 dX6_readStatement_128 fg_RX6_19 o1 e19 ?_
        obtain ⟨o22, h⟩ := h
        refine v_gI 5 0 dX6_readStatement_131 fg_RX6_66 o22 ?_
        refine v_iconst (1 : Int32) dX6_readStatement_134 (by decide) ?_
        refine v_isub dX6_readStatement_135 ?_
        obtain ⟨o25, h⟩ := h
        refine v_cVi [.int _, .int _] mv_X9_takeNumber ml_RX6_62 ⟨_, _, rfl⟩ o25 rfl rfl (Nat.le_of_ble_eq_true rfl) (Nat.le_of_ble_eq_true rfl) (Nat.le_of_ble_eq_true rfl) (Nat.zero_le _) (Nat.zero_le _) dX6_readStatement_136 (c_X9_takeNumber h) (fun r23 m24 h => ?_)
        refine v_pI 5 2 dX6_readStatement_139 fw_RX6_97 o22 ?_
        replace h := bnd_e h
        refine v_goto 199 dX6_readStatement_142 (by decide) ?_
        refine v_sub [1] rfl ?_
        exact v_X6_readStatement_p199 h
      replace h := Eq.mp (if_neg hc2) h
      by_cases hc3 : r4 = (3 : Int32)
      · replace h := Eq.mp (if_pos hc3) h
        refine v_tabK (3 : Int32) hc3 145 dX6_readStatement_63 (by decide) (by decide) rfl (by decide) ?_
        refine v_aload_n 0 1 dX6_readStatement_145 rfl rfl ?_
        refine v_cVv [] mv_X6_readFarm ml_RX6_100 ⟨_, _, rfl⟩ o1 rfl rfl (Nat.le_of_ble_eq_true rfl) (Nat.le_of_ble_eq_true rfl) (Nat.le_of_ble_eq_true rfl) (Nat.zero_le _) (Nat.zero_le _) dX6_readStatement_146 (c_X6_readFarm h) (fun m28 h => ?_)
        refine v_goto 199 dX6_readStatement_149 (by decide) ?_
        refine v_sub [1] rfl ?_
        exact v_X6_readStatement_p199 h
      replace h := Eq.mp (if_neg hc3) h
      by_cases hc4 : r4 = (4 : Int32)
      · replace h := Eq.mp (if_pos hc4) h
        refine v_tabK (4 : Int32) hc4 152 dX6_readStatement_63 (by decide) (by decide) rfl (by decide) ?_
        refine v_aload_n 0 1 dX6_readStatement_152 rfl rfl ?_
        refine v_cVv [] mv_X6_readCaller ml_RX6_103 ⟨_, _, rfl⟩ o1 rfl rfl (Nat.le_of_ble_eq_true rfl) (Nat.le_of_ble_eq_true rfl) (Nat.le_of_ble_eq_true rfl) (Nat.zero_le _) (Nat.zero_le _) dX6_readStatement_153 (c_X6_readCaller h) (fun m30 h => ?_)
        refine v_goto 199 dX6_readStatement_156 (by decide) ?_
        refine v_sub [1] rfl ?_
        exact v_X6_readStatement_p199 h
      replace h := Eq.mp (if_neg hc4) h
      by_cases hc5 : r4 = (5 : Int32)
      · replace h := Eq.mp (if_pos hc5) h
        refine v_tabK (5 : Int32) hc5 159 dX6_readStatement_63 (by decide) (by decide) rfl (by decide) ?_
        refine v_aload_n 0 1 dX6_readStatement_159 rfl rfl ?_
        obtain ⟨b31, e32, h⟩ := h
        refine v_gR 6 1 dX6_readStatement_160 fg_RX6_15 o1 e32 ?_
        refine v_sipush (255 : Int32) dX6_readStatement_163 (by decide) ?_
        refine v_aload_n 0 1 dX6_readStatement_166 rfl rfl ?_
        obtain ⟨b33, e34, h⟩ := h
        refine v_gR 6 2 dX6_readStatement_167 fg_RX6_19 o1 e34 ?_
        obtain ⟨o35, h⟩ := h
        obtain ⟨b36, e37, h⟩ := h
        refine v_gR 5 15 dX6_readStatement_170 fg_RX6_106 o35 e37 ?_
        obtain ⟨o40, h⟩ := h
        refine v_cVv [.int _, .ref _] mv_X8_readSumOf ml_RX6_110 ⟨_, _, rfl⟩ o40 rfl rfl (Nat.le_of_ble_eq_true rfl) (Nat.le_of_ble_eq_true rfl) (Nat.le_of_ble_eq_true rfl) (Nat.zero_le _) (Nat.zero_le _) dX6_readStatement_173 (c_X8_readSumOf h) (fun m39 h => ?_)
        refine v_goto 199 dX6_readStatement_176 (by decide) ?_
        refine v_sub [1] rfl ?_
        exact v_X6_readStatement_p199 h
      replace h := Eq.mp (if_neg hc5) h
      by_cases hc6 : r4 = (6 : Int32)
      · replace h := Eq.mp (if_pos hc6) h
        refine v_tabK (6 : Int32) hc6 179 dX6_readStatement_63 (by decide) (by decide) rfl (by decide) ?_
        refine v_aload_n 0 1 dX6_readStatement_179 rfl rfl ?_
        obtain ⟨b41, e42, h⟩ := h
        refine v_gR 6 1 dX6_readStatement_180 fg_RX6_15 o1 e42 ?_
        refine v_sipush (263 : Int32) dX6_readStatement_183 (by decide) ?_
        refine v_aload_n 0 1 dX6_readStatement_186 rfl rfl ?_
        obtain ⟨b43, e44, h⟩ := h
        refine v_gR 6 2 dX6_readStatement_187 fg_RX6_19 o1 e44 ?_
        obtain ⟨o45, h⟩ := h
        obtain ⟨b46, e47, h⟩ := h
        refine v_gR 5 16 dX6_readStatement_190 fg_RX6_116 o45 e47 ?_
        obtain ⟨o50, h⟩ := h
        refine v_cVv [.int _, .ref _] mv_X8_readSumOf ml_RX6_110 ⟨_, _, rfl⟩ o50 rfl rfl (Nat.le_of_ble_eq_true rfl) (Nat.le_of_ble_eq_true rfl) (Nat.le_of_ble_eq_true rfl) (Nat.zero_le _) (Nat.zero_le _) dX6_readStatement_193 (c_X8_readSumOf h) (fun m49 h => ?_)
        refine v_goto 199 dX6_readStatement_196 (by decide) ?_
        refine v_sub [1] rfl ?_
        exact v_X6_readStatement_p199 h
      replace h := Eq.mp (if_neg hc6) h
      refine v_tabOut 199 dX6_readStatement_63 (by have := lv_neT hc0 (a := 0) (by decide); have := lv_neT hc1 (a := 1) (by decide); have := lv_neT hc2 (a := 2) (by decide); have := lv_neT hc3 (a := 3) (by decide); have := lv_neT hc4 (a := 4) (by decide); have := lv_neT hc5 (a := 5) (by decide); have := lv_neT hc6 (a := 6) (by decide); omega) (by decide) ?_
      refine v_sub [1] rfl ?_
      exact v_X6_readStatement_p199 h
    · replace h := Eq.mp (if_pos hc) h
      refine v_aload_n 0 1 dX6_readStatement_39 rfl rfl ?_
      obtain ⟨b51, e52, h⟩ := h
      refine v_gR 6 0 dX6_readStatement_40 fg_RX6_9 o1 e52 ?_
      refine v_iconst (1 : Int32) dX6_readStatement_43 (by decide) ?_
      refine v_aload_n 0 1 dX6_readStatement_44 rfl rfl ?_
      refine v_gR 6 0 dX6_readStatement_45 fg_RX6_9 o1 e52 ?_
      obtain ⟨o53, h⟩ := h
      refine v_gI 9 3 dX6_readStatement_48 fg_RX6_43 o53 ?_
      refine v_cVv [.int _, .int _] mv_X9_fail ml_RX6_47 ⟨_, _, rfl⟩ o53 rfl rfl (Nat.le_of_ble_eq_true rfl) (Nat.le_of_ble_eq_true rfl) (Nat.le_of_ble_eq_true rfl) (Nat.zero_le _) (Nat.zero_le _) dX6_readStatement_51 (c_X9_fail h) (fun m55 h => ?_)
      exact v_vret dX6_readStatement_54 rfl h
  · replace h := Eq.mp (if_neg hc) h
    refine v_aload_n 0 1 dX6_readStatement_18 rfl rfl ?_
    obtain ⟨b56, e57, h⟩ := h
    refine v_gR 6 0 dX6_readStatement_19 fg_RX6_9 o1 e57 ?_
    refine v_iconst (5 : Int32) dX6_readStatement_22 (by decide) ?_
    refine v_aload_n 0 1 dX6_readStatement_23 rfl rfl ?_
    refine v_gR 6 0 dX6_readStatement_24 fg_RX6_9 o1 e57 ?_
    obtain ⟨o58, h⟩ := h
    refine v_gI 9 3 dX6_readStatement_27 fg_RX6_43 o58 ?_
    refine v_cVv [.int _, .int _] mv_X9_fail ml_RX6_47 ⟨_, _, rfl⟩ o58 rfl rfl (Nat.le_of_ble_eq_true rfl) (Nat.le_of_ble_eq_true rfl) (Nat.le_of_ble_eq_true rfl) (Nat.zero_le _) (Nat.zero_le _) dX6_readStatement_30 (c_X9_fail h) (fun m60 h => ?_)
    exact v_vret dX6_readStatement_33 rfl h
/-! CalledRiver$PlainReader.readPlain -/
theorem dX6_readPlain_0 : decode cX6_readPlain 0 = .ok (.aload_n 0, 1) := by decide +kernel
theorem dX6_readPlain_1 : decode cX6_readPlain 1 = .ok (.aload_n 1, 1) := by decide +kernel
theorem dX6_readPlain_2 : decode cX6_readPlain 2 = .ok (.putfield 19, 3) := by decide +kernel
theorem dX6_readPlain_5 : decode cX6_readPlain 5 = .ok (.aload_n 0, 1) := by decide +kernel
theorem dX6_readPlain_6 : decode cX6_readPlain 6 = .ok (.getfield 19, 3) := by decide +kernel
theorem dX6_readPlain_9 : decode cX6_readPlain 9 = .ok (.invokevirtual 23, 3) := by decide +kernel
theorem dX6_readPlain_12 : decode cX6_readPlain 12 = .ok (.aload_n 0, 1) := by decide +kernel
theorem dX6_readPlain_13 : decode cX6_readPlain 13 = .ok (.getfield 9, 3) := by decide +kernel
theorem dX6_readPlain_16 : decode cX6_readPlain 16 = .ok (.invokevirtual 28, 3) := by decide +kernel
theorem dX6_readPlain_19 : decode cX6_readPlain 19 = .ok (.aload_n 0, 1) := by decide +kernel
theorem dX6_readPlain_20 : decode cX6_readPlain 20 = .ok (.invokevirtual 33, 3) := by decide +kernel
theorem dX6_readPlain_23 : decode cX6_readPlain 23 = .ok (.iconst 1, 1) := by decide +kernel
theorem dX6_readPlain_24 : decode cX6_readPlain 24 = .ok (.istore_n 2, 1) := by decide +kernel
theorem dX6_readPlain_25 : decode cX6_readPlain 25 = .ok (.iload_n 2, 1) := by decide +kernel
theorem dX6_readPlain_26 : decode cX6_readPlain 26 = .ok (.bipush 80, 2) := by decide +kernel
theorem dX6_readPlain_28 : decode cX6_readPlain 28 = .ok (.if_icmp .ge 20, 3) := by decide +kernel
theorem dX6_readPlain_31 : decode cX6_readPlain 31 = .ok (.aload_n 0, 1) := by decide +kernel
theorem dX6_readPlain_32 : decode cX6_readPlain 32 = .ok (.invokevirtual 36, 3) := by decide +kernel
theorem dX6_readPlain_35 : decode cX6_readPlain 35 = .ok (.ifCond .eq 13, 3) := by decide +kernel
theorem dX6_readPlain_38 : decode cX6_readPlain 38 = .ok (.aload_n 0, 1) := by decide +kernel
theorem dX6_readPlain_39 : decode cX6_readPlain 39 = .ok (.invokevirtual 40, 3) := by decide +kernel
theorem dX6_readPlain_42 : decode cX6_readPlain 42 = .ok (.iinc 2 1, 3) := by decide +kernel
theorem dX6_readPlain_45 : decode cX6_readPlain 45 = .ok (.goto (-20), 3) := by decide +kernel
theorem dX6_readPlain_48 : decode cX6_readPlain 48 = .ok (.aload_n 0, 1) := by decide +kernel
theorem dX6_readPlain_49 : decode cX6_readPlain 49 = .ok (.invokevirtual 36, 3) := by decide +kernel
theorem dX6_readPlain_52 : decode cX6_readPlain 52 = .ok (.ifCond .eq 18, 3) := by decide +kernel
theorem dX6_readPlain_55 : decode cX6_readPlain 55 = .ok (.aload_n 0, 1) := by decide +kernel
theorem dX6_readPlain_56 : decode cX6_readPlain 56 = .ok (.getfield 9, 3) := by decide +kernel
theorem dX6_readPlain_59 : decode cX6_readPlain 59 = .ok (.iconst 5, 1) := by decide +kernel
theorem dX6_readPlain_60 : decode cX6_readPlain 60 = .ok (.aload_n 0, 1) := by decide +kernel
theorem dX6_readPlain_61 : decode cX6_readPlain 61 = .ok (.getfield 9, 3) := by decide +kernel
theorem dX6_readPlain_64 : decode cX6_readPlain 64 = .ok (.getfield 43, 3) := by decide +kernel
theorem dX6_readPlain_67 : decode cX6_readPlain 67 = .ok (.invokevirtual 47, 3) := by decide +kernel
theorem dX6_readPlain_70 : decode cX6_readPlain 70 = .ok (.aload_n 0, 1) := by decide +kernel
theorem dX6_readPlain_71 : decode cX6_readPlain 71 = .ok (.invokevirtual 51, 3) := by decide +kernel
theorem dX6_readPlain_74 : decode cX6_readPlain 74 = .ok (.iload_n 2, 1) := by decide +kernel
theorem dX6_readPlain_75 : decode cX6_readPlain 75 = .ok (.ireturn, 1) := by decide +kernel
def X6_readPlain_p70 (sh : Shp) (v0 : Nat) (v2 : Int32) (Q : Int32 → Mem → Prop) (m : Mem) : Prop :=
  Ob sh v0 6 ∧ wp_X6_addMissingSums sh v0 (fun m29 => Q v2 m29) m
def X6_readPlain_p48 (sh : Shp) (v0 : Nat) (v2 : Int32) (Q : Int32 → Mem → Prop) (m : Mem) : Prop :=
  Ob sh v0 6 ∧ wp_X6_hasMore sh v0 (fun r20 m21 => if r20 = 0 then (X6_readPlain_p70 sh v0 v2 Q m21) else (∃ b23 : Nat, m21.2.2 v0 0 = some b23 ∧ (Ob sh b23 9 ∧ (wp_X9_fail sh b23 (5 : Int32) (m21.1 b23 3) (fun m27 => X6_readPlain_p70 sh v0 v2 Q m27) m21)))) m
def X6_readPlain_p25b (sh : Shp) (v0 : Nat) (Q : Int32 → Mem → Prop) (K25 : Int32 → Mem → Prop) (v2 : Int32) (m : Mem) : Prop :=
  if (80 : Int32) ≤ v2 then (X6_readPlain_p48 sh v0 v2 Q m) else (Ob sh v0 6 ∧ wp_X6_hasMore sh v0 (fun r15 m16 => if r15 = 0 then (X6_readPlain_p48 sh v0 v2 Q m16) else (wp_X6_readStatement sh v0 (fun m19 => K25 (v2 + (1 : Int32)) m19) m16)) m)
def X6_readPlain_p25n (sh : Shp) (v0 : Nat) (Q : Int32 → Mem → Prop) : Nat → Int32 → Mem → Prop
  | 0 => fun _ _ => False
  | n + 1 => X6_readPlain_p25b sh v0 Q (X6_readPlain_p25n sh v0 Q n)
def X6_readPlain_p25 (sh : Shp) (v0 : Nat) (Q : Int32 → Mem → Prop) (v2 : Int32) (m : Mem) : Prop := ∃ n, X6_readPlain_p25n sh v0 Q n v2 m
def wp_X6_readPlain (sh : Shp) (v0 : Nat) (v1 : Nat) (Q : Int32 → Mem → Prop) (m : Mem) : Prop :=
  Ob sh v0 6 ∧ bnd (sR m v0 2 (some v1)) (fun m2 => ∃ b3 : Nat, m2.2.2 v0 2 = some b3 ∧ (Ob sh b3 5 ∧ wp_X5_clear sh b3 (fun m6 => ∃ b8 : Nat, m6.2.2 v0 0 = some b8 ∧ (Ob sh b8 9 ∧ wp_X9_rewind sh b8 (fun m11 => wp_X6_readSides sh v0 (fun m14 => X6_readPlain_p25 sh v0 Q (1 : Int32) m14) m11) m6)) m2))
abbrev M_X6_readPlain : Mi := (cX6_readPlain, 3, RX6, (Option.some FieldType.int), "readPlain", 77, 4266, 0, 0)
set_option maxHeartbeats 4000000 in
set_option maxRecDepth 100000 in
theorem v_X6_readPlain_p70 {G : Gl} {F : Fr} {sh : Shp} {v0 : Nat} {v2 : Int32} {Q : Int32 → Mem → Prop} {m : Mem} (h : X6_readPlain_p70 sh v0 v2 Q m) : V G F M_X6_readPlain sh 0 0 (Zi G F sh Q) 70 [(0, .ref (G.1 + v0)), (2, .int v2)] [] m := by
  unfold X6_readPlain_p70 at h
  refine v_aload_n 0 0 dX6_readPlain_70 rfl rfl ?_
  obtain ⟨o30, h⟩ := h
  refine v_cVv [] mv_X6_addMissingSums ml_RX6_51 ⟨_, _, rfl⟩ o30 rfl rfl (Nat.le_of_ble_eq_true rfl) (Nat.le_of_ble_eq_true rfl) (Nat.le_of_ble_eq_true rfl) (Nat.zero_le _) (Nat.zero_le _) dX6_readPlain_71 (c_X6_addMissingSums h) (fun m29 h => ?_)
  refine v_iload_n 2 1 dX6_readPlain_74 rfl rfl ?_
  exact v_iret dX6_readPlain_75 rfl rfl h
set_option maxHeartbeats 4000000 in
set_option maxRecDepth 100000 in
theorem v_X6_readPlain_p48 {G : Gl} {F : Fr} {sh : Shp} {v0 : Nat} {v2 : Int32} {Q : Int32 → Mem → Prop} {m : Mem} (h : X6_readPlain_p48 sh v0 v2 Q m) : V G F M_X6_readPlain sh 0 0 (Zi G F sh Q) 48 [(0, .ref (G.1 + v0)), (2, .int v2)] [] m := by
  unfold X6_readPlain_p48 at h
  refine v_aload_n 0 0 dX6_readPlain_48 rfl rfl ?_
  obtain ⟨o22, h⟩ := h
  refine v_cVi [] mv_X6_hasMore ml_RX6_36 ⟨_, _, rfl⟩ o22 rfl rfl (Nat.le_of_ble_eq_true rfl) (Nat.le_of_ble_eq_true rfl) (Nat.le_of_ble_eq_true rfl) (Nat.zero_le _) (Nat.zero_le _) dX6_readPlain_49 (c_X6_hasMore h) (fun r20 m21 h => ?_)
  refine v_if_eq 70 dX6_readPlain_52 (by decide) (fun hc => ?_) (fun hc => ?_)
  · replace h := Eq.mp (if_pos hc) h
    refine v_sub [0, 1] rfl ?_
    exact v_X6_readPlain_p70 h
  · replace h := Eq.mp (if_neg hc) h
    refine v_aload_n 0 0 dX6_readPlain_55 rfl rfl ?_
    obtain ⟨b23, e24, h⟩ := h
    refine v_gR 6 0 dX6_readPlain_56 fg_RX6_9 o22 e24 ?_
    refine v_iconst (5 : Int32) dX6_readPlain_59 (by decide) ?_
    refine v_aload_n 0 0 dX6_readPlain_60 rfl rfl ?_
    refine v_gR 6 0 dX6_readPlain_61 fg_RX6_9 o22 e24 ?_
    obtain ⟨o25, h⟩ := h
    refine v_gI 9 3 dX6_readPlain_64 fg_RX6_43 o25 ?_
    refine v_cVv [.int _, .int _] mv_X9_fail ml_RX6_47 ⟨_, _, rfl⟩ o25 rfl rfl (Nat.le_of_ble_eq_true rfl) (Nat.le_of_ble_eq_true rfl) (Nat.le_of_ble_eq_true rfl) (Nat.zero_le _) (Nat.zero_le _) dX6_readPlain_67 (c_X9_fail h) (fun m27 h => ?_)
    refine v_sub [0, 1] rfl ?_
    exact v_X6_readPlain_p70 h
set_option maxHeartbeats 4000000 in
set_option maxRecDepth 100000 in
theorem v_X6_readPlain_p25b {G : Gl} {F : Fr} {sh : Shp} {v0 : Nat} {v2 : Int32} {Q : Int32 → Mem → Prop} {K25 : Int32 → Mem → Prop} {m : Mem} (hK25 : ∀ (x2 : Int32) (m : Mem), K25 x2 m → V G F M_X6_readPlain sh 0 0 (Zi G F sh Q) 25 [(0, .ref (G.1 + v0)), (2, .int x2)] [] m) (h : X6_readPlain_p25b sh v0 Q K25 v2 m) : V G F M_X6_readPlain sh 0 0 (Zi G F sh Q) 25 [(0, .ref (G.1 + v0)), (2, .int v2)] [] m := by
  unfold X6_readPlain_p25b at h
  refine v_iload_n 2 1 dX6_readPlain_25 rfl rfl ?_
  refine v_bipush (80 : Int32) dX6_readPlain_26 (by decide) ?_
  refine v_icmp_ge 48 dX6_readPlain_28 (by decide) (fun hc => ?_) (fun hc => ?_)
  · replace h := Eq.mp (if_pos hc) h
    refine v_sub [0, 1] rfl ?_
    exact v_X6_readPlain_p48 h
  · replace h := Eq.mp (if_neg hc) h
    refine v_aload_n 0 0 dX6_readPlain_31 rfl rfl ?_
    obtain ⟨o17, h⟩ := h
    refine v_cVi [] mv_X6_hasMore ml_RX6_36 ⟨_, _, rfl⟩ o17 rfl rfl (Nat.le_of_ble_eq_true rfl) (Nat.le_of_ble_eq_true rfl) (Nat.le_of_ble_eq_true rfl) (Nat.zero_le _) (Nat.zero_le _) dX6_readPlain_32 (c_X6_hasMore h) (fun r15 m16 h => ?_)
    refine v_if_eq 48 dX6_readPlain_35 (by decide) (fun hc => ?_) (fun hc => ?_)
    · replace h := Eq.mp (if_pos hc) h
      refine v_sub [0, 1] rfl ?_
      exact v_X6_readPlain_p48 h
    · replace h := Eq.mp (if_neg hc) h
      refine v_aload_n 0 0 dX6_readPlain_38 rfl rfl ?_
      refine v_cVv [] mv_X6_readStatement ml_RX6_40 ⟨_, _, rfl⟩ o17 rfl rfl (Nat.le_of_ble_eq_true rfl) (Nat.le_of_ble_eq_true rfl) (Nat.le_of_ble_eq_true rfl) (Nat.zero_le _) (Nat.zero_le _) dX6_readPlain_39 (c_X6_readStatement h) (fun m19 h => ?_)
      refine v_iinc (ls' := [(2, .int _), (0, .ref _)]) 2 1 dX6_readPlain_42 rfl (congrArg (HAdd.hAdd _) (by decide : Int32.ofInt (1) = (1 : Int32))) (Nat.le_of_ble_eq_true rfl) rfl ?_
      refine v_goto 25 dX6_readPlain_45 (by decide) ?_
      refine v_sub [1, 0] rfl ?_
      exact hK25 _ _ h
set_option maxHeartbeats 4000000 in
set_option maxRecDepth 100000 in
theorem v_X6_readPlain_p25 {G : Gl} {F : Fr} {sh : Shp} {v0 : Nat} {v2 : Int32} {Q : Int32 → Mem → Prop} {m : Mem} (h : X6_readPlain_p25 sh v0 Q v2 m) : V G F M_X6_readPlain sh 0 0 (Zi G F sh Q) 25 [(0, .ref (G.1 + v0)), (2, .int v2)] [] m := by
  obtain ⟨n, h⟩ := h
  induction n generalizing v2 m with
  | zero => exact h.elim
  | succ n ih => exact v_X6_readPlain_p25b (fun _ _ h => ih h) h
set_option maxHeartbeats 4000000 in
set_option maxRecDepth 100000 in
theorem c_X6_readPlain {l : Launch} {G : Gl} {sh : Shp} {v0 : Nat} {v1 : Nat} {Q : Int32 → Mem → Prop} {m : Mem} (h : wp_X6_readPlain sh v0 v1 Q m) : Cni l G yX6_readPlain cX6_readPlain 3 (Option.some FieldType.int) 77 4266 sh [.ref (G.1 + v0), .ref (G.1 + v1)] m Q := by
  refine con_i (ls := [(0, .ref (G.1 + v0)), (1, .ref (G.1 + v1))]) (by decide +kernel) rfl (Nat.le_of_ble_eq_true rfl) (fun F => ?_)
  show V G F M_X6_readPlain sh 0 0 (Zi G F sh Q) 0 [(0, .ref (G.1 + v0)), (1, .ref (G.1 + v1))] [] m
  unfold wp_X6_readPlain at h
  refine v_aload_n 0 0 dX6_readPlain_0 rfl rfl ?_
  refine v_aload_n 1 1 dX6_readPlain_1 rfl rfl ?_
  obtain ⟨o1, h⟩ := h
  refine v_pR 6 2 dX6_readPlain_2 fw_RX6_19 o1 (fun _ => rfl) (fun _ => rfl) ?_
  replace h := bnd_e h
  refine v_aload_n 0 0 dX6_readPlain_5 rfl rfl ?_
  obtain ⟨b3, e4, h⟩ := h
  refine v_gR 6 2 dX6_readPlain_6 fg_RX6_19 o1 e4 ?_
  obtain ⟨o7, h⟩ := h
  refine v_cVv [] mv_X5_clear ml_RX6_23 ⟨_, _, rfl⟩ o7 rfl rfl (Nat.le_of_ble_eq_true rfl) (Nat.le_of_ble_eq_true rfl) (Nat.le_of_ble_eq_true rfl) (Nat.zero_le _) (Nat.zero_le _) dX6_readPlain_9 (c_X5_clear h) (fun m6 h => ?_)
  refine v_aload_n 0 0 dX6_readPlain_12 rfl rfl ?_
  obtain ⟨b8, e9, h⟩ := h
  refine v_gR 6 0 dX6_readPlain_13 fg_RX6_9 o1 e9 ?_
  obtain ⟨o12, h⟩ := h
  refine v_cVv [] mv_X9_rewind ml_RX6_28 ⟨_, _, rfl⟩ o12 rfl rfl (Nat.le_of_ble_eq_true rfl) (Nat.le_of_ble_eq_true rfl) (Nat.le_of_ble_eq_true rfl) (Nat.zero_le _) (Nat.zero_le _) dX6_readPlain_16 (c_X9_rewind h) (fun m11 h => ?_)
  refine v_aload_n 0 0 dX6_readPlain_19 rfl rfl ?_
  refine v_cVv [] mv_X6_readSides ml_RX6_33 ⟨_, _, rfl⟩ o1 rfl rfl (Nat.le_of_ble_eq_true rfl) (Nat.le_of_ble_eq_true rfl) (Nat.le_of_ble_eq_true rfl) (Nat.zero_le _) (Nat.zero_le _) dX6_readPlain_20 (c_X6_readSides h) (fun m14 h => ?_)
  refine v_iconst (1 : Int32) dX6_readPlain_23 (by decide) ?_
  refine v_istore_n (ls' := [(2, .int _), (0, .ref _), (1, .ref _)]) 2 dX6_readPlain_24 rfl (Nat.le_of_ble_eq_true rfl) rfl ?_
  refine v_sub [1, 0] rfl ?_
  exact v_X6_readPlain_p25 h
/-! CalledRiver$SumReader.readQuestion -/
theorem dX8_readQuestion_0 : decode cX8_readQuestion 0 = .ok (.aload_n 0, 1) := by decide +kernel
theorem dX8_readQuestion_1 : decode cX8_readQuestion 1 = .ok (.sipush 7719, 3) := by decide +kernel
theorem dX8_readQuestion_4 : decode cX8_readQuestion 4 = .ok (.aload_n 1, 1) := by decide +kernel
theorem dX8_readQuestion_5 : decode cX8_readQuestion 5 = .ok (.invokevirtual 19, 3) := by decide +kernel
theorem dX8_readQuestion_8 : decode cX8_readQuestion 8 = .ok (.aload_n 0, 1) := by decide +kernel
theorem dX8_readQuestion_9 : decode cX8_readQuestion 9 = .ok (.getfield 9, 3) := by decide +kernel
theorem dX8_readQuestion_12 : decode cX8_readQuestion 12 = .ok (.invokevirtual 27, 3) := by decide +kernel
theorem dX8_readQuestion_15 : decode cX8_readQuestion 15 = .ok (.aload_n 0, 1) := by decide +kernel
theorem dX8_readQuestion_16 : decode cX8_readQuestion 16 = .ok (.getfield 9, 3) := by decide +kernel
theorem dX8_readQuestion_19 : decode cX8_readQuestion 19 = .ok (.ldc 32, 2) := by decide +kernel
theorem dX8_readQuestion_21 : decode cX8_readQuestion 21 = .ok (.invokevirtual 34, 3) := by decide +kernel
theorem dX8_readQuestion_24 : decode cX8_readQuestion 24 = .ok (.istore_n 2, 1) := by decide +kernel
theorem dX8_readQuestion_25 : decode cX8_readQuestion 25 = .ok (.iload_n 2, 1) := by decide +kernel
theorem dX8_readQuestion_26 : decode cX8_readQuestion 26 = .ok (.iconst (-1), 1) := by decide +kernel
theorem dX8_readQuestion_27 : decode cX8_readQuestion 27 = .ok (.if_icmp .ne 20, 3) := by decide +kernel
theorem dX8_readQuestion_30 : decode cX8_readQuestion 30 = .ok (.aload_n 0, 1) := by decide +kernel
theorem dX8_readQuestion_31 : decode cX8_readQuestion 31 = .ok (.getfield 9, 3) := by decide +kernel
theorem dX8_readQuestion_34 : decode cX8_readQuestion 34 = .ok (.iconst 1, 1) := by decide +kernel
theorem dX8_readQuestion_35 : decode cX8_readQuestion 35 = .ok (.aload_n 0, 1) := by decide +kernel
theorem dX8_readQuestion_36 : decode cX8_readQuestion 36 = .ok (.getfield 9, 3) := by decide +kernel
theorem dX8_readQuestion_39 : decode cX8_readQuestion 39 = .ok (.getfield 38, 3) := by decide +kernel
theorem dX8_readQuestion_42 : decode cX8_readQuestion 42 = .ok (.invokevirtual 42, 3) := by decide +kernel
theorem dX8_readQuestion_45 : decode cX8_readQuestion 45 = .ok (.iconst (-1), 1) := by decide +kernel
theorem dX8_readQuestion_46 : decode cX8_readQuestion 46 = .ok (.ireturn, 1) := by decide +kernel
theorem dX8_readQuestion_47 : decode cX8_readQuestion 47 = .ok (.aload_n 0, 1) := by decide +kernel
theorem dX8_readQuestion_48 : decode cX8_readQuestion 48 = .ok (.getfield 9, 3) := by decide +kernel
theorem dX8_readQuestion_51 : decode cX8_readQuestion 51 = .ok (.invokevirtual 46, 3) := by decide +kernel
theorem dX8_readQuestion_54 : decode cX8_readQuestion 54 = .ok (.iload_n 2, 1) := by decide +kernel
theorem dX8_readQuestion_55 : decode cX8_readQuestion 55 = .ok (.iconst 2, 1) := by decide +kernel
theorem dX8_readQuestion_56 : decode cX8_readQuestion 56 = .ok (.if_icmp .gt 11, 3) := by decide +kernel
theorem dX8_readQuestion_59 : decode cX8_readQuestion 59 = .ok (.aload_n 0, 1) := by decide +kernel
theorem dX8_readQuestion_60 : decode cX8_readQuestion 60 = .ok (.iconst 0, 1) := by decide +kernel
theorem dX8_readQuestion_61 : decode cX8_readQuestion 61 = .ok (.invokevirtual 49, 3) := by decide +kernel
theorem dX8_readQuestion_64 : decode cX8_readQuestion 64 = .ok (.goto 8, 3) := by decide +kernel
theorem dX8_readQuestion_67 : decode cX8_readQuestion 67 = .ok (.aload_n 0, 1) := by decide +kernel
theorem dX8_readQuestion_68 : decode cX8_readQuestion 68 = .ok (.iconst 0, 1) := by decide +kernel
theorem dX8_readQuestion_69 : decode cX8_readQuestion 69 = .ok (.invokevirtual 23, 3) := by decide +kernel
theorem dX8_readQuestion_72 : decode cX8_readQuestion 72 = .ok (.aload_n 0, 1) := by decide +kernel
theorem dX8_readQuestion_73 : decode cX8_readQuestion 73 = .ok (.getfield 9, 3) := by decide +kernel
theorem dX8_readQuestion_76 : decode cX8_readQuestion 76 = .ok (.getfield 52, 3) := by decide +kernel
theorem dX8_readQuestion_79 : decode cX8_readQuestion 79 = .ok (.ifCond .eq 18, 3) := by decide +kernel
theorem dX8_readQuestion_82 : decode cX8_readQuestion 82 = .ok (.aload_n 0, 1) := by decide +kernel
theorem dX8_readQuestion_83 : decode cX8_readQuestion 83 = .ok (.getfield 9, 3) := by decide +kernel
theorem dX8_readQuestion_86 : decode cX8_readQuestion 86 = .ok (.iconst 1, 1) := by decide +kernel
theorem dX8_readQuestion_87 : decode cX8_readQuestion 87 = .ok (.aload_n 0, 1) := by decide +kernel
theorem dX8_readQuestion_88 : decode cX8_readQuestion 88 = .ok (.getfield 9, 3) := by decide +kernel
theorem dX8_readQuestion_91 : decode cX8_readQuestion 91 = .ok (.getfield 38, 3) := by decide +kernel
theorem dX8_readQuestion_94 : decode cX8_readQuestion 94 = .ok (.invokevirtual 42, 3) := by decide +kernel
theorem dX8_readQuestion_97 : decode cX8_readQuestion 97 = .ok (.iload_n 2, 1) := by decide +kernel
theorem dX8_readQuestion_98 : decode cX8_readQuestion 98 = .ok (.ireturn, 1) := by decide +kernel
def X8_readQuestion_p72 (sh : Shp) (v0 : Nat) (v2 : Int32) (Q : Int32 → Mem → Prop) (m : Mem) : Prop :=
  Ob sh v0 8 ∧ ∃ b29 : Nat, m.2.2 v0 0 = some b29 ∧ (Ob sh b29 9 ∧ (if (m.1 b29 2) = 0 then (Q v2 m) else (wp_X9_fail sh b29 (1 : Int32) (m.1 b29 3) (fun m33 => Q v2 m33) m)))
def wp_X8_readQuestion (sh : Shp) (v0 : Nat) (v1 : Nat) (Q : Int32 → Mem → Prop) (m : Mem) : Prop :=
  Ob sh v0 8 ∧ wp_X8_begin sh v0 (7719 : Int32) v1 (fun m2 => ∃ b4 : Nat, m2.2.2 v0 0 = some b4 ∧ (Ob sh b4 9 ∧ wp_X9_rewind sh b4 (fun m7 => ∃ b9 : Nat, m7.2.2 v0 0 = some b9 ∧ (Ob sh b9 9 ∧ wp_X9_wordIn sh b9 14 (fun r11 m12 => if r11 = (-1 : Int32) then (∃ b23 : Nat, m12.2.2 v0 0 = some b23 ∧ (Ob sh b23 9 ∧ (wp_X9_fail sh b23 (1 : Int32) (m12.1 b23 3) (fun m27 => Q (-1 : Int32) m27) m12))) else (∃ b14 : Nat, m12.2.2 v0 0 = some b14 ∧ (Ob sh b14 9 ∧ wp_X9_advance sh b14 (fun m17 => if (2 : Int32) < r11 then (wpG 60 4 sh v0 (0 : Int32) (fun m20 => X8_readQuestion_p72 sh v0 r11 Q m20) m17) else (wpG 60 0 sh v0 (0 : Int32) (fun m22 => X8_readQuestion_p72 sh v0 r11 Q m22) m17)) m12))) m7)) m2)) m
abbrev M_X8_readQuestion : Mi := (cX8_readQuestion, 3, RX8, (Option.some FieldType.int), "readQuestion", 75, 4223, 0, 0)
set_option maxHeartbeats 4000000 in
set_option maxRecDepth 100000 in
theorem v_X8_readQuestion_p72 {G : Gl} {F : Fr} {sh : Shp} {v0 : Nat} {v2 : Int32} {Q : Int32 → Mem → Prop} {m : Mem} (h : X8_readQuestion_p72 sh v0 v2 Q m) : V G F M_X8_readQuestion sh 0 0 (Zi G F sh Q) 72 [(0, .ref (G.1 + v0)), (2, .int v2)] [] m := by
  unfold X8_readQuestion_p72 at h
  refine v_aload_n 0 0 dX8_readQuestion_72 rfl rfl ?_
  obtain ⟨o28, h⟩ := h
  obtain ⟨b29, e30, h⟩ := h
  refine v_gR 8 0 dX8_readQuestion_73 fg_RX8_9 o28 e30 ?_
  obtain ⟨o31, h⟩ := h
  refine v_gI 9 2 dX8_readQuestion_76 fg_RX8_52 o31 ?_
  refine v_if_eq 97 dX8_readQuestion_79 (by decide) (fun hc => ?_) (fun hc => ?_)
  · replace h := Eq.mp (if_pos hc) h
    refine v_iload_n 2 1 dX8_readQuestion_97 rfl rfl ?_
    exact v_iret dX8_readQuestion_98 rfl rfl h
  · replace h := Eq.mp (if_neg hc) h
    refine v_aload_n 0 0 dX8_readQuestion_82 rfl rfl ?_
    refine v_gR 8 0 dX8_readQuestion_83 fg_RX8_9 o28 e30 ?_
    refine v_iconst (1 : Int32) dX8_readQuestion_86 (by decide) ?_
    refine v_aload_n 0 0 dX8_readQuestion_87 rfl rfl ?_
    refine v_gR 8 0 dX8_readQuestion_88 fg_RX8_9 o28 e30 ?_
    refine v_gI 9 3 dX8_readQuestion_91 fg_RX8_38 o31 ?_
    refine v_cVv [.int _, .int _] mv_X9_fail ml_RX8_42 ⟨_, _, rfl⟩ o31 rfl rfl (Nat.le_of_ble_eq_true rfl) (Nat.le_of_ble_eq_true rfl) (Nat.le_of_ble_eq_true rfl) (Nat.zero_le _) (Nat.zero_le _) dX8_readQuestion_94 (c_X9_fail h) (fun m33 h => ?_)
    refine v_iload_n 2 1 dX8_readQuestion_97 rfl rfl ?_
    exact v_iret dX8_readQuestion_98 rfl rfl h
set_option maxHeartbeats 4000000 in
set_option maxRecDepth 100000 in
theorem c_X8_readQuestion {l : Launch} {G : Gl} {sh : Shp} {v0 : Nat} {v1 : Nat} {Q : Int32 → Mem → Prop} {m : Mem} (h : wp_X8_readQuestion sh v0 v1 Q m) : Cni l G yX8_readQuestion cX8_readQuestion 3 (Option.some FieldType.int) 75 4223 sh [.ref (G.1 + v0), .ref (G.1 + v1)] m Q := by
  refine con_i (ls := [(0, .ref (G.1 + v0)), (1, .ref (G.1 + v1))]) (by decide +kernel) rfl (Nat.le_of_ble_eq_true rfl) (fun F => ?_)
  show V G F M_X8_readQuestion sh 0 0 (Zi G F sh Q) 0 [(0, .ref (G.1 + v0)), (1, .ref (G.1 + v1))] [] m
  unfold wp_X8_readQuestion at h
  refine v_aload_n 0 0 dX8_readQuestion_0 rfl rfl ?_
  refine v_sipush (7719 : Int32) dX8_readQuestion_1 (by decide) ?_
  refine v_aload_n 1 1 dX8_readQuestion_4 rfl rfl ?_
  obtain ⟨o3, h⟩ := h
  refine v_cVv [.int _, .ref _] mv_X8_begin ml_RX8_19 ⟨_, _, rfl⟩ o3 rfl rfl (Nat.le_of_ble_eq_true rfl) (Nat.le_of_ble_eq_true rfl) (Nat.le_of_ble_eq_true rfl) (Nat.zero_le _) (Nat.zero_le _) dX8_readQuestion_5 (c_X8_begin h) (fun m2 h => ?_)
  refine v_aload_n 0 0 dX8_readQuestion_8 rfl rfl ?_
  obtain ⟨b4, e5, h⟩ := h
  refine v_gR 8 0 dX8_readQuestion_9 fg_RX8_9 o3 e5 ?_
  obtain ⟨o8, h⟩ := h
  refine v_cVv [] mv_X9_rewind ml_RX8_27 ⟨_, _, rfl⟩ o8 rfl rfl (Nat.le_of_ble_eq_true rfl) (Nat.le_of_ble_eq_true rfl) (Nat.le_of_ble_eq_true rfl) (Nat.zero_le _) (Nat.zero_le _) dX8_readQuestion_12 (c_X9_rewind h) (fun m7 h => ?_)
  refine v_aload_n 0 0 dX8_readQuestion_15 rfl rfl ?_
  obtain ⟨b9, e10, h⟩ := h
  refine v_gR 8 0 dX8_readQuestion_16 fg_RX8_9 o3 e10 ?_
  refine v_ldcS (tx := "first last often total most least") 14 dX8_readQuestion_19 (List.mem_of_getElem? (i := 14) rfl) ?_
  obtain ⟨o13, h⟩ := h
  refine v_cVi [.ref _] mv_X9_wordIn ml_RX8_34 ⟨_, _, rfl⟩ o13 rfl rfl (Nat.le_of_ble_eq_true rfl) (Nat.le_of_ble_eq_true rfl) (Nat.le_of_ble_eq_true rfl) (Nat.zero_le _) (Nat.zero_le _) dX8_readQuestion_21 (c_X9_wordIn h) (fun r11 m12 h => ?_)
  refine v_istore_n (ls' := [(2, .int _), (0, .ref _), (1, .ref _)]) 2 dX8_readQuestion_24 rfl (Nat.le_of_ble_eq_true rfl) rfl ?_
  refine v_iload_n 2 0 dX8_readQuestion_25 rfl rfl ?_
  refine v_iconst (-1 : Int32) dX8_readQuestion_26 (by decide) ?_
  refine v_icmp_ne 47 dX8_readQuestion_27 (by decide) (fun hc => ?_) (fun hc => ?_)
  · replace h := Eq.mp (if_neg hc) h
    refine v_aload_n 0 1 dX8_readQuestion_47 rfl rfl ?_
    obtain ⟨b14, e15, h⟩ := h
    refine v_gR 8 0 dX8_readQuestion_48 fg_RX8_9 o3 e15 ?_
    obtain ⟨o18, h⟩ := h
    refine v_cVv [] mv_X9_advance ml_RX8_46 ⟨_, _, rfl⟩ o18 rfl rfl (Nat.le_of_ble_eq_true rfl) (Nat.le_of_ble_eq_true rfl) (Nat.le_of_ble_eq_true rfl) (Nat.zero_le _) (Nat.zero_le _) dX8_readQuestion_51 (c_X9_advance h) (fun m17 h => ?_)
    refine v_iload_n 2 0 dX8_readQuestion_54 rfl rfl ?_
    refine v_iconst (2 : Int32) dX8_readQuestion_55 (by decide) ?_
    refine v_icmp_gt 67 dX8_readQuestion_56 (by decide) (fun hc => ?_) (fun hc => ?_)
    · replace h := Eq.mp (if_pos hc) h
      refine v_aload_n 0 1 dX8_readQuestion_67 rfl rfl ?_
      refine v_iconst (0 : Int32) dX8_readQuestion_68 (by decide) ?_
      refine v_cVv [.int _] mv_X8_readSum ml_RX8_23 ⟨_, _, rfl⟩ o3 rfl rfl (Nat.le_of_ble_eq_true rfl) (Nat.le_of_ble_eq_true rfl) (Nat.le_of_ble_eq_true rfl) (Nat.zero_le _) (Nat.zero_le _) dX8_readQuestion_69 ((gr_all (l := Fl F) (G := G) 60).2.2.2.2.1 h) (fun m20 h => ?_)
      refine v_sub [1, 0] rfl ?_
      exact v_X8_readQuestion_p72 h
    · replace h := Eq.mp (if_neg hc) h
      refine v_aload_n 0 1 dX8_readQuestion_59 rfl rfl ?_
      refine v_iconst (0 : Int32) dX8_readQuestion_60 (by decide) ?_
      refine v_cVv [.int _] mv_X8_readTest ml_RX8_49 ⟨_, _, rfl⟩ o3 rfl rfl (Nat.le_of_ble_eq_true rfl) (Nat.le_of_ble_eq_true rfl) (Nat.le_of_ble_eq_true rfl) (Nat.zero_le _) (Nat.zero_le _) dX8_readQuestion_61 ((gr_all (l := Fl F) (G := G) 60).1 h) (fun m22 h => ?_)
      refine v_goto 72 dX8_readQuestion_64 (by decide) ?_
      refine v_sub [1, 0] rfl ?_
      exact v_X8_readQuestion_p72 h
  · replace h := Eq.mp (if_pos hc) h
    refine v_aload_n 0 1 dX8_readQuestion_30 rfl rfl ?_
    obtain ⟨b23, e24, h⟩ := h
    refine v_gR 8 0 dX8_readQuestion_31 fg_RX8_9 o3 e24 ?_
    refine v_iconst (1 : Int32) dX8_readQuestion_34 (by decide) ?_
    refine v_aload_n 0 1 dX8_readQuestion_35 rfl rfl ?_
    refine v_gR 8 0 dX8_readQuestion_36 fg_RX8_9 o3 e24 ?_
    obtain ⟨o25, h⟩ := h
    refine v_gI 9 3 dX8_readQuestion_39 fg_RX8_38 o25 ?_
    refine v_cVv [.int _, .int _] mv_X9_fail ml_RX8_42 ⟨_, _, rfl⟩ o25 rfl rfl (Nat.le_of_ble_eq_true rfl) (Nat.le_of_ble_eq_true rfl) (Nat.le_of_ble_eq_true rfl) (Nat.zero_le _) (Nat.zero_le _) dX8_readQuestion_42 (c_X9_fail h) (fun m27 h => ?_)
    refine v_iconst (-1 : Int32) dX8_readQuestion_45 (by decide) ?_
    exact v_iret dX8_readQuestion_46 rfl rfl h
