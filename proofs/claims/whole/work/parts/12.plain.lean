/-! CalledRiver$Land.begin -/
theorem dX1_begin_0 : decode cX1_begin 0 = .ok (.aload_n 0, 1) := by decide +kernel
theorem dX1_begin_1 : decode cX1_begin 1 = .ok (.iconst 0, 1) := by decide +kernel
theorem dX1_begin_2 : decode cX1_begin 2 = .ok (.putfield 24, 3) := by decide +kernel
theorem dX1_begin_5 : decode cX1_begin 5 = .ok (.aload_n 0, 1) := by decide +kernel
theorem dX1_begin_6 : decode cX1_begin 6 = .ok (.iconst 0, 1) := by decide +kernel
theorem dX1_begin_7 : decode cX1_begin 7 = .ok (.putfield 28, 3) := by decide +kernel
theorem dX1_begin_10 : decode cX1_begin 10 = .ok (.aload_n 1, 1) := by decide +kernel
theorem dX1_begin_11 : decode cX1_begin 11 = .ok (.getfield 31, 3) := by decide +kernel
theorem dX1_begin_14 : decode cX1_begin 14 = .ok (.iconst 0, 1) := by decide +kernel
theorem dX1_begin_15 : decode cX1_begin 15 = .ok (.aload_n 0, 1) := by decide +kernel
theorem dX1_begin_16 : decode cX1_begin 16 = .ok (.getfield 9, 3) := by decide +kernel
theorem dX1_begin_19 : decode cX1_begin 19 = .ok (.iconst 0, 1) := by decide +kernel
theorem dX1_begin_20 : decode cX1_begin 20 = .ok (.bipush 36, 2) := by decide +kernel
theorem dX1_begin_22 : decode cX1_begin 22 = .ok (.invokestatic 34, 3) := by decide +kernel
theorem dX1_begin_25 : decode cX1_begin 25 = .ok (.aload_n 1, 1) := by decide +kernel
theorem dX1_begin_26 : decode cX1_begin 26 = .ok (.getfield 40, 3) := by decide +kernel
theorem dX1_begin_29 : decode cX1_begin 29 = .ok (.iconst 0, 1) := by decide +kernel
theorem dX1_begin_30 : decode cX1_begin 30 = .ok (.aload_n 0, 1) := by decide +kernel
theorem dX1_begin_31 : decode cX1_begin 31 = .ok (.getfield 15, 3) := by decide +kernel
theorem dX1_begin_34 : decode cX1_begin 34 = .ok (.iconst 0, 1) := by decide +kernel
theorem dX1_begin_35 : decode cX1_begin 35 = .ok (.bipush 36, 2) := by decide +kernel
theorem dX1_begin_37 : decode cX1_begin 37 = .ok (.invokestatic 34, 3) := by decide +kernel
theorem dX1_begin_40 : decode cX1_begin 40 = .ok (.aload_n 0, 1) := by decide +kernel
theorem dX1_begin_41 : decode cX1_begin 41 = .ok (.getfield 18, 3) := by decide +kernel
theorem dX1_begin_44 : decode cX1_begin 44 = .ok (.iconst 0, 1) := by decide +kernel
theorem dX1_begin_45 : decode cX1_begin 45 = .ok (.invokestatic 41, 3) := by decide +kernel
theorem dX1_begin_48 : decode cX1_begin 48 = .ok (.aload_n 0, 1) := by decide +kernel
theorem dX1_begin_49 : decode cX1_begin 49 = .ok (.getfield 21, 3) := by decide +kernel
theorem dX1_begin_52 : decode cX1_begin 52 = .ok (.iconst 0, 1) := by decide +kernel
theorem dX1_begin_53 : decode cX1_begin 53 = .ok (.invokestatic 41, 3) := by decide +kernel
theorem dX1_begin_56 : decode cX1_begin 56 = .ok (.aload_n 1, 1) := by decide +kernel
theorem dX1_begin_57 : decode cX1_begin 57 = .ok (.getfield 47, 3) := by decide +kernel
theorem dX1_begin_60 : decode cX1_begin 60 = .ok (.iconst 0, 1) := by decide +kernel
theorem dX1_begin_61 : decode cX1_begin 61 = .ok (.aload_n 0, 1) := by decide +kernel
theorem dX1_begin_62 : decode cX1_begin 62 = .ok (.getfield 21, 3) := by decide +kernel
theorem dX1_begin_65 : decode cX1_begin 65 = .ok (.iconst 0, 1) := by decide +kernel
theorem dX1_begin_66 : decode cX1_begin 66 = .ok (.aload_n 1, 1) := by decide +kernel
theorem dX1_begin_67 : decode cX1_begin 67 = .ok (.getfield 50, 3) := by decide +kernel
theorem dX1_begin_70 : decode cX1_begin 70 = .ok (.invokestatic 34, 3) := by decide +kernel
theorem dX1_begin_73 : decode cX1_begin 73 = .ok (.return_, 1) := by decide +kernel
def wp_X1_begin (sh : Shp) (v0 : Nat) (v1 : Nat) (Q : Mem → Prop) (m : Mem) : Prop :=
  Ob sh v0 1 ∧ bnd (sI m v0 0 (0 : Int32)) (fun m2 => bnd (sI m2 v0 1 (0 : Int32)) (fun m3 => Ob sh v1 5 ∧ ∃ b5 : Nat, m3.2.2 v1 5 = some b5 ∧ (∃ b7 : Nat, m3.2.2 v0 2 = some b7 ∧ (Cp sh b5 (0 : Int32) b7 (0 : Int32) (36 : Int32) ∧ bnd (cpI m3 b5 (0 : Int32) b7 (0 : Int32) (36 : Int32)) (fun m9 => ∃ b10 : Nat, m9.2.2 v1 6 = some b10 ∧ (∃ b12 : Nat, m9.2.2 v0 3 = some b12 ∧ (Cp sh b10 (0 : Int32) b12 (0 : Int32) (36 : Int32) ∧ bnd (cpI m9 b10 (0 : Int32) b12 (0 : Int32) (36 : Int32)) (fun m14 => ∃ b15 : Nat, m14.2.2 v0 4 = some b15 ∧ (wp_J7_fill_53178 sh b15 (0 : Int32) (fun m18 => ∃ b19 : Nat, m18.2.2 v0 5 = some b19 ∧ (wp_J7_fill_53178 sh b19 (0 : Int32) (fun m22 => ∃ b23 : Nat, m22.2.2 v1 11 = some b23 ∧ (∃ b25 : Nat, m22.2.2 v0 5 = some b25 ∧ (Cp sh b23 (0 : Int32) b25 (0 : Int32) (m22.1 v1 3) ∧ bnd (cpI m22 b23 (0 : Int32) b25 (0 : Int32) (m22.1 v1 3)) (fun m27 => Q m27)))) m18)) m14)))))))))
abbrev M_X1_begin : Mi := (cX1_begin, 2, RX1, (none : Option FieldType), "begin", 2, 84, 0, 0)
set_option maxHeartbeats 4000000 in
set_option maxRecDepth 100000 in
theorem c_X1_begin {l : Launch} {G : Gl} {sh : Shp} {v0 : Nat} {v1 : Nat} {Q : Mem → Prop} {m : Mem} (h : wp_X1_begin sh v0 v1 Q m) : Cnv l G yX1_begin cX1_begin 2 (none : Option FieldType) 2 84 sh [.ref (G.1 + v0), .ref (G.1 + v1)] m Q := by
  refine con_v (ls := [(0, .ref (G.1 + v0)), (1, .ref (G.1 + v1))]) (by decide +kernel) rfl (Nat.le_of_ble_eq_true rfl) (fun F => ?_)
  show V G F M_X1_begin sh 0 0 (Zv G F sh Q) 0 [(0, .ref (G.1 + v0)), (1, .ref (G.1 + v1))] [] m
  unfold wp_X1_begin at h
  refine v_aload_n 0 0 dX1_begin_0 rfl rfl ?_
  refine v_iconst (0 : Int32) dX1_begin_1 (by decide) ?_
  obtain ⟨o1, h⟩ := h
  refine v_pI 1 0 dX1_begin_2 fw_RX1_24 o1 ?_
  replace h := bnd_e h
  refine v_aload_n 0 0 dX1_begin_5 rfl rfl ?_
  refine v_iconst (0 : Int32) dX1_begin_6 (by decide) ?_
  refine v_pI 1 1 dX1_begin_7 fw_RX1_28 o1 ?_
  replace h := bnd_e h
  refine v_aload_n 1 1 dX1_begin_10 rfl rfl ?_
  obtain ⟨o4, h⟩ := h
  obtain ⟨b5, e6, h⟩ := h
  refine v_gR 5 5 dX1_begin_11 fg_RX1_31 o4 e6 ?_
  refine v_iconst (0 : Int32) dX1_begin_14 (by decide) ?_
  refine v_aload_n 0 0 dX1_begin_15 rfl rfl ?_
  obtain ⟨b7, e8, h⟩ := h
  refine v_gR 1 2 dX1_begin_16 fg_RX1_9 o1 e8 ?_
  refine v_iconst (0 : Int32) dX1_begin_19 (by decide) ?_
  refine v_bipush (36 : Int32) dX1_begin_20 (by decide) ?_
  obtain ⟨hq, h⟩ := h
  refine v_cpy hq ml_RX1_34 (Nat.le_of_ble_eq_true rfl) (Nat.le_of_ble_eq_true rfl) (Nat.le_of_ble_eq_true rfl) dX1_begin_22 ?_
  replace h := bnd_e h
  refine v_aload_n 1 1 dX1_begin_25 rfl rfl ?_
  obtain ⟨b10, e11, h⟩ := h
  refine v_gR 5 6 dX1_begin_26 fg_RX1_40 o4 e11 ?_
  refine v_iconst (0 : Int32) dX1_begin_29 (by decide) ?_
  refine v_aload_n 0 0 dX1_begin_30 rfl rfl ?_
  obtain ⟨b12, e13, h⟩ := h
  refine v_gR 1 3 dX1_begin_31 fg_RX1_15 o1 e13 ?_
  refine v_iconst (0 : Int32) dX1_begin_34 (by decide) ?_
  refine v_bipush (36 : Int32) dX1_begin_35 (by decide) ?_
  obtain ⟨hq, h⟩ := h
  refine v_cpy hq ml_RX1_34 (Nat.le_of_ble_eq_true rfl) (Nat.le_of_ble_eq_true rfl) (Nat.le_of_ble_eq_true rfl) dX1_begin_37 ?_
  replace h := bnd_e h
  refine v_aload_n 0 0 dX1_begin_40 rfl rfl ?_
  obtain ⟨b15, e16, h⟩ := h
  refine v_gR 1 4 dX1_begin_41 fg_RX1_18 o1 e16 ?_
  refine v_iconst (0 : Int32) dX1_begin_44 (by decide) ?_
  refine v_cSv [.ref _, .int _] mv_J7_fill_53178 ml_RX1_41 rfl rfl (Nat.le_of_ble_eq_true rfl) (Nat.le_of_ble_eq_true rfl) (Nat.le_of_ble_eq_true rfl) (Nat.zero_le _) (Nat.zero_le _) dX1_begin_45 (c_J7_fill_53178 h) (fun m18 h => ?_)
  refine v_aload_n 0 0 dX1_begin_48 rfl rfl ?_
  obtain ⟨b19, e20, h⟩ := h
  refine v_gR 1 5 dX1_begin_49 fg_RX1_21 o1 e20 ?_
  refine v_iconst (0 : Int32) dX1_begin_52 (by decide) ?_
  refine v_cSv [.ref _, .int _] mv_J7_fill_53178 ml_RX1_41 rfl rfl (Nat.le_of_ble_eq_true rfl) (Nat.le_of_ble_eq_true rfl) (Nat.le_of_ble_eq_true rfl) (Nat.zero_le _) (Nat.zero_le _) dX1_begin_53 (c_J7_fill_53178 h) (fun m22 h => ?_)
  refine v_aload_n 1 1 dX1_begin_56 rfl rfl ?_
  obtain ⟨b23, e24, h⟩ := h
  refine v_gR 5 11 dX1_begin_57 fg_RX1_47 o4 e24 ?_
  refine v_iconst (0 : Int32) dX1_begin_60 (by decide) ?_
  refine v_aload_n 0 0 dX1_begin_61 rfl rfl ?_
  obtain ⟨b25, e26, h⟩ := h
  refine v_gR 1 5 dX1_begin_62 fg_RX1_21 o1 e26 ?_
  refine v_iconst (0 : Int32) dX1_begin_65 (by decide) ?_
  refine v_aload_n 1 1 dX1_begin_66 rfl rfl ?_
  refine v_gI 5 3 dX1_begin_67 fg_RX1_50 o4 ?_
  obtain ⟨hq, h⟩ := h
  refine v_cpy hq ml_RX1_34 (Nat.le_of_ble_eq_true rfl) (Nat.le_of_ble_eq_true rfl) (Nat.le_of_ble_eq_true rfl) dX1_begin_70 ?_
  replace h := bnd_e h
  exact v_vret dX1_begin_73 rfl h
/-! CalledRiver$Land.copy -/
theorem dX1_copy_0 : decode cX1_copy 0 = .ok (.aload_n 0, 1) := by decide +kernel
theorem dX1_copy_1 : decode cX1_copy 1 = .ok (.aload_n 1, 1) := by decide +kernel
theorem dX1_copy_2 : decode cX1_copy 2 = .ok (.getfield 24, 3) := by decide +kernel
theorem dX1_copy_5 : decode cX1_copy 5 = .ok (.putfield 24, 3) := by decide +kernel
theorem dX1_copy_8 : decode cX1_copy 8 = .ok (.aload_n 0, 1) := by decide +kernel
theorem dX1_copy_9 : decode cX1_copy 9 = .ok (.aload_n 1, 1) := by decide +kernel
theorem dX1_copy_10 : decode cX1_copy 10 = .ok (.getfield 28, 3) := by decide +kernel
theorem dX1_copy_13 : decode cX1_copy 13 = .ok (.putfield 28, 3) := by decide +kernel
theorem dX1_copy_16 : decode cX1_copy 16 = .ok (.aload_n 1, 1) := by decide +kernel
theorem dX1_copy_17 : decode cX1_copy 17 = .ok (.getfield 9, 3) := by decide +kernel
theorem dX1_copy_20 : decode cX1_copy 20 = .ok (.iconst 0, 1) := by decide +kernel
theorem dX1_copy_21 : decode cX1_copy 21 = .ok (.aload_n 0, 1) := by decide +kernel
theorem dX1_copy_22 : decode cX1_copy 22 = .ok (.getfield 9, 3) := by decide +kernel
theorem dX1_copy_25 : decode cX1_copy 25 = .ok (.iconst 0, 1) := by decide +kernel
theorem dX1_copy_26 : decode cX1_copy 26 = .ok (.bipush 36, 2) := by decide +kernel
theorem dX1_copy_28 : decode cX1_copy 28 = .ok (.invokestatic 34, 3) := by decide +kernel
theorem dX1_copy_31 : decode cX1_copy 31 = .ok (.aload_n 1, 1) := by decide +kernel
theorem dX1_copy_32 : decode cX1_copy 32 = .ok (.getfield 15, 3) := by decide +kernel
theorem dX1_copy_35 : decode cX1_copy 35 = .ok (.iconst 0, 1) := by decide +kernel
theorem dX1_copy_36 : decode cX1_copy 36 = .ok (.aload_n 0, 1) := by decide +kernel
theorem dX1_copy_37 : decode cX1_copy 37 = .ok (.getfield 15, 3) := by decide +kernel
theorem dX1_copy_40 : decode cX1_copy 40 = .ok (.iconst 0, 1) := by decide +kernel
theorem dX1_copy_41 : decode cX1_copy 41 = .ok (.bipush 36, 2) := by decide +kernel
theorem dX1_copy_43 : decode cX1_copy 43 = .ok (.invokestatic 34, 3) := by decide +kernel
theorem dX1_copy_46 : decode cX1_copy 46 = .ok (.aload_n 1, 1) := by decide +kernel
theorem dX1_copy_47 : decode cX1_copy 47 = .ok (.getfield 18, 3) := by decide +kernel
theorem dX1_copy_50 : decode cX1_copy 50 = .ok (.iconst 0, 1) := by decide +kernel
theorem dX1_copy_51 : decode cX1_copy 51 = .ok (.aload_n 0, 1) := by decide +kernel
theorem dX1_copy_52 : decode cX1_copy 52 = .ok (.getfield 18, 3) := by decide +kernel
theorem dX1_copy_55 : decode cX1_copy 55 = .ok (.iconst 0, 1) := by decide +kernel
theorem dX1_copy_56 : decode cX1_copy 56 = .ok (.bipush 36, 2) := by decide +kernel
theorem dX1_copy_58 : decode cX1_copy 58 = .ok (.invokestatic 34, 3) := by decide +kernel
theorem dX1_copy_61 : decode cX1_copy 61 = .ok (.aload_n 1, 1) := by decide +kernel
theorem dX1_copy_62 : decode cX1_copy 62 = .ok (.getfield 21, 3) := by decide +kernel
theorem dX1_copy_65 : decode cX1_copy 65 = .ok (.iconst 0, 1) := by decide +kernel
theorem dX1_copy_66 : decode cX1_copy 66 = .ok (.aload_n 0, 1) := by decide +kernel
theorem dX1_copy_67 : decode cX1_copy 67 = .ok (.getfield 21, 3) := by decide +kernel
theorem dX1_copy_70 : decode cX1_copy 70 = .ok (.iconst 0, 1) := by decide +kernel
theorem dX1_copy_71 : decode cX1_copy 71 = .ok (.bipush 6, 2) := by decide +kernel
theorem dX1_copy_73 : decode cX1_copy 73 = .ok (.invokestatic 34, 3) := by decide +kernel
theorem dX1_copy_76 : decode cX1_copy 76 = .ok (.return_, 1) := by decide +kernel
def wp_X1_copy (sh : Shp) (v0 : Nat) (v1 : Nat) (Q : Mem → Prop) (m : Mem) : Prop :=
  Ob sh v1 1 ∧ (Ob sh v0 1 ∧ bnd (sI m v0 0 (m.1 v1 0)) (fun m3 => bnd (sI m3 v0 1 (m3.1 v1 1)) (fun m4 => ∃ b5 : Nat, m4.2.2 v1 2 = some b5 ∧ (∃ b7 : Nat, m4.2.2 v0 2 = some b7 ∧ (Cp sh b5 (0 : Int32) b7 (0 : Int32) (36 : Int32) ∧ bnd (cpI m4 b5 (0 : Int32) b7 (0 : Int32) (36 : Int32)) (fun m9 => ∃ b10 : Nat, m9.2.2 v1 3 = some b10 ∧ (∃ b12 : Nat, m9.2.2 v0 3 = some b12 ∧ (Cp sh b10 (0 : Int32) b12 (0 : Int32) (36 : Int32) ∧ bnd (cpI m9 b10 (0 : Int32) b12 (0 : Int32) (36 : Int32)) (fun m14 => ∃ b15 : Nat, m14.2.2 v1 4 = some b15 ∧ (∃ b17 : Nat, m14.2.2 v0 4 = some b17 ∧ (Cp sh b15 (0 : Int32) b17 (0 : Int32) (36 : Int32) ∧ bnd (cpI m14 b15 (0 : Int32) b17 (0 : Int32) (36 : Int32)) (fun m19 => ∃ b20 : Nat, m19.2.2 v1 5 = some b20 ∧ (∃ b22 : Nat, m19.2.2 v0 5 = some b22 ∧ (Cp sh b20 (0 : Int32) b22 (0 : Int32) (6 : Int32) ∧ bnd (cpI m19 b20 (0 : Int32) b22 (0 : Int32) (6 : Int32)) (fun m24 => Q m24)))))))))))))))
abbrev M_X1_copy : Mi := (cX1_copy, 2, RX1, (none : Option FieldType), "copy", 2, 84, 0, 0)
set_option maxHeartbeats 4000000 in
set_option maxRecDepth 100000 in
theorem c_X1_copy {l : Launch} {G : Gl} {sh : Shp} {v0 : Nat} {v1 : Nat} {Q : Mem → Prop} {m : Mem} (h : wp_X1_copy sh v0 v1 Q m) : Cnv l G yX1_copy cX1_copy 2 (none : Option FieldType) 2 84 sh [.ref (G.1 + v0), .ref (G.1 + v1)] m Q := by
  refine con_v (ls := [(0, .ref (G.1 + v0)), (1, .ref (G.1 + v1))]) (by decide +kernel) rfl (Nat.le_of_ble_eq_true rfl) (fun F => ?_)
  show V G F M_X1_copy sh 0 0 (Zv G F sh Q) 0 [(0, .ref (G.1 + v0)), (1, .ref (G.1 + v1))] [] m
  unfold wp_X1_copy at h
  refine v_aload_n 0 0 dX1_copy_0 rfl rfl ?_
  refine v_aload_n 1 1 dX1_copy_1 rfl rfl ?_
  obtain ⟨o1, h⟩ := h
  refine v_gI 1 0 dX1_copy_2 fg_RX1_24 o1 ?_
  obtain ⟨o2, h⟩ := h
  refine v_pI 1 0 dX1_copy_5 fw_RX1_24 o2 ?_
  replace h := bnd_e h
  refine v_aload_n 0 0 dX1_copy_8 rfl rfl ?_
  refine v_aload_n 1 1 dX1_copy_9 rfl rfl ?_
  refine v_gI 1 1 dX1_copy_10 fg_RX1_28 o1 ?_
  refine v_pI 1 1 dX1_copy_13 fw_RX1_28 o2 ?_
  replace h := bnd_e h
  refine v_aload_n 1 1 dX1_copy_16 rfl rfl ?_
  obtain ⟨b5, e6, h⟩ := h
  refine v_gR 1 2 dX1_copy_17 fg_RX1_9 o1 e6 ?_
  refine v_iconst (0 : Int32) dX1_copy_20 (by decide) ?_
  refine v_aload_n 0 0 dX1_copy_21 rfl rfl ?_
  obtain ⟨b7, e8, h⟩ := h
  refine v_gR 1 2 dX1_copy_22 fg_RX1_9 o2 e8 ?_
  refine v_iconst (0 : Int32) dX1_copy_25 (by decide) ?_
  refine v_bipush (36 : Int32) dX1_copy_26 (by decide) ?_
  obtain ⟨hq, h⟩ := h
  refine v_cpy hq ml_RX1_34 (Nat.le_of_ble_eq_true rfl) (Nat.le_of_ble_eq_true rfl) (Nat.le_of_ble_eq_true rfl) dX1_copy_28 ?_
  replace h := bnd_e h
  refine v_aload_n 1 1 dX1_copy_31 rfl rfl ?_
  obtain ⟨b10, e11, h⟩ := h
  refine v_gR 1 3 dX1_copy_32 fg_RX1_15 o1 e11 ?_
  refine v_iconst (0 : Int32) dX1_copy_35 (by decide) ?_
  refine v_aload_n 0 0 dX1_copy_36 rfl rfl ?_
  obtain ⟨b12, e13, h⟩ := h
  refine v_gR 1 3 dX1_copy_37 fg_RX1_15 o2 e13 ?_
  refine v_iconst (0 : Int32) dX1_copy_40 (by decide) ?_
  refine v_bipush (36 : Int32) dX1_copy_41 (by decide) ?_
  obtain ⟨hq, h⟩ := h
  refine v_cpy hq ml_RX1_34 (Nat.le_of_ble_eq_true rfl) (Nat.le_of_ble_eq_true rfl) (Nat.le_of_ble_eq_true rfl) dX1_copy_43 ?_
  replace h := bnd_e h
  refine v_aload_n 1 1 dX1_copy_46 rfl rfl ?_
  obtain ⟨b15, e16, h⟩ := h
  refine v_gR 1 4 dX1_copy_47 fg_RX1_18 o1 e16 ?_
  refine v_iconst (0 : Int32) dX1_copy_50 (by decide) ?_
  refine v_aload_n 0 0 dX1_copy_51 rfl rfl ?_
  obtain ⟨b17, e18, h⟩ := h
  refine v_gR 1 4 dX1_copy_52 fg_RX1_18 o2 e18 ?_
  refine v_iconst (0 : Int32) dX1_copy_55 (by decide) ?_
  refine v_bipush (36 : Int32) dX1_copy_56 (by decide) ?_
  obtain ⟨hq, h⟩ := h
  refine v_cpy hq ml_RX1_34 (Nat.le_of_ble_eq_true rfl) (Nat.le_of_ble_eq_true rfl) (Nat.le_of_ble_eq_true rfl) dX1_copy_58 ?_
  replace h := bnd_e h
  refine v_aload_n 1 1 dX1_copy_61 rfl rfl ?_
  obtain ⟨b20, e21, h⟩ := h
  refine v_gR 1 5 dX1_copy_62 fg_RX1_21 o1 e21 ?_
  refine v_iconst (0 : Int32) dX1_copy_65 (by decide) ?_
  refine v_aload_n 0 0 dX1_copy_66 rfl rfl ?_
  obtain ⟨b22, e23, h⟩ := h
  refine v_gR 1 5 dX1_copy_67 fg_RX1_21 o2 e23 ?_
  refine v_iconst (0 : Int32) dX1_copy_70 (by decide) ?_
  refine v_bipush (6 : Int32) dX1_copy_71 (by decide) ?_
  obtain ⟨hq, h⟩ := h
  refine v_cpy hq ml_RX1_34 (Nat.le_of_ble_eq_true rfl) (Nat.le_of_ble_eq_true rfl) (Nat.le_of_ble_eq_true rfl) dX1_copy_73 ?_
  replace h := bnd_e h
  exact v_vret dX1_copy_76 rfl h
/-! CalledRiver$Land.flows -/
theorem dX1_flows_0 : decode cX1_flows 0 = .ok (.aload_n 0, 1) := by decide +kernel
theorem dX1_flows_1 : decode cX1_flows 1 = .ok (.getfield 15, 3) := by decide +kernel
theorem dX1_flows_4 : decode cX1_flows 4 = .ok (.iload_n 2, 1) := by decide +kernel
theorem dX1_flows_5 : decode cX1_flows 5 = .ok (.iaload, 1) := by decide +kernel
theorem dX1_flows_6 : decode cX1_flows 6 = .ok (.ifCond .ne 22, 3) := by decide +kernel
theorem dX1_flows_9 : decode cX1_flows 9 = .ok (.aload_n 0, 1) := by decide +kernel
theorem dX1_flows_10 : decode cX1_flows 10 = .ok (.getfield 9, 3) := by decide +kernel
theorem dX1_flows_13 : decode cX1_flows 13 = .ok (.iload_n 2, 1) := by decide +kernel
theorem dX1_flows_14 : decode cX1_flows 14 = .ok (.iaload, 1) := by decide +kernel
theorem dX1_flows_15 : decode cX1_flows 15 = .ok (.aload_n 0, 1) := by decide +kernel
theorem dX1_flows_16 : decode cX1_flows 16 = .ok (.getfield 9, 3) := by decide +kernel
theorem dX1_flows_19 : decode cX1_flows 19 = .ok (.iload_n 1, 1) := by decide +kernel
theorem dX1_flows_20 : decode cX1_flows 20 = .ok (.iaload, 1) := by decide +kernel
theorem dX1_flows_21 : decode cX1_flows 21 = .ok (.if_icmp .gt 7, 3) := by decide +kernel
theorem dX1_flows_24 : decode cX1_flows 24 = .ok (.iconst 1, 1) := by decide +kernel
theorem dX1_flows_25 : decode cX1_flows 25 = .ok (.goto 4, 3) := by decide +kernel
theorem dX1_flows_28 : decode cX1_flows 28 = .ok (.iconst 0, 1) := by decide +kernel
theorem dX1_flows_29 : decode cX1_flows 29 = .ok (.ireturn, 1) := by decide +kernel
def wp_X1_flows (sh : Shp) (v0 : Nat) (v1 : Int32) (v2 : Int32) (Q : Int32 → Mem → Prop) (m : Mem) : Prop :=
  Ob sh v0 1 ∧ ∃ b2 : Nat, m.2.2 v0 3 = some b2 ∧ (Ix sh b2 100 v2 ∧ (if (m.1 b2 v2.toNatClampNeg) = 0 then (∃ b5 : Nat, m.2.2 v0 2 = some b5 ∧ (Ix sh b5 100 v2 ∧ (Ix sh b5 100 v1 ∧ (if (m.1 b5 v1.toNatClampNeg) < (m.1 b5 v2.toNatClampNeg) then (Q (0 : Int32) m) else (Q (1 : Int32) m))))) else (Q (0 : Int32) m)))
abbrev M_X1_flows : Mi := (cX1_flows, 3, RX1, (Option.some FieldType.boolean), "flows", 1, 60, 0, 0)
set_option maxHeartbeats 4000000 in
set_option maxRecDepth 100000 in
theorem c_X1_flows {l : Launch} {G : Gl} {sh : Shp} {v0 : Nat} {v1 : Int32} {v2 : Int32} {Q : Int32 → Mem → Prop} {m : Mem} (h : wp_X1_flows sh v0 v1 v2 Q m) : Cni l G yX1_flows cX1_flows 3 (Option.some FieldType.boolean) 1 60 sh [.ref (G.1 + v0), .int v1, .int v2] m Q := by
  refine con_i (ls := [(0, .ref (G.1 + v0)), (1, .int v1), (2, .int v2)]) (by decide +kernel) rfl (Nat.le_of_ble_eq_true rfl) (fun F => ?_)
  show V G F M_X1_flows sh 0 0 (Zi G F sh Q) 0 [(0, .ref (G.1 + v0)), (1, .int v1), (2, .int v2)] [] m
  unfold wp_X1_flows at h
  refine v_aload_n 0 0 dX1_flows_0 rfl rfl ?_
  obtain ⟨o1, h⟩ := h
  obtain ⟨b2, e3, h⟩ := h
  refine v_gR 1 3 dX1_flows_1 fg_RX1_15 o1 e3 ?_
  refine v_iload_n 2 2 dX1_flows_4 rfl rfl ?_
  obtain ⟨i4, h⟩ := h
  refine v_iald dX1_flows_5 i4 ?_
  refine v_if_ne 28 dX1_flows_6 (by decide) (fun hc => ?_) (fun hc => ?_)
  · replace h := Eq.mp (if_neg hc) h
    refine v_iconst (0 : Int32) dX1_flows_28 (by decide) ?_
    exact v_iret dX1_flows_29 rfl (by decide) h
  · replace h := Eq.mp (if_pos hc) h
    refine v_aload_n 0 0 dX1_flows_9 rfl rfl ?_
    obtain ⟨b5, e6, h⟩ := h
    refine v_gR 1 2 dX1_flows_10 fg_RX1_9 o1 e6 ?_
    refine v_iload_n 2 2 dX1_flows_13 rfl rfl ?_
    obtain ⟨i7, h⟩ := h
    refine v_iald dX1_flows_14 i7 ?_
    refine v_aload_n 0 0 dX1_flows_15 rfl rfl ?_
    refine v_gR 1 2 dX1_flows_16 fg_RX1_9 o1 e6 ?_
    refine v_iload_n 1 1 dX1_flows_19 rfl rfl ?_
    obtain ⟨i8, h⟩ := h
    refine v_iald dX1_flows_20 i8 ?_
    refine v_icmp_gt 28 dX1_flows_21 (by decide) (fun hc => ?_) (fun hc => ?_)
    · replace h := Eq.mp (if_pos hc) h
      refine v_iconst (0 : Int32) dX1_flows_28 (by decide) ?_
      exact v_iret dX1_flows_29 rfl (by decide) h
    · replace h := Eq.mp (if_neg hc) h
      refine v_iconst (1 : Int32) dX1_flows_24 (by decide) ?_
      refine v_goto 29 dX1_flows_25 (by decide) ?_
      exact v_iret dX1_flows_29 rfl (by decide) h
/-! CalledRiver$Land.pies -/
theorem dX1_pies_0 : decode cX1_pies 0 = .ok (.iconst 0, 1) := by decide +kernel
theorem dX1_pies_1 : decode cX1_pies 1 = .ok (.istore_n 1, 1) := by decide +kernel
theorem dX1_pies_2 : decode cX1_pies 2 = .ok (.aload_n 0, 1) := by decide +kernel
theorem dX1_pies_3 : decode cX1_pies 3 = .ok (.getfield 21, 3) := by decide +kernel
theorem dX1_pies_6 : decode cX1_pies 6 = .ok (.astore_n 2, 1) := by decide +kernel
theorem dX1_pies_7 : decode cX1_pies 7 = .ok (.aload_n 2, 1) := by decide +kernel
theorem dX1_pies_8 : decode cX1_pies 8 = .ok (.arraylength, 1) := by decide +kernel
theorem dX1_pies_9 : decode cX1_pies 9 = .ok (.istore_n 3, 1) := by decide +kernel
theorem dX1_pies_10 : decode cX1_pies 10 = .ok (.iconst 0, 1) := by decide +kernel
theorem dX1_pies_11 : decode cX1_pies 11 = .ok (.istore 4, 2) := by decide +kernel
theorem dX1_pies_13 : decode cX1_pies 13 = .ok (.iload 4, 2) := by decide +kernel
theorem dX1_pies_15 : decode cX1_pies 15 = .ok (.iload_n 3, 1) := by decide +kernel
theorem dX1_pies_16 : decode cX1_pies 16 = .ok (.if_icmp .ge 20, 3) := by decide +kernel
theorem dX1_pies_19 : decode cX1_pies 19 = .ok (.aload_n 2, 1) := by decide +kernel
theorem dX1_pies_20 : decode cX1_pies 20 = .ok (.iload 4, 2) := by decide +kernel
theorem dX1_pies_22 : decode cX1_pies 22 = .ok (.iaload, 1) := by decide +kernel
theorem dX1_pies_23 : decode cX1_pies 23 = .ok (.istore 5, 2) := by decide +kernel
theorem dX1_pies_25 : decode cX1_pies 25 = .ok (.iload_n 1, 1) := by decide +kernel
theorem dX1_pies_26 : decode cX1_pies 26 = .ok (.iload 5, 2) := by decide +kernel
theorem dX1_pies_28 : decode cX1_pies 28 = .ok (.iadd, 1) := by decide +kernel
theorem dX1_pies_29 : decode cX1_pies 29 = .ok (.istore_n 1, 1) := by decide +kernel
theorem dX1_pies_30 : decode cX1_pies 30 = .ok (.iinc 4 1, 3) := by decide +kernel
theorem dX1_pies_33 : decode cX1_pies 33 = .ok (.goto (-20), 3) := by decide +kernel
theorem dX1_pies_36 : decode cX1_pies 36 = .ok (.iload_n 1, 1) := by decide +kernel
theorem dX1_pies_37 : decode cX1_pies 37 = .ok (.ireturn, 1) := by decide +kernel
def X1_pies_p13b (sh : Shp) (v2 : Nat) (v3 : Int32) (Q : Int32 → Mem → Prop) (K13 : Int32 → Int32 → Mem → Prop) (v1 : Int32) (v4 : Int32) (m : Mem) : Prop :=
  if v3 ≤ v4 then (Q v1 m) else (Ix sh v2 100 v4 ∧ (K13 (v1 + (m.1 v2 v4.toNatClampNeg)) (v4 + (1 : Int32)) m))
def X1_pies_p13n (sh : Shp) (v2 : Nat) (v3 : Int32) (Q : Int32 → Mem → Prop) : Nat → Int32 → Int32 → Mem → Prop
  | 0 => fun _ _ _ => False
  | n + 1 => X1_pies_p13b sh v2 v3 Q (X1_pies_p13n sh v2 v3 Q n)
def X1_pies_p13 (sh : Shp) (v2 : Nat) (v3 : Int32) (Q : Int32 → Mem → Prop) (v1 : Int32) (v4 : Int32) (m : Mem) : Prop := ∃ n, X1_pies_p13n sh v2 v3 Q n v1 v4 m
def wp_X1_pies (sh : Shp) (v0 : Nat) (Q : Int32 → Mem → Prop) (m : Mem) : Prop :=
  Ob sh v0 1 ∧ ∃ b2 : Nat, m.2.2 v0 5 = some b2 ∧ (∃ n4 : Nat, Ar sh b2 100 n4 ∧ (X1_pies_p13 sh b2 (nI n4) Q (0 : Int32) (0 : Int32) m))
abbrev M_X1_pies : Mi := (cX1_pies, 6, RX1, (Option.some FieldType.int), "pies", 1, 60, 0, 0)
set_option maxHeartbeats 4000000 in
set_option maxRecDepth 100000 in
theorem v_X1_pies_p13b {G : Gl} {F : Fr} {sh : Shp} {v1 : Int32} {v2 : Nat} {v3 : Int32} {v4 : Int32} {Q : Int32 → Mem → Prop} {K13 : Int32 → Int32 → Mem → Prop} {m : Mem} (hK13 : ∀ (x1 : Int32) (x4 : Int32) (m : Mem), K13 x1 x4 m → V G F M_X1_pies sh 0 0 (Zi G F sh Q) 13 [(1, .int x1), (2, .ref (G.1 + v2)), (3, .int v3), (4, .int x4)] [] m) (h : X1_pies_p13b sh v2 v3 Q K13 v1 v4 m) : V G F M_X1_pies sh 0 0 (Zi G F sh Q) 13 [(1, .int v1), (2, .ref (G.1 + v2)), (3, .int v3), (4, .int v4)] [] m := by
  unfold X1_pies_p13b at h
  refine v_iload 4 3 dX1_pies_13 rfl ?_
  refine v_iload_n 3 2 dX1_pies_15 rfl rfl ?_
  refine v_icmp_ge 36 dX1_pies_16 (by decide) (fun hc => ?_) (fun hc => ?_)
  · replace h := Eq.mp (if_pos hc) h
    refine v_iload_n 1 0 dX1_pies_36 rfl rfl ?_
    exact v_iret dX1_pies_37 rfl rfl h
  · replace h := Eq.mp (if_neg hc) h
    refine v_aload_n 2 1 dX1_pies_19 rfl rfl ?_
    refine v_iload 4 3 dX1_pies_20 rfl ?_
    obtain ⟨i6, h⟩ := h
    refine v_iald dX1_pies_22 i6 ?_
    refine v_istore (ls' := [(5, .int _), (1, .int _), (2, .ref _), (3, .int _), (4, .int _)]) 5 dX1_pies_23 (Nat.le_of_ble_eq_true rfl) rfl ?_
    refine v_iload_n 1 1 dX1_pies_25 rfl rfl ?_
    refine v_iload 5 0 dX1_pies_26 rfl ?_
    refine v_iadd dX1_pies_28 ?_
    refine v_istore_n (ls' := [(1, .int _), (5, .int _), (2, .ref _), (3, .int _), (4, .int _)]) 1 dX1_pies_29 rfl (Nat.le_of_ble_eq_true rfl) rfl ?_
    refine v_iinc (ls' := [(4, .int _), (1, .int _), (5, .int _), (2, .ref _), (3, .int _)]) 4 4 dX1_pies_30 rfl (congrArg (HAdd.hAdd _) (by decide : Int32.ofInt (1) = (1 : Int32))) (Nat.le_of_ble_eq_true rfl) rfl ?_
    refine v_goto 13 dX1_pies_33 (by decide) ?_
    refine v_sub [1, 3, 4, 0] rfl ?_
    exact hK13 _ _ _ h
set_option maxHeartbeats 4000000 in
set_option maxRecDepth 100000 in
theorem v_X1_pies_p13 {G : Gl} {F : Fr} {sh : Shp} {v1 : Int32} {v2 : Nat} {v3 : Int32} {v4 : Int32} {Q : Int32 → Mem → Prop} {m : Mem} (h : X1_pies_p13 sh v2 v3 Q v1 v4 m) : V G F M_X1_pies sh 0 0 (Zi G F sh Q) 13 [(1, .int v1), (2, .ref (G.1 + v2)), (3, .int v3), (4, .int v4)] [] m := by
  obtain ⟨n, h⟩ := h
  induction n generalizing v1 v4 m with
  | zero => exact h.elim
  | succ n ih => exact v_X1_pies_p13b (fun _ _ _ h => ih h) h
set_option maxHeartbeats 4000000 in
set_option maxRecDepth 100000 in
theorem c_X1_pies {l : Launch} {G : Gl} {sh : Shp} {v0 : Nat} {Q : Int32 → Mem → Prop} {m : Mem} (h : wp_X1_pies sh v0 Q m) : Cni l G yX1_pies cX1_pies 6 (Option.some FieldType.int) 1 60 sh [.ref (G.1 + v0)] m Q := by
  refine con_i (ls := [(0, .ref (G.1 + v0))]) (by decide +kernel) rfl (Nat.le_of_ble_eq_true rfl) (fun F => ?_)
  show V G F M_X1_pies sh 0 0 (Zi G F sh Q) 0 [(0, .ref (G.1 + v0))] [] m
  unfold wp_X1_pies at h
  refine v_iconst (0 : Int32) dX1_pies_0 (by decide) ?_
  refine v_istore_n (ls' := [(1, .int _), (0, .ref _)]) 1 dX1_pies_1 rfl (Nat.le_of_ble_eq_true rfl) rfl ?_
  refine v_aload_n 0 1 dX1_pies_2 rfl rfl ?_
  obtain ⟨o1, h⟩ := h
  obtain ⟨b2, e3, h⟩ := h
  refine v_gR 1 5 dX1_pies_3 fg_RX1_21 o1 e3 ?_
  refine v_astore_n (ls' := [(2, .ref _), (1, .int _), (0, .ref _)]) 2 dX1_pies_6 rfl (Nat.le_of_ble_eq_true rfl) rfl ?_
  refine v_aload_n 2 0 dX1_pies_7 rfl rfl ?_
  obtain ⟨n4, l5, h⟩ := h
  refine v_alen dX1_pies_8 l5 (by decide) ?_
  refine v_istore_n (ls' := [(3, .int _), (2, .ref _), (1, .int _), (0, .ref _)]) 3 dX1_pies_9 rfl (Nat.le_of_ble_eq_true rfl) rfl ?_
  refine v_iconst (0 : Int32) dX1_pies_10 (by decide) ?_
  refine v_istore (ls' := [(4, .int _), (3, .int _), (2, .ref _), (1, .int _), (0, .ref _)]) 4 dX1_pies_11 (Nat.le_of_ble_eq_true rfl) rfl ?_
  refine v_sub [3, 2, 1, 0] rfl ?_
  exact v_X1_pies_p13 h
/-! CalledRiver$Land.stones -/
theorem dX1_stones_0 : decode cX1_stones 0 = .ok (.iconst 0, 1) := by decide +kernel
theorem dX1_stones_1 : decode cX1_stones 1 = .ok (.istore_n 1, 1) := by decide +kernel
theorem dX1_stones_2 : decode cX1_stones 2 = .ok (.aload_n 0, 1) := by decide +kernel
theorem dX1_stones_3 : decode cX1_stones 3 = .ok (.getfield 15, 3) := by decide +kernel
theorem dX1_stones_6 : decode cX1_stones 6 = .ok (.astore_n 2, 1) := by decide +kernel
theorem dX1_stones_7 : decode cX1_stones 7 = .ok (.aload_n 2, 1) := by decide +kernel
theorem dX1_stones_8 : decode cX1_stones 8 = .ok (.arraylength, 1) := by decide +kernel
theorem dX1_stones_9 : decode cX1_stones 9 = .ok (.istore_n 3, 1) := by decide +kernel
theorem dX1_stones_10 : decode cX1_stones 10 = .ok (.iconst 0, 1) := by decide +kernel
theorem dX1_stones_11 : decode cX1_stones 11 = .ok (.istore 4, 2) := by decide +kernel
theorem dX1_stones_13 : decode cX1_stones 13 = .ok (.iload 4, 2) := by decide +kernel
theorem dX1_stones_15 : decode cX1_stones 15 = .ok (.iload_n 3, 1) := by decide +kernel
theorem dX1_stones_16 : decode cX1_stones 16 = .ok (.if_icmp .ge 20, 3) := by decide +kernel
theorem dX1_stones_19 : decode cX1_stones 19 = .ok (.aload_n 2, 1) := by decide +kernel
theorem dX1_stones_20 : decode cX1_stones 20 = .ok (.iload 4, 2) := by decide +kernel
theorem dX1_stones_22 : decode cX1_stones 22 = .ok (.iaload, 1) := by decide +kernel
theorem dX1_stones_23 : decode cX1_stones 23 = .ok (.istore 5, 2) := by decide +kernel
theorem dX1_stones_25 : decode cX1_stones 25 = .ok (.iload_n 1, 1) := by decide +kernel
theorem dX1_stones_26 : decode cX1_stones 26 = .ok (.iload 5, 2) := by decide +kernel
theorem dX1_stones_28 : decode cX1_stones 28 = .ok (.iadd, 1) := by decide +kernel
theorem dX1_stones_29 : decode cX1_stones 29 = .ok (.istore_n 1, 1) := by decide +kernel
theorem dX1_stones_30 : decode cX1_stones 30 = .ok (.iinc 4 1, 3) := by decide +kernel
theorem dX1_stones_33 : decode cX1_stones 33 = .ok (.goto (-20), 3) := by decide +kernel
theorem dX1_stones_36 : decode cX1_stones 36 = .ok (.iload_n 1, 1) := by decide +kernel
theorem dX1_stones_37 : decode cX1_stones 37 = .ok (.ireturn, 1) := by decide +kernel
def X1_stones_p13b (sh : Shp) (v2 : Nat) (v3 : Int32) (Q : Int32 → Mem → Prop) (K13 : Int32 → Int32 → Mem → Prop) (v1 : Int32) (v4 : Int32) (m : Mem) : Prop :=
  if v3 ≤ v4 then (Q v1 m) else (Ix sh v2 100 v4 ∧ (K13 (v1 + (m.1 v2 v4.toNatClampNeg)) (v4 + (1 : Int32)) m))
def X1_stones_p13n (sh : Shp) (v2 : Nat) (v3 : Int32) (Q : Int32 → Mem → Prop) : Nat → Int32 → Int32 → Mem → Prop
  | 0 => fun _ _ _ => False
  | n + 1 => X1_stones_p13b sh v2 v3 Q (X1_stones_p13n sh v2 v3 Q n)
def X1_stones_p13 (sh : Shp) (v2 : Nat) (v3 : Int32) (Q : Int32 → Mem → Prop) (v1 : Int32) (v4 : Int32) (m : Mem) : Prop := ∃ n, X1_stones_p13n sh v2 v3 Q n v1 v4 m
def wp_X1_stones (sh : Shp) (v0 : Nat) (Q : Int32 → Mem → Prop) (m : Mem) : Prop :=
  Ob sh v0 1 ∧ ∃ b2 : Nat, m.2.2 v0 3 = some b2 ∧ (∃ n4 : Nat, Ar sh b2 100 n4 ∧ (X1_stones_p13 sh b2 (nI n4) Q (0 : Int32) (0 : Int32) m))
abbrev M_X1_stones : Mi := (cX1_stones, 6, RX1, (Option.some FieldType.int), "stones", 1, 60, 0, 0)
set_option maxHeartbeats 4000000 in
set_option maxRecDepth 100000 in
theorem v_X1_stones_p13b {G : Gl} {F : Fr} {sh : Shp} {v1 : Int32} {v2 : Nat} {v3 : Int32} {v4 : Int32} {Q : Int32 → Mem → Prop} {K13 : Int32 → Int32 → Mem → Prop} {m : Mem} (hK13 : ∀ (x1 : Int32) (x4 : Int32) (m : Mem), K13 x1 x4 m → V G F M_X1_stones sh 0 0 (Zi G F sh Q) 13 [(1, .int x1), (2, .ref (G.1 + v2)), (3, .int v3), (4, .int x4)] [] m) (h : X1_stones_p13b sh v2 v3 Q K13 v1 v4 m) : V G F M_X1_stones sh 0 0 (Zi G F sh Q) 13 [(1, .int v1), (2, .ref (G.1 + v2)), (3, .int v3), (4, .int v4)] [] m := by
  unfold X1_stones_p13b at h
  refine v_iload 4 3 dX1_stones_13 rfl ?_
  refine v_iload_n 3 2 dX1_stones_15 rfl rfl ?_
  refine v_icmp_ge 36 dX1_stones_16 (by decide) (fun hc => ?_) (fun hc => ?_)
  · replace h := Eq.mp (if_pos hc) h
    refine v_iload_n 1 0 dX1_stones_36 rfl rfl ?_
    exact v_iret dX1_stones_37 rfl rfl h
  · replace h := Eq.mp (if_neg hc) h
    refine v_aload_n 2 1 dX1_stones_19 rfl rfl ?_
    refine v_iload 4 3 dX1_stones_20 rfl ?_
    obtain ⟨i6, h⟩ := h
    refine v_iald dX1_stones_22 i6 ?_
    refine v_istore (ls' := [(5, .int _), (1, .int _), (2, .ref _), (3, .int _), (4, .int _)]) 5 dX1_stones_23 (Nat.le_of_ble_eq_true rfl) rfl ?_
    refine v_iload_n 1 1 dX1_stones_25 rfl rfl ?_
    refine v_iload 5 0 dX1_stones_26 rfl ?_
    refine v_iadd dX1_stones_28 ?_
    refine v_istore_n (ls' := [(1, .int _), (5, .int _), (2, .ref _), (3, .int _), (4, .int _)]) 1 dX1_stones_29 rfl (Nat.le_of_ble_eq_true rfl) rfl ?_
    refine v_iinc (ls' := [(4, .int _), (1, .int _), (5, .int _), (2, .ref _), (3, .int _)]) 4 4 dX1_stones_30 rfl (congrArg (HAdd.hAdd _) (by decide : Int32.ofInt (1) = (1 : Int32))) (Nat.le_of_ble_eq_true rfl) rfl ?_
    refine v_goto 13 dX1_stones_33 (by decide) ?_
    refine v_sub [1, 3, 4, 0] rfl ?_
    exact hK13 _ _ _ h
set_option maxHeartbeats 4000000 in
set_option maxRecDepth 100000 in
theorem v_X1_stones_p13 {G : Gl} {F : Fr} {sh : Shp} {v1 : Int32} {v2 : Nat} {v3 : Int32} {v4 : Int32} {Q : Int32 → Mem → Prop} {m : Mem} (h : X1_stones_p13 sh v2 v3 Q v1 v4 m) : V G F M_X1_stones sh 0 0 (Zi G F sh Q) 13 [(1, .int v1), (2, .ref (G.1 + v2)), (3, .int v3), (4, .int v4)] [] m := by
  obtain ⟨n, h⟩ := h
  induction n generalizing v1 v4 m with
  | zero => exact h.elim
  | succ n ih => exact v_X1_stones_p13b (fun _ _ _ h => ih h) h
set_option maxHeartbeats 4000000 in
set_option maxRecDepth 100000 in
theorem c_X1_stones {l : Launch} {G : Gl} {sh : Shp} {v0 : Nat} {Q : Int32 → Mem → Prop} {m : Mem} (h : wp_X1_stones sh v0 Q m) : Cni l G yX1_stones cX1_stones 6 (Option.some FieldType.int) 1 60 sh [.ref (G.1 + v0)] m Q := by
  refine con_i (ls := [(0, .ref (G.1 + v0))]) (by decide +kernel) rfl (Nat.le_of_ble_eq_true rfl) (fun F => ?_)
  show V G F M_X1_stones sh 0 0 (Zi G F sh Q) 0 [(0, .ref (G.1 + v0))] [] m
  unfold wp_X1_stones at h
  refine v_iconst (0 : Int32) dX1_stones_0 (by decide) ?_
  refine v_istore_n (ls' := [(1, .int _), (0, .ref _)]) 1 dX1_stones_1 rfl (Nat.le_of_ble_eq_true rfl) rfl ?_
  refine v_aload_n 0 1 dX1_stones_2 rfl rfl ?_
  obtain ⟨o1, h⟩ := h
  obtain ⟨b2, e3, h⟩ := h
  refine v_gR 1 3 dX1_stones_3 fg_RX1_15 o1 e3 ?_
  refine v_astore_n (ls' := [(2, .ref _), (1, .int _), (0, .ref _)]) 2 dX1_stones_6 rfl (Nat.le_of_ble_eq_true rfl) rfl ?_
  refine v_aload_n 2 0 dX1_stones_7 rfl rfl ?_
  obtain ⟨n4, l5, h⟩ := h
  refine v_alen dX1_stones_8 l5 (by decide) ?_
  refine v_istore_n (ls' := [(3, .int _), (2, .ref _), (1, .int _), (0, .ref _)]) 3 dX1_stones_9 rfl (Nat.le_of_ble_eq_true rfl) rfl ?_
  refine v_iconst (0 : Int32) dX1_stones_10 (by decide) ?_
  refine v_istore (ls' := [(4, .int _), (3, .int _), (2, .ref _), (1, .int _), (0, .ref _)]) 4 dX1_stones_11 (Nat.le_of_ble_eq_true rfl) rfl ?_
  refine v_sub [3, 2, 1, 0] rfl ?_
  exact v_X1_stones_p13 h
/-! CalledRiver$Past.forget -/
theorem dX3_forget_0 : decode cX3_forget 0 = .ok (.aload_n 0, 1) := by decide +kernel
theorem dX3_forget_1 : decode cX3_forget 1 = .ok (.iconst 0, 1) := by decide +kernel
theorem dX3_forget_2 : decode cX3_forget 2 = .ok (.putfield 28, 3) := by decide +kernel
theorem dX3_forget_5 : decode cX3_forget 5 = .ok (.return_, 1) := by decide +kernel
def wp_X3_forget (sh : Shp) (v0 : Nat) (Q : Mem → Prop) (m : Mem) : Prop :=
  Ob sh v0 3 ∧ bnd (sI m v0 0 (0 : Int32)) (fun m2 => Q m2)
abbrev M_X3_forget : Mi := (cX3_forget, 1, RX3, (none : Option FieldType), "forget", 1, 60, 0, 0)
set_option maxHeartbeats 4000000 in
set_option maxRecDepth 100000 in
theorem c_X3_forget {l : Launch} {G : Gl} {sh : Shp} {v0 : Nat} {Q : Mem → Prop} {m : Mem} (h : wp_X3_forget sh v0 Q m) : Cnv l G yX3_forget cX3_forget 1 (none : Option FieldType) 1 60 sh [.ref (G.1 + v0)] m Q := by
  refine con_v (ls := [(0, .ref (G.1 + v0))]) (by decide +kernel) rfl (Nat.le_of_ble_eq_true rfl) (fun F => ?_)
  show V G F M_X3_forget sh 0 0 (Zv G F sh Q) 0 [(0, .ref (G.1 + v0))] [] m
  unfold wp_X3_forget at h
  refine v_aload_n 0 0 dX3_forget_0 rfl rfl ?_
  refine v_iconst (0 : Int32) dX3_forget_1 (by decide) ?_
  obtain ⟨o1, h⟩ := h
  refine v_pI 3 0 dX3_forget_2 fw_RX3_28 o1 ?_
  replace h := bnd_e h
  exact v_vret dX3_forget_5 rfl h
/-! CalledRiver$Past.keep -/
theorem dX3_keep_0 : decode cX3_keep 0 = .ok (.iload_n 1, 1) := by decide +kernel
theorem dX3_keep_1 : decode cX3_keep 1 = .ok (.ifCond .lt 10, 3) := by decide +kernel
theorem dX3_keep_4 : decode cX3_keep 4 = .ok (.iload_n 1, 1) := by decide +kernel
theorem dX3_keep_5 : decode cX3_keep 5 = .ok (.sipush 999, 3) := by decide +kernel
theorem dX3_keep_8 : decode cX3_keep 8 = .ok (.if_icmp .lt 5, 3) := by decide +kernel
theorem dX3_keep_11 : decode cX3_keep 11 = .ok (.iload_n 1, 1) := by decide +kernel
theorem dX3_keep_12 : decode cX3_keep 12 = .ok (.ireturn, 1) := by decide +kernel
theorem dX3_keep_13 : decode cX3_keep 13 = .ok (.aload_n 0, 1) := by decide +kernel
theorem dX3_keep_14 : decode cX3_keep 14 = .ok (.getfield 17, 3) := by decide +kernel
theorem dX3_keep_17 : decode cX3_keep 17 = .ok (.iload_n 1, 1) := by decide +kernel
theorem dX3_keep_18 : decode cX3_keep 18 = .ok (.iload_n 2, 1) := by decide +kernel
theorem dX3_keep_19 : decode cX3_keep 19 = .ok (.iastore, 1) := by decide +kernel
theorem dX3_keep_20 : decode cX3_keep 20 = .ok (.aload_n 0, 1) := by decide +kernel
theorem dX3_keep_21 : decode cX3_keep 21 = .ok (.getfield 21, 3) := by decide +kernel
theorem dX3_keep_24 : decode cX3_keep 24 = .ok (.iload_n 1, 1) := by decide +kernel
theorem dX3_keep_25 : decode cX3_keep 25 = .ok (.iload_n 3, 1) := by decide +kernel
theorem dX3_keep_26 : decode cX3_keep 26 = .ok (.iastore, 1) := by decide +kernel
theorem dX3_keep_27 : decode cX3_keep 27 = .ok (.aload_n 0, 1) := by decide +kernel
theorem dX3_keep_28 : decode cX3_keep 28 = .ok (.getfield 24, 3) := by decide +kernel
theorem dX3_keep_31 : decode cX3_keep 31 = .ok (.iload_n 1, 1) := by decide +kernel
theorem dX3_keep_32 : decode cX3_keep 32 = .ok (.iload 4, 2) := by decide +kernel
theorem dX3_keep_34 : decode cX3_keep 34 = .ok (.iastore, 1) := by decide +kernel
theorem dX3_keep_35 : decode cX3_keep 35 = .ok (.iload_n 1, 1) := by decide +kernel
theorem dX3_keep_36 : decode cX3_keep 36 = .ok (.iconst 1, 1) := by decide +kernel
theorem dX3_keep_37 : decode cX3_keep 37 = .ok (.iadd, 1) := by decide +kernel
theorem dX3_keep_38 : decode cX3_keep 38 = .ok (.ireturn, 1) := by decide +kernel
def wp_X3_keep (sh : Shp) (v0 : Nat) (v1 : Int32) (v2 : Int32) (v3 : Int32) (v4 : Int32) (Q : Int32 → Mem → Prop) (m : Mem) : Prop :=
  if v1 < 0 then (Q v1 m) else (if v1 < (999 : Int32) then (Ob sh v0 3 ∧ ∃ b2 : Nat, m.2.2 v0 3 = some b2 ∧ (Ix sh b2 100 v1 ∧ bnd (sI m b2 v1.toNatClampNeg v2) (fun m5 => ∃ b6 : Nat, m5.2.2 v0 4 = some b6 ∧ (Ix sh b6 100 v1 ∧ bnd (sI m5 b6 v1.toNatClampNeg v3) (fun m9 => ∃ b10 : Nat, m9.2.2 v0 5 = some b10 ∧ (Ix sh b10 100 v1 ∧ bnd (sI m9 b10 v1.toNatClampNeg v4) (fun m13 => Q (v1 + (1 : Int32)) m13))))))) else (Q v1 m))
abbrev M_X3_keep : Mi := (cX3_keep, 5, RX3, (Option.some FieldType.int), "keep", 1, 60, 0, 0)
set_option maxHeartbeats 4000000 in
set_option maxRecDepth 100000 in
theorem c_X3_keep {l : Launch} {G : Gl} {sh : Shp} {v0 : Nat} {v1 : Int32} {v2 : Int32} {v3 : Int32} {v4 : Int32} {Q : Int32 → Mem → Prop} {m : Mem} (h : wp_X3_keep sh v0 v1 v2 v3 v4 Q m) : Cni l G yX3_keep cX3_keep 5 (Option.some FieldType.int) 1 60 sh [.ref (G.1 + v0), .int v1, .int v2, .int v3, .int v4] m Q := by
  refine con_i (ls := [(0, .ref (G.1 + v0)), (1, .int v1), (2, .int v2), (3, .int v3), (4, .int v4)]) (by decide +kernel) rfl (Nat.le_of_ble_eq_true rfl) (fun F => ?_)
  show V G F M_X3_keep sh 0 0 (Zi G F sh Q) 0 [(0, .ref (G.1 + v0)), (1, .int v1), (2, .int v2), (3, .int v3), (4, .int v4)] [] m
  unfold wp_X3_keep at h
  refine v_iload_n 1 1 dX3_keep_0 rfl rfl ?_
  refine v_if_lt 11 dX3_keep_1 (by decide) (fun hc => ?_) (fun hc => ?_)
  · replace h := Eq.mp (if_pos hc) h
    refine v_iload_n 1 1 dX3_keep_11 rfl rfl ?_
    exact v_iret dX3_keep_12 rfl rfl h
  · replace h := Eq.mp (if_neg hc) h
    refine v_iload_n 1 1 dX3_keep_4 rfl rfl ?_
    refine v_sipush (999 : Int32) dX3_keep_5 (by decide) ?_
    refine v_icmp_lt 13 dX3_keep_8 (by decide) (fun hc => ?_) (fun hc => ?_)
    · replace h := Eq.mp (if_pos hc) h
      refine v_aload_n 0 0 dX3_keep_13 rfl rfl ?_
      obtain ⟨o1, h⟩ := h
      obtain ⟨b2, e3, h⟩ := h
      refine v_gR 3 3 dX3_keep_14 fg_RX3_17 o1 e3 ?_
      refine v_iload_n 1 1 dX3_keep_17 rfl rfl ?_
      refine v_iload_n 2 2 dX3_keep_18 rfl rfl ?_
      obtain ⟨i4, h⟩ := h
      refine v_iast dX3_keep_19 i4 ?_
      replace h := bnd_e h
      refine v_aload_n 0 0 dX3_keep_20 rfl rfl ?_
      obtain ⟨b6, e7, h⟩ := h
      refine v_gR 3 4 dX3_keep_21 fg_RX3_21 o1 e7 ?_
      refine v_iload_n 1 1 dX3_keep_24 rfl rfl ?_
      refine v_iload_n 3 3 dX3_keep_25 rfl rfl ?_
      obtain ⟨i8, h⟩ := h
      refine v_iast dX3_keep_26 i8 ?_
      replace h := bnd_e h
      refine v_aload_n 0 0 dX3_keep_27 rfl rfl ?_
      obtain ⟨b10, e11, h⟩ := h
      refine v_gR 3 5 dX3_keep_28 fg_RX3_24 o1 e11 ?_
      refine v_iload_n 1 1 dX3_keep_31 rfl rfl ?_
      refine v_iload 4 4 dX3_keep_32 rfl ?_
      obtain ⟨i12, h⟩ := h
      refine v_iast dX3_keep_34 i12 ?_
      replace h := bnd_e h
      refine v_iload_n 1 1 dX3_keep_35 rfl rfl ?_
      refine v_iconst (1 : Int32) dX3_keep_36 (by decide) ?_
      refine v_iadd dX3_keep_37 ?_
      exact v_iret dX3_keep_38 rfl rfl h
    · replace h := Eq.mp (if_neg hc) h
      refine v_iload_n 1 1 dX3_keep_11 rfl rfl ?_
      exact v_iret dX3_keep_12 rfl rfl h
/-! CalledRiver$Past.remember -/
theorem dX3_remember_0 : decode cX3_remember 0 = .ok (.aload_n 0, 1) := by decide +kernel
theorem dX3_remember_1 : decode cX3_remember 1 = .ok (.getfield 28, 3) := by decide +kernel
theorem dX3_remember_4 : decode cX3_remember 4 = .ok (.bipush 20, 2) := by decide +kernel
theorem dX3_remember_6 : decode cX3_remember 6 = .ok (.if_icmp .ne 26, 3) := by decide +kernel
theorem dX3_remember_9 : decode cX3_remember 9 = .ok (.aload_n 0, 1) := by decide +kernel
theorem dX3_remember_10 : decode cX3_remember 10 = .ok (.aload_n 0, 1) := by decide +kernel
theorem dX3_remember_11 : decode cX3_remember 11 = .ok (.getfield 32, 3) := by decide +kernel
theorem dX3_remember_14 : decode cX3_remember 14 = .ok (.iconst 1, 1) := by decide +kernel
theorem dX3_remember_15 : decode cX3_remember 15 = .ok (.iadd, 1) := by decide +kernel
theorem dX3_remember_16 : decode cX3_remember 16 = .ok (.bipush 20, 2) := by decide +kernel
theorem dX3_remember_18 : decode cX3_remember 18 = .ok (.irem, 1) := by decide +kernel
theorem dX3_remember_19 : decode cX3_remember 19 = .ok (.putfield 32, 3) := by decide +kernel
theorem dX3_remember_22 : decode cX3_remember 22 = .ok (.aload_n 0, 1) := by decide +kernel
theorem dX3_remember_23 : decode cX3_remember 23 = .ok (.dup, 1) := by decide +kernel
theorem dX3_remember_24 : decode cX3_remember 24 = .ok (.getfield 28, 3) := by decide +kernel
theorem dX3_remember_27 : decode cX3_remember 27 = .ok (.iconst 1, 1) := by decide +kernel
theorem dX3_remember_28 : decode cX3_remember 28 = .ok (.isub, 1) := by decide +kernel
theorem dX3_remember_29 : decode cX3_remember 29 = .ok (.putfield 28, 3) := by decide +kernel
theorem dX3_remember_32 : decode cX3_remember 32 = .ok (.aload_n 0, 1) := by decide +kernel
theorem dX3_remember_33 : decode cX3_remember 33 = .ok (.getfield 11, 3) := by decide +kernel
theorem dX3_remember_36 : decode cX3_remember 36 = .ok (.aload_n 0, 1) := by decide +kernel
theorem dX3_remember_37 : decode cX3_remember 37 = .ok (.getfield 32, 3) := by decide +kernel
theorem dX3_remember_40 : decode cX3_remember 40 = .ok (.aload_n 0, 1) := by decide +kernel
theorem dX3_remember_41 : decode cX3_remember 41 = .ok (.getfield 28, 3) := by decide +kernel
theorem dX3_remember_44 : decode cX3_remember 44 = .ok (.iadd, 1) := by decide +kernel
theorem dX3_remember_45 : decode cX3_remember 45 = .ok (.bipush 20, 2) := by decide +kernel
theorem dX3_remember_47 : decode cX3_remember 47 = .ok (.irem, 1) := by decide +kernel
theorem dX3_remember_48 : decode cX3_remember 48 = .ok (.aaload, 1) := by decide +kernel
theorem dX3_remember_49 : decode cX3_remember 49 = .ok (.aload_n 1, 1) := by decide +kernel
theorem dX3_remember_50 : decode cX3_remember 50 = .ok (.invokevirtual 35, 3) := by decide +kernel
theorem dX3_remember_53 : decode cX3_remember 53 = .ok (.aload_n 0, 1) := by decide +kernel
theorem dX3_remember_54 : decode cX3_remember 54 = .ok (.dup, 1) := by decide +kernel
theorem dX3_remember_55 : decode cX3_remember 55 = .ok (.getfield 28, 3) := by decide +kernel
theorem dX3_remember_58 : decode cX3_remember 58 = .ok (.iconst 1, 1) := by decide +kernel
theorem dX3_remember_59 : decode cX3_remember 59 = .ok (.iadd, 1) := by decide +kernel
theorem dX3_remember_60 : decode cX3_remember 60 = .ok (.putfield 28, 3) := by decide +kernel
theorem dX3_remember_63 : decode cX3_remember 63 = .ok (.return_, 1) := by decide +kernel
def X3_remember_p32 (sh : Shp) (v0 : Nat) (v1 : Nat) (Q : Mem → Prop) (m : Mem) : Prop :=
  Ob sh v0 3 ∧ ∃ b5 : Nat, m.2.2 v0 2 = some b5 ∧ (Ix sh b5 105 (((m.1 v0 1) + (m.1 v0 0)) - ((m.1 v0 1) + (m.1 v0 0)) / (20 : Int32) * (20 : Int32)) ∧ ∃ b8 : Nat, m.2.2 b5 (((m.1 v0 1) + (m.1 v0 0)) - ((m.1 v0 1) + (m.1 v0 0)) / (20 : Int32) * (20 : Int32)).toNatClampNeg = some b8 ∧ (Ob sh b8 1 ∧ wp_X1_copy sh b8 v1 (fun m11 => bnd (sI m11 v0 0 ((m11.1 v0 0) + (1 : Int32))) (fun m13 => Q m13)) m))
def wp_X3_remember (sh : Shp) (v0 : Nat) (v1 : Nat) (Q : Mem → Prop) (m : Mem) : Prop :=
  Ob sh v0 3 ∧ (if (m.1 v0 0) = (20 : Int32) then (bnd (sI m v0 1 (((m.1 v0 1) + (1 : Int32)) - ((m.1 v0 1) + (1 : Int32)) / (20 : Int32) * (20 : Int32))) (fun m2 => bnd (sI m2 v0 0 ((m2.1 v0 0) - (1 : Int32))) (fun m3 => X3_remember_p32 sh v0 v1 Q m3))) else (X3_remember_p32 sh v0 v1 Q m))
abbrev M_X3_remember : Mi := (cX3_remember, 2, RX3, (none : Option FieldType), "remember", 3, 105, 0, 0)
set_option maxHeartbeats 4000000 in
set_option maxRecDepth 100000 in
theorem v_X3_remember_p32 {G : Gl} {F : Fr} {sh : Shp} {v0 : Nat} {v1 : Nat} {Q : Mem → Prop} {m : Mem} (h : X3_remember_p32 sh v0 v1 Q m) : V G F M_X3_remember sh 0 0 (Zv G F sh Q) 32 [(0, .ref (G.1 + v0)), (1, .ref (G.1 + v1))] [] m := by
  unfold X3_remember_p32 at h
  refine v_aload_n 0 0 dX3_remember_32 rfl rfl ?_
  obtain ⟨o4, h⟩ := h
  obtain ⟨b5, e6, h⟩ := h
  refine v_gR 3 2 dX3_remember_33 fg_RX3_11 o4 e6 ?_
  refine v_aload_n 0 0 dX3_remember_36 rfl rfl ?_
  refine v_gI 3 1 dX3_remember_37 fg_RX3_32 o4 ?_
  refine v_aload_n 0 0 dX3_remember_40 rfl rfl ?_
  refine v_gI 3 0 dX3_remember_41 fg_RX3_28 o4 ?_
  refine v_iadd dX3_remember_44 ?_
  refine v_bipush (20 : Int32) dX3_remember_45 (by decide) ?_
  refine v_irem dX3_remember_47 (by decide) ?_
  obtain ⟨i7, h⟩ := h
  obtain ⟨b8, e9, h⟩ := h
  refine v_aald 105 dX3_remember_48 i7 (by decide) e9 ?_
  refine v_aload_n 1 1 dX3_remember_49 rfl rfl ?_
  obtain ⟨o12, h⟩ := h
  refine v_cVv [.ref _] mv_X1_copy ml_RX3_35 ⟨_, _, rfl⟩ o12 rfl rfl (Nat.le_of_ble_eq_true rfl) (Nat.le_of_ble_eq_true rfl) (Nat.le_of_ble_eq_true rfl) (Nat.zero_le _) (Nat.zero_le _) dX3_remember_50 (c_X1_copy h) (fun m11 h => ?_)
  refine v_aload_n 0 0 dX3_remember_53 rfl rfl ?_
  refine v_dup dX3_remember_54 rfl ?_
  refine v_gI 3 0 dX3_remember_55 fg_RX3_28 o4 ?_
  refine v_iconst (1 : Int32) dX3_remember_58 (by decide) ?_
  refine v_iadd dX3_remember_59 ?_
  refine v_pI 3 0 dX3_remember_60 fw_RX3_28 o4 ?_
  replace h := bnd_e h
  exact v_vret dX3_remember_63 rfl h
set_option maxHeartbeats 4000000 in
set_option maxRecDepth 100000 in
theorem c_X3_remember {l : Launch} {G : Gl} {sh : Shp} {v0 : Nat} {v1 : Nat} {Q : Mem → Prop} {m : Mem} (h : wp_X3_remember sh v0 v1 Q m) : Cnv l G yX3_remember cX3_remember 2 (none : Option FieldType) 3 105 sh [.ref (G.1 + v0), .ref (G.1 + v1)] m Q := by
  refine con_v (ls := [(0, .ref (G.1 + v0)), (1, .ref (G.1 + v1))]) (by decide +kernel) rfl (Nat.le_of_ble_eq_true rfl) (fun F => ?_)
  show V G F M_X3_remember sh 0 0 (Zv G F sh Q) 0 [(0, .ref (G.1 + v0)), (1, .ref (G.1 + v1))] [] m
  unfold wp_X3_remember at h
  refine v_aload_n 0 0 dX3_remember_0 rfl rfl ?_
  obtain ⟨o1, h⟩ := h
  refine v_gI 3 0 dX3_remember_1 fg_RX3_28 o1 ?_
  refine v_bipush (20 : Int32) dX3_remember_4 (by decide) ?_
  refine v_icmp_ne 32 dX3_remember_6 (by decide) (fun hc => ?_) (fun hc => ?_)
  · replace h := Eq.mp (if_neg hc) h
    refine v_sub [0, 1] rfl ?_
    exact v_X3_remember_p32 h
  · replace h := Eq.mp (if_pos hc) h
    refine v_aload_n 0 0 dX3_remember_9 rfl rfl ?_
    refine v_aload_n 0 0 dX3_remember_10 rfl rfl ?_
    refine v_gI 3 1 dX3_remember_11 fg_RX3_32 o1 ?_
    refine v_iconst (1 : Int32) dX3_remember_14 (by decide) ?_
    refine v_iadd dX3_remember_15 ?_
    refine v_bipush (20 : Int32) dX3_remember_16 (by decide) ?_
    refine v_irem dX3_remember_18 (by decide) ?_
    refine v_pI 3 1 dX3_remember_19 fw_RX3_32 o1 ?_
    replace h := bnd_e h
    refine v_aload_n 0 0 dX3_remember_22 rfl rfl ?_
    refine v_dup dX3_remember_23 rfl ?_
    refine v_gI 3 0 dX3_remember_24 fg_RX3_28 o1 ?_
    refine v_iconst (1 : Int32) dX3_remember_27 (by decide) ?_
    refine v_isub dX3_remember_28 ?_
    refine v_pI 3 0 dX3_remember_29 fw_RX3_28 o1 ?_
    replace h := bnd_e h
    refine v_sub [0, 1] rfl ?_
    exact v_X3_remember_p32 h
/-! CalledRiver$Past.restore -/
theorem dX3_restore_0 : decode cX3_restore 0 = .ok (.aload_n 0, 1) := by decide +kernel
theorem dX3_restore_1 : decode cX3_restore 1 = .ok (.getfield 28, 3) := by decide +kernel
theorem dX3_restore_4 : decode cX3_restore 4 = .ok (.ifCond .ne 5, 3) := by decide +kernel
theorem dX3_restore_7 : decode cX3_restore 7 = .ok (.iconst 0, 1) := by decide +kernel
theorem dX3_restore_8 : decode cX3_restore 8 = .ok (.ireturn, 1) := by decide +kernel
theorem dX3_restore_9 : decode cX3_restore 9 = .ok (.aload_n 0, 1) := by decide +kernel
theorem dX3_restore_10 : decode cX3_restore 10 = .ok (.dup, 1) := by decide +kernel
theorem dX3_restore_11 : decode cX3_restore 11 = .ok (.getfield 28, 3) := by decide +kernel
theorem dX3_restore_14 : decode cX3_restore 14 = .ok (.iconst 1, 1) := by decide +kernel
theorem dX3_restore_15 : decode cX3_restore 15 = .ok (.isub, 1) := by decide +kernel
theorem dX3_restore_16 : decode cX3_restore 16 = .ok (.putfield 28, 3) := by decide +kernel
theorem dX3_restore_19 : decode cX3_restore 19 = .ok (.aload_n 1, 1) := by decide +kernel
theorem dX3_restore_20 : decode cX3_restore 20 = .ok (.aload_n 0, 1) := by decide +kernel
theorem dX3_restore_21 : decode cX3_restore 21 = .ok (.getfield 11, 3) := by decide +kernel
theorem dX3_restore_24 : decode cX3_restore 24 = .ok (.aload_n 0, 1) := by decide +kernel
theorem dX3_restore_25 : decode cX3_restore 25 = .ok (.getfield 32, 3) := by decide +kernel
theorem dX3_restore_28 : decode cX3_restore 28 = .ok (.aload_n 0, 1) := by decide +kernel
theorem dX3_restore_29 : decode cX3_restore 29 = .ok (.getfield 28, 3) := by decide +kernel
theorem dX3_restore_32 : decode cX3_restore 32 = .ok (.iadd, 1) := by decide +kernel
theorem dX3_restore_33 : decode cX3_restore 33 = .ok (.bipush 20, 2) := by decide +kernel
theorem dX3_restore_35 : decode cX3_restore 35 = .ok (.irem, 1) := by decide +kernel
theorem dX3_restore_36 : decode cX3_restore 36 = .ok (.aaload, 1) := by decide +kernel
theorem dX3_restore_37 : decode cX3_restore 37 = .ok (.invokevirtual 35, 3) := by decide +kernel
theorem dX3_restore_40 : decode cX3_restore 40 = .ok (.iconst 1, 1) := by decide +kernel
theorem dX3_restore_41 : decode cX3_restore 41 = .ok (.ireturn, 1) := by decide +kernel
def wp_X3_restore (sh : Shp) (v0 : Nat) (v1 : Nat) (Q : Int32 → Mem → Prop) (m : Mem) : Prop :=
  Ob sh v0 3 ∧ (if (m.1 v0 0) = 0 then (Q (0 : Int32) m) else (bnd (sI m v0 0 ((m.1 v0 0) - (1 : Int32))) (fun m2 => ∃ b3 : Nat, m2.2.2 v0 2 = some b3 ∧ (Ix sh b3 105 (((m2.1 v0 1) + (m2.1 v0 0)) - ((m2.1 v0 1) + (m2.1 v0 0)) / (20 : Int32) * (20 : Int32)) ∧ ∃ b6 : Nat, m2.2.2 b3 (((m2.1 v0 1) + (m2.1 v0 0)) - ((m2.1 v0 1) + (m2.1 v0 0)) / (20 : Int32) * (20 : Int32)).toNatClampNeg = some b6 ∧ (Ob sh v1 1 ∧ wp_X1_copy sh v1 b6 (fun m9 => Q (1 : Int32) m9) m2)))))
abbrev M_X3_restore : Mi := (cX3_restore, 2, RX3, (Option.some FieldType.boolean), "restore", 3, 105, 0, 0)
set_option maxHeartbeats 4000000 in
set_option maxRecDepth 100000 in
theorem c_X3_restore {l : Launch} {G : Gl} {sh : Shp} {v0 : Nat} {v1 : Nat} {Q : Int32 → Mem → Prop} {m : Mem} (h : wp_X3_restore sh v0 v1 Q m) : Cni l G yX3_restore cX3_restore 2 (Option.some FieldType.boolean) 3 105 sh [.ref (G.1 + v0), .ref (G.1 + v1)] m Q := by
  refine con_i (ls := [(0, .ref (G.1 + v0)), (1, .ref (G.1 + v1))]) (by decide +kernel) rfl (Nat.le_of_ble_eq_true rfl) (fun F => ?_)
  show V G F M_X3_restore sh 0 0 (Zi G F sh Q) 0 [(0, .ref (G.1 + v0)), (1, .ref (G.1 + v1))] [] m
  unfold wp_X3_restore at h
  refine v_aload_n 0 0 dX3_restore_0 rfl rfl ?_
  obtain ⟨o1, h⟩ := h
  refine v_gI 3 0 dX3_restore_1 fg_RX3_28 o1 ?_
  refine v_if_ne 9 dX3_restore_4 (by decide) (fun hc => ?_) (fun hc => ?_)
  · replace h := Eq.mp (if_neg hc) h
    refine v_aload_n 0 0 dX3_restore_9 rfl rfl ?_
    refine v_dup dX3_restore_10 rfl ?_
    refine v_gI 3 0 dX3_restore_11 fg_RX3_28 o1 ?_
    refine v_iconst (1 : Int32) dX3_restore_14 (by decide) ?_
    refine v_isub dX3_restore_15 ?_
    refine v_pI 3 0 dX3_restore_16 fw_RX3_28 o1 ?_
    replace h := bnd_e h
    refine v_aload_n 1 1 dX3_restore_19 rfl rfl ?_
    refine v_aload_n 0 0 dX3_restore_20 rfl rfl ?_
    obtain ⟨b3, e4, h⟩ := h
    refine v_gR 3 2 dX3_restore_21 fg_RX3_11 o1 e4 ?_
    refine v_aload_n 0 0 dX3_restore_24 rfl rfl ?_
    refine v_gI 3 1 dX3_restore_25 fg_RX3_32 o1 ?_
    refine v_aload_n 0 0 dX3_restore_28 rfl rfl ?_
    refine v_gI 3 0 dX3_restore_29 fg_RX3_28 o1 ?_
    refine v_iadd dX3_restore_32 ?_
    refine v_bipush (20 : Int32) dX3_restore_33 (by decide) ?_
    refine v_irem dX3_restore_35 (by decide) ?_
    obtain ⟨i5, h⟩ := h
    obtain ⟨b6, e7, h⟩ := h
    refine v_aald 105 dX3_restore_36 i5 (by decide) e7 ?_
    obtain ⟨o10, h⟩ := h
    refine v_cVv [.ref _] mv_X1_copy ml_RX3_35 ⟨_, _, rfl⟩ o10 rfl rfl (Nat.le_of_ble_eq_true rfl) (Nat.le_of_ble_eq_true rfl) (Nat.le_of_ble_eq_true rfl) (Nat.zero_le _) (Nat.zero_le _) dX3_restore_37 (c_X1_copy h) (fun m9 h => ?_)
    refine v_iconst (1 : Int32) dX3_restore_40 (by decide) ?_
    exact v_iret dX3_restore_41 rfl (by decide) h
  · replace h := Eq.mp (if_pos hc) h
    refine v_iconst (0 : Int32) dX3_restore_7 (by decide) ?_
    exact v_iret dX3_restore_8 rfl (by decide) h
/-! CalledRiver$Past.tell -/
theorem dX3_tell_0 : decode cX3_tell 0 = .ok (.iload_n 1, 1) := by decide +kernel
theorem dX3_tell_1 : decode cX3_tell 1 = .ok (.ifCond .lt 10, 3) := by decide +kernel
theorem dX3_tell_4 : decode cX3_tell 4 = .ok (.iload_n 1, 1) := by decide +kernel
theorem dX3_tell_5 : decode cX3_tell 5 = .ok (.sipush 999, 3) := by decide +kernel
theorem dX3_tell_8 : decode cX3_tell 8 = .ok (.if_icmp .lt 5, 3) := by decide +kernel
theorem dX3_tell_11 : decode cX3_tell 11 = .ok (.iconst (-1), 1) := by decide +kernel
theorem dX3_tell_12 : decode cX3_tell 12 = .ok (.ireturn, 1) := by decide +kernel
theorem dX3_tell_13 : decode cX3_tell 13 = .ok (.iload_n 2, 1) := by decide +kernel
theorem dX3_tell_14 : decode cX3_tell 14 = .ok (.tableswitch 47 0 2 #[26, 33, 40], 26) := by decide +kernel
theorem dX3_tell_40 : decode cX3_tell 40 = .ok (.aload_n 0, 1) := by decide +kernel
theorem dX3_tell_41 : decode cX3_tell 41 = .ok (.getfield 17, 3) := by decide +kernel
theorem dX3_tell_44 : decode cX3_tell 44 = .ok (.iload_n 1, 1) := by decide +kernel
theorem dX3_tell_45 : decode cX3_tell 45 = .ok (.iaload, 1) := by decide +kernel
theorem dX3_tell_46 : decode cX3_tell 46 = .ok (.ireturn, 1) := by decide +kernel
theorem dX3_tell_47 : decode cX3_tell 47 = .ok (.aload_n 0, 1) := by decide +kernel
theorem dX3_tell_48 : decode cX3_tell 48 = .ok (.getfield 21, 3) := by decide +kernel
theorem dX3_tell_51 : decode cX3_tell 51 = .ok (.iload_n 1, 1) := by decide +kernel
theorem dX3_tell_52 : decode cX3_tell 52 = .ok (.iaload, 1) := by decide +kernel
theorem dX3_tell_53 : decode cX3_tell 53 = .ok (.ireturn, 1) := by decide +kernel
theorem dX3_tell_54 : decode cX3_tell 54 = .ok (.aload_n 0, 1) := by decide +kernel
theorem dX3_tell_55 : decode cX3_tell 55 = .ok (.getfield 24, 3) := by decide +kernel
theorem dX3_tell_58 : decode cX3_tell 58 = .ok (.iload_n 1, 1) := by decide +kernel
theorem dX3_tell_59 : decode cX3_tell 59 = .ok (.iaload, 1) := by decide +kernel
theorem dX3_tell_60 : decode cX3_tell 60 = .ok (.ireturn, 1) := by decide +kernel
theorem dX3_tell_61 : decode cX3_tell 61 = .ok (.iconst (-1), 1) := by decide +kernel
theorem dX3_tell_62 : decode cX3_tell 62 = .ok (.ireturn, 1) := by decide +kernel
def wp_X3_tell (sh : Shp) (v0 : Nat) (v1 : Int32) (v2 : Int32) (Q : Int32 → Mem → Prop) (m : Mem) : Prop :=
  if v1 < 0 then (Q (-1 : Int32) m) else (if v1 < (999 : Int32) then (if v2 = (0 : Int32) then (Ob sh v0 3 ∧ ∃ b2 : Nat, m.2.2 v0 3 = some b2 ∧ (Ix sh b2 100 v1 ∧ (Q (m.1 b2 v1.toNatClampNeg) m))) else if v2 = (1 : Int32) then (Ob sh v0 3 ∧ ∃ b6 : Nat, m.2.2 v0 4 = some b6 ∧ (Ix sh b6 100 v1 ∧ (Q (m.1 b6 v1.toNatClampNeg) m))) else if v2 = (2 : Int32) then (Ob sh v0 3 ∧ ∃ b10 : Nat, m.2.2 v0 5 = some b10 ∧ (Ix sh b10 100 v1 ∧ (Q (m.1 b10 v1.toNatClampNeg) m))) else (Q (-1 : Int32) m)) else (Q (-1 : Int32) m))
abbrev M_X3_tell : Mi := (cX3_tell, 3, RX3, (Option.some FieldType.int), "tell", 1, 60, 0, 0)
set_option maxHeartbeats 4000000 in
set_option maxRecDepth 100000 in
theorem c_X3_tell {l : Launch} {G : Gl} {sh : Shp} {v0 : Nat} {v1 : Int32} {v2 : Int32} {Q : Int32 → Mem → Prop} {m : Mem} (h : wp_X3_tell sh v0 v1 v2 Q m) : Cni l G yX3_tell cX3_tell 3 (Option.some FieldType.int) 1 60 sh [.ref (G.1 + v0), .int v1, .int v2] m Q := by
  refine con_i (ls := [(0, .ref (G.1 + v0)), (1, .int v1), (2, .int v2)]) (by decide +kernel) rfl (Nat.le_of_ble_eq_true rfl) (fun F => ?_)
  show V G F M_X3_tell sh 0 0 (Zi G F sh Q) 0 [(0, .ref (G.1 + v0)), (1, .int v1), (2, .int v2)] [] m
  unfold wp_X3_tell at h
  refine v_iload_n 1 1 dX3_tell_0 rfl rfl ?_
  refine v_if_lt 11 dX3_tell_1 (by decide) (fun hc => ?_) (fun hc => ?_)
  · replace h := Eq.mp (if_pos hc) h
    refine v_iconst (-1 : Int32) dX3_tell_11 (by decide) ?_
    exact v_iret dX3_tell_12 rfl rfl h
  · replace h := Eq.mp (if_neg hc) h
    refine v_iload_n 1 1 dX3_tell_4 rfl rfl ?_
    refine v_sipush (999 : Int32) dX3_tell_5 (by decide) ?_
    refine v_icmp_lt 13 dX3_tell_8 (by decide) (fun hc => ?_) (fun hc => ?_)
    · replace h := Eq.mp (if_pos hc) h
      refine v_iload_n 2 2 dX3_tell_13 rfl rfl ?_
      by_cases hc0 : v2 = (0 : Int32)
      · replace h := Eq.mp (if_pos hc0) h
        refine v_tabK (0 : Int32) hc0 40 dX3_tell_14 (by decide) (by decide) rfl (by decide) ?_
        refine v_aload_n 0 0 dX3_tell_40 rfl rfl ?_
        obtain ⟨o1, h⟩ := h
        obtain ⟨b2, e3, h⟩ := h
        refine v_gR 3 3 dX3_tell_41 fg_RX3_17 o1 e3 ?_
        refine v_iload_n 1 1 dX3_tell_44 rfl rfl ?_
        obtain ⟨i4, h⟩ := h
        refine v_iald dX3_tell_45 i4 ?_
        exact v_iret dX3_tell_46 rfl rfl h
      replace h := Eq.mp (if_neg hc0) h
      by_cases hc1 : v2 = (1 : Int32)
      · replace h := Eq.mp (if_pos hc1) h
        refine v_tabK (1 : Int32) hc1 47 dX3_tell_14 (by decide) (by decide) rfl (by decide) ?_
        refine v_aload_n 0 0 dX3_tell_47 rfl rfl ?_
        obtain ⟨o5, h⟩ := h
        obtain ⟨b6, e7, h⟩ := h
        refine v_gR 3 4 dX3_tell_48 fg_RX3_21 o5 e7 ?_
        refine v_iload_n 1 1 dX3_tell_51 rfl rfl ?_
        obtain ⟨i8, h⟩ := h
        refine v_iald dX3_tell_52 i8 ?_
        exact v_iret dX3_tell_53 rfl rfl h
      replace h := Eq.mp (if_neg hc1) h
      by_cases hc2 : v2 = (2 : Int32)
      · replace h := Eq.mp (if_pos hc2) h
        refine v_tabK (2 : Int32) hc2 54 dX3_tell_14 (by decide) (by decide) rfl (by decide) ?_
        refine v_aload_n 0 0 dX3_tell_54 rfl rfl ?_
        obtain ⟨o9, h⟩ := h
        obtain ⟨b10, e11, h⟩ := h
        refine v_gR 3 5 dX3_tell_55 fg_RX3_24 o9 e11 ?_
        refine v_iload_n 1 1 dX3_tell_58 rfl rfl ?_
        obtain ⟨i12, h⟩ := h
        refine v_iald dX3_tell_59 i12 ?_
        exact v_iret dX3_tell_60 rfl rfl h
      replace h := Eq.mp (if_neg hc2) h
      refine v_tabOut 61 dX3_tell_14 (by have := lv_neT hc0 (a := 0) (by decide); have := lv_neT hc1 (a := 1) (by decide); have := lv_neT hc2 (a := 2) (by decide); omega) (by decide) ?_
      refine v_iconst (-1 : Int32) dX3_tell_61 (by decide) ?_
      exact v_iret dX3_tell_62 rfl rfl h
    · replace h := Eq.mp (if_neg hc) h
      refine v_iconst (-1 : Int32) dX3_tell_11 (by decide) ?_
      exact v_iret dX3_tell_12 rfl rfl h
/-! CalledRiver$Picture.checkOf -/
theorem dX4_checkOf_0 : decode cX4_checkOf 0 = .ok (.sipush 173, 3) := by decide +kernel
theorem dX4_checkOf_3 : decode cX4_checkOf 3 = .ok (.istore_n 2, 1) := by decide +kernel
theorem dX4_checkOf_4 : decode cX4_checkOf 4 = .ok (.iconst 0, 1) := by decide +kernel
theorem dX4_checkOf_5 : decode cX4_checkOf 5 = .ok (.istore_n 3, 1) := by decide +kernel
theorem dX4_checkOf_6 : decode cX4_checkOf 6 = .ok (.iload_n 3, 1) := by decide +kernel
theorem dX4_checkOf_7 : decode cX4_checkOf 7 = .ok (.iload_n 1, 1) := by decide +kernel
theorem dX4_checkOf_8 : decode cX4_checkOf 8 = .ok (.if_icmp .ge 21, 3) := by decide +kernel
theorem dX4_checkOf_11 : decode cX4_checkOf 11 = .ok (.iconst 3, 1) := by decide +kernel
theorem dX4_checkOf_12 : decode cX4_checkOf 12 = .ok (.iload_n 2, 1) := by decide +kernel
theorem dX4_checkOf_13 : decode cX4_checkOf 13 = .ok (.imul, 1) := by decide +kernel
theorem dX4_checkOf_14 : decode cX4_checkOf 14 = .ok (.aload_n 0, 1) := by decide +kernel
theorem dX4_checkOf_15 : decode cX4_checkOf 15 = .ok (.iload_n 3, 1) := by decide +kernel
theorem dX4_checkOf_16 : decode cX4_checkOf 16 = .ok (.iaload, 1) := by decide +kernel
theorem dX4_checkOf_17 : decode cX4_checkOf 17 = .ok (.iadd, 1) := by decide +kernel
theorem dX4_checkOf_18 : decode cX4_checkOf 18 = .ok (.sipush 251, 3) := by decide +kernel
theorem dX4_checkOf_21 : decode cX4_checkOf 21 = .ok (.irem, 1) := by decide +kernel
theorem dX4_checkOf_22 : decode cX4_checkOf 22 = .ok (.istore_n 2, 1) := by decide +kernel
theorem dX4_checkOf_23 : decode cX4_checkOf 23 = .ok (.iinc 3 1, 3) := by decide +kernel
theorem dX4_checkOf_26 : decode cX4_checkOf 26 = .ok (.goto (-20), 3) := by decide +kernel
theorem dX4_checkOf_29 : decode cX4_checkOf 29 = .ok (.iload_n 2, 1) := by decide +kernel
theorem dX4_checkOf_30 : decode cX4_checkOf 30 = .ok (.ireturn, 1) := by decide +kernel
def X4_checkOf_p6b (sh : Shp) (v0 : Nat) (v1 : Int32) (Q : Int32 → Mem → Prop) (K6 : Int32 → Int32 → Mem → Prop) (v2 : Int32) (v3 : Int32) (m : Mem) : Prop :=
  if v1 ≤ v3 then (Q v2 m) else (Ix sh v0 100 v3 ∧ (K6 ((((3 : Int32) * v2) + (m.1 v0 v3.toNatClampNeg)) - (((3 : Int32) * v2) + (m.1 v0 v3.toNatClampNeg)) / (251 : Int32) * (251 : Int32)) (v3 + (1 : Int32)) m))
def X4_checkOf_p6n (sh : Shp) (v0 : Nat) (v1 : Int32) (Q : Int32 → Mem → Prop) : Nat → Int32 → Int32 → Mem → Prop
  | 0 => fun _ _ _ => False
  | n + 1 => X4_checkOf_p6b sh v0 v1 Q (X4_checkOf_p6n sh v0 v1 Q n)
def X4_checkOf_p6 (sh : Shp) (v0 : Nat) (v1 : Int32) (Q : Int32 → Mem → Prop) (v2 : Int32) (v3 : Int32) (m : Mem) : Prop := ∃ n, X4_checkOf_p6n sh v0 v1 Q n v2 v3 m
def wp_X4_checkOf (sh : Shp) (v0 : Nat) (v1 : Int32) (Q : Int32 → Mem → Prop) (m : Mem) : Prop :=
  X4_checkOf_p6 sh v0 v1 Q (173 : Int32) (0 : Int32) m
abbrev M_X4_checkOf : Mi := (cX4_checkOf, 4, RX4, (Option.some FieldType.int), "checkOf", 1, 60, 0, 0)
set_option maxHeartbeats 4000000 in
set_option maxRecDepth 100000 in
theorem v_X4_checkOf_p6b {G : Gl} {F : Fr} {sh : Shp} {v0 : Nat} {v1 : Int32} {v2 : Int32} {v3 : Int32} {Q : Int32 → Mem → Prop} {K6 : Int32 → Int32 → Mem → Prop} {m : Mem} (hK6 : ∀ (x2 : Int32) (x3 : Int32) (m : Mem), K6 x2 x3 m → V G F M_X4_checkOf sh 0 0 (Zi G F sh Q) 6 [(0, .ref (G.1 + v0)), (1, .int v1), (2, .int x2), (3, .int x3)] [] m) (h : X4_checkOf_p6b sh v0 v1 Q K6 v2 v3 m) : V G F M_X4_checkOf sh 0 0 (Zi G F sh Q) 6 [(0, .ref (G.1 + v0)), (1, .int v1), (2, .int v2), (3, .int v3)] [] m := by
  unfold X4_checkOf_p6b at h
  refine v_iload_n 3 3 dX4_checkOf_6 rfl rfl ?_
  refine v_iload_n 1 1 dX4_checkOf_7 rfl rfl ?_
  refine v_icmp_ge 29 dX4_checkOf_8 (by decide) (fun hc => ?_) (fun hc => ?_)
  · replace h := Eq.mp (if_pos hc) h
    refine v_iload_n 2 2 dX4_checkOf_29 rfl rfl ?_
    exact v_iret dX4_checkOf_30 rfl rfl h
  · replace h := Eq.mp (if_neg hc) h
    refine v_iconst (3 : Int32) dX4_checkOf_11 (by decide) ?_
    refine v_iload_n 2 2 dX4_checkOf_12 rfl rfl ?_
    refine v_imul dX4_checkOf_13 ?_
    refine v_aload_n 0 0 dX4_checkOf_14 rfl rfl ?_
    refine v_iload_n 3 3 dX4_checkOf_15 rfl rfl ?_
    obtain ⟨i1, h⟩ := h
    refine v_iald dX4_checkOf_16 i1 ?_
    refine v_iadd dX4_checkOf_17 ?_
    refine v_sipush (251 : Int32) dX4_checkOf_18 (by decide) ?_
    refine v_irem dX4_checkOf_21 (by decide) ?_
    refine v_istore_n (ls' := [(2, .int _), (0, .ref _), (1, .int _), (3, .int _)]) 2 dX4_checkOf_22 rfl (Nat.le_of_ble_eq_true rfl) rfl ?_
    refine v_iinc (ls' := [(3, .int _), (2, .int _), (0, .ref _), (1, .int _)]) 3 3 dX4_checkOf_23 rfl (congrArg (HAdd.hAdd _) (by decide : Int32.ofInt (1) = (1 : Int32))) (Nat.le_of_ble_eq_true rfl) rfl ?_
    refine v_goto 6 dX4_checkOf_26 (by decide) ?_
    refine v_sub [2, 3, 1, 0] rfl ?_
    exact hK6 _ _ _ h
set_option maxHeartbeats 4000000 in
set_option maxRecDepth 100000 in
theorem v_X4_checkOf_p6 {G : Gl} {F : Fr} {sh : Shp} {v0 : Nat} {v1 : Int32} {v2 : Int32} {v3 : Int32} {Q : Int32 → Mem → Prop} {m : Mem} (h : X4_checkOf_p6 sh v0 v1 Q v2 v3 m) : V G F M_X4_checkOf sh 0 0 (Zi G F sh Q) 6 [(0, .ref (G.1 + v0)), (1, .int v1), (2, .int v2), (3, .int v3)] [] m := by
  obtain ⟨n, h⟩ := h
  induction n generalizing v2 v3 m with
  | zero => exact h.elim
  | succ n ih => exact v_X4_checkOf_p6b (fun _ _ _ h => ih h) h
set_option maxHeartbeats 4000000 in
set_option maxRecDepth 100000 in
theorem c_X4_checkOf {l : Launch} {G : Gl} {sh : Shp} {v0 : Nat} {v1 : Int32} {Q : Int32 → Mem → Prop} {m : Mem} (h : wp_X4_checkOf sh v0 v1 Q m) : Cni l G yX4_checkOf cX4_checkOf 4 (Option.some FieldType.int) 1 60 sh [.ref (G.1 + v0), .int v1] m Q := by
  refine con_i (ls := [(0, .ref (G.1 + v0)), (1, .int v1)]) (by decide +kernel) rfl (Nat.le_of_ble_eq_true rfl) (fun F => ?_)
  show V G F M_X4_checkOf sh 0 0 (Zi G F sh Q) 0 [(0, .ref (G.1 + v0)), (1, .int v1)] [] m
  unfold wp_X4_checkOf at h
  refine v_sipush (173 : Int32) dX4_checkOf_0 (by decide) ?_
  refine v_istore_n (ls' := [(2, .int _), (0, .ref _), (1, .int _)]) 2 dX4_checkOf_3 rfl (Nat.le_of_ble_eq_true rfl) rfl ?_
  refine v_iconst (0 : Int32) dX4_checkOf_4 (by decide) ?_
  refine v_istore_n (ls' := [(3, .int _), (2, .int _), (0, .ref _), (1, .int _)]) 3 dX4_checkOf_5 rfl (Nat.le_of_ble_eq_true rfl) rfl ?_
  refine v_sub [2, 3, 1, 0] rfl ?_
  exact v_X4_checkOf_p6 h
/-! CalledRiver$Picture.yearOf -/
theorem dX4_yearOf_0 : decode cX4_yearOf 0 = .ok (.sipush 256, 3) := by decide +kernel
theorem dX4_yearOf_3 : decode cX4_yearOf 3 = .ok (.aload_n 0, 1) := by decide +kernel
theorem dX4_yearOf_4 : decode cX4_yearOf 4 = .ok (.getfield 59, 3) := by decide +kernel
theorem dX4_yearOf_7 : decode cX4_yearOf 7 = .ok (.iconst 0, 1) := by decide +kernel
theorem dX4_yearOf_8 : decode cX4_yearOf 8 = .ok (.iaload, 1) := by decide +kernel
theorem dX4_yearOf_9 : decode cX4_yearOf 9 = .ok (.imul, 1) := by decide +kernel
theorem dX4_yearOf_10 : decode cX4_yearOf 10 = .ok (.aload_n 0, 1) := by decide +kernel
theorem dX4_yearOf_11 : decode cX4_yearOf 11 = .ok (.getfield 59, 3) := by decide +kernel
theorem dX4_yearOf_14 : decode cX4_yearOf 14 = .ok (.iconst 1, 1) := by decide +kernel
theorem dX4_yearOf_15 : decode cX4_yearOf 15 = .ok (.iaload, 1) := by decide +kernel
theorem dX4_yearOf_16 : decode cX4_yearOf 16 = .ok (.iadd, 1) := by decide +kernel
theorem dX4_yearOf_17 : decode cX4_yearOf 17 = .ok (.ireturn, 1) := by decide +kernel
def wp_X4_yearOf (sh : Shp) (v0 : Nat) (Q : Int32 → Mem → Prop) (m : Mem) : Prop :=
  Ob sh v0 9 ∧ ∃ b2 : Nat, m.2.2 v0 0 = some b2 ∧ (Ix sh b2 100 (0 : Int32) ∧ (Ix sh b2 100 (1 : Int32) ∧ (Q (((256 : Int32) * (m.1 b2 (0 : Int32).toNatClampNeg)) + (m.1 b2 (1 : Int32).toNatClampNeg)) m)))
abbrev M_X4_yearOf : Mi := (cX4_yearOf, 1, RX4, (Option.some FieldType.int), "yearOf", 1, 60, 0, 0)
set_option maxHeartbeats 4000000 in
set_option maxRecDepth 100000 in
theorem c_X4_yearOf {l : Launch} {G : Gl} {sh : Shp} {v0 : Nat} {Q : Int32 → Mem → Prop} {m : Mem} (h : wp_X4_yearOf sh v0 Q m) : Cni l G yX4_yearOf cX4_yearOf 1 (Option.some FieldType.int) 1 60 sh [.ref (G.1 + v0)] m Q := by
  refine con_i (ls := [(0, .ref (G.1 + v0))]) (by decide +kernel) rfl (Nat.le_of_ble_eq_true rfl) (fun F => ?_)
  show V G F M_X4_yearOf sh 0 0 (Zi G F sh Q) 0 [(0, .ref (G.1 + v0))] [] m
  unfold wp_X4_yearOf at h
  refine v_sipush (256 : Int32) dX4_yearOf_0 (by decide) ?_
  refine v_aload_n 0 0 dX4_yearOf_3 rfl rfl ?_
  obtain ⟨o1, h⟩ := h
  obtain ⟨b2, e3, h⟩ := h
  refine v_gR 9 0 dX4_yearOf_4 fg_RX4_59 o1 e3 ?_
  refine v_iconst (0 : Int32) dX4_yearOf_7 (by decide) ?_
  obtain ⟨i4, h⟩ := h
  refine v_iald dX4_yearOf_8 i4 ?_
  refine v_imul dX4_yearOf_9 ?_
  refine v_aload_n 0 0 dX4_yearOf_10 rfl rfl ?_
  refine v_gR 9 0 dX4_yearOf_11 fg_RX4_59 o1 e3 ?_
  refine v_iconst (1 : Int32) dX4_yearOf_14 (by decide) ?_
  obtain ⟨i5, h⟩ := h
  refine v_iald dX4_yearOf_15 i5 ?_
  refine v_iadd dX4_yearOf_16 ?_
  exact v_iret dX4_yearOf_17 rfl rfl h
/-! CalledRiver$Plain.places -/
theorem dX5_places_0 : decode cX5_places 0 = .ok (.aload_n 0, 1) := by decide +kernel
theorem dX5_places_1 : decode cX5_places 1 = .ok (.getfield 52, 3) := by decide +kernel
theorem dX5_places_4 : decode cX5_places 4 = .ok (.aload_n 0, 1) := by decide +kernel
theorem dX5_places_5 : decode cX5_places 5 = .ok (.getfield 56, 3) := by decide +kernel
theorem dX5_places_8 : decode cX5_places 8 = .ok (.imul, 1) := by decide +kernel
theorem dX5_places_9 : decode cX5_places 9 = .ok (.ireturn, 1) := by decide +kernel
def wp_X5_places (sh : Shp) (v0 : Nat) (Q : Int32 → Mem → Prop) (m : Mem) : Prop :=
  Ob sh v0 5 ∧ (Q ((m.1 v0 0) * (m.1 v0 1)) m)
abbrev M_X5_places : Mi := (cX5_places, 1, RX5, (Option.some FieldType.int), "places", 1, 60, 0, 0)
set_option maxHeartbeats 4000000 in
set_option maxRecDepth 100000 in
theorem c_X5_places {l : Launch} {G : Gl} {sh : Shp} {v0 : Nat} {Q : Int32 → Mem → Prop} {m : Mem} (h : wp_X5_places sh v0 Q m) : Cni l G yX5_places cX5_places 1 (Option.some FieldType.int) 1 60 sh [.ref (G.1 + v0)] m Q := by
  refine con_i (ls := [(0, .ref (G.1 + v0))]) (by decide +kernel) rfl (Nat.le_of_ble_eq_true rfl) (fun F => ?_)
  show V G F M_X5_places sh 0 0 (Zi G F sh Q) 0 [(0, .ref (G.1 + v0))] [] m
  unfold wp_X5_places at h
  refine v_aload_n 0 0 dX5_places_0 rfl rfl ?_
  obtain ⟨o1, h⟩ := h
  refine v_gI 5 0 dX5_places_1 fg_RX5_52 o1 ?_
  refine v_aload_n 0 0 dX5_places_4 rfl rfl ?_
  refine v_gI 5 1 dX5_places_5 fg_RX5_56 o1 ?_
  refine v_imul dX5_places_8 ?_
  exact v_iret dX5_places_9 rfl rfl h
/-! CalledRiver$Picture.isOf -/
theorem dX4_isOf_0 : decode cX4_isOf 0 = .ok (.iconst 2, 1) := by decide +kernel
theorem dX4_isOf_1 : decode cX4_isOf 1 = .ok (.iconst 3, 1) := by decide +kernel
theorem dX4_isOf_2 : decode cX4_isOf 2 = .ok (.aload_n 0, 1) := by decide +kernel
theorem dX4_isOf_3 : decode cX4_isOf 3 = .ok (.invokevirtual 24, 3) := by decide +kernel
theorem dX4_isOf_6 : decode cX4_isOf 6 = .ok (.imul, 1) := by decide +kernel
theorem dX4_isOf_7 : decode cX4_isOf 7 = .ok (.iadd, 1) := by decide +kernel
theorem dX4_isOf_8 : decode cX4_isOf 8 = .ok (.istore_n 2, 1) := by decide +kernel
theorem dX4_isOf_9 : decode cX4_isOf 9 = .ok (.iload_n 2, 1) := by decide +kernel
theorem dX4_isOf_10 : decode cX4_isOf 10 = .ok (.aload_n 0, 1) := by decide +kernel
theorem dX4_isOf_11 : decode cX4_isOf 11 = .ok (.getfield 39, 3) := by decide +kernel
theorem dX4_isOf_14 : decode cX4_isOf 14 = .ok (.iadd, 1) := by decide +kernel
theorem dX4_isOf_15 : decode cX4_isOf 15 = .ok (.istore_n 3, 1) := by decide +kernel
theorem dX4_isOf_16 : decode cX4_isOf 16 = .ok (.aload_n 0, 1) := by decide +kernel
theorem dX4_isOf_17 : decode cX4_isOf 17 = .ok (.getfield 49, 3) := by decide +kernel
theorem dX4_isOf_20 : decode cX4_isOf 20 = .ok (.ifCond .eq 13, 3) := by decide +kernel
theorem dX4_isOf_23 : decode cX4_isOf 23 = .ok (.aload_n 1, 1) := by decide +kernel
theorem dX4_isOf_24 : decode cX4_isOf 24 = .ok (.getfield 52, 3) := by decide +kernel
theorem dX4_isOf_27 : decode cX4_isOf 27 = .ok (.iload_n 3, 1) := by decide +kernel
theorem dX4_isOf_28 : decode cX4_isOf 28 = .ok (.iconst 1, 1) := by decide +kernel
theorem dX4_isOf_29 : decode cX4_isOf 29 = .ok (.iadd, 1) := by decide +kernel
theorem dX4_isOf_30 : decode cX4_isOf 30 = .ok (.if_icmp .eq 5, 3) := by decide +kernel
theorem dX4_isOf_33 : decode cX4_isOf 33 = .ok (.iconst 0, 1) := by decide +kernel
theorem dX4_isOf_34 : decode cX4_isOf 34 = .ok (.ireturn, 1) := by decide +kernel
theorem dX4_isOf_35 : decode cX4_isOf 35 = .ok (.aload_n 1, 1) := by decide +kernel
theorem dX4_isOf_36 : decode cX4_isOf 36 = .ok (.invokestatic 55, 3) := by decide +kernel
theorem dX4_isOf_39 : decode cX4_isOf 39 = .ok (.sipush 999, 3) := by decide +kernel
theorem dX4_isOf_42 : decode cX4_isOf 42 = .ok (.if_icmp .gt 24, 3) := by decide +kernel
theorem dX4_isOf_45 : decode cX4_isOf 45 = .ok (.aload_n 1, 1) := by decide +kernel
theorem dX4_isOf_46 : decode cX4_isOf 46 = .ok (.getfield 59, 3) := by decide +kernel
theorem dX4_isOf_49 : decode cX4_isOf 49 = .ok (.iload_n 3, 1) := by decide +kernel
theorem dX4_isOf_50 : decode cX4_isOf 50 = .ok (.iaload, 1) := by decide +kernel
theorem dX4_isOf_51 : decode cX4_isOf 51 = .ok (.aload_n 1, 1) := by decide +kernel
theorem dX4_isOf_52 : decode cX4_isOf 52 = .ok (.getfield 59, 3) := by decide +kernel
theorem dX4_isOf_55 : decode cX4_isOf 55 = .ok (.iload_n 3, 1) := by decide +kernel
theorem dX4_isOf_56 : decode cX4_isOf 56 = .ok (.invokestatic 45, 3) := by decide +kernel
theorem dX4_isOf_59 : decode cX4_isOf 59 = .ok (.if_icmp .ne 7, 3) := by decide +kernel
theorem dX4_isOf_62 : decode cX4_isOf 62 = .ok (.iconst 1, 1) := by decide +kernel
theorem dX4_isOf_63 : decode cX4_isOf 63 = .ok (.goto 4, 3) := by decide +kernel
theorem dX4_isOf_66 : decode cX4_isOf 66 = .ok (.iconst 0, 1) := by decide +kernel
theorem dX4_isOf_67 : decode cX4_isOf 67 = .ok (.istore 4, 2) := by decide +kernel
theorem dX4_isOf_69 : decode cX4_isOf 69 = .ok (.iconst 2, 1) := by decide +kernel
theorem dX4_isOf_70 : decode cX4_isOf 70 = .ok (.istore 5, 2) := by decide +kernel
theorem dX4_isOf_72 : decode cX4_isOf 72 = .ok (.iload 5, 2) := by decide +kernel
theorem dX4_isOf_74 : decode cX4_isOf 74 = .ok (.iload_n 2, 1) := by decide +kernel
theorem dX4_isOf_75 : decode cX4_isOf 75 = .ok (.if_icmp .ge 58, 3) := by decide +kernel
theorem dX4_isOf_78 : decode cX4_isOf 78 = .ok (.iload 4, 2) := by decide +kernel
theorem dX4_isOf_80 : decode cX4_isOf 80 = .ok (.aload_n 1, 1) := by decide +kernel
theorem dX4_isOf_81 : decode cX4_isOf 81 = .ok (.getfield 59, 3) := by decide +kernel
theorem dX4_isOf_84 : decode cX4_isOf 84 = .ok (.iload 5, 2) := by decide +kernel
theorem dX4_isOf_86 : decode cX4_isOf 86 = .ok (.iaload, 1) := by decide +kernel
theorem dX4_isOf_87 : decode cX4_isOf 87 = .ok (.bipush 9, 2) := by decide +kernel
theorem dX4_isOf_89 : decode cX4_isOf 89 = .ok (.if_icmp .gt 34, 3) := by decide +kernel
theorem dX4_isOf_92 : decode cX4_isOf 92 = .ok (.aload_n 1, 1) := by decide +kernel
theorem dX4_isOf_93 : decode cX4_isOf 93 = .ok (.getfield 59, 3) := by decide +kernel
theorem dX4_isOf_96 : decode cX4_isOf 96 = .ok (.iload 5, 2) := by decide +kernel
theorem dX4_isOf_98 : decode cX4_isOf 98 = .ok (.iconst 1, 1) := by decide +kernel
theorem dX4_isOf_99 : decode cX4_isOf 99 = .ok (.iadd, 1) := by decide +kernel
theorem dX4_isOf_100 : decode cX4_isOf 100 = .ok (.iaload, 1) := by decide +kernel
theorem dX4_isOf_101 : decode cX4_isOf 101 = .ok (.iconst 1, 1) := by decide +kernel
theorem dX4_isOf_102 : decode cX4_isOf 102 = .ok (.if_icmp .gt 21, 3) := by decide +kernel
theorem dX4_isOf_105 : decode cX4_isOf 105 = .ok (.aload_n 1, 1) := by decide +kernel
theorem dX4_isOf_106 : decode cX4_isOf 106 = .ok (.getfield 59, 3) := by decide +kernel
theorem dX4_isOf_109 : decode cX4_isOf 109 = .ok (.iload 5, 2) := by decide +kernel
theorem dX4_isOf_111 : decode cX4_isOf 111 = .ok (.iconst 2, 1) := by decide +kernel
theorem dX4_isOf_112 : decode cX4_isOf 112 = .ok (.iadd, 1) := by decide +kernel
theorem dX4_isOf_113 : decode cX4_isOf 113 = .ok (.iaload, 1) := by decide +kernel
theorem dX4_isOf_114 : decode cX4_isOf 114 = .ok (.bipush 99, 2) := by decide +kernel
theorem dX4_isOf_116 : decode cX4_isOf 116 = .ok (.if_icmp .gt 7, 3) := by decide +kernel
theorem dX4_isOf_119 : decode cX4_isOf 119 = .ok (.iconst 1, 1) := by decide +kernel
theorem dX4_isOf_120 : decode cX4_isOf 120 = .ok (.goto 4, 3) := by decide +kernel
theorem dX4_isOf_123 : decode cX4_isOf 123 = .ok (.iconst 0, 1) := by decide +kernel
theorem dX4_isOf_124 : decode cX4_isOf 124 = .ok (.iand, 1) := by decide +kernel
theorem dX4_isOf_125 : decode cX4_isOf 125 = .ok (.istore 4, 2) := by decide +kernel
theorem dX4_isOf_127 : decode cX4_isOf 127 = .ok (.iinc 5 3, 3) := by decide +kernel
theorem dX4_isOf_130 : decode cX4_isOf 130 = .ok (.goto (-58), 3) := by decide +kernel
theorem dX4_isOf_133 : decode cX4_isOf 133 = .ok (.iload_n 2, 1) := by decide +kernel
theorem dX4_isOf_134 : decode cX4_isOf 134 = .ok (.istore 5, 2) := by decide +kernel
theorem dX4_isOf_136 : decode cX4_isOf 136 = .ok (.iload 5, 2) := by decide +kernel
theorem dX4_isOf_138 : decode cX4_isOf 138 = .ok (.iload_n 3, 1) := by decide +kernel
theorem dX4_isOf_139 : decode cX4_isOf 139 = .ok (.if_icmp .ge 31, 3) := by decide +kernel
theorem dX4_isOf_142 : decode cX4_isOf 142 = .ok (.iload 4, 2) := by decide +kernel
theorem dX4_isOf_144 : decode cX4_isOf 144 = .ok (.aload_n 1, 1) := by decide +kernel
theorem dX4_isOf_145 : decode cX4_isOf 145 = .ok (.getfield 59, 3) := by decide +kernel
theorem dX4_isOf_148 : decode cX4_isOf 148 = .ok (.iload 5, 2) := by decide +kernel
theorem dX4_isOf_150 : decode cX4_isOf 150 = .ok (.iaload, 1) := by decide +kernel
theorem dX4_isOf_151 : decode cX4_isOf 151 = .ok (.bipush 9, 2) := by decide +kernel
theorem dX4_isOf_153 : decode cX4_isOf 153 = .ok (.if_icmp .gt 7, 3) := by decide +kernel
theorem dX4_isOf_156 : decode cX4_isOf 156 = .ok (.iconst 1, 1) := by decide +kernel
theorem dX4_isOf_157 : decode cX4_isOf 157 = .ok (.goto 4, 3) := by decide +kernel
theorem dX4_isOf_160 : decode cX4_isOf 160 = .ok (.iconst 0, 1) := by decide +kernel
theorem dX4_isOf_161 : decode cX4_isOf 161 = .ok (.iand, 1) := by decide +kernel
theorem dX4_isOf_162 : decode cX4_isOf 162 = .ok (.istore 4, 2) := by decide +kernel
theorem dX4_isOf_164 : decode cX4_isOf 164 = .ok (.iinc 5 1, 3) := by decide +kernel
theorem dX4_isOf_167 : decode cX4_isOf 167 = .ok (.goto (-31), 3) := by decide +kernel
theorem dX4_isOf_170 : decode cX4_isOf 170 = .ok (.iload 4, 2) := by decide +kernel
theorem dX4_isOf_172 : decode cX4_isOf 172 = .ok (.ireturn, 1) := by decide +kernel
def X4_isOf_p124 (sh : Shp) (v1 : Nat) (v2 : Int32) (v3 : Int32) (v5 : Int32) (s1 : Int32) (s0 : Int32) (Q : Int32 → Mem → Prop) (K72 : Int32 → Int32 → Mem → Prop) (m : Mem) : Prop :=
  K72 (s0 &&& s1) (v5 + (3 : Int32)) m
def X4_isOf_p123 (sh : Shp) (v1 : Nat) (v2 : Int32) (v3 : Int32) (v5 : Int32) (s0 : Int32) (Q : Int32 → Mem → Prop) (K72 : Int32 → Int32 → Mem → Prop) (m : Mem) : Prop :=
  X4_isOf_p124 sh v1 v2 v3 v5 (0 : Int32) s0 Q K72 m
def X4_isOf_p161 (sh : Shp) (v1 : Nat) (v3 : Int32) (v5 : Int32) (s1 : Int32) (s0 : Int32) (Q : Int32 → Mem → Prop) (K136 : Int32 → Int32 → Mem → Prop) (m : Mem) : Prop :=
  K136 (s0 &&& s1) (v5 + (1 : Int32)) m
def X4_isOf_p136b (sh : Shp) (v1 : Nat) (v3 : Int32) (Q : Int32 → Mem → Prop) (K136 : Int32 → Int32 → Mem → Prop) (v4 : Int32) (v5 : Int32) (m : Mem) : Prop :=
  if v3 ≤ v5 then ((v4 = 0 ∨ v4 = 1) ∧ Q v4 m) else (Ob sh v1 9 ∧ ∃ b19 : Nat, m.2.2 v1 0 = some b19 ∧ (Ix sh b19 100 v5 ∧ (if (9 : Int32) < (m.1 b19 v5.toNatClampNeg) then (X4_isOf_p161 sh v1 v3 v5 (0 : Int32) v4 Q K136 m) else (X4_isOf_p161 sh v1 v3 v5 (1 : Int32) v4 Q K136 m))))
def X4_isOf_p136n (sh : Shp) (v1 : Nat) (v3 : Int32) (Q : Int32 → Mem → Prop) : Nat → Int32 → Int32 → Mem → Prop
  | 0 => fun _ _ _ => False
  | n + 1 => X4_isOf_p136b sh v1 v3 Q (X4_isOf_p136n sh v1 v3 Q n)
def X4_isOf_p136 (sh : Shp) (v1 : Nat) (v3 : Int32) (Q : Int32 → Mem → Prop) (v4 : Int32) (v5 : Int32) (m : Mem) : Prop := ∃ n, X4_isOf_p136n sh v1 v3 Q n v4 v5 m
def X4_isOf_p72b (sh : Shp) (v1 : Nat) (v2 : Int32) (v3 : Int32) (Q : Int32 → Mem → Prop) (K72 : Int32 → Int32 → Mem → Prop) (v4 : Int32) (v5 : Int32) (m : Mem) : Prop :=
  if v2 ≤ v5 then (X4_isOf_p136 sh v1 v3 Q v4 v2 m) else (Ob sh v1 9 ∧ ∃ b13 : Nat, m.2.2 v1 0 = some b13 ∧ (Ix sh b13 100 v5 ∧ (if (9 : Int32) < (m.1 b13 v5.toNatClampNeg) then (X4_isOf_p123 sh v1 v2 v3 v5 v4 Q K72 m) else (Ix sh b13 100 (v5 + (1 : Int32)) ∧ (if (1 : Int32) < (m.1 b13 (v5 + (1 : Int32)).toNatClampNeg) then (X4_isOf_p123 sh v1 v2 v3 v5 v4 Q K72 m) else (Ix sh b13 100 (v5 + (2 : Int32)) ∧ (if (99 : Int32) < (m.1 b13 (v5 + (2 : Int32)).toNatClampNeg) then (X4_isOf_p123 sh v1 v2 v3 v5 v4 Q K72 m) else (X4_isOf_p124 sh v1 v2 v3 v5 (1 : Int32) v4 Q K72 m))))))))
def X4_isOf_p72n (sh : Shp) (v1 : Nat) (v2 : Int32) (v3 : Int32) (Q : Int32 → Mem → Prop) : Nat → Int32 → Int32 → Mem → Prop
  | 0 => fun _ _ _ => False
  | n + 1 => X4_isOf_p72b sh v1 v2 v3 Q (X4_isOf_p72n sh v1 v2 v3 Q n)
def X4_isOf_p72 (sh : Shp) (v1 : Nat) (v2 : Int32) (v3 : Int32) (Q : Int32 → Mem → Prop) (v4 : Int32) (v5 : Int32) (m : Mem) : Prop := ∃ n, X4_isOf_p72n sh v1 v2 v3 Q n v4 v5 m
def X4_isOf_p67 (sh : Shp) (v1 : Nat) (v2 : Int32) (v3 : Int32) (s0 : Int32) (Q : Int32 → Mem → Prop) (m : Mem) : Prop :=
  X4_isOf_p72 sh v1 v2 v3 Q s0 (2 : Int32) m
def X4_isOf_p66 (sh : Shp) (v1 : Nat) (v2 : Int32) (v3 : Int32) (Q : Int32 → Mem → Prop) (m : Mem) : Prop :=
  X4_isOf_p67 sh v1 v2 v3 (0 : Int32) Q m
def wp_X4_isOf (sh : Shp) (v0 : Nat) (v1 : Nat) (Q : Int32 → Mem → Prop) (m : Mem) : Prop :=
  Ob sh v0 5 ∧ wp_X5_places sh v0 (fun r1 m2 => if (m2.1 v0 0) = 0 then (Q (0 : Int32) m2) else (Ob sh v1 9 ∧ (if (m2.1 v1 1) = ((((2 : Int32) + ((3 : Int32) * r1)) + (m2.1 v0 3)) + (1 : Int32)) then (wp_X4_yearOf sh v1 (fun r5 m6 => if (999 : Int32) < r5 then (X4_isOf_p66 sh v1 ((2 : Int32) + ((3 : Int32) * r1)) (((2 : Int32) + ((3 : Int32) * r1)) + (m2.1 v0 3)) Q m6) else (∃ b7 : Nat, m6.2.2 v1 0 = some b7 ∧ (Ix sh b7 100 (((2 : Int32) + ((3 : Int32) * r1)) + (m2.1 v0 3)) ∧ (wp_X4_checkOf sh b7 (((2 : Int32) + ((3 : Int32) * r1)) + (m2.1 v0 3)) (fun r10 m11 => if (m6.1 b7 (((2 : Int32) + ((3 : Int32) * r1)) + (m2.1 v0 3)).toNatClampNeg) = r10 then (X4_isOf_p67 sh v1 ((2 : Int32) + ((3 : Int32) * r1)) (((2 : Int32) + ((3 : Int32) * r1)) + (m2.1 v0 3)) (1 : Int32) Q m11) else (X4_isOf_p66 sh v1 ((2 : Int32) + ((3 : Int32) * r1)) (((2 : Int32) + ((3 : Int32) * r1)) + (m2.1 v0 3)) Q m11)) m6)))) m2) else (Q (0 : Int32) m2)))) m
abbrev M_X4_isOf : Mi := (cX4_isOf, 6, RX4, (Option.some FieldType.boolean), "isOf", 2, 83, 0, 0)
set_option maxHeartbeats 4000000 in
set_option maxRecDepth 100000 in
theorem v_X4_isOf_p124 {G : Gl} {F : Fr} {sh : Shp} {v1 : Nat} {v2 : Int32} {v3 : Int32} {v5 : Int32} {s0 : Int32} {s1 : Int32} {Q : Int32 → Mem → Prop} {K72 : Int32 → Int32 → Mem → Prop} {m : Mem} (hK72 : ∀ (x4 : Int32) (x5 : Int32) (m : Mem), K72 x4 x5 m → V G F M_X4_isOf sh 0 0 (Zi G F sh Q) 72 [(1, .ref (G.1 + v1)), (2, .int v2), (3, .int v3), (4, .int x4), (5, .int x5)] [] m) (h : X4_isOf_p124 sh v1 v2 v3 v5 s1 s0 Q K72 m) : V G F M_X4_isOf sh 0 0 (Zi G F sh Q) 124 [(1, .ref (G.1 + v1)), (2, .int v2), (3, .int v3), (5, .int v5)] [.int s1, .int s0] m := by
  unfold X4_isOf_p124 at h
  refine v_iand dX4_isOf_124 ?_
  refine v_istore (ls' := [(4, .int _), (1, .ref _), (2, .int _), (3, .int _), (5, .int _)]) 4 dX4_isOf_125 (Nat.le_of_ble_eq_true rfl) rfl ?_
  refine v_iinc (ls' := [(5, .int _), (4, .int _), (1, .ref _), (2, .int _), (3, .int _)]) 5 4 dX4_isOf_127 rfl (congrArg (HAdd.hAdd _) (by decide : Int32.ofInt (3) = (3 : Int32))) (Nat.le_of_ble_eq_true rfl) rfl ?_
  refine v_goto 72 dX4_isOf_130 (by decide) ?_
  refine v_sub [2, 3, 4, 1, 0] rfl ?_
  exact hK72 _ _ _ h
set_option maxHeartbeats 4000000 in
set_option maxRecDepth 100000 in
theorem v_X4_isOf_p123 {G : Gl} {F : Fr} {sh : Shp} {v1 : Nat} {v2 : Int32} {v3 : Int32} {v5 : Int32} {s0 : Int32} {Q : Int32 → Mem → Prop} {K72 : Int32 → Int32 → Mem → Prop} {m : Mem} (hK72 : ∀ (x4 : Int32) (x5 : Int32) (m : Mem), K72 x4 x5 m → V G F M_X4_isOf sh 0 0 (Zi G F sh Q) 72 [(1, .ref (G.1 + v1)), (2, .int v2), (3, .int v3), (4, .int x4), (5, .int x5)] [] m) (h : X4_isOf_p123 sh v1 v2 v3 v5 s0 Q K72 m) : V G F M_X4_isOf sh 0 0 (Zi G F sh Q) 123 [(1, .ref (G.1 + v1)), (2, .int v2), (3, .int v3), (5, .int v5)] [.int s0] m := by
  unfold X4_isOf_p123 at h
  refine v_iconst (0 : Int32) dX4_isOf_123 (by decide) ?_
  refine v_sub [0, 1, 2, 3] rfl ?_
  exact v_X4_isOf_p124 hK72 h
set_option maxHeartbeats 4000000 in
set_option maxRecDepth 100000 in
theorem v_X4_isOf_p161 {G : Gl} {F : Fr} {sh : Shp} {v1 : Nat} {v3 : Int32} {v5 : Int32} {s0 : Int32} {s1 : Int32} {Q : Int32 → Mem → Prop} {K136 : Int32 → Int32 → Mem → Prop} {m : Mem} (hK136 : ∀ (x4 : Int32) (x5 : Int32) (m : Mem), K136 x4 x5 m → V G F M_X4_isOf sh 0 0 (Zi G F sh Q) 136 [(1, .ref (G.1 + v1)), (3, .int v3), (4, .int x4), (5, .int x5)] [] m) (h : X4_isOf_p161 sh v1 v3 v5 s1 s0 Q K136 m) : V G F M_X4_isOf sh 0 0 (Zi G F sh Q) 161 [(1, .ref (G.1 + v1)), (3, .int v3), (5, .int v5)] [.int s1, .int s0] m := by
  unfold X4_isOf_p161 at h
  refine v_iand dX4_isOf_161 ?_
  refine v_istore (ls' := [(4, .int _), (1, .ref _), (3, .int _), (5, .int _)]) 4 dX4_isOf_162 (Nat.le_of_ble_eq_true rfl) rfl ?_
  refine v_iinc (ls' := [(5, .int _), (4, .int _), (1, .ref _), (3, .int _)]) 5 3 dX4_isOf_164 rfl (congrArg (HAdd.hAdd _) (by decide : Int32.ofInt (1) = (1 : Int32))) (Nat.le_of_ble_eq_true rfl) rfl ?_
  refine v_goto 136 dX4_isOf_167 (by decide) ?_
  refine v_sub [2, 3, 1, 0] rfl ?_
  exact hK136 _ _ _ h
set_option maxHeartbeats 4000000 in
set_option maxRecDepth 100000 in
theorem v_X4_isOf_p136b {G : Gl} {F : Fr} {sh : Shp} {v1 : Nat} {v3 : Int32} {v4 : Int32} {v5 : Int32} {Q : Int32 → Mem → Prop} {K136 : Int32 → Int32 → Mem → Prop} {m : Mem} (hK136 : ∀ (x4 : Int32) (x5 : Int32) (m : Mem), K136 x4 x5 m → V G F M_X4_isOf sh 0 0 (Zi G F sh Q) 136 [(1, .ref (G.1 + v1)), (3, .int v3), (4, .int x4), (5, .int x5)] [] m) (h : X4_isOf_p136b sh v1 v3 Q K136 v4 v5 m) : V G F M_X4_isOf sh 0 0 (Zi G F sh Q) 136 [(1, .ref (G.1 + v1)), (3, .int v3), (4, .int v4), (5, .int v5)] [] m := by
  unfold X4_isOf_p136b at h
  refine v_iload 5 3 dX4_isOf_136 rfl ?_
  refine v_iload_n 3 1 dX4_isOf_138 rfl rfl ?_
  refine v_icmp_ge 170 dX4_isOf_139 (by decide) (fun hc => ?_) (fun hc => ?_)
  · replace h := Eq.mp (if_pos hc) h
    refine v_iload 4 2 dX4_isOf_170 rfl ?_
    obtain ⟨hx, h⟩ := h
    exact v_iret dX4_isOf_172 rfl (nar_z hx) h
  · replace h := Eq.mp (if_neg hc) h
    refine v_iload 4 2 dX4_isOf_142 rfl ?_
    refine v_aload_n 1 0 dX4_isOf_144 rfl rfl ?_
    obtain ⟨o18, h⟩ := h
    obtain ⟨b19, e20, h⟩ := h
    refine v_gR 9 0 dX4_isOf_145 fg_RX4_59 o18 e20 ?_
    refine v_iload 5 3 dX4_isOf_148 rfl ?_
    obtain ⟨i21, h⟩ := h
    refine v_iald dX4_isOf_150 i21 ?_
    refine v_bipush (9 : Int32) dX4_isOf_151 (by decide) ?_
    refine v_icmp_gt 160 dX4_isOf_153 (by decide) (fun hc => ?_) (fun hc => ?_)
    · replace h := Eq.mp (if_pos hc) h
      refine v_iconst (0 : Int32) dX4_isOf_160 (by decide) ?_
      refine v_sub [0, 1, 3] rfl ?_
      exact v_X4_isOf_p161 hK136 h
    · replace h := Eq.mp (if_neg hc) h
      refine v_iconst (1 : Int32) dX4_isOf_156 (by decide) ?_
      refine v_goto 161 dX4_isOf_157 (by decide) ?_
      refine v_sub [0, 1, 3] rfl ?_
      exact v_X4_isOf_p161 hK136 h
set_option maxHeartbeats 4000000 in
set_option maxRecDepth 100000 in
theorem v_X4_isOf_p136 {G : Gl} {F : Fr} {sh : Shp} {v1 : Nat} {v3 : Int32} {v4 : Int32} {v5 : Int32} {Q : Int32 → Mem → Prop} {m : Mem} (h : X4_isOf_p136 sh v1 v3 Q v4 v5 m) : V G F M_X4_isOf sh 0 0 (Zi G F sh Q) 136 [(1, .ref (G.1 + v1)), (3, .int v3), (4, .int v4), (5, .int v5)] [] m := by
  obtain ⟨n, h⟩ := h
  induction n generalizing v4 v5 m with
  | zero => exact h.elim
  | succ n ih => exact v_X4_isOf_p136b (fun _ _ _ h => ih h) h
set_option maxHeartbeats 4000000 in
set_option maxRecDepth 100000 in
theorem v_X4_isOf_p72b {G : Gl} {F : Fr} {sh : Shp} {v1 : Nat} {v2 : Int32} {v3 : Int32} {v4 : Int32} {v5 : Int32} {Q : Int32 → Mem → Prop} {K72 : Int32 → Int32 → Mem → Prop} {m : Mem} (hK72 : ∀ (x4 : Int32) (x5 : Int32) (m : Mem), K72 x4 x5 m → V G F M_X4_isOf sh 0 0 (Zi G F sh Q) 72 [(1, .ref (G.1 + v1)), (2, .int v2), (3, .int v3), (4, .int x4), (5, .int x5)] [] m) (h : X4_isOf_p72b sh v1 v2 v3 Q K72 v4 v5 m) : V G F M_X4_isOf sh 0 0 (Zi G F sh Q) 72 [(1, .ref (G.1 + v1)), (2, .int v2), (3, .int v3), (4, .int v4), (5, .int v5)] [] m := by
  unfold X4_isOf_p72b at h
  refine v_iload 5 4 dX4_isOf_72 rfl ?_
  refine v_iload_n 2 1 dX4_isOf_74 rfl rfl ?_
  refine v_icmp_ge 133 dX4_isOf_75 (by decide) (fun hc => ?_) (fun hc => ?_)
  · replace h := Eq.mp (if_pos hc) h
    refine v_iload_n 2 1 dX4_isOf_133 rfl rfl ?_
    refine v_istore (ls' := [(5, .int _), (1, .ref _), (2, .int _), (3, .int _), (4, .int _)]) 5 dX4_isOf_134 (Nat.le_of_ble_eq_true rfl) rfl ?_
    refine v_sub [1, 3, 4, 0] rfl ?_
    exact v_X4_isOf_p136 h
  · replace h := Eq.mp (if_neg hc) h
    refine v_iload 4 3 dX4_isOf_78 rfl ?_
    refine v_aload_n 1 0 dX4_isOf_80 rfl rfl ?_
    obtain ⟨o12, h⟩ := h
    obtain ⟨b13, e14, h⟩ := h
    refine v_gR 9 0 dX4_isOf_81 fg_RX4_59 o12 e14 ?_
    refine v_iload 5 4 dX4_isOf_84 rfl ?_
    obtain ⟨i15, h⟩ := h
    refine v_iald dX4_isOf_86 i15 ?_
    refine v_bipush (9 : Int32) dX4_isOf_87 (by decide) ?_
    refine v_icmp_gt 123 dX4_isOf_89 (by decide) (fun hc => ?_) (fun hc => ?_)
    · replace h := Eq.mp (if_pos hc) h
      refine v_sub [0, 1, 2, 4] rfl ?_
      exact v_X4_isOf_p123 hK72 h
    · replace h := Eq.mp (if_neg hc) h
      refine v_aload_n 1 0 dX4_isOf_92 rfl rfl ?_
      refine v_gR 9 0 dX4_isOf_93 fg_RX4_59 o12 e14 ?_
      refine v_iload 5 4 dX4_isOf_96 rfl ?_
      refine v_iconst (1 : Int32) dX4_isOf_98 (by decide) ?_
      refine v_iadd dX4_isOf_99 ?_
      obtain ⟨i16, h⟩ := h
      refine v_iald dX4_isOf_100 i16 ?_
      refine v_iconst (1 : Int32) dX4_isOf_101 (by decide) ?_
      refine v_icmp_gt 123 dX4_isOf_102 (by decide) (fun hc => ?_) (fun hc => ?_)
      · replace h := Eq.mp (if_pos hc) h
        refine v_sub [0, 1, 2, 4] rfl ?_
        exact v_X4_isOf_p123 hK72 h
      · replace h := Eq.mp (if_neg hc) h
        refine v_aload_n 1 0 dX4_isOf_105 rfl rfl ?_
        refine v_gR 9 0 dX4_isOf_106 fg_RX4_59 o12 e14 ?_
        refine v_iload 5 4 dX4_isOf_109 rfl ?_
        refine v_iconst (2 : Int32) dX4_isOf_111 (by decide) ?_
        refine v_iadd dX4_isOf_112 ?_
        obtain ⟨i17, h⟩ := h
        refine v_iald dX4_isOf_113 i17 ?_
        refine v_bipush (99 : Int32) dX4_isOf_114 (by decide) ?_
        refine v_icmp_gt 123 dX4_isOf_116 (by decide) (fun hc => ?_) (fun hc => ?_)
        · replace h := Eq.mp (if_pos hc) h
          refine v_sub [0, 1, 2, 4] rfl ?_
          exact v_X4_isOf_p123 hK72 h
        · replace h := Eq.mp (if_neg hc) h
          refine v_iconst (1 : Int32) dX4_isOf_119 (by decide) ?_
          refine v_goto 124 dX4_isOf_120 (by decide) ?_
          refine v_sub [0, 1, 2, 4] rfl ?_
          exact v_X4_isOf_p124 hK72 h
set_option maxHeartbeats 4000000 in
set_option maxRecDepth 100000 in
theorem v_X4_isOf_p72 {G : Gl} {F : Fr} {sh : Shp} {v1 : Nat} {v2 : Int32} {v3 : Int32} {v4 : Int32} {v5 : Int32} {Q : Int32 → Mem → Prop} {m : Mem} (h : X4_isOf_p72 sh v1 v2 v3 Q v4 v5 m) : V G F M_X4_isOf sh 0 0 (Zi G F sh Q) 72 [(1, .ref (G.1 + v1)), (2, .int v2), (3, .int v3), (4, .int v4), (5, .int v5)] [] m := by
  obtain ⟨n, h⟩ := h
  induction n generalizing v4 v5 m with
  | zero => exact h.elim
  | succ n ih => exact v_X4_isOf_p72b (fun _ _ _ h => ih h) h
set_option maxHeartbeats 4000000 in
set_option maxRecDepth 100000 in
theorem v_X4_isOf_p67 {G : Gl} {F : Fr} {sh : Shp} {v1 : Nat} {v2 : Int32} {v3 : Int32} {s0 : Int32} {Q : Int32 → Mem → Prop} {m : Mem} (h : X4_isOf_p67 sh v1 v2 v3 s0 Q m) : V G F M_X4_isOf sh 0 0 (Zi G F sh Q) 67 [(1, .ref (G.1 + v1)), (2, .int v2), (3, .int v3)] [.int s0] m := by
  unfold X4_isOf_p67 at h
  refine v_istore (ls' := [(4, .int _), (1, .ref _), (2, .int _), (3, .int _)]) 4 dX4_isOf_67 (Nat.le_of_ble_eq_true rfl) rfl ?_
  refine v_iconst (2 : Int32) dX4_isOf_69 (by decide) ?_
  refine v_istore (ls' := [(5, .int _), (4, .int _), (1, .ref _), (2, .int _), (3, .int _)]) 5 dX4_isOf_70 (Nat.le_of_ble_eq_true rfl) rfl ?_
  refine v_sub [2, 3, 4, 1, 0] rfl ?_
  exact v_X4_isOf_p72 h
set_option maxHeartbeats 4000000 in
set_option maxRecDepth 100000 in
theorem v_X4_isOf_p66 {G : Gl} {F : Fr} {sh : Shp} {v1 : Nat} {v2 : Int32} {v3 : Int32} {Q : Int32 → Mem → Prop} {m : Mem} (h : X4_isOf_p66 sh v1 v2 v3 Q m) : V G F M_X4_isOf sh 0 0 (Zi G F sh Q) 66 [(1, .ref (G.1 + v1)), (2, .int v2), (3, .int v3)] [] m := by
  unfold X4_isOf_p66 at h
  refine v_iconst (0 : Int32) dX4_isOf_66 (by decide) ?_
  refine v_sub [0, 1, 2] rfl ?_
  exact v_X4_isOf_p67 h
set_option maxHeartbeats 4000000 in
set_option maxRecDepth 100000 in
theorem c_X4_isOf {l : Launch} {G : Gl} {sh : Shp} {v0 : Nat} {v1 : Nat} {Q : Int32 → Mem → Prop} {m : Mem} (h : wp_X4_isOf sh v0 v1 Q m) : Cni l G yX4_isOf cX4_isOf 6 (Option.some FieldType.boolean) 2 83 sh [.ref (G.1 + v0), .ref (G.1 + v1)] m Q := by
  refine con_i (ls := [(0, .ref (G.1 + v0)), (1, .ref (G.1 + v1))]) (by decide +kernel) rfl (Nat.le_of_ble_eq_true rfl) (fun F => ?_)
  show V G F M_X4_isOf sh 0 0 (Zi G F sh Q) 0 [(0, .ref (G.1 + v0)), (1, .ref (G.1 + v1))] [] m
  unfold wp_X4_isOf at h
  refine v_iconst (2 : Int32) dX4_isOf_0 (by decide) ?_
  refine v_iconst (3 : Int32) dX4_isOf_1 (by decide) ?_
  refine v_aload_n 0 0 dX4_isOf_2 rfl rfl ?_
  obtain ⟨o3, h⟩ := h
  refine v_cVi [] mv_X5_places ml_RX4_24 ⟨_, _, rfl⟩ o3 rfl rfl (Nat.le_of_ble_eq_true rfl) (Nat.le_of_ble_eq_true rfl) (Nat.le_of_ble_eq_true rfl) (Nat.zero_le _) (Nat.zero_le _) dX4_isOf_3 (c_X5_places h) (fun r1 m2 h => ?_)
  refine v_imul dX4_isOf_6 ?_
  refine v_iadd dX4_isOf_7 ?_
  refine v_istore_n (ls' := [(2, .int _), (0, .ref _), (1, .ref _)]) 2 dX4_isOf_8 rfl (Nat.le_of_ble_eq_true rfl) rfl ?_
  refine v_iload_n 2 0 dX4_isOf_9 rfl rfl ?_
  refine v_aload_n 0 1 dX4_isOf_10 rfl rfl ?_
  refine v_gI 5 3 dX4_isOf_11 fg_RX4_39 o3 ?_
  refine v_iadd dX4_isOf_14 ?_
  refine v_istore_n (ls' := [(3, .int _), (2, .int _), (0, .ref _), (1, .ref _)]) 3 dX4_isOf_15 rfl (Nat.le_of_ble_eq_true rfl) rfl ?_
  refine v_aload_n 0 2 dX4_isOf_16 rfl rfl ?_
  refine v_gI 5 0 dX4_isOf_17 fg_RX4_49 o3 ?_
  refine v_if_eq 33 dX4_isOf_20 (by decide) (fun hc => ?_) (fun hc => ?_)
  · replace h := Eq.mp (if_pos hc) h
    refine v_iconst (0 : Int32) dX4_isOf_33 (by decide) ?_
    exact v_iret dX4_isOf_34 rfl (by decide) h
  · replace h := Eq.mp (if_neg hc) h
    refine v_aload_n 1 3 dX4_isOf_23 rfl rfl ?_
    obtain ⟨o4, h⟩ := h
    refine v_gI 9 1 dX4_isOf_24 fg_RX4_52 o4 ?_
    refine v_iload_n 3 0 dX4_isOf_27 rfl rfl ?_
    refine v_iconst (1 : Int32) dX4_isOf_28 (by decide) ?_
    refine v_iadd dX4_isOf_29 ?_
    refine v_icmp_eq 35 dX4_isOf_30 (by decide) (fun hc => ?_) (fun hc => ?_)
    · replace h := Eq.mp (if_pos hc) h
      refine v_aload_n 1 3 dX4_isOf_35 rfl rfl ?_
      refine v_cSi [.ref _] mv_X4_yearOf ml_RX4_55 rfl rfl (Nat.le_of_ble_eq_true rfl) (Nat.le_of_ble_eq_true rfl) (Nat.le_of_ble_eq_true rfl) (Nat.zero_le _) (Nat.zero_le _) dX4_isOf_36 (c_X4_yearOf h) (fun r5 m6 h => ?_)
      refine v_sipush (999 : Int32) dX4_isOf_39 (by decide) ?_
      refine v_icmp_gt 66 dX4_isOf_42 (by decide) (fun hc => ?_) (fun hc => ?_)
      · replace h := Eq.mp (if_pos hc) h
        refine v_sub [3, 1, 0] rfl ?_
        exact v_X4_isOf_p66 h
      · replace h := Eq.mp (if_neg hc) h
        refine v_aload_n 1 3 dX4_isOf_45 rfl rfl ?_
        obtain ⟨b7, e8, h⟩ := h
        refine v_gR 9 0 dX4_isOf_46 fg_RX4_59 o4 e8 ?_
        refine v_iload_n 3 0 dX4_isOf_49 rfl rfl ?_
        obtain ⟨i9, h⟩ := h
        refine v_iald dX4_isOf_50 i9 ?_
        refine v_aload_n 1 3 dX4_isOf_51 rfl rfl ?_
        refine v_gR 9 0 dX4_isOf_52 fg_RX4_59 o4 e8 ?_
        refine v_iload_n 3 0 dX4_isOf_55 rfl rfl ?_
        refine v_cSi [.ref _, .int _] mv_X4_checkOf ml_RX4_45 rfl rfl (Nat.le_of_ble_eq_true rfl) (Nat.le_of_ble_eq_true rfl) (Nat.le_of_ble_eq_true rfl) (Nat.zero_le _) (Nat.zero_le _) dX4_isOf_56 (c_X4_checkOf h) (fun r10 m11 h => ?_)
        refine v_icmp_ne 66 dX4_isOf_59 (by decide) (fun hc => ?_) (fun hc => ?_)
        · replace h := Eq.mp (if_neg hc) h
          refine v_sub [3, 1, 0] rfl ?_
          exact v_X4_isOf_p66 h
        · replace h := Eq.mp (if_pos hc) h
          refine v_iconst (1 : Int32) dX4_isOf_62 (by decide) ?_
          refine v_goto 67 dX4_isOf_63 (by decide) ?_
          refine v_sub [3, 1, 0] rfl ?_
          exact v_X4_isOf_p67 h
    · replace h := Eq.mp (if_neg hc) h
      refine v_iconst (0 : Int32) dX4_isOf_33 (by decide) ?_
      exact v_iret dX4_isOf_34 rfl (by decide) h
/-! CalledRiver$Picture.show -/
theorem dX4_show_0 : decode cX4_show 0 = .ok (.aload_n 2, 1) := by decide +kernel
theorem dX4_show_1 : decode cX4_show 1 = .ok (.aload_n 1, 1) := by decide +kernel
theorem dX4_show_2 : decode cX4_show 2 = .ok (.invokestatic 55, 3) := by decide +kernel
theorem dX4_show_5 : decode cX4_show 5 = .ok (.putfield 15, 3) := by decide +kernel
theorem dX4_show_8 : decode cX4_show 8 = .ok (.aload_n 2, 1) := by decide +kernel
theorem dX4_show_9 : decode cX4_show 9 = .ok (.iconst 0, 1) := by decide +kernel
theorem dX4_show_10 : decode cX4_show 10 = .ok (.putfield 60, 3) := by decide +kernel
theorem dX4_show_13 : decode cX4_show 13 = .ok (.iconst 0, 1) := by decide +kernel
theorem dX4_show_14 : decode cX4_show 14 = .ok (.istore_n 3, 1) := by decide +kernel
theorem dX4_show_15 : decode cX4_show 15 = .ok (.iload_n 3, 1) := by decide +kernel
theorem dX4_show_16 : decode cX4_show 16 = .ok (.aload_n 0, 1) := by decide +kernel
theorem dX4_show_17 : decode cX4_show 17 = .ok (.invokevirtual 24, 3) := by decide +kernel
theorem dX4_show_20 : decode cX4_show 20 = .ok (.if_icmp .ge 59, 3) := by decide +kernel
theorem dX4_show_23 : decode cX4_show 23 = .ok (.iconst 2, 1) := by decide +kernel
theorem dX4_show_24 : decode cX4_show 24 = .ok (.iconst 3, 1) := by decide +kernel
theorem dX4_show_25 : decode cX4_show 25 = .ok (.iload_n 3, 1) := by decide +kernel
theorem dX4_show_26 : decode cX4_show 26 = .ok (.imul, 1) := by decide +kernel
theorem dX4_show_27 : decode cX4_show 27 = .ok (.iadd, 1) := by decide +kernel
theorem dX4_show_28 : decode cX4_show 28 = .ok (.istore 4, 2) := by decide +kernel
theorem dX4_show_30 : decode cX4_show 30 = .ok (.aload_n 2, 1) := by decide +kernel
theorem dX4_show_31 : decode cX4_show 31 = .ok (.getfield 30, 3) := by decide +kernel
theorem dX4_show_34 : decode cX4_show 34 = .ok (.iload_n 3, 1) := by decide +kernel
theorem dX4_show_35 : decode cX4_show 35 = .ok (.aload_n 1, 1) := by decide +kernel
theorem dX4_show_36 : decode cX4_show 36 = .ok (.getfield 59, 3) := by decide +kernel
theorem dX4_show_39 : decode cX4_show 39 = .ok (.iload 4, 2) := by decide +kernel
theorem dX4_show_41 : decode cX4_show 41 = .ok (.iaload, 1) := by decide +kernel
theorem dX4_show_42 : decode cX4_show 42 = .ok (.iastore, 1) := by decide +kernel
theorem dX4_show_43 : decode cX4_show 43 = .ok (.aload_n 2, 1) := by decide +kernel
theorem dX4_show_44 : decode cX4_show 44 = .ok (.getfield 33, 3) := by decide +kernel
theorem dX4_show_47 : decode cX4_show 47 = .ok (.iload_n 3, 1) := by decide +kernel
theorem dX4_show_48 : decode cX4_show 48 = .ok (.aload_n 1, 1) := by decide +kernel
theorem dX4_show_49 : decode cX4_show 49 = .ok (.getfield 59, 3) := by decide +kernel
theorem dX4_show_52 : decode cX4_show 52 = .ok (.iload 4, 2) := by decide +kernel
theorem dX4_show_54 : decode cX4_show 54 = .ok (.iconst 1, 1) := by decide +kernel
theorem dX4_show_55 : decode cX4_show 55 = .ok (.iadd, 1) := by decide +kernel
theorem dX4_show_56 : decode cX4_show 56 = .ok (.iaload, 1) := by decide +kernel
theorem dX4_show_57 : decode cX4_show 57 = .ok (.iastore, 1) := by decide +kernel
theorem dX4_show_58 : decode cX4_show 58 = .ok (.aload_n 2, 1) := by decide +kernel
theorem dX4_show_59 : decode cX4_show 59 = .ok (.getfield 36, 3) := by decide +kernel
theorem dX4_show_62 : decode cX4_show 62 = .ok (.iload_n 3, 1) := by decide +kernel
theorem dX4_show_63 : decode cX4_show 63 = .ok (.aload_n 1, 1) := by decide +kernel
theorem dX4_show_64 : decode cX4_show 64 = .ok (.getfield 59, 3) := by decide +kernel
theorem dX4_show_67 : decode cX4_show 67 = .ok (.iload 4, 2) := by decide +kernel
theorem dX4_show_69 : decode cX4_show 69 = .ok (.iconst 2, 1) := by decide +kernel
theorem dX4_show_70 : decode cX4_show 70 = .ok (.iadd, 1) := by decide +kernel
theorem dX4_show_71 : decode cX4_show 71 = .ok (.iaload, 1) := by decide +kernel
theorem dX4_show_72 : decode cX4_show 72 = .ok (.iastore, 1) := by decide +kernel
theorem dX4_show_73 : decode cX4_show 73 = .ok (.iinc 3 1, 3) := by decide +kernel
theorem dX4_show_76 : decode cX4_show 76 = .ok (.goto (-61), 3) := by decide +kernel
theorem dX4_show_79 : decode cX4_show 79 = .ok (.iconst 2, 1) := by decide +kernel
theorem dX4_show_80 : decode cX4_show 80 = .ok (.iconst 3, 1) := by decide +kernel
theorem dX4_show_81 : decode cX4_show 81 = .ok (.aload_n 0, 1) := by decide +kernel
theorem dX4_show_82 : decode cX4_show 82 = .ok (.invokevirtual 24, 3) := by decide +kernel
theorem dX4_show_85 : decode cX4_show 85 = .ok (.imul, 1) := by decide +kernel
theorem dX4_show_86 : decode cX4_show 86 = .ok (.iadd, 1) := by decide +kernel
theorem dX4_show_87 : decode cX4_show 87 = .ok (.istore_n 3, 1) := by decide +kernel
theorem dX4_show_88 : decode cX4_show 88 = .ok (.iconst 0, 1) := by decide +kernel
theorem dX4_show_89 : decode cX4_show 89 = .ok (.istore 4, 2) := by decide +kernel
theorem dX4_show_91 : decode cX4_show 91 = .ok (.iload 4, 2) := by decide +kernel
theorem dX4_show_93 : decode cX4_show 93 = .ok (.aload_n 0, 1) := by decide +kernel
theorem dX4_show_94 : decode cX4_show 94 = .ok (.getfield 39, 3) := by decide +kernel
theorem dX4_show_97 : decode cX4_show 97 = .ok (.if_icmp .ge 25, 3) := by decide +kernel
theorem dX4_show_100 : decode cX4_show 100 = .ok (.aload_n 2, 1) := by decide +kernel
theorem dX4_show_101 : decode cX4_show 101 = .ok (.getfield 42, 3) := by decide +kernel
theorem dX4_show_104 : decode cX4_show 104 = .ok (.iload 4, 2) := by decide +kernel
theorem dX4_show_106 : decode cX4_show 106 = .ok (.aload_n 1, 1) := by decide +kernel
theorem dX4_show_107 : decode cX4_show 107 = .ok (.getfield 59, 3) := by decide +kernel
theorem dX4_show_110 : decode cX4_show 110 = .ok (.iload_n 3, 1) := by decide +kernel
theorem dX4_show_111 : decode cX4_show 111 = .ok (.iload 4, 2) := by decide +kernel
theorem dX4_show_113 : decode cX4_show 113 = .ok (.iadd, 1) := by decide +kernel
theorem dX4_show_114 : decode cX4_show 114 = .ok (.iaload, 1) := by decide +kernel
theorem dX4_show_115 : decode cX4_show 115 = .ok (.iastore, 1) := by decide +kernel
theorem dX4_show_116 : decode cX4_show 116 = .ok (.iinc 4 1, 3) := by decide +kernel
theorem dX4_show_119 : decode cX4_show 119 = .ok (.goto (-28), 3) := by decide +kernel
theorem dX4_show_122 : decode cX4_show 122 = .ok (.return_, 1) := by decide +kernel
def X4_show_p91b (sh : Shp) (v0 : Nat) (v1 : Nat) (v2 : Nat) (v3 : Int32) (Q : Mem → Prop) (K91 : Int32 → Mem → Prop) (v4 : Int32) (m : Mem) : Prop :=
  Ob sh v0 5 ∧ (if (m.1 v0 3) ≤ v4 then (Q m) else (Ob sh v2 1 ∧ ∃ b32 : Nat, m.2.2 v2 5 = some b32 ∧ (Ob sh v1 9 ∧ ∃ b35 : Nat, m.2.2 v1 0 = some b35 ∧ (Ix sh b35 100 (v3 + v4) ∧ (Ix sh b32 100 v4 ∧ bnd (sI m b32 v4.toNatClampNeg (m.1 b35 (v3 + v4).toNatClampNeg)) (fun m39 => K91 (v4 + (1 : Int32)) m39))))))
def X4_show_p91n (sh : Shp) (v0 : Nat) (v1 : Nat) (v2 : Nat) (v3 : Int32) (Q : Mem → Prop) : Nat → Int32 → Mem → Prop
  | 0 => fun _ _ => False
  | n + 1 => X4_show_p91b sh v0 v1 v2 v3 Q (X4_show_p91n sh v0 v1 v2 v3 Q n)
def X4_show_p91 (sh : Shp) (v0 : Nat) (v1 : Nat) (v2 : Nat) (v3 : Int32) (Q : Mem → Prop) (v4 : Int32) (m : Mem) : Prop := ∃ n, X4_show_p91n sh v0 v1 v2 v3 Q n v4 m
def X4_show_p15b (sh : Shp) (v0 : Nat) (v1 : Nat) (v2 : Nat) (Q : Mem → Prop) (K15 : Int32 → Mem → Prop) (v3 : Int32) (m : Mem) : Prop :=
  Ob sh v0 5 ∧ wp_X5_places sh v0 (fun r6 m7 => if r6 ≤ v3 then (wp_X5_places sh v0 (fun r9 m10 => X4_show_p91 sh v0 v1 v2 ((2 : Int32) + ((3 : Int32) * r9)) Q (0 : Int32) m10) m7) else (Ob sh v2 1 ∧ ∃ b12 : Nat, m7.2.2 v2 2 = some b12 ∧ (Ob sh v1 9 ∧ ∃ b15 : Nat, m7.2.2 v1 0 = some b15 ∧ (Ix sh b15 100 ((2 : Int32) + ((3 : Int32) * v3)) ∧ (Ix sh b12 100 v3 ∧ bnd (sI m7 b12 v3.toNatClampNeg (m7.1 b15 ((2 : Int32) + ((3 : Int32) * v3)).toNatClampNeg)) (fun m19 => ∃ b20 : Nat, m19.2.2 v2 3 = some b20 ∧ (Ix sh b15 100 (((2 : Int32) + ((3 : Int32) * v3)) + (1 : Int32)) ∧ (Ix sh b20 100 v3 ∧ bnd (sI m19 b20 v3.toNatClampNeg (m19.1 b15 (((2 : Int32) + ((3 : Int32) * v3)) + (1 : Int32)).toNatClampNeg)) (fun m24 => ∃ b25 : Nat, m24.2.2 v2 4 = some b25 ∧ (Ix sh b15 100 (((2 : Int32) + ((3 : Int32) * v3)) + (2 : Int32)) ∧ (Ix sh b25 100 v3 ∧ bnd (sI m24 b25 v3.toNatClampNeg (m24.1 b15 (((2 : Int32) + ((3 : Int32) * v3)) + (2 : Int32)).toNatClampNeg)) (fun m29 => K15 (v3 + (1 : Int32)) m29)))))))))))) m
def X4_show_p15n (sh : Shp) (v0 : Nat) (v1 : Nat) (v2 : Nat) (Q : Mem → Prop) : Nat → Int32 → Mem → Prop
  | 0 => fun _ _ => False
  | n + 1 => X4_show_p15b sh v0 v1 v2 Q (X4_show_p15n sh v0 v1 v2 Q n)
def X4_show_p15 (sh : Shp) (v0 : Nat) (v1 : Nat) (v2 : Nat) (Q : Mem → Prop) (v3 : Int32) (m : Mem) : Prop := ∃ n, X4_show_p15n sh v0 v1 v2 Q n v3 m
def wp_X4_show (sh : Shp) (v0 : Nat) (v1 : Nat) (v2 : Nat) (Q : Mem → Prop) (m : Mem) : Prop :=
  wp_X4_yearOf sh v1 (fun r1 m2 => Ob sh v2 1 ∧ bnd (sI m2 v2 0 r1) (fun m4 => bnd (sI m4 v2 1 (0 : Int32)) (fun m5 => X4_show_p15 sh v0 v1 v2 Q (0 : Int32) m5))) m
abbrev M_X4_show : Mi := (cX4_show, 5, RX4, (none : Option FieldType), "show", 2, 80, 0, 0)
set_option maxHeartbeats 4000000 in
set_option maxRecDepth 100000 in
theorem v_X4_show_p91b {G : Gl} {F : Fr} {sh : Shp} {v0 : Nat} {v1 : Nat} {v2 : Nat} {v3 : Int32} {v4 : Int32} {Q : Mem → Prop} {K91 : Int32 → Mem → Prop} {m : Mem} (hK91 : ∀ (x4 : Int32) (m : Mem), K91 x4 m → V G F M_X4_show sh 0 0 (Zv G F sh Q) 91 [(0, .ref (G.1 + v0)), (1, .ref (G.1 + v1)), (2, .ref (G.1 + v2)), (3, .int v3), (4, .int x4)] [] m) (h : X4_show_p91b sh v0 v1 v2 v3 Q K91 v4 m) : V G F M_X4_show sh 0 0 (Zv G F sh Q) 91 [(0, .ref (G.1 + v0)), (1, .ref (G.1 + v1)), (2, .ref (G.1 + v2)), (3, .int v3), (4, .int v4)] [] m := by
  unfold X4_show_p91b at h
  refine v_iload 4 4 dX4_show_91 rfl ?_
  refine v_aload_n 0 0 dX4_show_93 rfl rfl ?_
  obtain ⟨o30, h⟩ := h
  refine v_gI 5 3 dX4_show_94 fg_RX4_39 o30 ?_
  refine v_icmp_ge 122 dX4_show_97 (by decide) (fun hc => ?_) (fun hc => ?_)
  · replace h := Eq.mp (if_pos hc) h
    exact v_vret dX4_show_122 rfl h
  · replace h := Eq.mp (if_neg hc) h
    refine v_aload_n 2 2 dX4_show_100 rfl rfl ?_
    obtain ⟨o31, h⟩ := h
    obtain ⟨b32, e33, h⟩ := h
    refine v_gR 1 5 dX4_show_101 fg_RX4_42 o31 e33 ?_
    refine v_iload 4 4 dX4_show_104 rfl ?_
    refine v_aload_n 1 1 dX4_show_106 rfl rfl ?_
    obtain ⟨o34, h⟩ := h
    obtain ⟨b35, e36, h⟩ := h
    refine v_gR 9 0 dX4_show_107 fg_RX4_59 o34 e36 ?_
    refine v_iload_n 3 3 dX4_show_110 rfl rfl ?_
    refine v_iload 4 4 dX4_show_111 rfl ?_
    refine v_iadd dX4_show_113 ?_
    obtain ⟨i37, h⟩ := h
    refine v_iald dX4_show_114 i37 ?_
    obtain ⟨i38, h⟩ := h
    refine v_iast dX4_show_115 i38 ?_
    replace h := bnd_e h
    refine v_iinc (ls' := [(4, .int _), (0, .ref _), (1, .ref _), (2, .ref _), (3, .int _)]) 4 4 dX4_show_116 rfl (congrArg (HAdd.hAdd _) (by decide : Int32.ofInt (1) = (1 : Int32))) (Nat.le_of_ble_eq_true rfl) rfl ?_
    refine v_goto 91 dX4_show_119 (by decide) ?_
    refine v_sub [1, 2, 3, 4, 0] rfl ?_
    exact hK91 _ _ h
set_option maxHeartbeats 4000000 in
set_option maxRecDepth 100000 in
theorem v_X4_show_p91 {G : Gl} {F : Fr} {sh : Shp} {v0 : Nat} {v1 : Nat} {v2 : Nat} {v3 : Int32} {v4 : Int32} {Q : Mem → Prop} {m : Mem} (h : X4_show_p91 sh v0 v1 v2 v3 Q v4 m) : V G F M_X4_show sh 0 0 (Zv G F sh Q) 91 [(0, .ref (G.1 + v0)), (1, .ref (G.1 + v1)), (2, .ref (G.1 + v2)), (3, .int v3), (4, .int v4)] [] m := by
  obtain ⟨n, h⟩ := h
  induction n generalizing v4 m with
  | zero => exact h.elim
  | succ n ih => exact v_X4_show_p91b (fun _ _ h => ih h) h
set_option maxHeartbeats 4000000 in
set_option maxRecDepth 100000 in
theorem v_X4_show_p15b {G : Gl} {F : Fr} {sh : Shp} {v0 : Nat} {v1 : Nat} {v2 : Nat} {v3 : Int32} {Q : Mem → Prop} {K15 : Int32 → Mem → Prop} {m : Mem} (hK15 : ∀ (x3 : Int32) (m : Mem), K15 x3 m → V G F M_X4_show sh 0 0 (Zv G F sh Q) 15 [(0, .ref (G.1 + v0)), (1, .ref (G.1 + v1)), (2, .ref (G.1 + v2)), (3, .int x3)] [] m) (h : X4_show_p15b sh v0 v1 v2 Q K15 v3 m) : V G F M_X4_show sh 0 0 (Zv G F sh Q) 15 [(0, .ref (G.1 + v0)), (1, .ref (G.1 + v1)), (2, .ref (G.1 + v2)), (3, .int v3)] [] m := by
  unfold X4_show_p15b at h
  refine v_iload_n 3 3 dX4_show_15 rfl rfl ?_
  refine v_aload_n 0 0 dX4_show_16 rfl rfl ?_
  obtain ⟨o8, h⟩ := h
  refine v_cVi [] mv_X5_places ml_RX4_24 ⟨_, _, rfl⟩ o8 rfl rfl (Nat.le_of_ble_eq_true rfl) (Nat.le_of_ble_eq_true rfl) (Nat.le_of_ble_eq_true rfl) (Nat.zero_le _) (Nat.zero_le _) dX4_show_17 (c_X5_places h) (fun r6 m7 h => ?_)
  refine v_icmp_ge 79 dX4_show_20 (by decide) (fun hc => ?_) (fun hc => ?_)
  · replace h := Eq.mp (if_pos hc) h
    refine v_iconst (2 : Int32) dX4_show_79 (by decide) ?_
    refine v_iconst (3 : Int32) dX4_show_80 (by decide) ?_
    refine v_aload_n 0 0 dX4_show_81 rfl rfl ?_
    refine v_cVi [] mv_X5_places ml_RX4_24 ⟨_, _, rfl⟩ o8 rfl rfl (Nat.le_of_ble_eq_true rfl) (Nat.le_of_ble_eq_true rfl) (Nat.le_of_ble_eq_true rfl) (Nat.zero_le _) (Nat.zero_le _) dX4_show_82 (c_X5_places h) (fun r9 m10 h => ?_)
    refine v_imul dX4_show_85 ?_
    refine v_iadd dX4_show_86 ?_
    refine v_istore_n (ls' := [(3, .int _), (0, .ref _), (1, .ref _), (2, .ref _)]) 3 dX4_show_87 rfl (Nat.le_of_ble_eq_true rfl) rfl ?_
    refine v_iconst (0 : Int32) dX4_show_88 (by decide) ?_
    refine v_istore (ls' := [(4, .int _), (3, .int _), (0, .ref _), (1, .ref _), (2, .ref _)]) 4 dX4_show_89 (Nat.le_of_ble_eq_true rfl) rfl ?_
    refine v_sub [2, 3, 4, 1, 0] rfl ?_
    exact v_X4_show_p91 h
  · replace h := Eq.mp (if_neg hc) h
    refine v_iconst (2 : Int32) dX4_show_23 (by decide) ?_
    refine v_iconst (3 : Int32) dX4_show_24 (by decide) ?_
    refine v_iload_n 3 3 dX4_show_25 rfl rfl ?_
    refine v_imul dX4_show_26 ?_
    refine v_iadd dX4_show_27 ?_
    refine v_istore (ls' := [(4, .int _), (0, .ref _), (1, .ref _), (2, .ref _), (3, .int _)]) 4 dX4_show_28 (Nat.le_of_ble_eq_true rfl) rfl ?_
    refine v_aload_n 2 3 dX4_show_30 rfl rfl ?_
    obtain ⟨o11, h⟩ := h
    obtain ⟨b12, e13, h⟩ := h
    refine v_gR 1 2 dX4_show_31 fg_RX4_30 o11 e13 ?_
    refine v_iload_n 3 4 dX4_show_34 rfl rfl ?_
    refine v_aload_n 1 2 dX4_show_35 rfl rfl ?_
    obtain ⟨o14, h⟩ := h
    obtain ⟨b15, e16, h⟩ := h
    refine v_gR 9 0 dX4_show_36 fg_RX4_59 o14 e16 ?_
    refine v_iload 4 0 dX4_show_39 rfl ?_
    obtain ⟨i17, h⟩ := h
    refine v_iald dX4_show_41 i17 ?_
    obtain ⟨i18, h⟩ := h
    refine v_iast dX4_show_42 i18 ?_
    replace h := bnd_e h
    refine v_aload_n 2 3 dX4_show_43 rfl rfl ?_
    obtain ⟨b20, e21, h⟩ := h
    refine v_gR 1 3 dX4_show_44 fg_RX4_33 o11 e21 ?_
    refine v_iload_n 3 4 dX4_show_47 rfl rfl ?_
    refine v_aload_n 1 2 dX4_show_48 rfl rfl ?_
    refine v_gR 9 0 dX4_show_49 fg_RX4_59 o14 e16 ?_
    refine v_iload 4 0 dX4_show_52 rfl ?_
    refine v_iconst (1 : Int32) dX4_show_54 (by decide) ?_
    refine v_iadd dX4_show_55 ?_
    obtain ⟨i22, h⟩ := h
    refine v_iald dX4_show_56 i22 ?_
    obtain ⟨i23, h⟩ := h
    refine v_iast dX4_show_57 i23 ?_
    replace h := bnd_e h
    refine v_aload_n 2 3 dX4_show_58 rfl rfl ?_
    obtain ⟨b25, e26, h⟩ := h
    refine v_gR 1 4 dX4_show_59 fg_RX4_36 o11 e26 ?_
    refine v_iload_n 3 4 dX4_show_62 rfl rfl ?_
    refine v_aload_n 1 2 dX4_show_63 rfl rfl ?_
    refine v_gR 9 0 dX4_show_64 fg_RX4_59 o14 e16 ?_
    refine v_iload 4 0 dX4_show_67 rfl ?_
    refine v_iconst (2 : Int32) dX4_show_69 (by decide) ?_
    refine v_iadd dX4_show_70 ?_
    obtain ⟨i27, h⟩ := h
    refine v_iald dX4_show_71 i27 ?_
    obtain ⟨i28, h⟩ := h
    refine v_iast dX4_show_72 i28 ?_
    replace h := bnd_e h
    refine v_iinc (ls' := [(3, .int _), (4, .int _), (0, .ref _), (1, .ref _), (2, .ref _)]) 3 4 dX4_show_73 rfl (congrArg (HAdd.hAdd _) (by decide : Int32.ofInt (1) = (1 : Int32))) (Nat.le_of_ble_eq_true rfl) rfl ?_
    refine v_goto 15 dX4_show_76 (by decide) ?_
    refine v_sub [2, 3, 4, 0] rfl ?_
    exact hK15 _ _ h
set_option maxHeartbeats 4000000 in
set_option maxRecDepth 100000 in
theorem v_X4_show_p15 {G : Gl} {F : Fr} {sh : Shp} {v0 : Nat} {v1 : Nat} {v2 : Nat} {v3 : Int32} {Q : Mem → Prop} {m : Mem} (h : X4_show_p15 sh v0 v1 v2 Q v3 m) : V G F M_X4_show sh 0 0 (Zv G F sh Q) 15 [(0, .ref (G.1 + v0)), (1, .ref (G.1 + v1)), (2, .ref (G.1 + v2)), (3, .int v3)] [] m := by
  obtain ⟨n, h⟩ := h
  induction n generalizing v3 m with
  | zero => exact h.elim
  | succ n ih => exact v_X4_show_p15b (fun _ _ h => ih h) h
set_option maxHeartbeats 4000000 in
set_option maxRecDepth 100000 in
theorem c_X4_show {l : Launch} {G : Gl} {sh : Shp} {v0 : Nat} {v1 : Nat} {v2 : Nat} {Q : Mem → Prop} {m : Mem} (h : wp_X4_show sh v0 v1 v2 Q m) : Cnv l G yX4_show cX4_show 5 (none : Option FieldType) 2 80 sh [.ref (G.1 + v0), .ref (G.1 + v1), .ref (G.1 + v2)] m Q := by
  refine con_v (ls := [(0, .ref (G.1 + v0)), (1, .ref (G.1 + v1)), (2, .ref (G.1 + v2))]) (by decide +kernel) rfl (Nat.le_of_ble_eq_true rfl) (fun F => ?_)
  show V G F M_X4_show sh 0 0 (Zv G F sh Q) 0 [(0, .ref (G.1 + v0)), (1, .ref (G.1 + v1)), (2, .ref (G.1 + v2))] [] m
  unfold wp_X4_show at h
  refine v_aload_n 2 2 dX4_show_0 rfl rfl ?_
  refine v_aload_n 1 1 dX4_show_1 rfl rfl ?_
  refine v_cSi [.ref _] mv_X4_yearOf ml_RX4_55 rfl rfl (Nat.le_of_ble_eq_true rfl) (Nat.le_of_ble_eq_true rfl) (Nat.le_of_ble_eq_true rfl) (Nat.zero_le _) (Nat.zero_le _) dX4_show_2 (c_X4_yearOf h) (fun r1 m2 h => ?_)
  obtain ⟨o3, h⟩ := h
  refine v_pI 1 0 dX4_show_5 fw_RX4_15 o3 ?_
  replace h := bnd_e h
  refine v_aload_n 2 2 dX4_show_8 rfl rfl ?_
  refine v_iconst (0 : Int32) dX4_show_9 (by decide) ?_
  refine v_pI 1 1 dX4_show_10 fw_RX4_60 o3 ?_
  replace h := bnd_e h
  refine v_iconst (0 : Int32) dX4_show_13 (by decide) ?_
  refine v_istore_n (ls' := [(3, .int _), (0, .ref _), (1, .ref _), (2, .ref _)]) 3 dX4_show_14 rfl (Nat.le_of_ble_eq_true rfl) rfl ?_
  refine v_sub [1, 2, 3, 0] rfl ?_
  exact v_X4_show_p15 h
/-! CalledRiver$Picture.write -/
theorem dX4_write_0 : decode cX4_write 0 = .ok (.aload_n 0, 1) := by decide +kernel
theorem dX4_write_1 : decode cX4_write 1 = .ok (.getfield 9, 3) := by decide +kernel
theorem dX4_write_4 : decode cX4_write 4 = .ok (.iconst 0, 1) := by decide +kernel
theorem dX4_write_5 : decode cX4_write 5 = .ok (.aload_n 2, 1) := by decide +kernel
theorem dX4_write_6 : decode cX4_write 6 = .ok (.getfield 15, 3) := by decide +kernel
theorem dX4_write_9 : decode cX4_write 9 = .ok (.sipush 256, 3) := by decide +kernel
theorem dX4_write_12 : decode cX4_write 12 = .ok (.idiv, 1) := by decide +kernel
theorem dX4_write_13 : decode cX4_write 13 = .ok (.iastore, 1) := by decide +kernel
theorem dX4_write_14 : decode cX4_write 14 = .ok (.aload_n 0, 1) := by decide +kernel
theorem dX4_write_15 : decode cX4_write 15 = .ok (.getfield 9, 3) := by decide +kernel
theorem dX4_write_18 : decode cX4_write 18 = .ok (.iconst 1, 1) := by decide +kernel
theorem dX4_write_19 : decode cX4_write 19 = .ok (.aload_n 2, 1) := by decide +kernel
theorem dX4_write_20 : decode cX4_write 20 = .ok (.getfield 15, 3) := by decide +kernel
theorem dX4_write_23 : decode cX4_write 23 = .ok (.sipush 256, 3) := by decide +kernel
theorem dX4_write_26 : decode cX4_write 26 = .ok (.irem, 1) := by decide +kernel
theorem dX4_write_27 : decode cX4_write 27 = .ok (.iastore, 1) := by decide +kernel
theorem dX4_write_28 : decode cX4_write 28 = .ok (.aload_n 0, 1) := by decide +kernel
theorem dX4_write_29 : decode cX4_write 29 = .ok (.iconst 2, 1) := by decide +kernel
theorem dX4_write_30 : decode cX4_write 30 = .ok (.putfield 21, 3) := by decide +kernel
theorem dX4_write_33 : decode cX4_write 33 = .ok (.iconst 0, 1) := by decide +kernel
theorem dX4_write_34 : decode cX4_write 34 = .ok (.istore_n 3, 1) := by decide +kernel
theorem dX4_write_35 : decode cX4_write 35 = .ok (.iload_n 3, 1) := by decide +kernel
theorem dX4_write_36 : decode cX4_write 36 = .ok (.aload_n 1, 1) := by decide +kernel
theorem dX4_write_37 : decode cX4_write 37 = .ok (.invokevirtual 24, 3) := by decide +kernel
theorem dX4_write_40 : decode cX4_write 40 = .ok (.if_icmp .ge 68, 3) := by decide +kernel
theorem dX4_write_43 : decode cX4_write 43 = .ok (.aload_n 0, 1) := by decide +kernel
theorem dX4_write_44 : decode cX4_write 44 = .ok (.getfield 9, 3) := by decide +kernel
theorem dX4_write_47 : decode cX4_write 47 = .ok (.aload_n 0, 1) := by decide +kernel
theorem dX4_write_48 : decode cX4_write 48 = .ok (.getfield 21, 3) := by decide +kernel
theorem dX4_write_51 : decode cX4_write 51 = .ok (.aload_n 2, 1) := by decide +kernel
theorem dX4_write_52 : decode cX4_write 52 = .ok (.getfield 30, 3) := by decide +kernel
theorem dX4_write_55 : decode cX4_write 55 = .ok (.iload_n 3, 1) := by decide +kernel
theorem dX4_write_56 : decode cX4_write 56 = .ok (.iaload, 1) := by decide +kernel
theorem dX4_write_57 : decode cX4_write 57 = .ok (.iastore, 1) := by decide +kernel
theorem dX4_write_58 : decode cX4_write 58 = .ok (.aload_n 0, 1) := by decide +kernel
theorem dX4_write_59 : decode cX4_write 59 = .ok (.getfield 9, 3) := by decide +kernel
theorem dX4_write_62 : decode cX4_write 62 = .ok (.aload_n 0, 1) := by decide +kernel
theorem dX4_write_63 : decode cX4_write 63 = .ok (.getfield 21, 3) := by decide +kernel
theorem dX4_write_66 : decode cX4_write 66 = .ok (.iconst 1, 1) := by decide +kernel
theorem dX4_write_67 : decode cX4_write 67 = .ok (.iadd, 1) := by decide +kernel
theorem dX4_write_68 : decode cX4_write 68 = .ok (.aload_n 2, 1) := by decide +kernel
theorem dX4_write_69 : decode cX4_write 69 = .ok (.getfield 33, 3) := by decide +kernel
theorem dX4_write_72 : decode cX4_write 72 = .ok (.iload_n 3, 1) := by decide +kernel
theorem dX4_write_73 : decode cX4_write 73 = .ok (.iaload, 1) := by decide +kernel
theorem dX4_write_74 : decode cX4_write 74 = .ok (.iastore, 1) := by decide +kernel
theorem dX4_write_75 : decode cX4_write 75 = .ok (.aload_n 0, 1) := by decide +kernel
theorem dX4_write_76 : decode cX4_write 76 = .ok (.getfield 9, 3) := by decide +kernel
theorem dX4_write_79 : decode cX4_write 79 = .ok (.aload_n 0, 1) := by decide +kernel
theorem dX4_write_80 : decode cX4_write 80 = .ok (.getfield 21, 3) := by decide +kernel
theorem dX4_write_83 : decode cX4_write 83 = .ok (.iconst 2, 1) := by decide +kernel
theorem dX4_write_84 : decode cX4_write 84 = .ok (.iadd, 1) := by decide +kernel
theorem dX4_write_85 : decode cX4_write 85 = .ok (.aload_n 2, 1) := by decide +kernel
theorem dX4_write_86 : decode cX4_write 86 = .ok (.getfield 36, 3) := by decide +kernel
theorem dX4_write_89 : decode cX4_write 89 = .ok (.iload_n 3, 1) := by decide +kernel
theorem dX4_write_90 : decode cX4_write 90 = .ok (.iaload, 1) := by decide +kernel
theorem dX4_write_91 : decode cX4_write 91 = .ok (.iastore, 1) := by decide +kernel
theorem dX4_write_92 : decode cX4_write 92 = .ok (.aload_n 0, 1) := by decide +kernel
theorem dX4_write_93 : decode cX4_write 93 = .ok (.dup, 1) := by decide +kernel
theorem dX4_write_94 : decode cX4_write 94 = .ok (.getfield 21, 3) := by decide +kernel
theorem dX4_write_97 : decode cX4_write 97 = .ok (.iconst 3, 1) := by decide +kernel
theorem dX4_write_98 : decode cX4_write 98 = .ok (.iadd, 1) := by decide +kernel
theorem dX4_write_99 : decode cX4_write 99 = .ok (.putfield 21, 3) := by decide +kernel
theorem dX4_write_102 : decode cX4_write 102 = .ok (.iinc 3 1, 3) := by decide +kernel
theorem dX4_write_105 : decode cX4_write 105 = .ok (.goto (-70), 3) := by decide +kernel
theorem dX4_write_108 : decode cX4_write 108 = .ok (.iconst 0, 1) := by decide +kernel
theorem dX4_write_109 : decode cX4_write 109 = .ok (.istore_n 3, 1) := by decide +kernel
theorem dX4_write_110 : decode cX4_write 110 = .ok (.iload_n 3, 1) := by decide +kernel
theorem dX4_write_111 : decode cX4_write 111 = .ok (.aload_n 1, 1) := by decide +kernel
theorem dX4_write_112 : decode cX4_write 112 = .ok (.getfield 39, 3) := by decide +kernel
theorem dX4_write_115 : decode cX4_write 115 = .ok (.if_icmp .ge 34, 3) := by decide +kernel
theorem dX4_write_118 : decode cX4_write 118 = .ok (.aload_n 0, 1) := by decide +kernel
theorem dX4_write_119 : decode cX4_write 119 = .ok (.getfield 9, 3) := by decide +kernel
theorem dX4_write_122 : decode cX4_write 122 = .ok (.aload_n 0, 1) := by decide +kernel
theorem dX4_write_123 : decode cX4_write 123 = .ok (.getfield 21, 3) := by decide +kernel
theorem dX4_write_126 : decode cX4_write 126 = .ok (.aload_n 2, 1) := by decide +kernel
theorem dX4_write_127 : decode cX4_write 127 = .ok (.getfield 42, 3) := by decide +kernel
theorem dX4_write_130 : decode cX4_write 130 = .ok (.iload_n 3, 1) := by decide +kernel
theorem dX4_write_131 : decode cX4_write 131 = .ok (.iaload, 1) := by decide +kernel
theorem dX4_write_132 : decode cX4_write 132 = .ok (.iastore, 1) := by decide +kernel
theorem dX4_write_133 : decode cX4_write 133 = .ok (.aload_n 0, 1) := by decide +kernel
theorem dX4_write_134 : decode cX4_write 134 = .ok (.dup, 1) := by decide +kernel
theorem dX4_write_135 : decode cX4_write 135 = .ok (.getfield 21, 3) := by decide +kernel
theorem dX4_write_138 : decode cX4_write 138 = .ok (.iconst 1, 1) := by decide +kernel
theorem dX4_write_139 : decode cX4_write 139 = .ok (.iadd, 1) := by decide +kernel
theorem dX4_write_140 : decode cX4_write 140 = .ok (.putfield 21, 3) := by decide +kernel
theorem dX4_write_143 : decode cX4_write 143 = .ok (.iinc 3 1, 3) := by decide +kernel
theorem dX4_write_146 : decode cX4_write 146 = .ok (.goto (-36), 3) := by decide +kernel
theorem dX4_write_149 : decode cX4_write 149 = .ok (.aload_n 0, 1) := by decide +kernel
theorem dX4_write_150 : decode cX4_write 150 = .ok (.getfield 9, 3) := by decide +kernel
theorem dX4_write_153 : decode cX4_write 153 = .ok (.aload_n 0, 1) := by decide +kernel
theorem dX4_write_154 : decode cX4_write 154 = .ok (.getfield 21, 3) := by decide +kernel
theorem dX4_write_157 : decode cX4_write 157 = .ok (.aload_n 0, 1) := by decide +kernel
theorem dX4_write_158 : decode cX4_write 158 = .ok (.getfield 9, 3) := by decide +kernel
theorem dX4_write_161 : decode cX4_write 161 = .ok (.aload_n 0, 1) := by decide +kernel
theorem dX4_write_162 : decode cX4_write 162 = .ok (.getfield 21, 3) := by decide +kernel
theorem dX4_write_165 : decode cX4_write 165 = .ok (.invokestatic 45, 3) := by decide +kernel
theorem dX4_write_168 : decode cX4_write 168 = .ok (.iastore, 1) := by decide +kernel
theorem dX4_write_169 : decode cX4_write 169 = .ok (.aload_n 0, 1) := by decide +kernel
theorem dX4_write_170 : decode cX4_write 170 = .ok (.dup, 1) := by decide +kernel
theorem dX4_write_171 : decode cX4_write 171 = .ok (.getfield 21, 3) := by decide +kernel
theorem dX4_write_174 : decode cX4_write 174 = .ok (.iconst 1, 1) := by decide +kernel
theorem dX4_write_175 : decode cX4_write 175 = .ok (.iadd, 1) := by decide +kernel
theorem dX4_write_176 : decode cX4_write 176 = .ok (.putfield 21, 3) := by decide +kernel
theorem dX4_write_179 : decode cX4_write 179 = .ok (.return_, 1) := by decide +kernel
def X4_write_p110b (sh : Shp) (v0 : Nat) (v1 : Nat) (v2 : Nat) (Q : Mem → Prop) (K110 : Int32 → Mem → Prop) (v3 : Int32) (m : Mem) : Prop :=
  Ob sh v1 5 ∧ (if (m.1 v1 3) ≤ v3 then (Ob sh v0 4 ∧ ∃ b35 : Nat, m.2.2 v0 0 = some b35 ∧ (wp_X4_checkOf sh b35 (m.1 v0 1) (fun r37 m38 => Ix sh b35 100 (m.1 v0 1) ∧ bnd (sI m38 b35 (m.1 v0 1).toNatClampNeg r37) (fun m40 => bnd (sI m40 v0 1 ((m40.1 v0 1) + (1 : Int32))) (fun m41 => Q m41))) m)) else (Ob sh v0 4 ∧ ∃ b43 : Nat, m.2.2 v0 0 = some b43 ∧ (Ob sh v2 1 ∧ ∃ b46 : Nat, m.2.2 v2 5 = some b46 ∧ (Ix sh b46 100 v3 ∧ (Ix sh b43 100 (m.1 v0 1) ∧ bnd (sI m b43 (m.1 v0 1).toNatClampNeg (m.1 b46 v3.toNatClampNeg)) (fun m50 => bnd (sI m50 v0 1 ((m50.1 v0 1) + (1 : Int32))) (fun m51 => K110 (v3 + (1 : Int32)) m51)))))))
def X4_write_p110n (sh : Shp) (v0 : Nat) (v1 : Nat) (v2 : Nat) (Q : Mem → Prop) : Nat → Int32 → Mem → Prop
  | 0 => fun _ _ => False
  | n + 1 => X4_write_p110b sh v0 v1 v2 Q (X4_write_p110n sh v0 v1 v2 Q n)
def X4_write_p110 (sh : Shp) (v0 : Nat) (v1 : Nat) (v2 : Nat) (Q : Mem → Prop) (v3 : Int32) (m : Mem) : Prop := ∃ n, X4_write_p110n sh v0 v1 v2 Q n v3 m
def X4_write_p35b (sh : Shp) (v0 : Nat) (v1 : Nat) (v2 : Nat) (Q : Mem → Prop) (K35 : Int32 → Mem → Prop) (v3 : Int32) (m : Mem) : Prop :=
  Ob sh v1 5 ∧ wp_X5_places sh v1 (fun r10 m11 => if r10 ≤ v3 then (X4_write_p110 sh v0 v1 v2 Q (0 : Int32) m11) else (Ob sh v0 4 ∧ ∃ b14 : Nat, m11.2.2 v0 0 = some b14 ∧ (Ob sh v2 1 ∧ ∃ b17 : Nat, m11.2.2 v2 2 = some b17 ∧ (Ix sh b17 100 v3 ∧ (Ix sh b14 100 (m11.1 v0 1) ∧ bnd (sI m11 b14 (m11.1 v0 1).toNatClampNeg (m11.1 b17 v3.toNatClampNeg)) (fun m21 => ∃ b22 : Nat, m21.2.2 v2 3 = some b22 ∧ (Ix sh b22 100 v3 ∧ (Ix sh b14 100 ((m21.1 v0 1) + (1 : Int32)) ∧ bnd (sI m21 b14 ((m21.1 v0 1) + (1 : Int32)).toNatClampNeg (m21.1 b22 v3.toNatClampNeg)) (fun m26 => ∃ b27 : Nat, m26.2.2 v2 4 = some b27 ∧ (Ix sh b27 100 v3 ∧ (Ix sh b14 100 ((m26.1 v0 1) + (2 : Int32)) ∧ bnd (sI m26 b14 ((m26.1 v0 1) + (2 : Int32)).toNatClampNeg (m26.1 b27 v3.toNatClampNeg)) (fun m31 => bnd (sI m31 v0 1 ((m31.1 v0 1) + (3 : Int32))) (fun m32 => K35 (v3 + (1 : Int32)) m32))))))))))))) m
def X4_write_p35n (sh : Shp) (v0 : Nat) (v1 : Nat) (v2 : Nat) (Q : Mem → Prop) : Nat → Int32 → Mem → Prop
  | 0 => fun _ _ => False
  | n + 1 => X4_write_p35b sh v0 v1 v2 Q (X4_write_p35n sh v0 v1 v2 Q n)
def X4_write_p35 (sh : Shp) (v0 : Nat) (v1 : Nat) (v2 : Nat) (Q : Mem → Prop) (v3 : Int32) (m : Mem) : Prop := ∃ n, X4_write_p35n sh v0 v1 v2 Q n v3 m
def wp_X4_write (sh : Shp) (v0 : Nat) (v1 : Nat) (v2 : Nat) (Q : Mem → Prop) (m : Mem) : Prop :=
  Ob sh v0 4 ∧ ∃ b2 : Nat, m.2.2 v0 0 = some b2 ∧ (Ob sh v2 1 ∧ (Ix sh b2 100 (0 : Int32) ∧ bnd (sI m b2 (0 : Int32).toNatClampNeg ((m.1 v2 0) / (256 : Int32))) (fun m6 => Ix sh b2 100 (1 : Int32) ∧ bnd (sI m6 b2 (1 : Int32).toNatClampNeg ((m6.1 v2 0) - (m6.1 v2 0) / (256 : Int32) * (256 : Int32))) (fun m8 => bnd (sI m8 v0 1 (2 : Int32)) (fun m9 => X4_write_p35 sh v0 v1 v2 Q (0 : Int32) m9)))))
abbrev M_X4_write : Mi := (cX4_write, 4, RX4, (none : Option FieldType), "write", 2, 83, 0, 0)
set_option maxHeartbeats 4000000 in
set_option maxRecDepth 100000 in
theorem v_X4_write_p110b {G : Gl} {F : Fr} {sh : Shp} {v0 : Nat} {v1 : Nat} {v2 : Nat} {v3 : Int32} {Q : Mem → Prop} {K110 : Int32 → Mem → Prop} {m : Mem} (hK110 : ∀ (x3 : Int32) (m : Mem), K110 x3 m → V G F M_X4_write sh 0 0 (Zv G F sh Q) 110 [(0, .ref (G.1 + v0)), (1, .ref (G.1 + v1)), (2, .ref (G.1 + v2)), (3, .int x3)] [] m) (h : X4_write_p110b sh v0 v1 v2 Q K110 v3 m) : V G F M_X4_write sh 0 0 (Zv G F sh Q) 110 [(0, .ref (G.1 + v0)), (1, .ref (G.1 + v1)), (2, .ref (G.1 + v2)), (3, .int v3)] [] m := by
  unfold X4_write_p110b at h
  refine v_iload_n 3 3 dX4_write_110 rfl rfl ?_
  refine v_aload_n 1 1 dX4_write_111 rfl rfl ?_
  obtain ⟨o33, h⟩ := h
  refine v_gI 5 3 dX4_write_112 fg_RX4_39 o33 ?_
  refine v_icmp_ge 149 dX4_write_115 (by decide) (fun hc => ?_) (fun hc => ?_)
  · replace h := Eq.mp (if_pos hc) h
    refine v_aload_n 0 0 dX4_write_149 rfl rfl ?_
    obtain ⟨o34, h⟩ := h
    obtain ⟨b35, e36, h⟩ := h
    refine v_gR 4 0 dX4_write_150 fg_RX4_9 o34 e36 ?_
    refine v_aload_n 0 0 dX4_write_153 rfl rfl ?_
    refine v_gI 4 1 dX4_write_154 fg_RX4_21 o34 ?_
    refine v_aload_n 0 0 dX4_write_157 rfl rfl ?_
    refine v_gR 4 0 dX4_write_158 fg_RX4_9 o34 e36 ?_
    refine v_aload_n 0 0 dX4_write_161 rfl rfl ?_
    refine v_gI 4 1 dX4_write_162 fg_RX4_21 o34 ?_
    refine v_cSi [.ref _, .int _] mv_X4_checkOf ml_RX4_45 rfl rfl (Nat.le_of_ble_eq_true rfl) (Nat.le_of_ble_eq_true rfl) (Nat.le_of_ble_eq_true rfl) (Nat.zero_le _) (Nat.zero_le _) dX4_write_165 (c_X4_checkOf h) (fun r37 m38 h => ?_)
    obtain ⟨i39, h⟩ := h
    refine v_iast dX4_write_168 i39 ?_
    replace h := bnd_e h
    refine v_aload_n 0 0 dX4_write_169 rfl rfl ?_
    refine v_dup dX4_write_170 rfl ?_
    refine v_gI 4 1 dX4_write_171 fg_RX4_21 o34 ?_
    refine v_iconst (1 : Int32) dX4_write_174 (by decide) ?_
    refine v_iadd dX4_write_175 ?_
    refine v_pI 4 1 dX4_write_176 fw_RX4_21 o34 ?_
    replace h := bnd_e h
    exact v_vret dX4_write_179 rfl h
  · replace h := Eq.mp (if_neg hc) h
    refine v_aload_n 0 0 dX4_write_118 rfl rfl ?_
    obtain ⟨o42, h⟩ := h
    obtain ⟨b43, e44, h⟩ := h
    refine v_gR 4 0 dX4_write_119 fg_RX4_9 o42 e44 ?_
    refine v_aload_n 0 0 dX4_write_122 rfl rfl ?_
    refine v_gI 4 1 dX4_write_123 fg_RX4_21 o42 ?_
    refine v_aload_n 2 2 dX4_write_126 rfl rfl ?_
    obtain ⟨o45, h⟩ := h
    obtain ⟨b46, e47, h⟩ := h
    refine v_gR 1 5 dX4_write_127 fg_RX4_42 o45 e47 ?_
    refine v_iload_n 3 3 dX4_write_130 rfl rfl ?_
    obtain ⟨i48, h⟩ := h
    refine v_iald dX4_write_131 i48 ?_
    obtain ⟨i49, h⟩ := h
    refine v_iast dX4_write_132 i49 ?_
    replace h := bnd_e h
    refine v_aload_n 0 0 dX4_write_133 rfl rfl ?_
    refine v_dup dX4_write_134 rfl ?_
    refine v_gI 4 1 dX4_write_135 fg_RX4_21 o42 ?_
    refine v_iconst (1 : Int32) dX4_write_138 (by decide) ?_
    refine v_iadd dX4_write_139 ?_
    refine v_pI 4 1 dX4_write_140 fw_RX4_21 o42 ?_
    replace h := bnd_e h
    refine v_iinc (ls' := [(3, .int _), (0, .ref _), (1, .ref _), (2, .ref _)]) 3 3 dX4_write_143 rfl (congrArg (HAdd.hAdd _) (by decide : Int32.ofInt (1) = (1 : Int32))) (Nat.le_of_ble_eq_true rfl) rfl ?_
    refine v_goto 110 dX4_write_146 (by decide) ?_
    refine v_sub [1, 2, 3, 0] rfl ?_
    exact hK110 _ _ h
set_option maxHeartbeats 4000000 in
set_option maxRecDepth 100000 in
theorem v_X4_write_p110 {G : Gl} {F : Fr} {sh : Shp} {v0 : Nat} {v1 : Nat} {v2 : Nat} {v3 : Int32} {Q : Mem → Prop} {m : Mem} (h : X4_write_p110 sh v0 v1 v2 Q v3 m) : V G F M_X4_write sh 0 0 (Zv G F sh Q) 110 [(0, .ref (G.1 + v0)), (1, .ref (G.1 + v1)), (2, .ref (G.1 + v2)), (3, .int v3)] [] m := by
  obtain ⟨n, h⟩ := h
  induction n generalizing v3 m with
  | zero => exact h.elim
  | succ n ih => exact v_X4_write_p110b (fun _ _ h => ih h) h
set_option maxHeartbeats 4000000 in
set_option maxRecDepth 100000 in
theorem v_X4_write_p35b {G : Gl} {F : Fr} {sh : Shp} {v0 : Nat} {v1 : Nat} {v2 : Nat} {v3 : Int32} {Q : Mem → Prop} {K35 : Int32 → Mem → Prop} {m : Mem} (hK35 : ∀ (x3 : Int32) (m : Mem), K35 x3 m → V G F M_X4_write sh 0 0 (Zv G F sh Q) 35 [(0, .ref (G.1 + v0)), (1, .ref (G.1 + v1)), (2, .ref (G.1 + v2)), (3, .int x3)] [] m) (h : X4_write_p35b sh v0 v1 v2 Q K35 v3 m) : V G F M_X4_write sh 0 0 (Zv G F sh Q) 35 [(0, .ref (G.1 + v0)), (1, .ref (G.1 + v1)), (2, .ref (G.1 + v2)), (3, .int v3)] [] m := by
  unfold X4_write_p35b at h
  refine v_iload_n 3 3 dX4_write_35 rfl rfl ?_
  refine v_aload_n 1 1 dX4_write_36 rfl rfl ?_
  obtain ⟨o12, h⟩ := h
  refine v_cVi [] mv_X5_places ml_RX4_24 ⟨_, _, rfl⟩ o12 rfl rfl (Nat.le_of_ble_eq_true rfl) (Nat.le_of_ble_eq_true rfl) (Nat.le_of_ble_eq_true rfl) (Nat.zero_le _) (Nat.zero_le _) dX4_write_37 (c_X5_places h) (fun r10 m11 h => ?_)
  refine v_icmp_ge 108 dX4_write_40 (by decide) (fun hc => ?_) (fun hc => ?_)
  · replace h := Eq.mp (if_pos hc) h
    refine v_iconst (0 : Int32) dX4_write_108 (by decide) ?_
    refine v_istore_n (ls' := [(3, .int _), (0, .ref _), (1, .ref _), (2, .ref _)]) 3 dX4_write_109 rfl (Nat.le_of_ble_eq_true rfl) rfl ?_
    refine v_sub [1, 2, 3, 0] rfl ?_
    exact v_X4_write_p110 h
  · replace h := Eq.mp (if_neg hc) h
    refine v_aload_n 0 0 dX4_write_43 rfl rfl ?_
    obtain ⟨o13, h⟩ := h
    obtain ⟨b14, e15, h⟩ := h
    refine v_gR 4 0 dX4_write_44 fg_RX4_9 o13 e15 ?_
    refine v_aload_n 0 0 dX4_write_47 rfl rfl ?_
    refine v_gI 4 1 dX4_write_48 fg_RX4_21 o13 ?_
    refine v_aload_n 2 2 dX4_write_51 rfl rfl ?_
    obtain ⟨o16, h⟩ := h
    obtain ⟨b17, e18, h⟩ := h
    refine v_gR 1 2 dX4_write_52 fg_RX4_30 o16 e18 ?_
    refine v_iload_n 3 3 dX4_write_55 rfl rfl ?_
    obtain ⟨i19, h⟩ := h
    refine v_iald dX4_write_56 i19 ?_
    obtain ⟨i20, h⟩ := h
    refine v_iast dX4_write_57 i20 ?_
    replace h := bnd_e h
    refine v_aload_n 0 0 dX4_write_58 rfl rfl ?_
    refine v_gR 4 0 dX4_write_59 fg_RX4_9 o13 e15 ?_
    refine v_aload_n 0 0 dX4_write_62 rfl rfl ?_
    refine v_gI 4 1 dX4_write_63 fg_RX4_21 o13 ?_
    refine v_iconst (1 : Int32) dX4_write_66 (by decide) ?_
    refine v_iadd dX4_write_67 ?_
    refine v_aload_n 2 2 dX4_write_68 rfl rfl ?_
    obtain ⟨b22, e23, h⟩ := h
    refine v_gR 1 3 dX4_write_69 fg_RX4_33 o16 e23 ?_
    refine v_iload_n 3 3 dX4_write_72 rfl rfl ?_
    obtain ⟨i24, h⟩ := h
    refine v_iald dX4_write_73 i24 ?_
    obtain ⟨i25, h⟩ := h
    refine v_iast dX4_write_74 i25 ?_
    replace h := bnd_e h
    refine v_aload_n 0 0 dX4_write_75 rfl rfl ?_
    refine v_gR 4 0 dX4_write_76 fg_RX4_9 o13 e15 ?_
    refine v_aload_n 0 0 dX4_write_79 rfl rfl ?_
    refine v_gI 4 1 dX4_write_80 fg_RX4_21 o13 ?_
    refine v_iconst (2 : Int32) dX4_write_83 (by decide) ?_
    refine v_iadd dX4_write_84 ?_
    refine v_aload_n 2 2 dX4_write_85 rfl rfl ?_
    obtain ⟨b27, e28, h⟩ := h
    refine v_gR 1 4 dX4_write_86 fg_RX4_36 o16 e28 ?_
    refine v_iload_n 3 3 dX4_write_89 rfl rfl ?_
    obtain ⟨i29, h⟩ := h
    refine v_iald dX4_write_90 i29 ?_
    obtain ⟨i30, h⟩ := h
    refine v_iast dX4_write_91 i30 ?_
    replace h := bnd_e h
    refine v_aload_n 0 0 dX4_write_92 rfl rfl ?_
    refine v_dup dX4_write_93 rfl ?_
    refine v_gI 4 1 dX4_write_94 fg_RX4_21 o13 ?_
    refine v_iconst (3 : Int32) dX4_write_97 (by decide) ?_
    refine v_iadd dX4_write_98 ?_
    refine v_pI 4 1 dX4_write_99 fw_RX4_21 o13 ?_
    replace h := bnd_e h
    refine v_iinc (ls' := [(3, .int _), (0, .ref _), (1, .ref _), (2, .ref _)]) 3 3 dX4_write_102 rfl (congrArg (HAdd.hAdd _) (by decide : Int32.ofInt (1) = (1 : Int32))) (Nat.le_of_ble_eq_true rfl) rfl ?_
    refine v_goto 35 dX4_write_105 (by decide) ?_
    refine v_sub [1, 2, 3, 0] rfl ?_
    exact hK35 _ _ h
set_option maxHeartbeats 4000000 in
set_option maxRecDepth 100000 in
theorem v_X4_write_p35 {G : Gl} {F : Fr} {sh : Shp} {v0 : Nat} {v1 : Nat} {v2 : Nat} {v3 : Int32} {Q : Mem → Prop} {m : Mem} (h : X4_write_p35 sh v0 v1 v2 Q v3 m) : V G F M_X4_write sh 0 0 (Zv G F sh Q) 35 [(0, .ref (G.1 + v0)), (1, .ref (G.1 + v1)), (2, .ref (G.1 + v2)), (3, .int v3)] [] m := by
  obtain ⟨n, h⟩ := h
  induction n generalizing v3 m with
  | zero => exact h.elim
  | succ n ih => exact v_X4_write_p35b (fun _ _ h => ih h) h
set_option maxHeartbeats 4000000 in
set_option maxRecDepth 100000 in
theorem c_X4_write {l : Launch} {G : Gl} {sh : Shp} {v0 : Nat} {v1 : Nat} {v2 : Nat} {Q : Mem → Prop} {m : Mem} (h : wp_X4_write sh v0 v1 v2 Q m) : Cnv l G yX4_write cX4_write 4 (none : Option FieldType) 2 83 sh [.ref (G.1 + v0), .ref (G.1 + v1), .ref (G.1 + v2)] m Q := by
  refine con_v (ls := [(0, .ref (G.1 + v0)), (1, .ref (G.1 + v1)), (2, .ref (G.1 + v2))]) (by decide +kernel) rfl (Nat.le_of_ble_eq_true rfl) (fun F => ?_)
  show V G F M_X4_write sh 0 0 (Zv G F sh Q) 0 [(0, .ref (G.1 + v0)), (1, .ref (G.1 + v1)), (2, .ref (G.1 + v2))] [] m
  unfold wp_X4_write at h
  refine v_aload_n 0 0 dX4_write_0 rfl rfl ?_
  obtain ⟨o1, h⟩ := h
  obtain ⟨b2, e3, h⟩ := h
  refine v_gR 4 0 dX4_write_1 fg_RX4_9 o1 e3 ?_
  refine v_iconst (0 : Int32) dX4_write_4 (by decide) ?_
  refine v_aload_n 2 2 dX4_write_5 rfl rfl ?_
  obtain ⟨o4, h⟩ := h
  refine v_gI 1 0 dX4_write_6 fg_RX4_15 o4 ?_
  refine v_sipush (256 : Int32) dX4_write_9 (by decide) ?_
  refine v_idiv dX4_write_12 (by decide) ?_
  obtain ⟨i5, h⟩ := h
  refine v_iast dX4_write_13 i5 ?_
  replace h := bnd_e h
  refine v_aload_n 0 0 dX4_write_14 rfl rfl ?_
  refine v_gR 4 0 dX4_write_15 fg_RX4_9 o1 e3 ?_
  refine v_iconst (1 : Int32) dX4_write_18 (by decide) ?_
  refine v_aload_n 2 2 dX4_write_19 rfl rfl ?_
  refine v_gI 1 0 dX4_write_20 fg_RX4_15 o4 ?_
  refine v_sipush (256 : Int32) dX4_write_23 (by decide) ?_
  refine v_irem dX4_write_26 (by decide) ?_
  obtain ⟨i7, h⟩ := h
  refine v_iast dX4_write_27 i7 ?_
  replace h := bnd_e h
  refine v_aload_n 0 0 dX4_write_28 rfl rfl ?_
  refine v_iconst (2 : Int32) dX4_write_29 (by decide) ?_
  refine v_pI 4 1 dX4_write_30 fw_RX4_21 o1 ?_
  replace h := bnd_e h
  refine v_iconst (0 : Int32) dX4_write_33 (by decide) ?_
  refine v_istore_n (ls' := [(3, .int _), (0, .ref _), (1, .ref _), (2, .ref _)]) 3 dX4_write_34 rfl (Nat.le_of_ble_eq_true rfl) rfl ?_
  refine v_sub [1, 2, 3, 0] rfl ?_
  exact v_X4_write_p35 h
/-! CalledRiver$Plain.columnOf -/
theorem dX5_columnOf_0 : decode cX5_columnOf 0 = .ok (.aload_n 0, 1) := by decide +kernel
theorem dX5_columnOf_1 : decode cX5_columnOf 1 = .ok (.getfield 52, 3) := by decide +kernel
theorem dX5_columnOf_4 : decode cX5_columnOf 4 = .ok (.ifCond .ne 7, 3) := by decide +kernel
theorem dX5_columnOf_7 : decode cX5_columnOf 7 = .ok (.iconst (-1), 1) := by decide +kernel
theorem dX5_columnOf_8 : decode cX5_columnOf 8 = .ok (.goto 9, 3) := by decide +kernel
theorem dX5_columnOf_11 : decode cX5_columnOf 11 = .ok (.iload_n 1, 1) := by decide +kernel
theorem dX5_columnOf_12 : decode cX5_columnOf 12 = .ok (.aload_n 0, 1) := by decide +kernel
theorem dX5_columnOf_13 : decode cX5_columnOf 13 = .ok (.getfield 52, 3) := by decide +kernel
theorem dX5_columnOf_16 : decode cX5_columnOf 16 = .ok (.irem, 1) := by decide +kernel
theorem dX5_columnOf_17 : decode cX5_columnOf 17 = .ok (.ireturn, 1) := by decide +kernel
def wp_X5_columnOf (sh : Shp) (v0 : Nat) (v1 : Int32) (Q : Int32 → Mem → Prop) (m : Mem) : Prop :=
  Ob sh v0 5 ∧ (if (m.1 v0 0) = 0 then (Q (-1 : Int32) m) else (¬ (m.1 v0 0) = 0 ∧ (Q (v1 - v1 / (m.1 v0 0) * (m.1 v0 0)) m)))
abbrev M_X5_columnOf : Mi := (cX5_columnOf, 2, RX5, (Option.some FieldType.int), "columnOf", 1, 60, 0, 0)
set_option maxHeartbeats 4000000 in
set_option maxRecDepth 100000 in
theorem c_X5_columnOf {l : Launch} {G : Gl} {sh : Shp} {v0 : Nat} {v1 : Int32} {Q : Int32 → Mem → Prop} {m : Mem} (h : wp_X5_columnOf sh v0 v1 Q m) : Cni l G yX5_columnOf cX5_columnOf 2 (Option.some FieldType.int) 1 60 sh [.ref (G.1 + v0), .int v1] m Q := by
  refine con_i (ls := [(0, .ref (G.1 + v0)), (1, .int v1)]) (by decide +kernel) rfl (Nat.le_of_ble_eq_true rfl) (fun F => ?_)
  show V G F M_X5_columnOf sh 0 0 (Zi G F sh Q) 0 [(0, .ref (G.1 + v0)), (1, .int v1)] [] m
  unfold wp_X5_columnOf at h
  refine v_aload_n 0 0 dX5_columnOf_0 rfl rfl ?_
  obtain ⟨o1, h⟩ := h
  refine v_gI 5 0 dX5_columnOf_1 fg_RX5_52 o1 ?_
  refine v_if_ne 11 dX5_columnOf_4 (by decide) (fun hc => ?_) (fun hc => ?_)
  · replace h := Eq.mp (if_neg hc) h
    refine v_iload_n 1 1 dX5_columnOf_11 rfl rfl ?_
    refine v_aload_n 0 0 dX5_columnOf_12 rfl rfl ?_
    refine v_gI 5 0 dX5_columnOf_13 fg_RX5_52 o1 ?_
    obtain ⟨hz, h⟩ := h
    refine v_irem dX5_columnOf_16 hz ?_
    exact v_iret dX5_columnOf_17 rfl rfl h
  · replace h := Eq.mp (if_pos hc) h
    refine v_iconst (-1 : Int32) dX5_columnOf_7 (by decide) ?_
    refine v_goto 17 dX5_columnOf_8 (by decide) ?_
    exact v_iret dX5_columnOf_17 rfl rfl h
/-! CalledRiver$Plain.placeOf -/
theorem dX5_placeOf_0 : decode cX5_placeOf 0 = .ok (.iload_n 1, 1) := by decide +kernel
theorem dX5_placeOf_1 : decode cX5_placeOf 1 = .ok (.ifCond .lt 27, 3) := by decide +kernel
theorem dX5_placeOf_4 : decode cX5_placeOf 4 = .ok (.iload_n 1, 1) := by decide +kernel
theorem dX5_placeOf_5 : decode cX5_placeOf 5 = .ok (.aload_n 0, 1) := by decide +kernel
theorem dX5_placeOf_6 : decode cX5_placeOf 6 = .ok (.getfield 52, 3) := by decide +kernel
theorem dX5_placeOf_9 : decode cX5_placeOf 9 = .ok (.if_icmp .ge 19, 3) := by decide +kernel
theorem dX5_placeOf_12 : decode cX5_placeOf 12 = .ok (.iload_n 2, 1) := by decide +kernel
theorem dX5_placeOf_13 : decode cX5_placeOf 13 = .ok (.ifCond .lt 15, 3) := by decide +kernel
theorem dX5_placeOf_16 : decode cX5_placeOf 16 = .ok (.iload_n 2, 1) := by decide +kernel
theorem dX5_placeOf_17 : decode cX5_placeOf 17 = .ok (.aload_n 0, 1) := by decide +kernel
theorem dX5_placeOf_18 : decode cX5_placeOf 18 = .ok (.getfield 56, 3) := by decide +kernel
theorem dX5_placeOf_21 : decode cX5_placeOf 21 = .ok (.if_icmp .ge 7, 3) := by decide +kernel
theorem dX5_placeOf_24 : decode cX5_placeOf 24 = .ok (.iconst 1, 1) := by decide +kernel
theorem dX5_placeOf_25 : decode cX5_placeOf 25 = .ok (.goto 4, 3) := by decide +kernel
theorem dX5_placeOf_28 : decode cX5_placeOf 28 = .ok (.iconst 0, 1) := by decide +kernel
theorem dX5_placeOf_29 : decode cX5_placeOf 29 = .ok (.istore_n 3, 1) := by decide +kernel
theorem dX5_placeOf_30 : decode cX5_placeOf 30 = .ok (.iload_n 3, 1) := by decide +kernel
theorem dX5_placeOf_31 : decode cX5_placeOf 31 = .ok (.ifCond .eq 14, 3) := by decide +kernel
theorem dX5_placeOf_34 : decode cX5_placeOf 34 = .ok (.iload_n 2, 1) := by decide +kernel
theorem dX5_placeOf_35 : decode cX5_placeOf 35 = .ok (.aload_n 0, 1) := by decide +kernel
theorem dX5_placeOf_36 : decode cX5_placeOf 36 = .ok (.getfield 52, 3) := by decide +kernel
theorem dX5_placeOf_39 : decode cX5_placeOf 39 = .ok (.imul, 1) := by decide +kernel
theorem dX5_placeOf_40 : decode cX5_placeOf 40 = .ok (.iload_n 1, 1) := by decide +kernel
theorem dX5_placeOf_41 : decode cX5_placeOf 41 = .ok (.iadd, 1) := by decide +kernel
theorem dX5_placeOf_42 : decode cX5_placeOf 42 = .ok (.goto 4, 3) := by decide +kernel
theorem dX5_placeOf_45 : decode cX5_placeOf 45 = .ok (.iconst (-1), 1) := by decide +kernel
theorem dX5_placeOf_46 : decode cX5_placeOf 46 = .ok (.ireturn, 1) := by decide +kernel
def X5_placeOf_p29 (sh : Shp) (v0 : Nat) (v1 : Int32) (v2 : Int32) (s0 : Int32) (Q : Int32 → Mem → Prop) (m : Mem) : Prop :=
  if s0 = 0 then (Q (-1 : Int32) m) else (Ob sh v0 5 ∧ (Q ((v2 * (m.1 v0 0)) + v1) m))
def X5_placeOf_p28 (sh : Shp) (v0 : Nat) (v1 : Int32) (v2 : Int32) (Q : Int32 → Mem → Prop) (m : Mem) : Prop :=
  X5_placeOf_p29 sh v0 v1 v2 (0 : Int32) Q m
def wp_X5_placeOf (sh : Shp) (v0 : Nat) (v1 : Int32) (v2 : Int32) (Q : Int32 → Mem → Prop) (m : Mem) : Prop :=
  if v1 < 0 then (X5_placeOf_p28 sh v0 v1 v2 Q m) else (Ob sh v0 5 ∧ (if (m.1 v0 0) ≤ v1 then (X5_placeOf_p28 sh v0 v1 v2 Q m) else (if v2 < 0 then (X5_placeOf_p28 sh v0 v1 v2 Q m) else (if (m.1 v0 1) ≤ v2 then (X5_placeOf_p28 sh v0 v1 v2 Q m) else (X5_placeOf_p29 sh v0 v1 v2 (1 : Int32) Q m)))))
abbrev M_X5_placeOf : Mi := (cX5_placeOf, 4, RX5, (Option.some FieldType.int), "placeOf", 1, 60, 0, 0)
set_option maxHeartbeats 4000000 in
set_option maxRecDepth 100000 in
theorem v_X5_placeOf_p29 {G : Gl} {F : Fr} {sh : Shp} {v0 : Nat} {v1 : Int32} {v2 : Int32} {s0 : Int32} {Q : Int32 → Mem → Prop} {m : Mem} (h : X5_placeOf_p29 sh v0 v1 v2 s0 Q m) : V G F M_X5_placeOf sh 0 0 (Zi G F sh Q) 29 [(0, .ref (G.1 + v0)), (1, .int v1), (2, .int v2)] [.int s0] m := by
  unfold X5_placeOf_p29 at h
  refine v_istore_n (ls' := [(3, .int _), (0, .ref _), (1, .int _), (2, .int _)]) 3 dX5_placeOf_29 rfl (Nat.le_of_ble_eq_true rfl) rfl ?_
  refine v_iload_n 3 0 dX5_placeOf_30 rfl rfl ?_
  refine v_if_eq 45 dX5_placeOf_31 (by decide) (fun hc => ?_) (fun hc => ?_)
  · replace h := Eq.mp (if_pos hc) h
    refine v_iconst (-1 : Int32) dX5_placeOf_45 (by decide) ?_
    exact v_iret dX5_placeOf_46 rfl rfl h
  · replace h := Eq.mp (if_neg hc) h
    refine v_iload_n 2 3 dX5_placeOf_34 rfl rfl ?_
    refine v_aload_n 0 1 dX5_placeOf_35 rfl rfl ?_
    obtain ⟨o2, h⟩ := h
    refine v_gI 5 0 dX5_placeOf_36 fg_RX5_52 o2 ?_
    refine v_imul dX5_placeOf_39 ?_
    refine v_iload_n 1 2 dX5_placeOf_40 rfl rfl ?_
    refine v_iadd dX5_placeOf_41 ?_
    refine v_goto 46 dX5_placeOf_42 (by decide) ?_
    exact v_iret dX5_placeOf_46 rfl rfl h
set_option maxHeartbeats 4000000 in
set_option maxRecDepth 100000 in
theorem v_X5_placeOf_p28 {G : Gl} {F : Fr} {sh : Shp} {v0 : Nat} {v1 : Int32} {v2 : Int32} {Q : Int32 → Mem → Prop} {m : Mem} (h : X5_placeOf_p28 sh v0 v1 v2 Q m) : V G F M_X5_placeOf sh 0 0 (Zi G F sh Q) 28 [(0, .ref (G.1 + v0)), (1, .int v1), (2, .int v2)] [] m := by
  unfold X5_placeOf_p28 at h
  refine v_iconst (0 : Int32) dX5_placeOf_28 (by decide) ?_
  refine v_sub [0, 1, 2] rfl ?_
  exact v_X5_placeOf_p29 h
set_option maxHeartbeats 4000000 in
set_option maxRecDepth 100000 in
theorem c_X5_placeOf {l : Launch} {G : Gl} {sh : Shp} {v0 : Nat} {v1 : Int32} {v2 : Int32} {Q : Int32 → Mem → Prop} {m : Mem} (h : wp_X5_placeOf sh v0 v1 v2 Q m) : Cni l G yX5_placeOf cX5_placeOf 4 (Option.some FieldType.int) 1 60 sh [.ref (G.1 + v0), .int v1, .int v2] m Q := by
  refine con_i (ls := [(0, .ref (G.1 + v0)), (1, .int v1), (2, .int v2)]) (by decide +kernel) rfl (Nat.le_of_ble_eq_true rfl) (fun F => ?_)
  show V G F M_X5_placeOf sh 0 0 (Zi G F sh Q) 0 [(0, .ref (G.1 + v0)), (1, .int v1), (2, .int v2)] [] m
  unfold wp_X5_placeOf at h
  refine v_iload_n 1 1 dX5_placeOf_0 rfl rfl ?_
  refine v_if_lt 28 dX5_placeOf_1 (by decide) (fun hc => ?_) (fun hc => ?_)
  · replace h := Eq.mp (if_pos hc) h
    refine v_sub [0, 1, 2] rfl ?_
    exact v_X5_placeOf_p28 h
  · replace h := Eq.mp (if_neg hc) h
    refine v_iload_n 1 1 dX5_placeOf_4 rfl rfl ?_
    refine v_aload_n 0 0 dX5_placeOf_5 rfl rfl ?_
    obtain ⟨o1, h⟩ := h
    refine v_gI 5 0 dX5_placeOf_6 fg_RX5_52 o1 ?_
    refine v_icmp_ge 28 dX5_placeOf_9 (by decide) (fun hc => ?_) (fun hc => ?_)
    · replace h := Eq.mp (if_pos hc) h
      refine v_sub [0, 1, 2] rfl ?_
      exact v_X5_placeOf_p28 h
    · replace h := Eq.mp (if_neg hc) h
      refine v_iload_n 2 2 dX5_placeOf_12 rfl rfl ?_
      refine v_if_lt 28 dX5_placeOf_13 (by decide) (fun hc => ?_) (fun hc => ?_)
      · replace h := Eq.mp (if_pos hc) h
        refine v_sub [0, 1, 2] rfl ?_
        exact v_X5_placeOf_p28 h
      · replace h := Eq.mp (if_neg hc) h
        refine v_iload_n 2 2 dX5_placeOf_16 rfl rfl ?_
        refine v_aload_n 0 0 dX5_placeOf_17 rfl rfl ?_
        refine v_gI 5 1 dX5_placeOf_18 fg_RX5_56 o1 ?_
        refine v_icmp_ge 28 dX5_placeOf_21 (by decide) (fun hc => ?_) (fun hc => ?_)
        · replace h := Eq.mp (if_pos hc) h
          refine v_sub [0, 1, 2] rfl ?_
          exact v_X5_placeOf_p28 h
        · replace h := Eq.mp (if_neg hc) h
          refine v_iconst (1 : Int32) dX5_placeOf_24 (by decide) ?_
          refine v_goto 29 dX5_placeOf_25 (by decide) ?_
          refine v_sub [0, 1, 2] rfl ?_
          exact v_X5_placeOf_p29 h
/-! CalledRiver$Plain.rowOf -/
theorem dX5_rowOf_0 : decode cX5_rowOf 0 = .ok (.aload_n 0, 1) := by decide +kernel
theorem dX5_rowOf_1 : decode cX5_rowOf 1 = .ok (.getfield 52, 3) := by decide +kernel
theorem dX5_rowOf_4 : decode cX5_rowOf 4 = .ok (.ifCond .ne 7, 3) := by decide +kernel
theorem dX5_rowOf_7 : decode cX5_rowOf 7 = .ok (.iconst (-1), 1) := by decide +kernel
theorem dX5_rowOf_8 : decode cX5_rowOf 8 = .ok (.goto 9, 3) := by decide +kernel
theorem dX5_rowOf_11 : decode cX5_rowOf 11 = .ok (.iload_n 1, 1) := by decide +kernel
theorem dX5_rowOf_12 : decode cX5_rowOf 12 = .ok (.aload_n 0, 1) := by decide +kernel
theorem dX5_rowOf_13 : decode cX5_rowOf 13 = .ok (.getfield 52, 3) := by decide +kernel
theorem dX5_rowOf_16 : decode cX5_rowOf 16 = .ok (.idiv, 1) := by decide +kernel
theorem dX5_rowOf_17 : decode cX5_rowOf 17 = .ok (.ireturn, 1) := by decide +kernel
def wp_X5_rowOf (sh : Shp) (v0 : Nat) (v1 : Int32) (Q : Int32 → Mem → Prop) (m : Mem) : Prop :=
  Ob sh v0 5 ∧ (if (m.1 v0 0) = 0 then (Q (-1 : Int32) m) else (¬ (m.1 v0 0) = 0 ∧ (Q (v1 / (m.1 v0 0)) m)))
abbrev M_X5_rowOf : Mi := (cX5_rowOf, 2, RX5, (Option.some FieldType.int), "rowOf", 1, 60, 0, 0)
set_option maxHeartbeats 4000000 in
set_option maxRecDepth 100000 in
theorem c_X5_rowOf {l : Launch} {G : Gl} {sh : Shp} {v0 : Nat} {v1 : Int32} {Q : Int32 → Mem → Prop} {m : Mem} (h : wp_X5_rowOf sh v0 v1 Q m) : Cni l G yX5_rowOf cX5_rowOf 2 (Option.some FieldType.int) 1 60 sh [.ref (G.1 + v0), .int v1] m Q := by
  refine con_i (ls := [(0, .ref (G.1 + v0)), (1, .int v1)]) (by decide +kernel) rfl (Nat.le_of_ble_eq_true rfl) (fun F => ?_)
  show V G F M_X5_rowOf sh 0 0 (Zi G F sh Q) 0 [(0, .ref (G.1 + v0)), (1, .int v1)] [] m
  unfold wp_X5_rowOf at h
  refine v_aload_n 0 0 dX5_rowOf_0 rfl rfl ?_
  obtain ⟨o1, h⟩ := h
  refine v_gI 5 0 dX5_rowOf_1 fg_RX5_52 o1 ?_
  refine v_if_ne 11 dX5_rowOf_4 (by decide) (fun hc => ?_) (fun hc => ?_)
  · replace h := Eq.mp (if_neg hc) h
    refine v_iload_n 1 1 dX5_rowOf_11 rfl rfl ?_
    refine v_aload_n 0 0 dX5_rowOf_12 rfl rfl ?_
    refine v_gI 5 0 dX5_rowOf_13 fg_RX5_52 o1 ?_
    obtain ⟨hz, h⟩ := h
    refine v_idiv dX5_rowOf_16 hz ?_
    exact v_iret dX5_rowOf_17 rfl rfl h
  · replace h := Eq.mp (if_pos hc) h
    refine v_iconst (-1 : Int32) dX5_rowOf_7 (by decide) ?_
    refine v_goto 17 dX5_rowOf_8 (by decide) ?_
    exact v_iret dX5_rowOf_17 rfl rfl h
/-! CalledRiver$Plain.beside -/
theorem dX5_beside_0 : decode cX5_beside 0 = .ok (.aload_n 0, 1) := by decide +kernel
theorem dX5_beside_1 : decode cX5_beside 1 = .ok (.aload_n 0, 1) := by decide +kernel
theorem dX5_beside_2 : decode cX5_beside 2 = .ok (.iload_n 1, 1) := by decide +kernel
theorem dX5_beside_3 : decode cX5_beside 3 = .ok (.invokevirtual 77, 3) := by decide +kernel
theorem dX5_beside_6 : decode cX5_beside 6 = .ok (.getstatic 81, 3) := by decide +kernel
theorem dX5_beside_9 : decode cX5_beside 9 = .ok (.iload_n 2, 1) := by decide +kernel
theorem dX5_beside_10 : decode cX5_beside 10 = .ok (.iaload, 1) := by decide +kernel
theorem dX5_beside_11 : decode cX5_beside 11 = .ok (.iadd, 1) := by decide +kernel
theorem dX5_beside_12 : decode cX5_beside 12 = .ok (.aload_n 0, 1) := by decide +kernel
theorem dX5_beside_13 : decode cX5_beside 13 = .ok (.iload_n 1, 1) := by decide +kernel
theorem dX5_beside_14 : decode cX5_beside 14 = .ok (.invokevirtual 84, 3) := by decide +kernel
theorem dX5_beside_17 : decode cX5_beside 17 = .ok (.getstatic 87, 3) := by decide +kernel
theorem dX5_beside_20 : decode cX5_beside 20 = .ok (.iload_n 2, 1) := by decide +kernel
theorem dX5_beside_21 : decode cX5_beside 21 = .ok (.iaload, 1) := by decide +kernel
theorem dX5_beside_22 : decode cX5_beside 22 = .ok (.iadd, 1) := by decide +kernel
theorem dX5_beside_23 : decode cX5_beside 23 = .ok (.invokevirtual 90, 3) := by decide +kernel
theorem dX5_beside_26 : decode cX5_beside 26 = .ok (.ireturn, 1) := by decide +kernel
def wp_X5_beside (sh : Shp) (v0 : Nat) (v1 : Int32) (v2 : Int32) (Q : Int32 → Mem → Prop) (m : Mem) : Prop :=
  Ob sh v0 5 ∧ wp_X5_columnOf sh v0 v1 (fun r1 m2 => vp_in v2 4 ∧ (wp_X5_rowOf sh v0 v1 (fun r4 m5 => vp_in v2 4 ∧ (wp_X5_placeOf sh v0 (r1 + (acr v2.toNatClampNeg)) (r4 + (dwn v2.toNatClampNeg)) (fun r6 m7 => Q r6 m7) m5)) m2)) m
abbrev M_X5_beside : Mi := (cX5_beside, 3, RX5, (Option.some FieldType.int), "beside", 2, 83, 0, 0)
set_option maxHeartbeats 4000000 in
set_option maxRecDepth 100000 in
theorem c_X5_beside {l : Launch} {G : Gl} {sh : Shp} {v0 : Nat} {v1 : Int32} {v2 : Int32} {Q : Int32 → Mem → Prop} {m : Mem} (h : wp_X5_beside sh v0 v1 v2 Q m) : Cni l G yX5_beside cX5_beside 3 (Option.some FieldType.int) 2 83 sh [.ref (G.1 + v0), .int v1, .int v2] m Q := by
  refine con_i (ls := [(0, .ref (G.1 + v0)), (1, .int v1), (2, .int v2)]) (by decide +kernel) rfl (Nat.le_of_ble_eq_true rfl) (fun F => ?_)
  show V G F M_X5_beside sh 0 0 (Zi G F sh Q) 0 [(0, .ref (G.1 + v0)), (1, .int v1), (2, .int v2)] [] m
  unfold wp_X5_beside at h
  refine v_aload_n 0 0 dX5_beside_0 rfl rfl ?_
  refine v_aload_n 0 0 dX5_beside_1 rfl rfl ?_
  refine v_iload_n 1 1 dX5_beside_2 rfl rfl ?_
  obtain ⟨o3, h⟩ := h
  refine v_cVi [.int _] mv_X5_columnOf ml_RX5_77 ⟨_, _, rfl⟩ o3 rfl rfl (Nat.le_of_ble_eq_true rfl) (Nat.le_of_ble_eq_true rfl) (Nat.le_of_ble_eq_true rfl) (Nat.zero_le _) (Nat.zero_le _) dX5_beside_3 (c_X5_columnOf h) (fun r1 m2 h => ?_)
  refine v_gets1 rfl dX5_beside_6 ?_
  refine v_iload_n 2 2 dX5_beside_9 rfl rfl ?_
  obtain ⟨hi, h⟩ := h
  refine v_sald1 dX5_beside_10 hi ?_
  refine v_iadd dX5_beside_11 ?_
  refine v_aload_n 0 0 dX5_beside_12 rfl rfl ?_
  refine v_iload_n 1 1 dX5_beside_13 rfl rfl ?_
  refine v_cVi [.int _] mv_X5_rowOf ml_RX5_84 ⟨_, _, rfl⟩ o3 rfl rfl (Nat.le_of_ble_eq_true rfl) (Nat.le_of_ble_eq_true rfl) (Nat.le_of_ble_eq_true rfl) (Nat.zero_le _) (Nat.zero_le _) dX5_beside_14 (c_X5_rowOf h) (fun r4 m5 h => ?_)
  refine v_gets2 rfl dX5_beside_17 ?_
  refine v_iload_n 2 2 dX5_beside_20 rfl rfl ?_
  obtain ⟨hi, h⟩ := h
  refine v_sald2 dX5_beside_21 hi ?_
  refine v_iadd dX5_beside_22 ?_
  refine v_cVi [.int _, .int _] mv_X5_placeOf ml_RX5_90 ⟨_, _, rfl⟩ o3 rfl rfl (Nat.le_of_ble_eq_true rfl) (Nat.le_of_ble_eq_true rfl) (Nat.le_of_ble_eq_true rfl) (Nat.zero_le _) (Nat.zero_le _) dX5_beside_23 (c_X5_placeOf h) (fun r6 m7 h => ?_)
  exact v_iret dX5_beside_26 rfl rfl h
/-! CalledRiver$Plain.clear -/
theorem dX5_clear_0 : decode cX5_clear 0 = .ok (.aload_n 0, 1) := by decide +kernel
theorem dX5_clear_1 : decode cX5_clear 1 = .ok (.iconst 0, 1) := by decide +kernel
theorem dX5_clear_2 : decode cX5_clear 2 = .ok (.putfield 52, 3) := by decide +kernel
theorem dX5_clear_5 : decode cX5_clear 5 = .ok (.aload_n 0, 1) := by decide +kernel
theorem dX5_clear_6 : decode cX5_clear 6 = .ok (.iconst 0, 1) := by decide +kernel
theorem dX5_clear_7 : decode cX5_clear 7 = .ok (.putfield 56, 3) := by decide +kernel
theorem dX5_clear_10 : decode cX5_clear 10 = .ok (.aload_n 0, 1) := by decide +kernel
theorem dX5_clear_11 : decode cX5_clear 11 = .ok (.iconst 0, 1) := by decide +kernel
theorem dX5_clear_12 : decode cX5_clear 12 = .ok (.putfield 59, 3) := by decide +kernel
theorem dX5_clear_15 : decode cX5_clear 15 = .ok (.aload_n 0, 1) := by decide +kernel
theorem dX5_clear_16 : decode cX5_clear 16 = .ok (.iconst 0, 1) := by decide +kernel
theorem dX5_clear_17 : decode cX5_clear 17 = .ok (.putfield 62, 3) := by decide +kernel
theorem dX5_clear_20 : decode cX5_clear 20 = .ok (.aload_n 0, 1) := by decide +kernel
theorem dX5_clear_21 : decode cX5_clear 21 = .ok (.iconst 0, 1) := by decide +kernel
theorem dX5_clear_22 : decode cX5_clear 22 = .ok (.putfield 65, 3) := by decide +kernel
theorem dX5_clear_25 : decode cX5_clear 25 = .ok (.aload_n 0, 1) := by decide +kernel
theorem dX5_clear_26 : decode cX5_clear 26 = .ok (.getfield 9, 3) := by decide +kernel
theorem dX5_clear_29 : decode cX5_clear 29 = .ok (.iconst 0, 1) := by decide +kernel
theorem dX5_clear_30 : decode cX5_clear 30 = .ok (.invokestatic 68, 3) := by decide +kernel
theorem dX5_clear_33 : decode cX5_clear 33 = .ok (.aload_n 0, 1) := by decide +kernel
theorem dX5_clear_34 : decode cX5_clear 34 = .ok (.getfield 15, 3) := by decide +kernel
theorem dX5_clear_37 : decode cX5_clear 37 = .ok (.iconst 0, 1) := by decide +kernel
theorem dX5_clear_38 : decode cX5_clear 38 = .ok (.invokestatic 68, 3) := by decide +kernel
theorem dX5_clear_41 : decode cX5_clear 41 = .ok (.aload_n 0, 1) := by decide +kernel
theorem dX5_clear_42 : decode cX5_clear 42 = .ok (.getfield 18, 3) := by decide +kernel
theorem dX5_clear_45 : decode cX5_clear 45 = .ok (.iconst (-1), 1) := by decide +kernel
theorem dX5_clear_46 : decode cX5_clear 46 = .ok (.invokestatic 68, 3) := by decide +kernel
theorem dX5_clear_49 : decode cX5_clear 49 = .ok (.aload_n 0, 1) := by decide +kernel
theorem dX5_clear_50 : decode cX5_clear 50 = .ok (.getfield 45, 3) := by decide +kernel
theorem dX5_clear_53 : decode cX5_clear 53 = .ok (.invokevirtual 74, 3) := by decide +kernel
theorem dX5_clear_56 : decode cX5_clear 56 = .ok (.aload_n 0, 1) := by decide +kernel
theorem dX5_clear_57 : decode cX5_clear 57 = .ok (.getfield 49, 3) := by decide +kernel
theorem dX5_clear_60 : decode cX5_clear 60 = .ok (.invokevirtual 74, 3) := by decide +kernel
theorem dX5_clear_63 : decode cX5_clear 63 = .ok (.return_, 1) := by decide +kernel
def wp_X5_clear (sh : Shp) (v0 : Nat) (Q : Mem → Prop) (m : Mem) : Prop :=
  Ob sh v0 5 ∧ bnd (sI m v0 0 (0 : Int32)) (fun m2 => bnd (sI m2 v0 1 (0 : Int32)) (fun m3 => bnd (sI m3 v0 2 (0 : Int32)) (fun m4 => bnd (sI m4 v0 3 (0 : Int32)) (fun m5 => bnd (sI m5 v0 4 (0 : Int32)) (fun m6 => ∃ b7 : Nat, m6.2.2 v0 5 = some b7 ∧ (wp_J7_fill_53178 sh b7 (0 : Int32) (fun m10 => ∃ b11 : Nat, m10.2.2 v0 6 = some b11 ∧ (wp_J7_fill_53178 sh b11 (0 : Int32) (fun m14 => ∃ b15 : Nat, m14.2.2 v0 7 = some b15 ∧ (wp_J7_fill_53178 sh b15 (-1 : Int32) (fun m18 => ∃ b19 : Nat, m18.2.2 v0 15 = some b19 ∧ (Ob sh b19 0 ∧ wp_X0_clear sh b19 (fun m22 => ∃ b24 : Nat, m22.2.2 v0 16 = some b24 ∧ (Ob sh b24 0 ∧ wp_X0_clear sh b24 (fun m27 => Q m27) m22)) m18)) m14)) m10)) m6))))))
abbrev M_X5_clear : Mi := (cX5_clear, 1, RX5, (none : Option FieldType), "clear", 2, 83, 0, 0)
set_option maxHeartbeats 4000000 in
set_option maxRecDepth 100000 in
theorem c_X5_clear {l : Launch} {G : Gl} {sh : Shp} {v0 : Nat} {Q : Mem → Prop} {m : Mem} (h : wp_X5_clear sh v0 Q m) : Cnv l G yX5_clear cX5_clear 1 (none : Option FieldType) 2 83 sh [.ref (G.1 + v0)] m Q := by
  refine con_v (ls := [(0, .ref (G.1 + v0))]) (by decide +kernel) rfl (Nat.le_of_ble_eq_true rfl) (fun F => ?_)
  show V G F M_X5_clear sh 0 0 (Zv G F sh Q) 0 [(0, .ref (G.1 + v0))] [] m
  unfold wp_X5_clear at h
  refine v_aload_n 0 0 dX5_clear_0 rfl rfl ?_
  refine v_iconst (0 : Int32) dX5_clear_1 (by decide) ?_
  obtain ⟨o1, h⟩ := h
  refine v_pI 5 0 dX5_clear_2 fw_RX5_52 o1 ?_
  replace h := bnd_e h
  refine v_aload_n 0 0 dX5_clear_5 rfl rfl ?_
  refine v_iconst (0 : Int32) dX5_clear_6 (by decide) ?_
  refine v_pI 5 1 dX5_clear_7 fw_RX5_56 o1 ?_
  replace h := bnd_e h
  refine v_aload_n 0 0 dX5_clear_10 rfl rfl ?_
  refine v_iconst (0 : Int32) dX5_clear_11 (by decide) ?_
  refine v_pI 5 2 dX5_clear_12 fw_RX5_59 o1 ?_
  replace h := bnd_e h
  refine v_aload_n 0 0 dX5_clear_15 rfl rfl ?_
  refine v_iconst (0 : Int32) dX5_clear_16 (by decide) ?_
  refine v_pI 5 3 dX5_clear_17 fw_RX5_62 o1 ?_
  replace h := bnd_e h
  refine v_aload_n 0 0 dX5_clear_20 rfl rfl ?_
  refine v_iconst (0 : Int32) dX5_clear_21 (by decide) ?_
  refine v_pI 5 4 dX5_clear_22 fw_RX5_65 o1 ?_
  replace h := bnd_e h
  refine v_aload_n 0 0 dX5_clear_25 rfl rfl ?_
  obtain ⟨b7, e8, h⟩ := h
  refine v_gR 5 5 dX5_clear_26 fg_RX5_9 o1 e8 ?_
  refine v_iconst (0 : Int32) dX5_clear_29 (by decide) ?_
  refine v_cSv [.ref _, .int _] mv_J7_fill_53178 ml_RX5_68 rfl rfl (Nat.le_of_ble_eq_true rfl) (Nat.le_of_ble_eq_true rfl) (Nat.le_of_ble_eq_true rfl) (Nat.zero_le _) (Nat.zero_le _) dX5_clear_30 (c_J7_fill_53178 h) (fun m10 h => ?_)
  refine v_aload_n 0 0 dX5_clear_33 rfl rfl ?_
  obtain ⟨b11, e12, h⟩ := h
  refine v_gR 5 6 dX5_clear_34 fg_RX5_15 o1 e12 ?_
  refine v_iconst (0 : Int32) dX5_clear_37 (by decide) ?_
  refine v_cSv [.ref _, .int _] mv_J7_fill_53178 ml_RX5_68 rfl rfl (Nat.le_of_ble_eq_true rfl) (Nat.le_of_ble_eq_true rfl) (Nat.le_of_ble_eq_true rfl) (Nat.zero_le _) (Nat.zero_le _) dX5_clear_38 (c_J7_fill_53178 h) (fun m14 h => ?_)
  refine v_aload_n 0 0 dX5_clear_41 rfl rfl ?_
  obtain ⟨b15, e16, h⟩ := h
  refine v_gR 5 7 dX5_clear_42 fg_RX5_18 o1 e16 ?_
  refine v_iconst (-1 : Int32) dX5_clear_45 (by decide) ?_
  refine v_cSv [.ref _, .int _] mv_J7_fill_53178 ml_RX5_68 rfl rfl (Nat.le_of_ble_eq_true rfl) (Nat.le_of_ble_eq_true rfl) (Nat.le_of_ble_eq_true rfl) (Nat.zero_le _) (Nat.zero_le _) dX5_clear_46 (c_J7_fill_53178 h) (fun m18 h => ?_)
  refine v_aload_n 0 0 dX5_clear_49 rfl rfl ?_
  obtain ⟨b19, e20, h⟩ := h
  refine v_gR 5 15 dX5_clear_50 fg_RX5_45 o1 e20 ?_
  obtain ⟨o23, h⟩ := h
  refine v_cVv [] mv_X0_clear ml_RX5_74 ⟨_, _, rfl⟩ o23 rfl rfl (Nat.le_of_ble_eq_true rfl) (Nat.le_of_ble_eq_true rfl) (Nat.le_of_ble_eq_true rfl) (Nat.zero_le _) (Nat.zero_le _) dX5_clear_53 (c_X0_clear h) (fun m22 h => ?_)
  refine v_aload_n 0 0 dX5_clear_56 rfl rfl ?_
  obtain ⟨b24, e25, h⟩ := h
  refine v_gR 5 16 dX5_clear_57 fg_RX5_49 o1 e25 ?_
  obtain ⟨o28, h⟩ := h
  refine v_cVv [] mv_X0_clear ml_RX5_74 ⟨_, _, rfl⟩ o28 rfl rfl (Nat.le_of_ble_eq_true rfl) (Nat.le_of_ble_eq_true rfl) (Nat.le_of_ble_eq_true rfl) (Nat.zero_le _) (Nat.zero_le _) dX5_clear_60 (c_X0_clear h) (fun m27 h => ?_)
  exact v_vret dX5_clear_63 rfl h
/-! CalledRiver$Plain.isCaller -/
theorem dX5_isCaller_0 : decode cX5_isCaller 0 = .ok (.iload_n 1, 1) := by decide +kernel
theorem dX5_isCaller_1 : decode cX5_isCaller 1 = .ok (.ifCond .lt 15, 3) := by decide +kernel
theorem dX5_isCaller_4 : decode cX5_isCaller 4 = .ok (.iload_n 1, 1) := by decide +kernel
theorem dX5_isCaller_5 : decode cX5_isCaller 5 = .ok (.aload_n 0, 1) := by decide +kernel
theorem dX5_isCaller_6 : decode cX5_isCaller 6 = .ok (.getfield 65, 3) := by decide +kernel
theorem dX5_isCaller_9 : decode cX5_isCaller 9 = .ok (.if_icmp .ge 7, 3) := by decide +kernel
theorem dX5_isCaller_12 : decode cX5_isCaller 12 = .ok (.iconst 1, 1) := by decide +kernel
theorem dX5_isCaller_13 : decode cX5_isCaller 13 = .ok (.goto 4, 3) := by decide +kernel
theorem dX5_isCaller_16 : decode cX5_isCaller 16 = .ok (.iconst 0, 1) := by decide +kernel
theorem dX5_isCaller_17 : decode cX5_isCaller 17 = .ok (.ireturn, 1) := by decide +kernel
def wp_X5_isCaller (sh : Shp) (v0 : Nat) (v1 : Int32) (Q : Int32 → Mem → Prop) (m : Mem) : Prop :=
  if v1 < 0 then (Q (0 : Int32) m) else (Ob sh v0 5 ∧ (if (m.1 v0 4) ≤ v1 then (Q (0 : Int32) m) else (Q (1 : Int32) m)))
abbrev M_X5_isCaller : Mi := (cX5_isCaller, 2, RX5, (Option.some FieldType.boolean), "isCaller", 1, 60, 0, 0)
set_option maxHeartbeats 4000000 in
set_option maxRecDepth 100000 in
theorem c_X5_isCaller {l : Launch} {G : Gl} {sh : Shp} {v0 : Nat} {v1 : Int32} {Q : Int32 → Mem → Prop} {m : Mem} (h : wp_X5_isCaller sh v0 v1 Q m) : Cni l G yX5_isCaller cX5_isCaller 2 (Option.some FieldType.boolean) 1 60 sh [.ref (G.1 + v0), .int v1] m Q := by
  refine con_i (ls := [(0, .ref (G.1 + v0)), (1, .int v1)]) (by decide +kernel) rfl (Nat.le_of_ble_eq_true rfl) (fun F => ?_)
  show V G F M_X5_isCaller sh 0 0 (Zi G F sh Q) 0 [(0, .ref (G.1 + v0)), (1, .int v1)] [] m
  unfold wp_X5_isCaller at h
  refine v_iload_n 1 1 dX5_isCaller_0 rfl rfl ?_
  refine v_if_lt 16 dX5_isCaller_1 (by decide) (fun hc => ?_) (fun hc => ?_)
  · replace h := Eq.mp (if_pos hc) h
    refine v_iconst (0 : Int32) dX5_isCaller_16 (by decide) ?_
    exact v_iret dX5_isCaller_17 rfl (by decide) h
  · replace h := Eq.mp (if_neg hc) h
    refine v_iload_n 1 1 dX5_isCaller_4 rfl rfl ?_
    refine v_aload_n 0 0 dX5_isCaller_5 rfl rfl ?_
    obtain ⟨o1, h⟩ := h
    refine v_gI 5 4 dX5_isCaller_6 fg_RX5_65 o1 ?_
    refine v_icmp_ge 16 dX5_isCaller_9 (by decide) (fun hc => ?_) (fun hc => ?_)
    · replace h := Eq.mp (if_pos hc) h
      refine v_iconst (0 : Int32) dX5_isCaller_16 (by decide) ?_
      exact v_iret dX5_isCaller_17 rfl (by decide) h
    · replace h := Eq.mp (if_neg hc) h
      refine v_iconst (1 : Int32) dX5_isCaller_12 (by decide) ?_
      refine v_goto 17 dX5_isCaller_13 (by decide) ?_
      exact v_iret dX5_isCaller_17 rfl (by decide) h
/-! CalledRiver$Plain.isFarm -/
theorem dX5_isFarm_0 : decode cX5_isFarm 0 = .ok (.iload_n 1, 1) := by decide +kernel
theorem dX5_isFarm_1 : decode cX5_isFarm 1 = .ok (.ifCond .lt 15, 3) := by decide +kernel
theorem dX5_isFarm_4 : decode cX5_isFarm 4 = .ok (.iload_n 1, 1) := by decide +kernel
theorem dX5_isFarm_5 : decode cX5_isFarm 5 = .ok (.aload_n 0, 1) := by decide +kernel
theorem dX5_isFarm_6 : decode cX5_isFarm 6 = .ok (.getfield 62, 3) := by decide +kernel
theorem dX5_isFarm_9 : decode cX5_isFarm 9 = .ok (.if_icmp .ge 7, 3) := by decide +kernel
theorem dX5_isFarm_12 : decode cX5_isFarm 12 = .ok (.iconst 1, 1) := by decide +kernel
theorem dX5_isFarm_13 : decode cX5_isFarm 13 = .ok (.goto 4, 3) := by decide +kernel
theorem dX5_isFarm_16 : decode cX5_isFarm 16 = .ok (.iconst 0, 1) := by decide +kernel
theorem dX5_isFarm_17 : decode cX5_isFarm 17 = .ok (.ireturn, 1) := by decide +kernel
def wp_X5_isFarm (sh : Shp) (v0 : Nat) (v1 : Int32) (Q : Int32 → Mem → Prop) (m : Mem) : Prop :=
  if v1 < 0 then (Q (0 : Int32) m) else (Ob sh v0 5 ∧ (if (m.1 v0 3) ≤ v1 then (Q (0 : Int32) m) else (Q (1 : Int32) m)))
abbrev M_X5_isFarm : Mi := (cX5_isFarm, 2, RX5, (Option.some FieldType.boolean), "isFarm", 1, 60, 0, 0)
set_option maxHeartbeats 4000000 in
set_option maxRecDepth 100000 in
theorem c_X5_isFarm {l : Launch} {G : Gl} {sh : Shp} {v0 : Nat} {v1 : Int32} {Q : Int32 → Mem → Prop} {m : Mem} (h : wp_X5_isFarm sh v0 v1 Q m) : Cni l G yX5_isFarm cX5_isFarm 2 (Option.some FieldType.boolean) 1 60 sh [.ref (G.1 + v0), .int v1] m Q := by
  refine con_i (ls := [(0, .ref (G.1 + v0)), (1, .int v1)]) (by decide +kernel) rfl (Nat.le_of_ble_eq_true rfl) (fun F => ?_)
  show V G F M_X5_isFarm sh 0 0 (Zi G F sh Q) 0 [(0, .ref (G.1 + v0)), (1, .int v1)] [] m
  unfold wp_X5_isFarm at h
  refine v_iload_n 1 1 dX5_isFarm_0 rfl rfl ?_
  refine v_if_lt 16 dX5_isFarm_1 (by decide) (fun hc => ?_) (fun hc => ?_)
  · replace h := Eq.mp (if_pos hc) h
    refine v_iconst (0 : Int32) dX5_isFarm_16 (by decide) ?_
    exact v_iret dX5_isFarm_17 rfl (by decide) h
  · replace h := Eq.mp (if_neg hc) h
    refine v_iload_n 1 1 dX5_isFarm_4 rfl rfl ?_
    refine v_aload_n 0 0 dX5_isFarm_5 rfl rfl ?_
    obtain ⟨o1, h⟩ := h
    refine v_gI 5 3 dX5_isFarm_6 fg_RX5_62 o1 ?_
    refine v_icmp_ge 16 dX5_isFarm_9 (by decide) (fun hc => ?_) (fun hc => ?_)
    · replace h := Eq.mp (if_pos hc) h
      refine v_iconst (0 : Int32) dX5_isFarm_16 (by decide) ?_
      exact v_iret dX5_isFarm_17 rfl (by decide) h
    · replace h := Eq.mp (if_neg hc) h
      refine v_iconst (1 : Int32) dX5_isFarm_12 (by decide) ?_
      refine v_goto 17 dX5_isFarm_13 (by decide) ?_
      exact v_iret dX5_isFarm_17 rfl (by decide) h
/-! CalledRiver$Plain.isNamed -/
theorem dX5_isNamed_0 : decode cX5_isNamed 0 = .ok (.iconst 0, 1) := by decide +kernel
theorem dX5_isNamed_1 : decode cX5_isNamed 1 = .ok (.istore_n 2, 1) := by decide +kernel
theorem dX5_isNamed_2 : decode cX5_isNamed 2 = .ok (.iload_n 2, 1) := by decide +kernel
theorem dX5_isNamed_3 : decode cX5_isNamed 3 = .ok (.aload_n 0, 1) := by decide +kernel
theorem dX5_isNamed_4 : decode cX5_isNamed 4 = .ok (.getfield 62, 3) := by decide +kernel
theorem dX5_isNamed_7 : decode cX5_isNamed 7 = .ok (.if_icmp .ge 21, 3) := by decide +kernel
theorem dX5_isNamed_10 : decode cX5_isNamed 10 = .ok (.aload_n 0, 1) := by decide +kernel
theorem dX5_isNamed_11 : decode cX5_isNamed 11 = .ok (.getfield 21, 3) := by decide +kernel
theorem dX5_isNamed_14 : decode cX5_isNamed 14 = .ok (.iload_n 2, 1) := by decide +kernel
theorem dX5_isNamed_15 : decode cX5_isNamed 15 = .ok (.iaload, 1) := by decide +kernel
theorem dX5_isNamed_16 : decode cX5_isNamed 16 = .ok (.iload_n 1, 1) := by decide +kernel
theorem dX5_isNamed_17 : decode cX5_isNamed 17 = .ok (.if_icmp .ne 5, 3) := by decide +kernel
theorem dX5_isNamed_20 : decode cX5_isNamed 20 = .ok (.iconst 1, 1) := by decide +kernel
theorem dX5_isNamed_21 : decode cX5_isNamed 21 = .ok (.ireturn, 1) := by decide +kernel
theorem dX5_isNamed_22 : decode cX5_isNamed 22 = .ok (.iinc 2 1, 3) := by decide +kernel
theorem dX5_isNamed_25 : decode cX5_isNamed 25 = .ok (.goto (-23), 3) := by decide +kernel
theorem dX5_isNamed_28 : decode cX5_isNamed 28 = .ok (.iconst 0, 1) := by decide +kernel
theorem dX5_isNamed_29 : decode cX5_isNamed 29 = .ok (.istore_n 2, 1) := by decide +kernel
theorem dX5_isNamed_30 : decode cX5_isNamed 30 = .ok (.iload_n 2, 1) := by decide +kernel
theorem dX5_isNamed_31 : decode cX5_isNamed 31 = .ok (.aload_n 0, 1) := by decide +kernel
theorem dX5_isNamed_32 : decode cX5_isNamed 32 = .ok (.getfield 65, 3) := by decide +kernel
theorem dX5_isNamed_35 : decode cX5_isNamed 35 = .ok (.if_icmp .ge 21, 3) := by decide +kernel
theorem dX5_isNamed_38 : decode cX5_isNamed 38 = .ok (.aload_n 0, 1) := by decide +kernel
theorem dX5_isNamed_39 : decode cX5_isNamed 39 = .ok (.getfield 33, 3) := by decide +kernel
theorem dX5_isNamed_42 : decode cX5_isNamed 42 = .ok (.iload_n 2, 1) := by decide +kernel
theorem dX5_isNamed_43 : decode cX5_isNamed 43 = .ok (.iaload, 1) := by decide +kernel
theorem dX5_isNamed_44 : decode cX5_isNamed 44 = .ok (.iload_n 1, 1) := by decide +kernel
theorem dX5_isNamed_45 : decode cX5_isNamed 45 = .ok (.if_icmp .ne 5, 3) := by decide +kernel
theorem dX5_isNamed_48 : decode cX5_isNamed 48 = .ok (.iconst 1, 1) := by decide +kernel
theorem dX5_isNamed_49 : decode cX5_isNamed 49 = .ok (.ireturn, 1) := by decide +kernel
theorem dX5_isNamed_50 : decode cX5_isNamed 50 = .ok (.iinc 2 1, 3) := by decide +kernel
theorem dX5_isNamed_53 : decode cX5_isNamed 53 = .ok (.goto (-23), 3) := by decide +kernel
theorem dX5_isNamed_56 : decode cX5_isNamed 56 = .ok (.iconst 0, 1) := by decide +kernel
theorem dX5_isNamed_57 : decode cX5_isNamed 57 = .ok (.ireturn, 1) := by decide +kernel
def X5_isNamed_p30b (sh : Shp) (v0 : Nat) (v1 : Int32) (Q : Int32 → Mem → Prop) (K30 : Int32 → Mem → Prop) (v2 : Int32) (m : Mem) : Prop :=
  Ob sh v0 5 ∧ (if (m.1 v0 4) ≤ v2 then (Q (0 : Int32) m) else (∃ b6 : Nat, m.2.2 v0 12 = some b6 ∧ (Ix sh b6 100 v2 ∧ (if (m.1 b6 v2.toNatClampNeg) = v1 then (Q (1 : Int32) m) else (K30 (v2 + (1 : Int32)) m)))))
def X5_isNamed_p30n (sh : Shp) (v0 : Nat) (v1 : Int32) (Q : Int32 → Mem → Prop) : Nat → Int32 → Mem → Prop
  | 0 => fun _ _ => False
  | n + 1 => X5_isNamed_p30b sh v0 v1 Q (X5_isNamed_p30n sh v0 v1 Q n)
def X5_isNamed_p30 (sh : Shp) (v0 : Nat) (v1 : Int32) (Q : Int32 → Mem → Prop) (v2 : Int32) (m : Mem) : Prop := ∃ n, X5_isNamed_p30n sh v0 v1 Q n v2 m
def X5_isNamed_p2b (sh : Shp) (v0 : Nat) (v1 : Int32) (Q : Int32 → Mem → Prop) (K2 : Int32 → Mem → Prop) (v2 : Int32) (m : Mem) : Prop :=
  Ob sh v0 5 ∧ (if (m.1 v0 3) ≤ v2 then (X5_isNamed_p30 sh v0 v1 Q (0 : Int32) m) else (∃ b2 : Nat, m.2.2 v0 8 = some b2 ∧ (Ix sh b2 100 v2 ∧ (if (m.1 b2 v2.toNatClampNeg) = v1 then (Q (1 : Int32) m) else (K2 (v2 + (1 : Int32)) m)))))
def X5_isNamed_p2n (sh : Shp) (v0 : Nat) (v1 : Int32) (Q : Int32 → Mem → Prop) : Nat → Int32 → Mem → Prop
  | 0 => fun _ _ => False
  | n + 1 => X5_isNamed_p2b sh v0 v1 Q (X5_isNamed_p2n sh v0 v1 Q n)
def X5_isNamed_p2 (sh : Shp) (v0 : Nat) (v1 : Int32) (Q : Int32 → Mem → Prop) (v2 : Int32) (m : Mem) : Prop := ∃ n, X5_isNamed_p2n sh v0 v1 Q n v2 m
def wp_X5_isNamed (sh : Shp) (v0 : Nat) (v1 : Int32) (Q : Int32 → Mem → Prop) (m : Mem) : Prop :=
  X5_isNamed_p2 sh v0 v1 Q (0 : Int32) m
abbrev M_X5_isNamed : Mi := (cX5_isNamed, 3, RX5, (Option.some FieldType.boolean), "isNamed", 1, 60, 0, 0)
set_option maxHeartbeats 4000000 in
set_option maxRecDepth 100000 in
theorem v_X5_isNamed_p30b {G : Gl} {F : Fr} {sh : Shp} {v0 : Nat} {v1 : Int32} {v2 : Int32} {Q : Int32 → Mem → Prop} {K30 : Int32 → Mem → Prop} {m : Mem} (hK30 : ∀ (x2 : Int32) (m : Mem), K30 x2 m → V G F M_X5_isNamed sh 0 0 (Zi G F sh Q) 30 [(0, .ref (G.1 + v0)), (1, .int v1), (2, .int x2)] [] m) (h : X5_isNamed_p30b sh v0 v1 Q K30 v2 m) : V G F M_X5_isNamed sh 0 0 (Zi G F sh Q) 30 [(0, .ref (G.1 + v0)), (1, .int v1), (2, .int v2)] [] m := by
  unfold X5_isNamed_p30b at h
  refine v_iload_n 2 2 dX5_isNamed_30 rfl rfl ?_
  refine v_aload_n 0 0 dX5_isNamed_31 rfl rfl ?_
  obtain ⟨o5, h⟩ := h
  refine v_gI 5 4 dX5_isNamed_32 fg_RX5_65 o5 ?_
  refine v_icmp_ge 56 dX5_isNamed_35 (by decide) (fun hc => ?_) (fun hc => ?_)
  · replace h := Eq.mp (if_pos hc) h
    refine v_iconst (0 : Int32) dX5_isNamed_56 (by decide) ?_
    exact v_iret dX5_isNamed_57 rfl (by decide) h
  · replace h := Eq.mp (if_neg hc) h
    refine v_aload_n 0 0 dX5_isNamed_38 rfl rfl ?_
    obtain ⟨b6, e7, h⟩ := h
    refine v_gR 5 12 dX5_isNamed_39 fg_RX5_33 o5 e7 ?_
    refine v_iload_n 2 2 dX5_isNamed_42 rfl rfl ?_
    obtain ⟨i8, h⟩ := h
    refine v_iald dX5_isNamed_43 i8 ?_
    refine v_iload_n 1 1 dX5_isNamed_44 rfl rfl ?_
    refine v_icmp_ne 50 dX5_isNamed_45 (by decide) (fun hc => ?_) (fun hc => ?_)
    · replace h := Eq.mp (if_neg hc) h
      refine v_iinc (ls' := [(2, .int _), (0, .ref _), (1, .int _)]) 2 2 dX5_isNamed_50 rfl (congrArg (HAdd.hAdd _) (by decide : Int32.ofInt (1) = (1 : Int32))) (Nat.le_of_ble_eq_true rfl) rfl ?_
      refine v_goto 30 dX5_isNamed_53 (by decide) ?_
      refine v_sub [1, 2, 0] rfl ?_
      exact hK30 _ _ h
    · replace h := Eq.mp (if_pos hc) h
      refine v_iconst (1 : Int32) dX5_isNamed_48 (by decide) ?_
      exact v_iret dX5_isNamed_49 rfl (by decide) h
set_option maxHeartbeats 4000000 in
set_option maxRecDepth 100000 in
theorem v_X5_isNamed_p30 {G : Gl} {F : Fr} {sh : Shp} {v0 : Nat} {v1 : Int32} {v2 : Int32} {Q : Int32 → Mem → Prop} {m : Mem} (h : X5_isNamed_p30 sh v0 v1 Q v2 m) : V G F M_X5_isNamed sh 0 0 (Zi G F sh Q) 30 [(0, .ref (G.1 + v0)), (1, .int v1), (2, .int v2)] [] m := by
  obtain ⟨n, h⟩ := h
  induction n generalizing v2 m with
  | zero => exact h.elim
  | succ n ih => exact v_X5_isNamed_p30b (fun _ _ h => ih h) h
set_option maxHeartbeats 4000000 in
set_option maxRecDepth 100000 in
theorem v_X5_isNamed_p2b {G : Gl} {F : Fr} {sh : Shp} {v0 : Nat} {v1 : Int32} {v2 : Int32} {Q : Int32 → Mem → Prop} {K2 : Int32 → Mem → Prop} {m : Mem} (hK2 : ∀ (x2 : Int32) (m : Mem), K2 x2 m → V G F M_X5_isNamed sh 0 0 (Zi G F sh Q) 2 [(0, .ref (G.1 + v0)), (1, .int v1), (2, .int x2)] [] m) (h : X5_isNamed_p2b sh v0 v1 Q K2 v2 m) : V G F M_X5_isNamed sh 0 0 (Zi G F sh Q) 2 [(0, .ref (G.1 + v0)), (1, .int v1), (2, .int v2)] [] m := by
  unfold X5_isNamed_p2b at h
  refine v_iload_n 2 2 dX5_isNamed_2 rfl rfl ?_
  refine v_aload_n 0 0 dX5_isNamed_3 rfl rfl ?_
  obtain ⟨o1, h⟩ := h
  refine v_gI 5 3 dX5_isNamed_4 fg_RX5_62 o1 ?_
  refine v_icmp_ge 28 dX5_isNamed_7 (by decide) (fun hc => ?_) (fun hc => ?_)
  · replace h := Eq.mp (if_pos hc) h
    refine v_iconst (0 : Int32) dX5_isNamed_28 (by decide) ?_
    refine v_istore_n (ls' := [(2, .int _), (0, .ref _), (1, .int _)]) 2 dX5_isNamed_29 rfl (Nat.le_of_ble_eq_true rfl) rfl ?_
    refine v_sub [1, 2, 0] rfl ?_
    exact v_X5_isNamed_p30 h
  · replace h := Eq.mp (if_neg hc) h
    refine v_aload_n 0 0 dX5_isNamed_10 rfl rfl ?_
    obtain ⟨b2, e3, h⟩ := h
    refine v_gR 5 8 dX5_isNamed_11 fg_RX5_21 o1 e3 ?_
    refine v_iload_n 2 2 dX5_isNamed_14 rfl rfl ?_
    obtain ⟨i4, h⟩ := h
    refine v_iald dX5_isNamed_15 i4 ?_
    refine v_iload_n 1 1 dX5_isNamed_16 rfl rfl ?_
    refine v_icmp_ne 22 dX5_isNamed_17 (by decide) (fun hc => ?_) (fun hc => ?_)
    · replace h := Eq.mp (if_neg hc) h
      refine v_iinc (ls' := [(2, .int _), (0, .ref _), (1, .int _)]) 2 2 dX5_isNamed_22 rfl (congrArg (HAdd.hAdd _) (by decide : Int32.ofInt (1) = (1 : Int32))) (Nat.le_of_ble_eq_true rfl) rfl ?_
      refine v_goto 2 dX5_isNamed_25 (by decide) ?_
      refine v_sub [1, 2, 0] rfl ?_
      exact hK2 _ _ h
    · replace h := Eq.mp (if_pos hc) h
      refine v_iconst (1 : Int32) dX5_isNamed_20 (by decide) ?_
      exact v_iret dX5_isNamed_21 rfl (by decide) h
set_option maxHeartbeats 4000000 in
set_option maxRecDepth 100000 in
theorem v_X5_isNamed_p2 {G : Gl} {F : Fr} {sh : Shp} {v0 : Nat} {v1 : Int32} {v2 : Int32} {Q : Int32 → Mem → Prop} {m : Mem} (h : X5_isNamed_p2 sh v0 v1 Q v2 m) : V G F M_X5_isNamed sh 0 0 (Zi G F sh Q) 2 [(0, .ref (G.1 + v0)), (1, .int v1), (2, .int v2)] [] m := by
  obtain ⟨n, h⟩ := h
  induction n generalizing v2 m with
  | zero => exact h.elim
  | succ n ih => exact v_X5_isNamed_p2b (fun _ _ h => ih h) h
set_option maxHeartbeats 4000000 in
set_option maxRecDepth 100000 in
theorem c_X5_isNamed {l : Launch} {G : Gl} {sh : Shp} {v0 : Nat} {v1 : Int32} {Q : Int32 → Mem → Prop} {m : Mem} (h : wp_X5_isNamed sh v0 v1 Q m) : Cni l G yX5_isNamed cX5_isNamed 3 (Option.some FieldType.boolean) 1 60 sh [.ref (G.1 + v0), .int v1] m Q := by
  refine con_i (ls := [(0, .ref (G.1 + v0)), (1, .int v1)]) (by decide +kernel) rfl (Nat.le_of_ble_eq_true rfl) (fun F => ?_)
  show V G F M_X5_isNamed sh 0 0 (Zi G F sh Q) 0 [(0, .ref (G.1 + v0)), (1, .int v1)] [] m
  unfold wp_X5_isNamed at h
  refine v_iconst (0 : Int32) dX5_isNamed_0 (by decide) ?_
  refine v_istore_n (ls' := [(2, .int _), (0, .ref _), (1, .int _)]) 2 dX5_isNamed_1 rfl (Nat.le_of_ble_eq_true rfl) rfl ?_
  refine v_sub [1, 2, 0] rfl ?_
  exact v_X5_isNamed_p2 h
