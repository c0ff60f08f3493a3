/-! CalledRiver$Code.add -/
theorem dX0_add_0 : decode cX0_add 0 = .ok (.aload_n 0, 1) := by decide +kernel
theorem dX0_add_1 : decode cX0_add 1 = .ok (.getfield 18, 3) := by decide +kernel
theorem dX0_add_4 : decode cX0_add 4 = .ok (.sipush 1600, 3) := by decide +kernel
theorem dX0_add_7 : decode cX0_add 7 = .ok (.if_icmp .ge 23, 3) := by decide +kernel
theorem dX0_add_10 : decode cX0_add 10 = .ok (.aload_n 0, 1) := by decide +kernel
theorem dX0_add_11 : decode cX0_add 11 = .ok (.getfield 9, 3) := by decide +kernel
theorem dX0_add_14 : decode cX0_add 14 = .ok (.aload_n 0, 1) := by decide +kernel
theorem dX0_add_15 : decode cX0_add 15 = .ok (.getfield 18, 3) := by decide +kernel
theorem dX0_add_18 : decode cX0_add 18 = .ok (.iload_n 1, 1) := by decide +kernel
theorem dX0_add_19 : decode cX0_add 19 = .ok (.iastore, 1) := by decide +kernel
theorem dX0_add_20 : decode cX0_add 20 = .ok (.aload_n 0, 1) := by decide +kernel
theorem dX0_add_21 : decode cX0_add 21 = .ok (.dup, 1) := by decide +kernel
theorem dX0_add_22 : decode cX0_add 22 = .ok (.getfield 18, 3) := by decide +kernel
theorem dX0_add_25 : decode cX0_add 25 = .ok (.iconst 1, 1) := by decide +kernel
theorem dX0_add_26 : decode cX0_add 26 = .ok (.iadd, 1) := by decide +kernel
theorem dX0_add_27 : decode cX0_add 27 = .ok (.putfield 18, 3) := by decide +kernel
theorem dX0_add_30 : decode cX0_add 30 = .ok (.return_, 1) := by decide +kernel
def wp_X0_add (sh : Shp) (v0 : Nat) (v1 : Int32) (Q : Mem → Prop) (m : Mem) : Prop :=
  Ob sh v0 0 ∧ (if (1600 : Int32) ≤ (m.1 v0 2) then (Q m) else (∃ b2 : Nat, m.2.2 v0 0 = some b2 ∧ (Ix sh b2 100 (m.1 v0 2) ∧ bnd (sI m b2 (m.1 v0 2).toNatClampNeg v1) (fun m5 => bnd (sI m5 v0 2 ((m5.1 v0 2) + (1 : Int32))) (fun m6 => Q m6)))))
abbrev M_X0_add : Mi := (cX0_add, 2, RX0, (none : Option FieldType), "add", 1, 60, 0, 0)
set_option maxHeartbeats 4000000 in
set_option maxRecDepth 100000 in
theorem c_X0_add {l : Launch} {G : Gl} {sh : Shp} {v0 : Nat} {v1 : Int32} {Q : Mem → Prop} {m : Mem} (h : wp_X0_add sh v0 v1 Q m) : Cnv l G yX0_add cX0_add 2 (none : Option FieldType) 1 60 sh [.ref (G.1 + v0), .int v1] m Q := by
  refine con_v (ls := [(0, .ref (G.1 + v0)), (1, .int v1)]) (by decide +kernel) rfl (Nat.le_of_ble_eq_true rfl) (fun F => ?_)
  show V G F M_X0_add sh 0 0 (Zv G F sh Q) 0 [(0, .ref (G.1 + v0)), (1, .int v1)] [] m
  unfold wp_X0_add at h
  refine v_aload_n 0 0 dX0_add_0 rfl rfl ?_
  obtain ⟨o1, h⟩ := h
  refine v_gI 0 2 dX0_add_1 fg_RX0_18 o1 ?_
  refine v_sipush (1600 : Int32) dX0_add_4 (by decide) ?_
  refine v_icmp_ge 30 dX0_add_7 (by decide) (fun hc => ?_) (fun hc => ?_)
  · replace h := Eq.mp (if_pos hc) h
    exact v_vret dX0_add_30 rfl h
  · replace h := Eq.mp (if_neg hc) h
    refine v_aload_n 0 0 dX0_add_10 rfl rfl ?_
    obtain ⟨b2, e3, h⟩ := h
    refine v_gR 0 0 dX0_add_11 fg_RX0_9 o1 e3 ?_
    refine v_aload_n 0 0 dX0_add_14 rfl rfl ?_
    refine v_gI 0 2 dX0_add_15 fg_RX0_18 o1 ?_
    refine v_iload_n 1 1 dX0_add_18 rfl rfl ?_
    obtain ⟨i4, h⟩ := h
    refine v_iast dX0_add_19 i4 ?_
    replace h := bnd_e h
    refine v_aload_n 0 0 dX0_add_20 rfl rfl ?_
    refine v_dup dX0_add_21 rfl ?_
    refine v_gI 0 2 dX0_add_22 fg_RX0_18 o1 ?_
    refine v_iconst (1 : Int32) dX0_add_25 (by decide) ?_
    refine v_iadd dX0_add_26 ?_
    refine v_pI 0 2 dX0_add_27 fw_RX0_18 o1 ?_
    replace h := bnd_e h
    exact v_vret dX0_add_30 rfl h
/-! CalledRiver$Code.clear -/
theorem dX0_clear_0 : decode cX0_clear 0 = .ok (.aload_n 0, 1) := by decide +kernel
theorem dX0_clear_1 : decode cX0_clear 1 = .ok (.iconst 0, 1) := by decide +kernel
theorem dX0_clear_2 : decode cX0_clear 2 = .ok (.putfield 18, 3) := by decide +kernel
theorem dX0_clear_5 : decode cX0_clear 5 = .ok (.return_, 1) := by decide +kernel
def wp_X0_clear (sh : Shp) (v0 : Nat) (Q : Mem → Prop) (m : Mem) : Prop :=
  Ob sh v0 0 ∧ bnd (sI m v0 2 (0 : Int32)) (fun m2 => Q m2)
abbrev M_X0_clear : Mi := (cX0_clear, 1, RX0, (none : Option FieldType), "clear", 1, 60, 0, 0)
set_option maxHeartbeats 4000000 in
set_option maxRecDepth 100000 in
theorem c_X0_clear {l : Launch} {G : Gl} {sh : Shp} {v0 : Nat} {Q : Mem → Prop} {m : Mem} (h : wp_X0_clear sh v0 Q m) : Cnv l G yX0_clear cX0_clear 1 (none : Option FieldType) 1 60 sh [.ref (G.1 + v0)] m Q := by
  refine con_v (ls := [(0, .ref (G.1 + v0))]) (by decide +kernel) rfl (Nat.le_of_ble_eq_true rfl) (fun F => ?_)
  show V G F M_X0_clear sh 0 0 (Zv G F sh Q) 0 [(0, .ref (G.1 + v0))] [] m
  unfold wp_X0_clear at h
  refine v_aload_n 0 0 dX0_clear_0 rfl rfl ?_
  refine v_iconst (0 : Int32) dX0_clear_1 (by decide) ?_
  obtain ⟨o1, h⟩ := h
  refine v_pI 0 2 dX0_clear_2 fw_RX0_18 o1 ?_
  replace h := bnd_e h
  exact v_vret dX0_clear_5 rfl h
/-! CalledRiver$Code.held -/
theorem dX0_held_0 : decode cX0_held 0 = .ok (.ldc2_w 46, 3) := by decide +kernel
theorem dX0_held_3 : decode cX0_held 3 = .ok (.lload_n 0, 1) := by decide +kernel
theorem dX0_held_4 : decode cX0_held 4 = .ok (.ldc2_w 48, 3) := by decide +kernel
theorem dX0_held_7 : decode cX0_held 7 = .ok (.invokestatic 40, 3) := by decide +kernel
theorem dX0_held_10 : decode cX0_held 10 = .ok (.invokestatic 43, 3) := by decide +kernel
theorem dX0_held_13 : decode cX0_held 13 = .ok (.l2i, 1) := by decide +kernel
theorem dX0_held_14 : decode cX0_held 14 = .ok (.ireturn, 1) := by decide +kernel
def wp_X0_held (sh : Shp) (v0 : Int64) (Q : Int32 → Mem → Prop) (m : Mem) : Prop :=
  wp_J9_min_f86c9 sh v0 (1000000 : Int64) (fun r1 m2 => wp_J9_max_f86c9 sh (-1000000 : Int64) r1 (fun r3 m4 => Q r3.toInt32 m4) m2) m
abbrev M_X0_held : Mi := (cX0_held, 2, RX0, (Option.some FieldType.int), "held", 2, 83, 0, 0)
set_option maxHeartbeats 4000000 in
set_option maxRecDepth 100000 in
theorem c_X0_held {l : Launch} {G : Gl} {sh : Shp} {v0 : Int64} {Q : Int32 → Mem → Prop} {m : Mem} (h : wp_X0_held sh v0 Q m) : Cni l G yX0_held cX0_held 2 (Option.some FieldType.int) 2 83 sh [.long v0] m Q := by
  refine con_i (ls := [(0, .long v0)]) (by decide +kernel) rfl (Nat.le_of_ble_eq_true rfl) (fun F => ?_)
  show V G F M_X0_held sh 0 0 (Zi G F sh Q) 0 [(0, .long v0)] [] m
  unfold wp_X0_held at h
  refine v_ldc2 (-1000000 : Int64) dX0_held_0 cw_RX0_46 ?_
  refine v_lload_n 0 0 dX0_held_3 rfl rfl ?_
  refine v_ldc2 (1000000 : Int64) dX0_held_4 cw_RX0_48 ?_
  refine v_cSl [.long _, .long _] mv_J9_min_f86c9 ml_RX0_40 rfl rfl (Nat.le_of_ble_eq_true rfl) (Nat.le_of_ble_eq_true rfl) (Nat.le_of_ble_eq_true rfl) (Nat.zero_le _) (Nat.zero_le _) dX0_held_7 (c_J9_min_f86c9 h) (fun r1 m2 h => ?_)
  refine v_cSl [.long _, .long _] mv_J9_max_f86c9 ml_RX0_43 rfl rfl (Nat.le_of_ble_eq_true rfl) (Nat.le_of_ble_eq_true rfl) (Nat.le_of_ble_eq_true rfl) (Nat.zero_le _) (Nat.zero_le _) dX0_held_10 (c_J9_max_f86c9 h) (fun r3 m4 h => ?_)
  refine v_l2i dX0_held_13 ?_
  exact v_iret dX0_held_14 rfl rfl h
/-! CalledRiver$Code.isEmpty -/
theorem dX0_isEmpty_0 : decode cX0_isEmpty 0 = .ok (.aload_n 0, 1) := by decide +kernel
theorem dX0_isEmpty_1 : decode cX0_isEmpty 1 = .ok (.getfield 18, 3) := by decide +kernel
theorem dX0_isEmpty_4 : decode cX0_isEmpty 4 = .ok (.ifCond .ne 7, 3) := by decide +kernel
theorem dX0_isEmpty_7 : decode cX0_isEmpty 7 = .ok (.iconst 1, 1) := by decide +kernel
theorem dX0_isEmpty_8 : decode cX0_isEmpty 8 = .ok (.goto 4, 3) := by decide +kernel
theorem dX0_isEmpty_11 : decode cX0_isEmpty 11 = .ok (.iconst 0, 1) := by decide +kernel
theorem dX0_isEmpty_12 : decode cX0_isEmpty 12 = .ok (.ireturn, 1) := by decide +kernel
def wp_X0_isEmpty (sh : Shp) (v0 : Nat) (Q : Int32 → Mem → Prop) (m : Mem) : Prop :=
  Ob sh v0 0 ∧ (if (m.1 v0 2) = 0 then (Q (1 : Int32) m) else (Q (0 : Int32) m))
abbrev M_X0_isEmpty : Mi := (cX0_isEmpty, 1, RX0, (Option.some FieldType.boolean), "isEmpty", 1, 60, 0, 0)
set_option maxHeartbeats 4000000 in
set_option maxRecDepth 100000 in
theorem c_X0_isEmpty {l : Launch} {G : Gl} {sh : Shp} {v0 : Nat} {Q : Int32 → Mem → Prop} {m : Mem} (h : wp_X0_isEmpty sh v0 Q m) : Cni l G yX0_isEmpty cX0_isEmpty 1 (Option.some FieldType.boolean) 1 60 sh [.ref (G.1 + v0)] m Q := by
  refine con_i (ls := [(0, .ref (G.1 + v0))]) (by decide +kernel) rfl (Nat.le_of_ble_eq_true rfl) (fun F => ?_)
  show V G F M_X0_isEmpty sh 0 0 (Zi G F sh Q) 0 [(0, .ref (G.1 + v0))] [] m
  unfold wp_X0_isEmpty at h
  refine v_aload_n 0 0 dX0_isEmpty_0 rfl rfl ?_
  obtain ⟨o1, h⟩ := h
  refine v_gI 0 2 dX0_isEmpty_1 fg_RX0_18 o1 ?_
  refine v_if_ne 11 dX0_isEmpty_4 (by decide) (fun hc => ?_) (fun hc => ?_)
  · replace h := Eq.mp (if_neg hc) h
    refine v_iconst (0 : Int32) dX0_isEmpty_11 (by decide) ?_
    exact v_iret dX0_isEmpty_12 rfl (by decide) h
  · replace h := Eq.mp (if_pos hc) h
    refine v_iconst (1 : Int32) dX0_isEmpty_7 (by decide) ?_
    refine v_goto 12 dX0_isEmpty_8 (by decide) ?_
    exact v_iret dX0_isEmpty_12 rfl (by decide) h
/-! CalledRiver$Code.ofOne -/
theorem dX0_ofOne_0 : decode cX0_ofOne 0 = .ok (.iload_n 1, 1) := by decide +kernel
theorem dX0_ofOne_1 : decode cX0_ofOne 1 = .ok (.ifCond .lt 12, 3) := by decide +kernel
theorem dX0_ofOne_4 : decode cX0_ofOne 4 = .ok (.iload_n 1, 1) := by decide +kernel
theorem dX0_ofOne_5 : decode cX0_ofOne 5 = .ok (.iconst 5, 1) := by decide +kernel
theorem dX0_ofOne_6 : decode cX0_ofOne 6 = .ok (.if_icmp .ge 7, 3) := by decide +kernel
theorem dX0_ofOne_9 : decode cX0_ofOne 9 = .ok (.iconst 1, 1) := by decide +kernel
theorem dX0_ofOne_10 : decode cX0_ofOne 10 = .ok (.goto 4, 3) := by decide +kernel
theorem dX0_ofOne_13 : decode cX0_ofOne 13 = .ok (.iconst 0, 1) := by decide +kernel
theorem dX0_ofOne_14 : decode cX0_ofOne 14 = .ok (.istore_n 3, 1) := by decide +kernel
theorem dX0_ofOne_15 : decode cX0_ofOne 15 = .ok (.iload_n 0, 1) := by decide +kernel
theorem dX0_ofOne_16 : decode cX0_ofOne 16 = .ok (.tableswitch 62 10023 10025 #[28, 32, 47], 28) := by decide +kernel
theorem dX0_ofOne_44 : decode cX0_ofOne 44 = .ok (.iconst 1, 1) := by decide +kernel
theorem dX0_ofOne_45 : decode cX0_ofOne 45 = .ok (.iload_n 1, 1) := by decide +kernel
theorem dX0_ofOne_46 : decode cX0_ofOne 46 = .ok (.isub, 1) := by decide +kernel
theorem dX0_ofOne_47 : decode cX0_ofOne 47 = .ok (.ireturn, 1) := by decide +kernel
theorem dX0_ofOne_48 : decode cX0_ofOne 48 = .ok (.iload_n 3, 1) := by decide +kernel
theorem dX0_ofOne_49 : decode cX0_ofOne 49 = .ok (.ifCond .eq 12, 3) := by decide +kernel
theorem dX0_ofOne_52 : decode cX0_ofOne 52 = .ok (.aload_n 2, 1) := by decide +kernel
theorem dX0_ofOne_53 : decode cX0_ofOne 53 = .ok (.bipush 13, 2) := by decide +kernel
theorem dX0_ofOne_55 : decode cX0_ofOne 55 = .ok (.iload_n 1, 1) := by decide +kernel
theorem dX0_ofOne_56 : decode cX0_ofOne 56 = .ok (.iadd, 1) := by decide +kernel
theorem dX0_ofOne_57 : decode cX0_ofOne 57 = .ok (.iaload, 1) := by decide +kernel
theorem dX0_ofOne_58 : decode cX0_ofOne 58 = .ok (.goto 4, 3) := by decide +kernel
theorem dX0_ofOne_61 : decode cX0_ofOne 61 = .ok (.iconst 0, 1) := by decide +kernel
theorem dX0_ofOne_62 : decode cX0_ofOne 62 = .ok (.ireturn, 1) := by decide +kernel
theorem dX0_ofOne_63 : decode cX0_ofOne 63 = .ok (.iload_n 3, 1) := by decide +kernel
theorem dX0_ofOne_64 : decode cX0_ofOne 64 = .ok (.ifCond .eq 12, 3) := by decide +kernel
theorem dX0_ofOne_67 : decode cX0_ofOne 67 = .ok (.aload_n 2, 1) := by decide +kernel
theorem dX0_ofOne_68 : decode cX0_ofOne 68 = .ok (.bipush 18, 2) := by decide +kernel
theorem dX0_ofOne_70 : decode cX0_ofOne 70 = .ok (.iload_n 1, 1) := by decide +kernel
theorem dX0_ofOne_71 : decode cX0_ofOne 71 = .ok (.iadd, 1) := by decide +kernel
theorem dX0_ofOne_72 : decode cX0_ofOne 72 = .ok (.iaload, 1) := by decide +kernel
theorem dX0_ofOne_73 : decode cX0_ofOne 73 = .ok (.goto 4, 3) := by decide +kernel
theorem dX0_ofOne_76 : decode cX0_ofOne 76 = .ok (.iconst (-1), 1) := by decide +kernel
theorem dX0_ofOne_77 : decode cX0_ofOne 77 = .ok (.ireturn, 1) := by decide +kernel
theorem dX0_ofOne_78 : decode cX0_ofOne 78 = .ok (.iload_n 1, 1) := by decide +kernel
theorem dX0_ofOne_79 : decode cX0_ofOne 79 = .ok (.ireturn, 1) := by decide +kernel
def X0_ofOne_p14 (sh : Shp) (v0 : Int32) (v1 : Int32) (v2 : Nat) (s0 : Int32) (Q : Int32 → Mem → Prop) (m : Mem) : Prop :=
  if v0 = (10023 : Int32) then (Q ((1 : Int32) - v1) m) else if v0 = (10024 : Int32) then (if s0 = 0 then (Q (0 : Int32) m) else (Ix sh v2 100 ((13 : Int32) + v1) ∧ (Q (m.1 v2 ((13 : Int32) + v1).toNatClampNeg) m))) else if v0 = (10025 : Int32) then (if s0 = 0 then (Q (-1 : Int32) m) else (Ix sh v2 100 ((18 : Int32) + v1) ∧ (Q (m.1 v2 ((18 : Int32) + v1).toNatClampNeg) m))) else (Q v1 m)
def X0_ofOne_p13 (sh : Shp) (v0 : Int32) (v1 : Int32) (v2 : Nat) (Q : Int32 → Mem → Prop) (m : Mem) : Prop :=
  X0_ofOne_p14 sh v0 v1 v2 (0 : Int32) Q m
def wp_X0_ofOne (sh : Shp) (v0 : Int32) (v1 : Int32) (v2 : Nat) (Q : Int32 → Mem → Prop) (m : Mem) : Prop :=
  if v1 < 0 then (X0_ofOne_p13 sh v0 v1 v2 Q m) else (if (5 : Int32) ≤ v1 then (X0_ofOne_p13 sh v0 v1 v2 Q m) else (X0_ofOne_p14 sh v0 v1 v2 (1 : Int32) Q m))
abbrev M_X0_ofOne : Mi := (cX0_ofOne, 4, RX0, (Option.some FieldType.int), "ofOne", 1, 60, 0, 0)
set_option maxHeartbeats 4000000 in
set_option maxRecDepth 100000 in
theorem v_X0_ofOne_p14 {G : Gl} {F : Fr} {sh : Shp} {v0 : Int32} {v1 : Int32} {v2 : Nat} {s0 : Int32} {Q : Int32 → Mem → Prop} {m : Mem} (h : X0_ofOne_p14 sh v0 v1 v2 s0 Q m) : V G F M_X0_ofOne sh 0 0 (Zi G F sh Q) 14 [(0, .int v0), (1, .int v1), (2, .ref (G.1 + v2))] [.int s0] m := by
  unfold X0_ofOne_p14 at h
  refine v_istore_n (ls' := [(3, .int _), (0, .int _), (1, .int _), (2, .ref _)]) 3 dX0_ofOne_14 rfl (Nat.le_of_ble_eq_true rfl) rfl ?_
  refine v_iload_n 0 1 dX0_ofOne_15 rfl rfl ?_
  by_cases hc0 : v0 = (10023 : Int32)
  · replace h := Eq.mp (if_pos hc0) h
    refine v_tabK (10023 : Int32) hc0 44 dX0_ofOne_16 (by decide) (by decide) rfl (by decide) ?_
    refine v_iconst (1 : Int32) dX0_ofOne_44 (by decide) ?_
    refine v_iload_n 1 2 dX0_ofOne_45 rfl rfl ?_
    refine v_isub dX0_ofOne_46 ?_
    exact v_iret dX0_ofOne_47 rfl rfl h
  replace h := Eq.mp (if_neg hc0) h
  by_cases hc1 : v0 = (10024 : Int32)
  · replace h := Eq.mp (if_pos hc1) h
    refine v_tabK (10024 : Int32) hc1 48 dX0_ofOne_16 (by decide) (by decide) rfl (by decide) ?_
    refine v_iload_n 3 0 dX0_ofOne_48 rfl rfl ?_
    refine v_if_eq 61 dX0_ofOne_49 (by decide) (fun hc => ?_) (fun hc => ?_)
    · replace h := Eq.mp (if_pos hc) h
      refine v_iconst (0 : Int32) dX0_ofOne_61 (by decide) ?_
      exact v_iret dX0_ofOne_62 rfl rfl h
    · replace h := Eq.mp (if_neg hc) h
      refine v_aload_n 2 3 dX0_ofOne_52 rfl rfl ?_
      refine v_bipush (13 : Int32) dX0_ofOne_53 (by decide) ?_
      refine v_iload_n 1 2 dX0_ofOne_55 rfl rfl ?_
      refine v_iadd dX0_ofOne_56 ?_
      obtain ⟨i1, h⟩ := h
      refine v_iald dX0_ofOne_57 i1 ?_
      refine v_goto 62 dX0_ofOne_58 (by decide) ?_
      exact v_iret dX0_ofOne_62 rfl rfl h
  replace h := Eq.mp (if_neg hc1) h
  by_cases hc2 : v0 = (10025 : Int32)
  · replace h := Eq.mp (if_pos hc2) h
    refine v_tabK (10025 : Int32) hc2 63 dX0_ofOne_16 (by decide) (by decide) rfl (by decide) ?_
    refine v_iload_n 3 0 dX0_ofOne_63 rfl rfl ?_
    refine v_if_eq 76 dX0_ofOne_64 (by decide) (fun hc => ?_) (fun hc => ?_)
    · replace h := Eq.mp (if_pos hc) h
      refine v_iconst (-1 : Int32) dX0_ofOne_76 (by decide) ?_
      exact v_iret dX0_ofOne_77 rfl rfl h
    · replace h := Eq.mp (if_neg hc) h
      refine v_aload_n 2 3 dX0_ofOne_67 rfl rfl ?_
      refine v_bipush (18 : Int32) dX0_ofOne_68 (by decide) ?_
      refine v_iload_n 1 2 dX0_ofOne_70 rfl rfl ?_
      refine v_iadd dX0_ofOne_71 ?_
      obtain ⟨i2, h⟩ := h
      refine v_iald dX0_ofOne_72 i2 ?_
      refine v_goto 77 dX0_ofOne_73 (by decide) ?_
      exact v_iret dX0_ofOne_77 rfl rfl h
  replace h := Eq.mp (if_neg hc2) h
  refine v_tabOut 78 dX0_ofOne_16 (by have := lv_neT hc0 (a := 10023) (by decide); have := lv_neT hc1 (a := 10024) (by decide); have := lv_neT hc2 (a := 10025) (by decide); omega) (by decide) ?_
  refine v_iload_n 1 2 dX0_ofOne_78 rfl rfl ?_
  exact v_iret dX0_ofOne_79 rfl rfl h
set_option maxHeartbeats 4000000 in
set_option maxRecDepth 100000 in
theorem v_X0_ofOne_p13 {G : Gl} {F : Fr} {sh : Shp} {v0 : Int32} {v1 : Int32} {v2 : Nat} {Q : Int32 → Mem → Prop} {m : Mem} (h : X0_ofOne_p13 sh v0 v1 v2 Q m) : V G F M_X0_ofOne sh 0 0 (Zi G F sh Q) 13 [(0, .int v0), (1, .int v1), (2, .ref (G.1 + v2))] [] m := by
  unfold X0_ofOne_p13 at h
  refine v_iconst (0 : Int32) dX0_ofOne_13 (by decide) ?_
  refine v_sub [0, 1, 2] rfl ?_
  exact v_X0_ofOne_p14 h
set_option maxHeartbeats 4000000 in
set_option maxRecDepth 100000 in
theorem c_X0_ofOne {l : Launch} {G : Gl} {sh : Shp} {v0 : Int32} {v1 : Int32} {v2 : Nat} {Q : Int32 → Mem → Prop} {m : Mem} (h : wp_X0_ofOne sh v0 v1 v2 Q m) : Cni l G yX0_ofOne cX0_ofOne 4 (Option.some FieldType.int) 1 60 sh [.int v0, .int v1, .ref (G.1 + v2)] m Q := by
  refine con_i (ls := [(0, .int v0), (1, .int v1), (2, .ref (G.1 + v2))]) (by decide +kernel) rfl (Nat.le_of_ble_eq_true rfl) (fun F => ?_)
  show V G F M_X0_ofOne sh 0 0 (Zi G F sh Q) 0 [(0, .int v0), (1, .int v1), (2, .ref (G.1 + v2))] [] m
  unfold wp_X0_ofOne at h
  refine v_iload_n 1 1 dX0_ofOne_0 rfl rfl ?_
  refine v_if_lt 13 dX0_ofOne_1 (by decide) (fun hc => ?_) (fun hc => ?_)
  · replace h := Eq.mp (if_pos hc) h
    refine v_sub [0, 1, 2] rfl ?_
    exact v_X0_ofOne_p13 h
  · replace h := Eq.mp (if_neg hc) h
    refine v_iload_n 1 1 dX0_ofOne_4 rfl rfl ?_
    refine v_iconst (5 : Int32) dX0_ofOne_5 (by decide) ?_
    refine v_icmp_ge 13 dX0_ofOne_6 (by decide) (fun hc => ?_) (fun hc => ?_)
    · replace h := Eq.mp (if_pos hc) h
      refine v_sub [0, 1, 2] rfl ?_
      exact v_X0_ofOne_p13 h
    · replace h := Eq.mp (if_neg hc) h
      refine v_iconst (1 : Int32) dX0_ofOne_9 (by decide) ?_
      refine v_goto 14 dX0_ofOne_10 (by decide) ?_
      refine v_sub [0, 1, 2] rfl ?_
      exact v_X0_ofOne_p14 h
/-! CalledRiver$Code.ofTwo -/
theorem dX0_ofTwo_0 : decode cX0_ofTwo 0 = .ok (.iload_n 0, 1) := by decide +kernel
theorem dX0_ofTwo_1 : decode cX0_ofTwo 1 = .ok (.tableswitch 127 10026 10034 #[51, 55, 59, 63, 79, 85, 91, 103, 115], 51) := by decide +kernel
theorem dX0_ofTwo_52 : decode cX0_ofTwo 52 = .ok (.lload_n 1, 1) := by decide +kernel
theorem dX0_ofTwo_53 : decode cX0_ofTwo 53 = .ok (.lload_n 3, 1) := by decide +kernel
theorem dX0_ofTwo_54 : decode cX0_ofTwo 54 = .ok (.ladd, 1) := by decide +kernel
theorem dX0_ofTwo_55 : decode cX0_ofTwo 55 = .ok (.lreturn, 1) := by decide +kernel
theorem dX0_ofTwo_56 : decode cX0_ofTwo 56 = .ok (.lload_n 1, 1) := by decide +kernel
theorem dX0_ofTwo_57 : decode cX0_ofTwo 57 = .ok (.lload_n 3, 1) := by decide +kernel
theorem dX0_ofTwo_58 : decode cX0_ofTwo 58 = .ok (.lsub, 1) := by decide +kernel
theorem dX0_ofTwo_59 : decode cX0_ofTwo 59 = .ok (.lreturn, 1) := by decide +kernel
theorem dX0_ofTwo_60 : decode cX0_ofTwo 60 = .ok (.lload_n 1, 1) := by decide +kernel
theorem dX0_ofTwo_61 : decode cX0_ofTwo 61 = .ok (.lload_n 3, 1) := by decide +kernel
theorem dX0_ofTwo_62 : decode cX0_ofTwo 62 = .ok (.lmul, 1) := by decide +kernel
theorem dX0_ofTwo_63 : decode cX0_ofTwo 63 = .ok (.lreturn, 1) := by decide +kernel
theorem dX0_ofTwo_64 : decode cX0_ofTwo 64 = .ok (.lload_n 3, 1) := by decide +kernel
theorem dX0_ofTwo_65 : decode cX0_ofTwo 65 = .ok (.lconst 0, 1) := by decide +kernel
theorem dX0_ofTwo_66 : decode cX0_ofTwo 66 = .ok (.lcmp, 1) := by decide +kernel
theorem dX0_ofTwo_67 : decode cX0_ofTwo 67 = .ok (.ifCond .ne 7, 3) := by decide +kernel
theorem dX0_ofTwo_70 : decode cX0_ofTwo 70 = .ok (.lconst 0, 1) := by decide +kernel
theorem dX0_ofTwo_71 : decode cX0_ofTwo 71 = .ok (.goto 8, 3) := by decide +kernel
theorem dX0_ofTwo_74 : decode cX0_ofTwo 74 = .ok (.lload_n 1, 1) := by decide +kernel
theorem dX0_ofTwo_75 : decode cX0_ofTwo 75 = .ok (.lload_n 3, 1) := by decide +kernel
theorem dX0_ofTwo_76 : decode cX0_ofTwo 76 = .ok (.invokestatic 34, 3) := by decide +kernel
theorem dX0_ofTwo_79 : decode cX0_ofTwo 79 = .ok (.lreturn, 1) := by decide +kernel
theorem dX0_ofTwo_80 : decode cX0_ofTwo 80 = .ok (.lload_n 1, 1) := by decide +kernel
theorem dX0_ofTwo_81 : decode cX0_ofTwo 81 = .ok (.lload_n 3, 1) := by decide +kernel
theorem dX0_ofTwo_82 : decode cX0_ofTwo 82 = .ok (.invokestatic 40, 3) := by decide +kernel
theorem dX0_ofTwo_85 : decode cX0_ofTwo 85 = .ok (.lreturn, 1) := by decide +kernel
theorem dX0_ofTwo_86 : decode cX0_ofTwo 86 = .ok (.lload_n 1, 1) := by decide +kernel
theorem dX0_ofTwo_87 : decode cX0_ofTwo 87 = .ok (.lload_n 3, 1) := by decide +kernel
theorem dX0_ofTwo_88 : decode cX0_ofTwo 88 = .ok (.invokestatic 43, 3) := by decide +kernel
theorem dX0_ofTwo_91 : decode cX0_ofTwo 91 = .ok (.lreturn, 1) := by decide +kernel
theorem dX0_ofTwo_92 : decode cX0_ofTwo 92 = .ok (.lload_n 1, 1) := by decide +kernel
theorem dX0_ofTwo_93 : decode cX0_ofTwo 93 = .ok (.lload_n 3, 1) := by decide +kernel
theorem dX0_ofTwo_94 : decode cX0_ofTwo 94 = .ok (.lcmp, 1) := by decide +kernel
theorem dX0_ofTwo_95 : decode cX0_ofTwo 95 = .ok (.ifCond .ge 7, 3) := by decide +kernel
theorem dX0_ofTwo_98 : decode cX0_ofTwo 98 = .ok (.lconst 1, 1) := by decide +kernel
theorem dX0_ofTwo_99 : decode cX0_ofTwo 99 = .ok (.goto 4, 3) := by decide +kernel
theorem dX0_ofTwo_102 : decode cX0_ofTwo 102 = .ok (.lconst 0, 1) := by decide +kernel
theorem dX0_ofTwo_103 : decode cX0_ofTwo 103 = .ok (.lreturn, 1) := by decide +kernel
theorem dX0_ofTwo_104 : decode cX0_ofTwo 104 = .ok (.lload_n 1, 1) := by decide +kernel
theorem dX0_ofTwo_105 : decode cX0_ofTwo 105 = .ok (.lload_n 3, 1) := by decide +kernel
theorem dX0_ofTwo_106 : decode cX0_ofTwo 106 = .ok (.lcmp, 1) := by decide +kernel
theorem dX0_ofTwo_107 : decode cX0_ofTwo 107 = .ok (.ifCond .le 7, 3) := by decide +kernel
theorem dX0_ofTwo_110 : decode cX0_ofTwo 110 = .ok (.lconst 1, 1) := by decide +kernel
theorem dX0_ofTwo_111 : decode cX0_ofTwo 111 = .ok (.goto 4, 3) := by decide +kernel
theorem dX0_ofTwo_114 : decode cX0_ofTwo 114 = .ok (.lconst 0, 1) := by decide +kernel
theorem dX0_ofTwo_115 : decode cX0_ofTwo 115 = .ok (.lreturn, 1) := by decide +kernel
theorem dX0_ofTwo_116 : decode cX0_ofTwo 116 = .ok (.lload_n 1, 1) := by decide +kernel
theorem dX0_ofTwo_117 : decode cX0_ofTwo 117 = .ok (.lload_n 3, 1) := by decide +kernel
theorem dX0_ofTwo_118 : decode cX0_ofTwo 118 = .ok (.lcmp, 1) := by decide +kernel
theorem dX0_ofTwo_119 : decode cX0_ofTwo 119 = .ok (.ifCond .ne 7, 3) := by decide +kernel
theorem dX0_ofTwo_122 : decode cX0_ofTwo 122 = .ok (.lconst 1, 1) := by decide +kernel
theorem dX0_ofTwo_123 : decode cX0_ofTwo 123 = .ok (.goto 4, 3) := by decide +kernel
theorem dX0_ofTwo_126 : decode cX0_ofTwo 126 = .ok (.lconst 0, 1) := by decide +kernel
theorem dX0_ofTwo_127 : decode cX0_ofTwo 127 = .ok (.lreturn, 1) := by decide +kernel
theorem dX0_ofTwo_128 : decode cX0_ofTwo 128 = .ok (.lload_n 1, 1) := by decide +kernel
theorem dX0_ofTwo_129 : decode cX0_ofTwo 129 = .ok (.lreturn, 1) := by decide +kernel
def wp_X0_ofTwo (sh : Shp) (v0 : Int32) (v1 : Int64) (v3 : Int64) (Q : Int64 → Mem → Prop) (m : Mem) : Prop :=
  if v0 = (10026 : Int32) then (Q (v1 + v3) m) else if v0 = (10027 : Int32) then (Q (v1 - v3) m) else if v0 = (10028 : Int32) then (Q (v1 * v3) m) else if v0 = (10029 : Int32) then (if (lg_cmp v3 (0 : Int64)) = 0 then (Q (0 : Int64) m) else (wp_J9_floorDiv_f86c9 sh v1 v3 (fun r1 m2 => Q r1 m2) m)) else if v0 = (10030 : Int32) then (wp_J9_min_f86c9 sh v1 v3 (fun r3 m4 => Q r3 m4) m) else if v0 = (10031 : Int32) then (wp_J9_max_f86c9 sh v1 v3 (fun r5 m6 => Q r5 m6) m) else if v0 = (10032 : Int32) then (if 0 ≤ (lg_cmp v1 v3) then (Q (0 : Int64) m) else (Q (1 : Int64) m)) else if v0 = (10033 : Int32) then (if (lg_cmp v1 v3) ≤ 0 then (Q (0 : Int64) m) else (Q (1 : Int64) m)) else if v0 = (10034 : Int32) then (if (lg_cmp v1 v3) = 0 then (Q (1 : Int64) m) else (Q (0 : Int64) m)) else (Q v1 m)
abbrev M_X0_ofTwo : Mi := (cX0_ofTwo, 5, RX0, (Option.some FieldType.long), "ofTwo", 2, 85, 0, 0)
set_option maxHeartbeats 4000000 in
set_option maxRecDepth 100000 in
theorem c_X0_ofTwo {l : Launch} {G : Gl} {sh : Shp} {v0 : Int32} {v1 : Int64} {v3 : Int64} {Q : Int64 → Mem → Prop} {m : Mem} (h : wp_X0_ofTwo sh v0 v1 v3 Q m) : Cnl l G yX0_ofTwo cX0_ofTwo 5 (Option.some FieldType.long) 2 85 sh [.int v0, .long v1, .long v3] m Q := by
  refine con_l (ls := [(0, .int v0), (1, .long v1), (3, .long v3)]) (by decide +kernel) rfl (Nat.le_of_ble_eq_true rfl) (fun F => ?_)
  show V G F M_X0_ofTwo sh 0 0 (Zl G F sh Q) 0 [(0, .int v0), (1, .long v1), (3, .long v3)] [] m
  unfold wp_X0_ofTwo at h
  refine v_iload_n 0 0 dX0_ofTwo_0 rfl rfl ?_
  by_cases hc0 : v0 = (10026 : Int32)
  · replace h := Eq.mp (if_pos hc0) h
    refine v_tabK (10026 : Int32) hc0 52 dX0_ofTwo_1 (by decide) (by decide) rfl (by decide) ?_
    refine v_lload_n 1 1 dX0_ofTwo_52 rfl rfl ?_
    refine v_lload_n 3 2 dX0_ofTwo_53 rfl rfl ?_
    refine v_ladd dX0_ofTwo_54 ?_
    exact v_lret dX0_ofTwo_55 rfl h
  replace h := Eq.mp (if_neg hc0) h
  by_cases hc1 : v0 = (10027 : Int32)
  · replace h := Eq.mp (if_pos hc1) h
    refine v_tabK (10027 : Int32) hc1 56 dX0_ofTwo_1 (by decide) (by decide) rfl (by decide) ?_
    refine v_lload_n 1 1 dX0_ofTwo_56 rfl rfl ?_
    refine v_lload_n 3 2 dX0_ofTwo_57 rfl rfl ?_
    refine v_lsub dX0_ofTwo_58 ?_
    exact v_lret dX0_ofTwo_59 rfl h
  replace h := Eq.mp (if_neg hc1) h
  by_cases hc2 : v0 = (10028 : Int32)
  · replace h := Eq.mp (if_pos hc2) h
    refine v_tabK (10028 : Int32) hc2 60 dX0_ofTwo_1 (by decide) (by decide) rfl (by decide) ?_
    refine v_lload_n 1 1 dX0_ofTwo_60 rfl rfl ?_
    refine v_lload_n 3 2 dX0_ofTwo_61 rfl rfl ?_
    refine v_lmul dX0_ofTwo_62 ?_
    exact v_lret dX0_ofTwo_63 rfl h
  replace h := Eq.mp (if_neg hc2) h
  by_cases hc3 : v0 = (10029 : Int32)
  · replace h := Eq.mp (if_pos hc3) h
    refine v_tabK (10029 : Int32) hc3 64 dX0_ofTwo_1 (by decide) (by decide) rfl (by decide) ?_
    refine v_lload_n 3 2 dX0_ofTwo_64 rfl rfl ?_
    refine v_lconst (0 : Int64) dX0_ofTwo_65 (by decide) ?_
    refine v_lcmp dX0_ofTwo_66 ?_
    refine v_if_ne 74 dX0_ofTwo_67 (by decide) (fun hc => ?_) (fun hc => ?_)
    · replace h := Eq.mp (if_neg hc) h
      refine v_lload_n 1 1 dX0_ofTwo_74 rfl rfl ?_
      refine v_lload_n 3 2 dX0_ofTwo_75 rfl rfl ?_
      refine v_cSl [.long _, .long _] mv_J9_floorDiv_f86c9 ml_RX0_34 rfl rfl (Nat.le_of_ble_eq_true rfl) (Nat.le_of_ble_eq_true rfl) (Nat.le_of_ble_eq_true rfl) (Nat.zero_le _) (Nat.zero_le _) dX0_ofTwo_76 (c_J9_floorDiv_f86c9 h) (fun r1 m2 h => ?_)
      exact v_lret dX0_ofTwo_79 rfl h
    · replace h := Eq.mp (if_pos hc) h
      refine v_lconst (0 : Int64) dX0_ofTwo_70 (by decide) ?_
      refine v_goto 79 dX0_ofTwo_71 (by decide) ?_
      exact v_lret dX0_ofTwo_79 rfl h
  replace h := Eq.mp (if_neg hc3) h
  by_cases hc4 : v0 = (10030 : Int32)
  · replace h := Eq.mp (if_pos hc4) h
    refine v_tabK (10030 : Int32) hc4 80 dX0_ofTwo_1 (by decide) (by decide) rfl (by decide) ?_
    refine v_lload_n 1 1 dX0_ofTwo_80 rfl rfl ?_
    refine v_lload_n 3 2 dX0_ofTwo_81 rfl rfl ?_
    refine v_cSl [.long _, .long _] mv_J9_min_f86c9 ml_RX0_40 rfl rfl (Nat.le_of_ble_eq_true rfl) (Nat.le_of_ble_eq_true rfl) (Nat.le_of_ble_eq_true rfl) (Nat.zero_le _) (Nat.zero_le _) dX0_ofTwo_82 (c_J9_min_f86c9 h) (fun r3 m4 h => ?_)
    exact v_lret dX0_ofTwo_85 rfl h
  replace h := Eq.mp (if_neg hc4) h
  by_cases hc5 : v0 = (10031 : Int32)
  · replace h := Eq.mp (if_pos hc5) h
    refine v_tabK (10031 : Int32) hc5 86 dX0_ofTwo_1 (by decide) (by decide) rfl (by decide) ?_
    refine v_lload_n 1 1 dX0_ofTwo_86 rfl rfl ?_
    refine v_lload_n 3 2 dX0_ofTwo_87 rfl rfl ?_
    refine v_cSl [.long _, .long _] mv_J9_max_f86c9 ml_RX0_43 rfl rfl (Nat.le_of_ble_eq_true rfl) (Nat.le_of_ble_eq_true rfl) (Nat.le_of_ble_eq_true rfl) (Nat.zero_le _) (Nat.zero_le _) dX0_ofTwo_88 (c_J9_max_f86c9 h) (fun r5 m6 h => ?_)
    exact v_lret dX0_ofTwo_91 rfl h
  replace h := Eq.mp (if_neg hc5) h
  by_cases hc6 : v0 = (10032 : Int32)
  · replace h := Eq.mp (if_pos hc6) h
    refine v_tabK (10032 : Int32) hc6 92 dX0_ofTwo_1 (by decide) (by decide) rfl (by decide) ?_
    refine v_lload_n 1 1 dX0_ofTwo_92 rfl rfl ?_
    refine v_lload_n 3 2 dX0_ofTwo_93 rfl rfl ?_
    refine v_lcmp dX0_ofTwo_94 ?_
    refine v_if_ge 102 dX0_ofTwo_95 (by decide) (fun hc => ?_) (fun hc => ?_)
    · replace h := Eq.mp (if_pos hc) h
      refine v_lconst (0 : Int64) dX0_ofTwo_102 (by decide) ?_
      exact v_lret dX0_ofTwo_103 rfl h
    · replace h := Eq.mp (if_neg hc) h
      refine v_lconst (1 : Int64) dX0_ofTwo_98 (by decide) ?_
      refine v_goto 103 dX0_ofTwo_99 (by decide) ?_
      exact v_lret dX0_ofTwo_103 rfl h
  replace h := Eq.mp (if_neg hc6) h
  by_cases hc7 : v0 = (10033 : Int32)
  · replace h := Eq.mp (if_pos hc7) h
    refine v_tabK (10033 : Int32) hc7 104 dX0_ofTwo_1 (by decide) (by decide) rfl (by decide) ?_
    refine v_lload_n 1 1 dX0_ofTwo_104 rfl rfl ?_
    refine v_lload_n 3 2 dX0_ofTwo_105 rfl rfl ?_
    refine v_lcmp dX0_ofTwo_106 ?_
    refine v_if_le 114 dX0_ofTwo_107 (by decide) (fun hc => ?_) (fun hc => ?_)
    · replace h := Eq.mp (if_pos hc) h
      refine v_lconst (0 : Int64) dX0_ofTwo_114 (by decide) ?_
      exact v_lret dX0_ofTwo_115 rfl h
    · replace h := Eq.mp (if_neg hc) h
      refine v_lconst (1 : Int64) dX0_ofTwo_110 (by decide) ?_
      refine v_goto 115 dX0_ofTwo_111 (by decide) ?_
      exact v_lret dX0_ofTwo_115 rfl h
  replace h := Eq.mp (if_neg hc7) h
  by_cases hc8 : v0 = (10034 : Int32)
  · replace h := Eq.mp (if_pos hc8) h
    refine v_tabK (10034 : Int32) hc8 116 dX0_ofTwo_1 (by decide) (by decide) rfl (by decide) ?_
    refine v_lload_n 1 1 dX0_ofTwo_116 rfl rfl ?_
    refine v_lload_n 3 2 dX0_ofTwo_117 rfl rfl ?_
    refine v_lcmp dX0_ofTwo_118 ?_
    refine v_if_ne 126 dX0_ofTwo_119 (by decide) (fun hc => ?_) (fun hc => ?_)
    · replace h := Eq.mp (if_neg hc) h
      refine v_lconst (0 : Int64) dX0_ofTwo_126 (by decide) ?_
      exact v_lret dX0_ofTwo_127 rfl h
    · replace h := Eq.mp (if_pos hc) h
      refine v_lconst (1 : Int64) dX0_ofTwo_122 (by decide) ?_
      refine v_goto 127 dX0_ofTwo_123 (by decide) ?_
      exact v_lret dX0_ofTwo_127 rfl h
  replace h := Eq.mp (if_neg hc8) h
  refine v_tabOut 128 dX0_ofTwo_1 (by have := lv_neT hc0 (a := 10026) (by decide); have := lv_neT hc1 (a := 10027) (by decide); have := lv_neT hc2 (a := 10028) (by decide); have := lv_neT hc3 (a := 10029) (by decide); have := lv_neT hc4 (a := 10030) (by decide); have := lv_neT hc5 (a := 10031) (by decide); have := lv_neT hc6 (a := 10032) (by decide); have := lv_neT hc7 (a := 10033) (by decide); have := lv_neT hc8 (a := 10034) (by decide); omega) (by decide) ?_
  refine v_lload_n 1 1 dX0_ofTwo_128 rfl rfl ?_
  exact v_lret dX0_ofTwo_129 rfl h
/-! CalledRiver$Code.worth -/
theorem dX0_worth_0 : decode cX0_worth 0 = .ok (.iconst 0, 1) := by decide +kernel
theorem dX0_worth_1 : decode cX0_worth 1 = .ok (.istore_n 2, 1) := by decide +kernel
theorem dX0_worth_2 : decode cX0_worth 2 = .ok (.iconst 0, 1) := by decide +kernel
theorem dX0_worth_3 : decode cX0_worth 3 = .ok (.istore_n 3, 1) := by decide +kernel
theorem dX0_worth_4 : decode cX0_worth 4 = .ok (.iload_n 3, 1) := by decide +kernel
theorem dX0_worth_5 : decode cX0_worth 5 = .ok (.aload_n 0, 1) := by decide +kernel
theorem dX0_worth_6 : decode cX0_worth 6 = .ok (.getfield 18, 3) := by decide +kernel
theorem dX0_worth_9 : decode cX0_worth 9 = .ok (.if_icmp .ge 141, 3) := by decide +kernel
theorem dX0_worth_12 : decode cX0_worth 12 = .ok (.aload_n 0, 1) := by decide +kernel
theorem dX0_worth_13 : decode cX0_worth 13 = .ok (.getfield 9, 3) := by decide +kernel
theorem dX0_worth_16 : decode cX0_worth 16 = .ok (.iload_n 3, 1) := by decide +kernel
theorem dX0_worth_17 : decode cX0_worth 17 = .ok (.iaload, 1) := by decide +kernel
theorem dX0_worth_18 : decode cX0_worth 18 = .ok (.istore 4, 2) := by decide +kernel
theorem dX0_worth_20 : decode cX0_worth 20 = .ok (.iload 4, 2) := by decide +kernel
theorem dX0_worth_22 : decode cX0_worth 22 = .ok (.sipush 10023, 3) := by decide +kernel
theorem dX0_worth_25 : decode cX0_worth 25 = .ok (.if_icmp .ge 42, 3) := by decide +kernel
theorem dX0_worth_28 : decode cX0_worth 28 = .ok (.iload_n 2, 1) := by decide +kernel
theorem dX0_worth_29 : decode cX0_worth 29 = .ok (.bipush 64, 2) := by decide +kernel
theorem dX0_worth_31 : decode cX0_worth 31 = .ok (.if_icmp .ge 113, 3) := by decide +kernel
theorem dX0_worth_34 : decode cX0_worth 34 = .ok (.aload_n 0, 1) := by decide +kernel
theorem dX0_worth_35 : decode cX0_worth 35 = .ok (.getfield 15, 3) := by decide +kernel
theorem dX0_worth_38 : decode cX0_worth 38 = .ok (.iload_n 2, 1) := by decide +kernel
theorem dX0_worth_39 : decode cX0_worth 39 = .ok (.iload 4, 2) := by decide +kernel
theorem dX0_worth_41 : decode cX0_worth 41 = .ok (.sipush 10000, 3) := by decide +kernel
theorem dX0_worth_44 : decode cX0_worth 44 = .ok (.if_icmp .ge 8, 3) := by decide +kernel
theorem dX0_worth_47 : decode cX0_worth 47 = .ok (.iload 4, 2) := by decide +kernel
theorem dX0_worth_49 : decode cX0_worth 49 = .ok (.goto 11, 3) := by decide +kernel
theorem dX0_worth_52 : decode cX0_worth 52 = .ok (.aload_n 1, 1) := by decide +kernel
theorem dX0_worth_53 : decode cX0_worth 53 = .ok (.iload 4, 2) := by decide +kernel
theorem dX0_worth_55 : decode cX0_worth 55 = .ok (.sipush 10000, 3) := by decide +kernel
theorem dX0_worth_58 : decode cX0_worth 58 = .ok (.isub, 1) := by decide +kernel
theorem dX0_worth_59 : decode cX0_worth 59 = .ok (.iaload, 1) := by decide +kernel
theorem dX0_worth_60 : decode cX0_worth 60 = .ok (.iastore, 1) := by decide +kernel
theorem dX0_worth_61 : decode cX0_worth 61 = .ok (.iinc 2 1, 3) := by decide +kernel
theorem dX0_worth_64 : decode cX0_worth 64 = .ok (.goto 80, 3) := by decide +kernel
theorem dX0_worth_67 : decode cX0_worth 67 = .ok (.iload 4, 2) := by decide +kernel
theorem dX0_worth_69 : decode cX0_worth 69 = .ok (.sipush 10026, 3) := by decide +kernel
theorem dX0_worth_72 : decode cX0_worth 72 = .ok (.if_icmp .ge 32, 3) := by decide +kernel
theorem dX0_worth_75 : decode cX0_worth 75 = .ok (.iload_n 2, 1) := by decide +kernel
theorem dX0_worth_76 : decode cX0_worth 76 = .ok (.ifCond .le 68, 3) := by decide +kernel
theorem dX0_worth_79 : decode cX0_worth 79 = .ok (.aload_n 0, 1) := by decide +kernel
theorem dX0_worth_80 : decode cX0_worth 80 = .ok (.getfield 15, 3) := by decide +kernel
theorem dX0_worth_83 : decode cX0_worth 83 = .ok (.iload_n 2, 1) := by decide +kernel
theorem dX0_worth_84 : decode cX0_worth 84 = .ok (.iconst 1, 1) := by decide +kernel
theorem dX0_worth_85 : decode cX0_worth 85 = .ok (.isub, 1) := by decide +kernel
theorem dX0_worth_86 : decode cX0_worth 86 = .ok (.iload 4, 2) := by decide +kernel
theorem dX0_worth_88 : decode cX0_worth 88 = .ok (.aload_n 0, 1) := by decide +kernel
theorem dX0_worth_89 : decode cX0_worth 89 = .ok (.getfield 15, 3) := by decide +kernel
theorem dX0_worth_92 : decode cX0_worth 92 = .ok (.iload_n 2, 1) := by decide +kernel
theorem dX0_worth_93 : decode cX0_worth 93 = .ok (.iconst 1, 1) := by decide +kernel
theorem dX0_worth_94 : decode cX0_worth 94 = .ok (.isub, 1) := by decide +kernel
theorem dX0_worth_95 : decode cX0_worth 95 = .ok (.iaload, 1) := by decide +kernel
theorem dX0_worth_96 : decode cX0_worth 96 = .ok (.aload_n 1, 1) := by decide +kernel
theorem dX0_worth_97 : decode cX0_worth 97 = .ok (.invokestatic 22, 3) := by decide +kernel
theorem dX0_worth_100 : decode cX0_worth 100 = .ok (.iastore, 1) := by decide +kernel
theorem dX0_worth_101 : decode cX0_worth 101 = .ok (.goto 43, 3) := by decide +kernel
theorem dX0_worth_104 : decode cX0_worth 104 = .ok (.iload_n 2, 1) := by decide +kernel
theorem dX0_worth_105 : decode cX0_worth 105 = .ok (.iconst 1, 1) := by decide +kernel
theorem dX0_worth_106 : decode cX0_worth 106 = .ok (.if_icmp .le 38, 3) := by decide +kernel
theorem dX0_worth_109 : decode cX0_worth 109 = .ok (.iinc 2 (-1), 3) := by decide +kernel
theorem dX0_worth_112 : decode cX0_worth 112 = .ok (.aload_n 0, 1) := by decide +kernel
theorem dX0_worth_113 : decode cX0_worth 113 = .ok (.getfield 15, 3) := by decide +kernel
theorem dX0_worth_116 : decode cX0_worth 116 = .ok (.iload_n 2, 1) := by decide +kernel
theorem dX0_worth_117 : decode cX0_worth 117 = .ok (.iconst 1, 1) := by decide +kernel
theorem dX0_worth_118 : decode cX0_worth 118 = .ok (.isub, 1) := by decide +kernel
theorem dX0_worth_119 : decode cX0_worth 119 = .ok (.iload 4, 2) := by decide +kernel
theorem dX0_worth_121 : decode cX0_worth 121 = .ok (.aload_n 0, 1) := by decide +kernel
theorem dX0_worth_122 : decode cX0_worth 122 = .ok (.getfield 15, 3) := by decide +kernel
theorem dX0_worth_125 : decode cX0_worth 125 = .ok (.iload_n 2, 1) := by decide +kernel
theorem dX0_worth_126 : decode cX0_worth 126 = .ok (.iconst 1, 1) := by decide +kernel
theorem dX0_worth_127 : decode cX0_worth 127 = .ok (.isub, 1) := by decide +kernel
theorem dX0_worth_128 : decode cX0_worth 128 = .ok (.iaload, 1) := by decide +kernel
theorem dX0_worth_129 : decode cX0_worth 129 = .ok (.i2l, 1) := by decide +kernel
theorem dX0_worth_130 : decode cX0_worth 130 = .ok (.aload_n 0, 1) := by decide +kernel
theorem dX0_worth_131 : decode cX0_worth 131 = .ok (.getfield 15, 3) := by decide +kernel
theorem dX0_worth_134 : decode cX0_worth 134 = .ok (.iload_n 2, 1) := by decide +kernel
theorem dX0_worth_135 : decode cX0_worth 135 = .ok (.iaload, 1) := by decide +kernel
theorem dX0_worth_136 : decode cX0_worth 136 = .ok (.i2l, 1) := by decide +kernel
theorem dX0_worth_137 : decode cX0_worth 137 = .ok (.invokestatic 26, 3) := by decide +kernel
theorem dX0_worth_140 : decode cX0_worth 140 = .ok (.invokestatic 30, 3) := by decide +kernel
theorem dX0_worth_143 : decode cX0_worth 143 = .ok (.iastore, 1) := by decide +kernel
theorem dX0_worth_144 : decode cX0_worth 144 = .ok (.iinc 3 1, 3) := by decide +kernel
theorem dX0_worth_147 : decode cX0_worth 147 = .ok (.goto (-143), 3) := by decide +kernel
theorem dX0_worth_150 : decode cX0_worth 150 = .ok (.aload_n 0, 1) := by decide +kernel
theorem dX0_worth_151 : decode cX0_worth 151 = .ok (.getfield 15, 3) := by decide +kernel
theorem dX0_worth_154 : decode cX0_worth 154 = .ok (.iconst 0, 1) := by decide +kernel
theorem dX0_worth_155 : decode cX0_worth 155 = .ok (.iaload, 1) := by decide +kernel
theorem dX0_worth_156 : decode cX0_worth 156 = .ok (.ireturn, 1) := by decide +kernel
def X0_worth_p144 (sh : Shp) (v0 : Nat) (v1 : Nat) (v2 : Int32) (v3 : Int32) (Q : Int32 → Mem → Prop) (K4 : Int32 → Int32 → Mem → Prop) (m : Mem) : Prop :=
  K4 v2 (v3 + (1 : Int32)) m
def X0_worth_p60 (sh : Shp) (v0 : Nat) (v1 : Nat) (v2 : Int32) (v3 : Int32) (s2 : Int32) (s1 : Int32) (s0 : Nat) (Q : Int32 → Mem → Prop) (K4 : Int32 → Int32 → Mem → Prop) (m : Mem) : Prop :=
  Ix sh s0 100 s1 ∧ bnd (sI m s0 s1.toNatClampNeg s2) (fun m27 => X0_worth_p144 sh v0 v1 (v2 + (1 : Int32)) v3 Q K4 m27)
def X0_worth_p4b (sh : Shp) (v0 : Nat) (v1 : Nat) (Q : Int32 → Mem → Prop) (K4 : Int32 → Int32 → Mem → Prop) (v2 : Int32) (v3 : Int32) (m : Mem) : Prop :=
  Ob sh v0 0 ∧ (if (m.1 v0 2) ≤ v3 then (∃ b2 : Nat, m.2.2 v0 1 = some b2 ∧ (Ix sh b2 100 (0 : Int32) ∧ (Q (m.1 b2 (0 : Int32).toNatClampNeg) m))) else (∃ b5 : Nat, m.2.2 v0 0 = some b5 ∧ (Ix sh b5 100 v3 ∧ (if (10023 : Int32) ≤ (m.1 b5 v3.toNatClampNeg) then (if (10026 : Int32) ≤ (m.1 b5 v3.toNatClampNeg) then (if v2 ≤ (1 : Int32) then (X0_worth_p144 sh v0 v1 v2 v3 Q K4 m) else (∃ b8 : Nat, m.2.2 v0 1 = some b8 ∧ (Ix sh b8 100 ((v2 + (-1 : Int32)) - (1 : Int32)) ∧ (Ix sh b8 100 (v2 + (-1 : Int32)) ∧ (wp_X0_ofTwo sh (m.1 b5 v3.toNatClampNeg) (m.1 b8 ((v2 + (-1 : Int32)) - (1 : Int32)).toNatClampNeg).toInt64 (m.1 b8 (v2 + (-1 : Int32)).toNatClampNeg).toInt64 (fun r12 m13 => wp_X0_held sh r12 (fun r14 m15 => bnd (sI m15 b8 ((v2 + (-1 : Int32)) - (1 : Int32)).toNatClampNeg r14) (fun m16 => X0_worth_p144 sh v0 v1 (v2 + (-1 : Int32)) v3 Q K4 m16)) m13) m))))) else (if v2 ≤ 0 then (X0_worth_p144 sh v0 v1 v2 v3 Q K4 m) else (∃ b17 : Nat, m.2.2 v0 1 = some b17 ∧ (Ix sh b17 100 (v2 - (1 : Int32)) ∧ (wp_X0_ofOne sh (m.1 b5 v3.toNatClampNeg) (m.1 b17 (v2 - (1 : Int32)).toNatClampNeg) v1 (fun r20 m21 => bnd (sI m21 b17 (v2 - (1 : Int32)).toNatClampNeg r20) (fun m22 => X0_worth_p144 sh v0 v1 v2 v3 Q K4 m22)) m))))) else (if (64 : Int32) ≤ v2 then (X0_worth_p144 sh v0 v1 v2 v3 Q K4 m) else (∃ b23 : Nat, m.2.2 v0 1 = some b23 ∧ (if (10000 : Int32) ≤ (m.1 b5 v3.toNatClampNeg) then (Ix sh v1 100 ((m.1 b5 v3.toNatClampNeg) - (10000 : Int32)) ∧ (X0_worth_p60 sh v0 v1 v2 v3 (m.1 v1 ((m.1 b5 v3.toNatClampNeg) - (10000 : Int32)).toNatClampNeg) v2 b23 Q K4 m)) else (X0_worth_p60 sh v0 v1 v2 v3 (m.1 b5 v3.toNatClampNeg) v2 b23 Q K4 m))))))))
def X0_worth_p4n (sh : Shp) (v0 : Nat) (v1 : Nat) (Q : Int32 → Mem → Prop) : Nat → Int32 → Int32 → Mem → Prop
  | 0 => fun _ _ _ => False
  | n + 1 => X0_worth_p4b sh v0 v1 Q (X0_worth_p4n sh v0 v1 Q n)
def X0_worth_p4 (sh : Shp) (v0 : Nat) (v1 : Nat) (Q : Int32 → Mem → Prop) (v2 : Int32) (v3 : Int32) (m : Mem) : Prop := ∃ n, X0_worth_p4n sh v0 v1 Q n v2 v3 m
def wp_X0_worth (sh : Shp) (v0 : Nat) (v1 : Nat) (Q : Int32 → Mem → Prop) (m : Mem) : Prop :=
  X0_worth_p4 sh v0 v1 Q (0 : Int32) (0 : Int32) m
abbrev M_X0_worth : Mi := (cX0_worth, 5, RX0, (Option.some FieldType.int), "worth", 3, 109, 0, 0)
set_option maxHeartbeats 4000000 in
set_option maxRecDepth 100000 in
theorem v_X0_worth_p144 {G : Gl} {F : Fr} {sh : Shp} {v0 : Nat} {v1 : Nat} {v2 : Int32} {v3 : Int32} {Q : Int32 → Mem → Prop} {K4 : Int32 → Int32 → Mem → Prop} {m : Mem} (hK4 : ∀ (x2 : Int32) (x3 : Int32) (m : Mem), K4 x2 x3 m → V G F M_X0_worth sh 0 0 (Zi G F sh Q) 4 [(0, .ref (G.1 + v0)), (1, .ref (G.1 + v1)), (2, .int x2), (3, .int x3)] [] m) (h : X0_worth_p144 sh v0 v1 v2 v3 Q K4 m) : V G F M_X0_worth sh 0 0 (Zi G F sh Q) 144 [(0, .ref (G.1 + v0)), (1, .ref (G.1 + v1)), (2, .int v2), (3, .int v3)] [] m := by
  unfold X0_worth_p144 at h
  refine v_iinc (ls' := [(3, .int _), (0, .ref _), (1, .ref _), (2, .int _)]) 3 3 dX0_worth_144 rfl (congrArg (HAdd.hAdd _) (by decide : Int32.ofInt (1) = (1 : Int32))) (Nat.le_of_ble_eq_true rfl) rfl ?_
  refine v_goto 4 dX0_worth_147 (by decide) ?_
  refine v_sub [1, 2, 3, 0] rfl ?_
  exact hK4 _ _ _ h
set_option maxHeartbeats 4000000 in
set_option maxRecDepth 100000 in
theorem v_X0_worth_p60 {G : Gl} {F : Fr} {sh : Shp} {v0 : Nat} {v1 : Nat} {v2 : Int32} {v3 : Int32} {s0 : Nat} {s1 : Int32} {s2 : Int32} {Q : Int32 → Mem → Prop} {K4 : Int32 → Int32 → Mem → Prop} {m : Mem} (hK4 : ∀ (x2 : Int32) (x3 : Int32) (m : Mem), K4 x2 x3 m → V G F M_X0_worth sh 0 0 (Zi G F sh Q) 4 [(0, .ref (G.1 + v0)), (1, .ref (G.1 + v1)), (2, .int x2), (3, .int x3)] [] m) (h : X0_worth_p60 sh v0 v1 v2 v3 s2 s1 s0 Q K4 m) : V G F M_X0_worth sh 0 0 (Zi G F sh Q) 60 [(0, .ref (G.1 + v0)), (1, .ref (G.1 + v1)), (2, .int v2), (3, .int v3)] [.int s2, .int s1, .ref (G.1 + s0)] m := by
  unfold X0_worth_p60 at h
  obtain ⟨i26, h⟩ := h
  refine v_iast dX0_worth_60 i26 ?_
  replace h := bnd_e h
  refine v_iinc (ls' := [(2, .int _), (0, .ref _), (1, .ref _), (3, .int _)]) 2 2 dX0_worth_61 rfl (congrArg (HAdd.hAdd _) (by decide : Int32.ofInt (1) = (1 : Int32))) (Nat.le_of_ble_eq_true rfl) rfl ?_
  refine v_goto 144 dX0_worth_64 (by decide) ?_
  refine v_sub [1, 2, 0, 3] rfl ?_
  exact v_X0_worth_p144 hK4 h
set_option maxHeartbeats 4000000 in
set_option maxRecDepth 100000 in
theorem v_X0_worth_p4b {G : Gl} {F : Fr} {sh : Shp} {v0 : Nat} {v1 : Nat} {v2 : Int32} {v3 : Int32} {Q : Int32 → Mem → Prop} {K4 : Int32 → Int32 → Mem → Prop} {m : Mem} (hK4 : ∀ (x2 : Int32) (x3 : Int32) (m : Mem), K4 x2 x3 m → V G F M_X0_worth sh 0 0 (Zi G F sh Q) 4 [(0, .ref (G.1 + v0)), (1, .ref (G.1 + v1)), (2, .int x2), (3, .int x3)] [] m) (h : X0_worth_p4b sh v0 v1 Q K4 v2 v3 m) : V G F M_X0_worth sh 0 0 (Zi G F sh Q) 4 [(0, .ref (G.1 + v0)), (1, .ref (G.1 + v1)), (2, .int v2), (3, .int v3)] [] m := by
  unfold X0_worth_p4b at h
  refine v_iload_n 3 3 dX0_worth_4 rfl rfl ?_
  refine v_aload_n 0 0 dX0_worth_5 rfl rfl ?_
  obtain ⟨o1, h⟩ := h
  refine v_gI 0 2 dX0_worth_6 fg_RX0_18 o1 ?_
  refine v_icmp_ge 150 dX0_worth_9 (by decide) (fun hc => ?_) (fun hc => ?_)
  · replace h := Eq.mp (if_pos hc) h
    refine v_aload_n 0 0 dX0_worth_150 rfl rfl ?_
    obtain ⟨b2, e3, h⟩ := h
    refine v_gR 0 1 dX0_worth_151 fg_RX0_15 o1 e3 ?_
    refine v_iconst (0 : Int32) dX0_worth_154 (by decide) ?_
    obtain ⟨i4, h⟩ := h
    refine v_iald dX0_worth_155 i4 ?_
    exact v_iret dX0_worth_156 rfl rfl h
  · replace h := Eq.mp (if_neg hc) h
    refine v_aload_n 0 0 dX0_worth_12 rfl rfl ?_
    obtain ⟨b5, e6, h⟩ := h
    refine v_gR 0 0 dX0_worth_13 fg_RX0_9 o1 e6 ?_
    refine v_iload_n 3 3 dX0_worth_16 rfl rfl ?_
    obtain ⟨i7, h⟩ := h
    refine v_iald dX0_worth_17 i7 ?_
    refine v_istore (ls' := [(4, .int _), (0, .ref _), (1, .ref _), (2, .int _), (3, .int _)]) 4 dX0_worth_18 (Nat.le_of_ble_eq_true rfl) rfl ?_
    refine v_iload 4 0 dX0_worth_20 rfl ?_
    refine v_sipush (10023 : Int32) dX0_worth_22 (by decide) ?_
    refine v_icmp_ge 67 dX0_worth_25 (by decide) (fun hc => ?_) (fun hc => ?_)
    · replace h := Eq.mp (if_pos hc) h
      refine v_iload 4 0 dX0_worth_67 rfl ?_
      refine v_sipush (10026 : Int32) dX0_worth_69 (by decide) ?_
      refine v_icmp_ge 104 dX0_worth_72 (by decide) (fun hc => ?_) (fun hc => ?_)
      · replace h := Eq.mp (if_pos hc) h
        refine v_iload_n 2 3 dX0_worth_104 rfl rfl ?_
        refine v_iconst (1 : Int32) dX0_worth_105 (by decide) ?_
        refine v_icmp_le 144 dX0_worth_106 (by decide) (fun hc => ?_) (fun hc => ?_)
        · replace h := Eq.mp (if_pos hc) h
          refine v_sub [1, 2, 3, 4] rfl ?_
          exact v_X0_worth_p144 hK4 h
        · replace h := Eq.mp (if_neg hc) h
          refine v_iinc (ls' := [(2, .int _), (4, .int _), (0, .ref _), (1, .ref _), (3, .int _)]) 2 3 dX0_worth_109 rfl (congrArg (HAdd.hAdd _) (by decide : Int32.ofInt (-1) = (-1 : Int32))) (Nat.le_of_ble_eq_true rfl) rfl ?_
          refine v_aload_n 0 2 dX0_worth_112 rfl rfl ?_
          obtain ⟨b8, e9, h⟩ := h
          refine v_gR 0 1 dX0_worth_113 fg_RX0_15 o1 e9 ?_
          refine v_iload_n 2 0 dX0_worth_116 rfl rfl ?_
          refine v_iconst (1 : Int32) dX0_worth_117 (by decide) ?_
          refine v_isub dX0_worth_118 ?_
          refine v_iload 4 1 dX0_worth_119 rfl ?_
          refine v_aload_n 0 2 dX0_worth_121 rfl rfl ?_
          refine v_gR 0 1 dX0_worth_122 fg_RX0_15 o1 e9 ?_
          refine v_iload_n 2 0 dX0_worth_125 rfl rfl ?_
          refine v_iconst (1 : Int32) dX0_worth_126 (by decide) ?_
          refine v_isub dX0_worth_127 ?_
          obtain ⟨i10, h⟩ := h
          refine v_iald dX0_worth_128 i10 ?_
          refine v_i2l dX0_worth_129 ?_
          refine v_aload_n 0 2 dX0_worth_130 rfl rfl ?_
          refine v_gR 0 1 dX0_worth_131 fg_RX0_15 o1 e9 ?_
          refine v_iload_n 2 0 dX0_worth_134 rfl rfl ?_
          obtain ⟨i11, h⟩ := h
          refine v_iald dX0_worth_135 i11 ?_
          refine v_i2l dX0_worth_136 ?_
          refine v_cSl [.int _, .long _, .long _] mv_X0_ofTwo ml_RX0_26 rfl rfl (Nat.le_of_ble_eq_true rfl) (Nat.le_of_ble_eq_true rfl) (Nat.le_of_ble_eq_true rfl) (Nat.zero_le _) (Nat.zero_le _) dX0_worth_137 (c_X0_ofTwo h) (fun r12 m13 h => ?_)
          refine v_cSi [.long _] mv_X0_held ml_RX0_30 rfl rfl (Nat.le_of_ble_eq_true rfl) (Nat.le_of_ble_eq_true rfl) (Nat.le_of_ble_eq_true rfl) (Nat.zero_le _) (Nat.zero_le _) dX0_worth_140 (c_X0_held h) (fun r14 m15 h => ?_)
          refine v_iast dX0_worth_143 i10 ?_
          replace h := bnd_e h
          refine v_sub [2, 3, 0, 4] rfl ?_
          exact v_X0_worth_p144 hK4 h
      · replace h := Eq.mp (if_neg hc) h
        refine v_iload_n 2 3 dX0_worth_75 rfl rfl ?_
        refine v_if_le 144 dX0_worth_76 (by decide) (fun hc => ?_) (fun hc => ?_)
        · replace h := Eq.mp (if_pos hc) h
          refine v_sub [1, 2, 3, 4] rfl ?_
          exact v_X0_worth_p144 hK4 h
        · replace h := Eq.mp (if_neg hc) h
          refine v_aload_n 0 1 dX0_worth_79 rfl rfl ?_
          obtain ⟨b17, e18, h⟩ := h
          refine v_gR 0 1 dX0_worth_80 fg_RX0_15 o1 e18 ?_
          refine v_iload_n 2 3 dX0_worth_83 rfl rfl ?_
          refine v_iconst (1 : Int32) dX0_worth_84 (by decide) ?_
          refine v_isub dX0_worth_85 ?_
          refine v_iload 4 0 dX0_worth_86 rfl ?_
          refine v_aload_n 0 1 dX0_worth_88 rfl rfl ?_
          refine v_gR 0 1 dX0_worth_89 fg_RX0_15 o1 e18 ?_
          refine v_iload_n 2 3 dX0_worth_92 rfl rfl ?_
          refine v_iconst (1 : Int32) dX0_worth_93 (by decide) ?_
          refine v_isub dX0_worth_94 ?_
          obtain ⟨i19, h⟩ := h
          refine v_iald dX0_worth_95 i19 ?_
          refine v_aload_n 1 2 dX0_worth_96 rfl rfl ?_
          refine v_cSi [.int _, .int _, .ref _] mv_X0_ofOne ml_RX0_22 rfl rfl (Nat.le_of_ble_eq_true rfl) (Nat.le_of_ble_eq_true rfl) (Nat.le_of_ble_eq_true rfl) (Nat.zero_le _) (Nat.zero_le _) dX0_worth_97 (c_X0_ofOne h) (fun r20 m21 h => ?_)
          refine v_iast dX0_worth_100 i19 ?_
          replace h := bnd_e h
          refine v_goto 144 dX0_worth_101 (by decide) ?_
          refine v_sub [1, 2, 3, 4] rfl ?_
          exact v_X0_worth_p144 hK4 h
    · replace h := Eq.mp (if_neg hc) h
      refine v_iload_n 2 3 dX0_worth_28 rfl rfl ?_
      refine v_bipush (64 : Int32) dX0_worth_29 (by decide) ?_
      refine v_icmp_ge 144 dX0_worth_31 (by decide) (fun hc => ?_) (fun hc => ?_)
      · replace h := Eq.mp (if_pos hc) h
        refine v_sub [1, 2, 3, 4] rfl ?_
        exact v_X0_worth_p144 hK4 h
      · replace h := Eq.mp (if_neg hc) h
        refine v_aload_n 0 1 dX0_worth_34 rfl rfl ?_
        obtain ⟨b23, e24, h⟩ := h
        refine v_gR 0 1 dX0_worth_35 fg_RX0_15 o1 e24 ?_
        refine v_iload_n 2 3 dX0_worth_38 rfl rfl ?_
        refine v_iload 4 0 dX0_worth_39 rfl ?_
        refine v_sipush (10000 : Int32) dX0_worth_41 (by decide) ?_
        refine v_icmp_ge 52 dX0_worth_44 (by decide) (fun hc => ?_) (fun hc => ?_)
        · replace h := Eq.mp (if_pos hc) h
          refine v_aload_n 1 2 dX0_worth_52 rfl rfl ?_
          refine v_iload 4 0 dX0_worth_53 rfl ?_
          refine v_sipush (10000 : Int32) dX0_worth_55 (by decide) ?_
          refine v_isub dX0_worth_58 ?_
          obtain ⟨i25, h⟩ := h
          refine v_iald dX0_worth_59 i25 ?_
          refine v_sub [1, 2, 3, 4] rfl ?_
          exact v_X0_worth_p60 hK4 h
        · replace h := Eq.mp (if_neg hc) h
          refine v_iload 4 0 dX0_worth_47 rfl ?_
          refine v_goto 60 dX0_worth_49 (by decide) ?_
          refine v_sub [1, 2, 3, 4] rfl ?_
          exact v_X0_worth_p60 hK4 h
set_option maxHeartbeats 4000000 in
set_option maxRecDepth 100000 in
theorem v_X0_worth_p4 {G : Gl} {F : Fr} {sh : Shp} {v0 : Nat} {v1 : Nat} {v2 : Int32} {v3 : Int32} {Q : Int32 → Mem → Prop} {m : Mem} (h : X0_worth_p4 sh v0 v1 Q v2 v3 m) : V G F M_X0_worth sh 0 0 (Zi G F sh Q) 4 [(0, .ref (G.1 + v0)), (1, .ref (G.1 + v1)), (2, .int v2), (3, .int v3)] [] m := by
  obtain ⟨n, h⟩ := h
  induction n generalizing v2 v3 m with
  | zero => exact h.elim
  | succ n ih => exact v_X0_worth_p4b (fun _ _ _ h => ih h) h
set_option maxHeartbeats 4000000 in
set_option maxRecDepth 100000 in
theorem c_X0_worth {l : Launch} {G : Gl} {sh : Shp} {v0 : Nat} {v1 : Nat} {Q : Int32 → Mem → Prop} {m : Mem} (h : wp_X0_worth sh v0 v1 Q m) : Cni l G yX0_worth cX0_worth 5 (Option.some FieldType.int) 3 109 sh [.ref (G.1 + v0), .ref (G.1 + v1)] m Q := by
  refine con_i (ls := [(0, .ref (G.1 + v0)), (1, .ref (G.1 + v1))]) (by decide +kernel) rfl (Nat.le_of_ble_eq_true rfl) (fun F => ?_)
  show V G F M_X0_worth sh 0 0 (Zi G F sh Q) 0 [(0, .ref (G.1 + v0)), (1, .ref (G.1 + v1))] [] m
  unfold wp_X0_worth at h
  refine v_iconst (0 : Int32) dX0_worth_0 (by decide) ?_
  refine v_istore_n (ls' := [(2, .int _), (0, .ref _), (1, .ref _)]) 2 dX0_worth_1 rfl (Nat.le_of_ble_eq_true rfl) rfl ?_
  refine v_iconst (0 : Int32) dX0_worth_2 (by decide) ?_
  refine v_istore_n (ls' := [(3, .int _), (2, .int _), (0, .ref _), (1, .ref _)]) 3 dX0_worth_3 rfl (Nat.le_of_ble_eq_true rfl) rfl ?_
  refine v_sub [2, 3, 1, 0] rfl ?_
  exact v_X0_worth_p4 h
