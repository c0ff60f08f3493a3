/-! CalledRiverModel.leads -/
theorem dX12_leads_0 : decode cX12_leads 0 = .ok (.aload_n 0, 1) := by decide +kernel
theorem dX12_leads_1 : decode cX12_leads 1 = .ok (.iload_n 1, 1) := by decide +kernel
theorem dX12_leads_2 : decode cX12_leads 2 = .ok (.i2l, 1) := by decide +kernel
theorem dX12_leads_3 : decode cX12_leads 3 = .ok (.invokevirtual 557, 3) := by decide +kernel
theorem dX12_leads_6 : decode cX12_leads 6 = .ok (.ifCond .eq 10, 3) := by decide +kernel
theorem dX12_leads_9 : decode cX12_leads 9 = .ok (.aload_n 0, 1) := by decide +kernel
theorem dX12_leads_10 : decode cX12_leads 10 = .ok (.invokevirtual 509, 3) := by decide +kernel
theorem dX12_leads_13 : decode cX12_leads 13 = .ok (.ifCond .ne 5, 3) := by decide +kernel
theorem dX12_leads_16 : decode cX12_leads 16 = .ok (.iconst (-1), 1) := by decide +kernel
theorem dX12_leads_17 : decode cX12_leads 17 = .ok (.ireturn, 1) := by decide +kernel
theorem dX12_leads_18 : decode cX12_leads 18 = .ok (.aload_n 0, 1) := by decide +kernel
theorem dX12_leads_19 : decode cX12_leads 19 = .ok (.iload_n 1, 1) := by decide +kernel
theorem dX12_leads_20 : decode cX12_leads 20 = .ok (.invokevirtual 521, 3) := by decide +kernel
theorem dX12_leads_23 : decode cX12_leads 23 = .ok (.iload_n 2, 1) := by decide +kernel
theorem dX12_leads_24 : decode cX12_leads 24 = .ok (.tableswitch 71 0 2 #[28, 35, 66], 28) := by decide +kernel
theorem dX12_leads_52 : decode cX12_leads 52 = .ok (.aload_n 0, 1) := by decide +kernel
theorem dX12_leads_53 : decode cX12_leads 53 = .ok (.getfield 497, 3) := by decide +kernel
theorem dX12_leads_56 : decode cX12_leads 56 = .ok (.iconst 1, 1) := by decide +kernel
theorem dX12_leads_57 : decode cX12_leads 57 = .ok (.isub, 1) := by decide +kernel
theorem dX12_leads_58 : decode cX12_leads 58 = .ok (.ireturn, 1) := by decide +kernel
theorem dX12_leads_59 : decode cX12_leads 59 = .ok (.aload_n 0, 1) := by decide +kernel
theorem dX12_leads_60 : decode cX12_leads 60 = .ok (.getfield 146, 3) := by decide +kernel
theorem dX12_leads_63 : decode cX12_leads 63 = .ok (.aload_n 0, 1) := by decide +kernel
theorem dX12_leads_64 : decode cX12_leads 64 = .ok (.getfield 497, 3) := by decide +kernel
theorem dX12_leads_67 : decode cX12_leads 67 = .ok (.iconst 1, 1) := by decide +kernel
theorem dX12_leads_68 : decode cX12_leads 68 = .ok (.isub, 1) := by decide +kernel
theorem dX12_leads_69 : decode cX12_leads 69 = .ok (.iaload, 1) := by decide +kernel
theorem dX12_leads_70 : decode cX12_leads 70 = .ok (.bipush 6, 2) := by decide +kernel
theorem dX12_leads_72 : decode cX12_leads 72 = .ok (.idiv, 1) := by decide +kernel
theorem dX12_leads_73 : decode cX12_leads 73 = .ok (.aload_n 0, 1) := by decide +kernel
theorem dX12_leads_74 : decode cX12_leads 74 = .ok (.getfield 111, 3) := by decide +kernel
theorem dX12_leads_77 : decode cX12_leads 77 = .ok (.iconst 3, 1) := by decide +kernel
theorem dX12_leads_78 : decode cX12_leads 78 = .ok (.iaload, 1) := by decide +kernel
theorem dX12_leads_79 : decode cX12_leads 79 = .ok (.iconst 1, 1) := by decide +kernel
theorem dX12_leads_80 : decode cX12_leads 80 = .ok (.isub, 1) := by decide +kernel
theorem dX12_leads_81 : decode cX12_leads 81 = .ok (.if_icmp .ne 7, 3) := by decide +kernel
theorem dX12_leads_84 : decode cX12_leads 84 = .ok (.iconst 1, 1) := by decide +kernel
theorem dX12_leads_85 : decode cX12_leads 85 = .ok (.goto 4, 3) := by decide +kernel
theorem dX12_leads_88 : decode cX12_leads 88 = .ok (.iconst 0, 1) := by decide +kernel
theorem dX12_leads_89 : decode cX12_leads 89 = .ok (.ireturn, 1) := by decide +kernel
theorem dX12_leads_90 : decode cX12_leads 90 = .ok (.aload_n 0, 1) := by decide +kernel
theorem dX12_leads_91 : decode cX12_leads 91 = .ok (.invokevirtual 532, 3) := by decide +kernel
theorem dX12_leads_94 : decode cX12_leads 94 = .ok (.ireturn, 1) := by decide +kernel
theorem dX12_leads_95 : decode cX12_leads 95 = .ok (.iconst (-1), 1) := by decide +kernel
theorem dX12_leads_96 : decode cX12_leads 96 = .ok (.ireturn, 1) := by decide +kernel
def wp_X12_leads (sh : Shp) (v0 : Nat) (v1 : Int32) (v2 : Int32) (Q : Int32 → Mem → Prop) (m : Mem) : Prop :=
  Ob sh v0 12 ∧ wp_X12_isCaller sh v0 v1.toInt64 (fun r1 m2 => if r1 = 0 then (Q (-1 : Int32) m2) else (wp_X12_hasWay sh v0 (fun r4 m5 => if r4 = 0 then (Q (-1 : Int32) m5) else (wp_X12_laysWay sh v0 v1 (fun m7 => if v2 = (0 : Int32) then (Q ((m7.1 v0 64) - (1 : Int32)) m7) else if v2 = (1 : Int32) then (∃ b8 : Nat, m7.2.2 v0 63 = some b8 ∧ (Ix sh b8 100 ((m7.1 v0 64) - (1 : Int32)) ∧ (∃ b11 : Nat, m7.2.2 v0 42 = some b11 ∧ (Ix sh b11 100 (3 : Int32) ∧ (if ((m7.1 b8 ((m7.1 v0 64) - (1 : Int32)).toNatClampNeg) / (6 : Int32)) = ((m7.1 b11 (3 : Int32).toNatClampNeg) - (1 : Int32)) then (Q (1 : Int32) m7) else (Q (0 : Int32) m7)))))) else if v2 = (2 : Int32) then (wp_X12_wateredSet sh v0 (fun r14 m15 => Q r14 m15) m7) else (Q (-1 : Int32) m7)) m5)) m2)) m
abbrev M_X12_leads : Mi := (cX12_leads, 3, RX12, (Option.some FieldType.int), "leads", 9, 243, 0, 0)
set_option maxHeartbeats 4000000 in
set_option maxRecDepth 100000 in
theorem c_X12_leads {l : Launch} {G : Gl} {sh : Shp} {v0 : Nat} {v1 : Int32} {v2 : Int32} {Q : Int32 → Mem → Prop} {m : Mem} (h : wp_X12_leads sh v0 v1 v2 Q m) : Cni l G yX12_leads cX12_leads 3 (Option.some FieldType.int) 9 243 sh [.ref (G.1 + v0), .int v1, .int v2] m Q := by
  refine con_i (ls := [(0, .ref (G.1 + v0)), (1, .int v1), (2, .int v2)]) (by decide +kernel) rfl (Nat.le_of_ble_eq_true rfl) (fun F => ?_)
  show V G F M_X12_leads sh 0 0 (Zi G F sh Q) 0 [(0, .ref (G.1 + v0)), (1, .int v1), (2, .int v2)] [] m
  unfold wp_X12_leads at h
  refine v_aload_n 0 0 dX12_leads_0 rfl rfl ?_
  refine v_iload_n 1 1 dX12_leads_1 rfl rfl ?_
  refine v_i2l dX12_leads_2 ?_
  obtain ⟨o3, h⟩ := h
  refine v_cVi [.long _] mv_X12_isCaller ml_RX12_557 ⟨_, _, rfl⟩ o3 rfl rfl (Nat.le_of_ble_eq_true rfl) (Nat.le_of_ble_eq_true rfl) (Nat.le_of_ble_eq_true rfl) (Nat.zero_le _) (Nat.zero_le _) dX12_leads_3 (c_X12_isCaller h) (fun r1 m2 h => ?_)
  refine v_if_eq 16 dX12_leads_6 (by decide) (fun hc => ?_) (fun hc => ?_)
  · replace h := Eq.mp (if_pos hc) h
    refine v_iconst (-1 : Int32) dX12_leads_16 (by decide) ?_
    exact v_iret dX12_leads_17 rfl rfl h
  · replace h := Eq.mp (if_neg hc) h
    refine v_aload_n 0 0 dX12_leads_9 rfl rfl ?_
    refine v_cVi [] mv_X12_hasWay ml_RX12_509 ⟨_, _, rfl⟩ o3 rfl rfl (Nat.le_of_ble_eq_true rfl) (Nat.le_of_ble_eq_true rfl) (Nat.le_of_ble_eq_true rfl) (Nat.zero_le _) (Nat.zero_le _) dX12_leads_10 (c_X12_hasWay h) (fun r4 m5 h => ?_)
    refine v_if_ne 18 dX12_leads_13 (by decide) (fun hc => ?_) (fun hc => ?_)
    · replace h := Eq.mp (if_neg hc) h
      refine v_aload_n 0 0 dX12_leads_18 rfl rfl ?_
      refine v_iload_n 1 1 dX12_leads_19 rfl rfl ?_
      refine v_cVv [.int _] mv_X12_laysWay ml_RX12_521 ⟨_, _, rfl⟩ o3 rfl rfl (Nat.le_of_ble_eq_true rfl) (Nat.le_of_ble_eq_true rfl) (Nat.le_of_ble_eq_true rfl) (Nat.zero_le _) (Nat.zero_le _) dX12_leads_20 (c_X12_laysWay h) (fun m7 h => ?_)
      refine v_iload_n 2 2 dX12_leads_23 rfl rfl ?_
      by_cases hc0 : v2 = (0 : Int32)
      · replace h := Eq.mp (if_pos hc0) h
        refine v_tabK (0 : Int32) hc0 52 dX12_leads_24 (by decide) (by decide) rfl (by decide) ?_
        refine v_aload_n 0 0 dX12_leads_52 rfl rfl ?_
        refine v_gI 12 64 dX12_leads_53 fg_RX12_497 o3 ?_
        refine v_iconst (1 : Int32) dX12_leads_56 (by decide) ?_
        refine v_isub dX12_leads_57 ?_
        exact v_iret dX12_leads_58 rfl rfl h
      replace h := Eq.mp (if_neg hc0) h
      by_cases hc1 : v2 = (1 : Int32)
      · replace h := Eq.mp (if_pos hc1) h
        refine v_tabK (1 : Int32) hc1 59 dX12_leads_24 (by decide) (by decide) rfl (by decide) ?_
        refine v_aload_n 0 0 dX12_leads_59 rfl rfl ?_
        obtain ⟨b8, e9, h⟩ := h
        refine v_gR 12 63 dX12_leads_60 fg_RX12_146 o3 e9 ?_
        refine v_aload_n 0 0 dX12_leads_63 rfl rfl ?_
        refine v_gI 12 64 dX12_leads_64 fg_RX12_497 o3 ?_
        refine v_iconst (1 : Int32) dX12_leads_67 (by decide) ?_
        refine v_isub dX12_leads_68 ?_
        obtain ⟨i10, h⟩ := h
        refine v_iald dX12_leads_69 i10 ?_
        refine v_bipush (6 : Int32) dX12_leads_70 (by decide) ?_
        refine v_idiv dX12_leads_72 (by decide) ?_
        refine v_aload_n 0 0 dX12_leads_73 rfl rfl ?_
        obtain ⟨b11, e12, h⟩ := h
        refine v_gR 12 42 dX12_leads_74 fg_RX12_111 o3 e12 ?_
        refine v_iconst (3 : Int32) dX12_leads_77 (by decide) ?_
        obtain ⟨i13, h⟩ := h
        refine v_iald dX12_leads_78 i13 ?_
        refine v_iconst (1 : Int32) dX12_leads_79 (by decide) ?_
        refine v_isub dX12_leads_80 ?_
        refine v_icmp_ne 88 dX12_leads_81 (by decide) (fun hc => ?_) (fun hc => ?_)
        · replace h := Eq.mp (if_neg hc) h
          refine v_iconst (0 : Int32) dX12_leads_88 (by decide) ?_
          exact v_iret dX12_leads_89 rfl rfl h
        · replace h := Eq.mp (if_pos hc) h
          refine v_iconst (1 : Int32) dX12_leads_84 (by decide) ?_
          refine v_goto 89 dX12_leads_85 (by decide) ?_
          exact v_iret dX12_leads_89 rfl rfl h
      replace h := Eq.mp (if_neg hc1) h
      by_cases hc2 : v2 = (2 : Int32)
      · replace h := Eq.mp (if_pos hc2) h
        refine v_tabK (2 : Int32) hc2 90 dX12_leads_24 (by decide) (by decide) rfl (by decide) ?_
        refine v_aload_n 0 0 dX12_leads_90 rfl rfl ?_
        refine v_cVi [] mv_X12_wateredSet ml_RX12_532 ⟨_, _, rfl⟩ o3 rfl rfl (Nat.le_of_ble_eq_true rfl) (Nat.le_of_ble_eq_true rfl) (Nat.le_of_ble_eq_true rfl) (Nat.zero_le _) (Nat.zero_le _) dX12_leads_91 (c_X12_wateredSet h) (fun r14 m15 h => ?_)
        exact v_iret dX12_leads_94 rfl rfl h
      replace h := Eq.mp (if_neg hc2) h
      refine v_tabOut 95 dX12_leads_24 (by have := lv_neT hc0 (a := 0) (by decide); have := lv_neT hc1 (a := 1) (by decide); have := lv_neT hc2 (a := 2) (by decide); omega) (by decide) ?_
      refine v_iconst (-1 : Int32) dX12_leads_95 (by decide) ?_
      exact v_iret dX12_leads_96 rfl rfl h
    · replace h := Eq.mp (if_pos hc) h
      refine v_iconst (-1 : Int32) dX12_leads_16 (by decide) ?_
      exact v_iret dX12_leads_17 rfl rfl h
/-! CalledRiverModel.least -/
theorem dX12_least_0 : decode cX12_least 0 = .ok (.iload_n 1, 1) := by decide +kernel
theorem dX12_least_1 : decode cX12_least 1 = .ok (.i2l, 1) := by decide +kernel
theorem dX12_least_2 : decode cX12_least 2 = .ok (.lconst 0, 1) := by decide +kernel
theorem dX12_least_3 : decode cX12_least 3 = .ok (.iconst 1, 1) := by decide +kernel
theorem dX12_least_4 : decode cX12_least 4 = .ok (.aload_n 0, 1) := by decide +kernel
theorem dX12_least_5 : decode cX12_least 5 = .ok (.invokevirtual 436, 3) := by decide +kernel
theorem dX12_least_8 : decode cX12_least 8 = .ok (.ishl, 1) := by decide +kernel
theorem dX12_least_9 : decode cX12_least 9 = .ok (.iconst 1, 1) := by decide +kernel
theorem dX12_least_10 : decode cX12_least 10 = .ok (.isub, 1) := by decide +kernel
theorem dX12_least_11 : decode cX12_least 11 = .ok (.i2l, 1) := by decide +kernel
theorem dX12_least_12 : decode cX12_least 12 = .ok (.invokestatic 328, 3) := by decide +kernel
theorem dX12_least_15 : decode cX12_least 15 = .ok (.ifCond .eq 10, 3) := by decide +kernel
theorem dX12_least_18 : decode cX12_least 18 = .ok (.aload_n 0, 1) := by decide +kernel
theorem dX12_least_19 : decode cX12_least 19 = .ok (.invokevirtual 565, 3) := by decide +kernel
theorem dX12_least_22 : decode cX12_least 22 = .ok (.ifCond .ne 5, 3) := by decide +kernel
theorem dX12_least_25 : decode cX12_least 25 = .ok (.iconst (-1), 1) := by decide +kernel
theorem dX12_least_26 : decode cX12_least 26 = .ok (.ireturn, 1) := by decide +kernel
theorem dX12_least_27 : decode cX12_least 27 = .ok (.iconst 0, 1) := by decide +kernel
theorem dX12_least_28 : decode cX12_least 28 = .ok (.istore_n 2, 1) := by decide +kernel
theorem dX12_least_29 : decode cX12_least 29 = .ok (.aload_n 0, 1) := by decide +kernel
theorem dX12_least_30 : decode cX12_least 30 = .ok (.iload_n 1, 1) := by decide +kernel
theorem dX12_least_31 : decode cX12_least 31 = .ok (.invokevirtual 568, 3) := by decide +kernel
theorem dX12_least_34 : decode cX12_least 34 = .ok (.ifCond .ne 20, 3) := by decide +kernel
theorem dX12_least_37 : decode cX12_least 37 = .ok (.iload_n 2, 1) := by decide +kernel
theorem dX12_least_38 : decode cX12_least 38 = .ok (.bipush 40, 2) := by decide +kernel
theorem dX12_least_40 : decode cX12_least 40 = .ok (.if_icmp .ge 14, 3) := by decide +kernel
theorem dX12_least_43 : decode cX12_least 43 = .ok (.iinc 2 1, 3) := by decide +kernel
theorem dX12_least_46 : decode cX12_least 46 = .ok (.aload_n 0, 1) := by decide +kernel
theorem dX12_least_47 : decode cX12_least 47 = .ok (.iload_n 2, 1) := by decide +kernel
theorem dX12_least_48 : decode cX12_least 48 = .ok (.invokevirtual 571, 3) := by decide +kernel
theorem dX12_least_51 : decode cX12_least 51 = .ok (.goto (-22), 3) := by decide +kernel
theorem dX12_least_54 : decode cX12_least 54 = .ok (.aload_n 0, 1) := by decide +kernel
theorem dX12_least_55 : decode cX12_least 55 = .ok (.iload_n 1, 1) := by decide +kernel
theorem dX12_least_56 : decode cX12_least 56 = .ok (.invokevirtual 568, 3) := by decide +kernel
theorem dX12_least_59 : decode cX12_least 59 = .ok (.ifCond .eq 7, 3) := by decide +kernel
theorem dX12_least_62 : decode cX12_least 62 = .ok (.iload_n 2, 1) := by decide +kernel
theorem dX12_least_63 : decode cX12_least 63 = .ok (.goto 4, 3) := by decide +kernel
theorem dX12_least_66 : decode cX12_least 66 = .ok (.iconst (-1), 1) := by decide +kernel
theorem dX12_least_67 : decode cX12_least 67 = .ok (.ireturn, 1) := by decide +kernel
def X12_least_p54 (sh : Shp) (v0 : Nat) (v1 : Int32) (v2 : Int32) (Q : Int32 → Mem → Prop) (m : Mem) : Prop :=
  Ob sh v0 12 ∧ wp_X12_isThere sh v0 v1 (fun r13 m14 => if r13 = 0 then (Q (-1 : Int32) m14) else (Q v2 m14)) m
def X12_least_p29b (sh : Shp) (v0 : Nat) (v1 : Int32) (Q : Int32 → Mem → Prop) (K29 : Int32 → Mem → Prop) (v2 : Int32) (m : Mem) : Prop :=
  Ob sh v0 12 ∧ wp_X12_isThere sh v0 v1 (fun r8 m9 => if r8 = 0 then (if (40 : Int32) ≤ v2 then (X12_least_p54 sh v0 v1 v2 Q m9) else (wp_X12_stepGoes sh v0 (v2 + (1 : Int32)) (fun m12 => K29 (v2 + (1 : Int32)) m12) m9)) else (X12_least_p54 sh v0 v1 v2 Q m9)) m
def X12_least_p29n (sh : Shp) (v0 : Nat) (v1 : Int32) (Q : Int32 → Mem → Prop) : Nat → Int32 → Mem → Prop
  | 0 => fun _ _ => False
  | n + 1 => X12_least_p29b sh v0 v1 Q (X12_least_p29n sh v0 v1 Q n)
def X12_least_p29 (sh : Shp) (v0 : Nat) (v1 : Int32) (Q : Int32 → Mem → Prop) (v2 : Int32) (m : Mem) : Prop := ∃ n, X12_least_p29n sh v0 v1 Q n v2 m
def wp_X12_least (sh : Shp) (v0 : Nat) (v1 : Int32) (Q : Int32 → Mem → Prop) (m : Mem) : Prop :=
  Ob sh v0 12 ∧ wp_X12_farmMany sh v0 (fun r1 m2 => wp_X12_isIn sh v1.toInt64 (0 : Int64) (((1 : Int32) <<< (r1 &&& 31)) - (1 : Int32)).toInt64 (fun r4 m5 => if r4 = 0 then (Q (-1 : Int32) m5) else (wp_X12_isBegun sh v0 (fun r6 m7 => if r6 = 0 then (Q (-1 : Int32) m7) else (X12_least_p29 sh v0 v1 Q (0 : Int32) m7)) m5)) m2) m
abbrev M_X12_least : Mi := (cX12_least, 3, RX12, (Option.some FieldType.int), "least", 5, 157, 0, 0)
set_option maxHeartbeats 4000000 in
set_option maxRecDepth 100000 in
theorem v_X12_least_p54 {G : Gl} {F : Fr} {sh : Shp} {v0 : Nat} {v1 : Int32} {v2 : Int32} {Q : Int32 → Mem → Prop} {m : Mem} (h : X12_least_p54 sh v0 v1 v2 Q m) : V G F M_X12_least sh 0 0 (Zi G F sh Q) 54 [(0, .ref (G.1 + v0)), (1, .int v1), (2, .int v2)] [] m := by
  unfold X12_least_p54 at h
  refine v_aload_n 0 0 dX12_least_54 rfl rfl ?_
  refine v_iload_n 1 1 dX12_least_55 rfl rfl ?_
  obtain ⟨o15, h⟩ := h
  refine v_cVi [.int _] mv_X12_isThere ml_RX12_568 ⟨_, _, rfl⟩ o15 rfl rfl (Nat.le_of_ble_eq_true rfl) (Nat.le_of_ble_eq_true rfl) (Nat.le_of_ble_eq_true rfl) (Nat.zero_le _) (Nat.zero_le _) dX12_least_56 (c_X12_isThere h) (fun r13 m14 h => ?_)
  refine v_if_eq 66 dX12_least_59 (by decide) (fun hc => ?_) (fun hc => ?_)
  · replace h := Eq.mp (if_pos hc) h
    refine v_iconst (-1 : Int32) dX12_least_66 (by decide) ?_
    exact v_iret dX12_least_67 rfl rfl h
  · replace h := Eq.mp (if_neg hc) h
    refine v_iload_n 2 2 dX12_least_62 rfl rfl ?_
    refine v_goto 67 dX12_least_63 (by decide) ?_
    exact v_iret dX12_least_67 rfl rfl h
set_option maxHeartbeats 4000000 in
set_option maxRecDepth 100000 in
theorem v_X12_least_p29b {G : Gl} {F : Fr} {sh : Shp} {v0 : Nat} {v1 : Int32} {v2 : Int32} {Q : Int32 → Mem → Prop} {K29 : Int32 → Mem → Prop} {m : Mem} (hK29 : ∀ (x2 : Int32) (m : Mem), K29 x2 m → V G F M_X12_least sh 0 0 (Zi G F sh Q) 29 [(0, .ref (G.1 + v0)), (1, .int v1), (2, .int x2)] [] m) (h : X12_least_p29b sh v0 v1 Q K29 v2 m) : V G F M_X12_least sh 0 0 (Zi G F sh Q) 29 [(0, .ref (G.1 + v0)), (1, .int v1), (2, .int v2)] [] m := by
  unfold X12_least_p29b at h
  refine v_aload_n 0 0 dX12_least_29 rfl rfl ?_
  refine v_iload_n 1 1 dX12_least_30 rfl rfl ?_
  obtain ⟨o10, h⟩ := h
  refine v_cVi [.int _] mv_X12_isThere ml_RX12_568 ⟨_, _, rfl⟩ o10 rfl rfl (Nat.le_of_ble_eq_true rfl) (Nat.le_of_ble_eq_true rfl) (Nat.le_of_ble_eq_true rfl) (Nat.zero_le _) (Nat.zero_le _) dX12_least_31 (c_X12_isThere h) (fun r8 m9 h => ?_)
  refine v_if_ne 54 dX12_least_34 (by decide) (fun hc => ?_) (fun hc => ?_)
  · replace h := Eq.mp (if_neg hc) h
    refine v_sub [0, 1, 2] rfl ?_
    exact v_X12_least_p54 h
  · replace h := Eq.mp (if_pos hc) h
    refine v_iload_n 2 2 dX12_least_37 rfl rfl ?_
    refine v_bipush (40 : Int32) dX12_least_38 (by decide) ?_
    refine v_icmp_ge 54 dX12_least_40 (by decide) (fun hc => ?_) (fun hc => ?_)
    · replace h := Eq.mp (if_pos hc) h
      refine v_sub [0, 1, 2] rfl ?_
      exact v_X12_least_p54 h
    · replace h := Eq.mp (if_neg hc) h
      refine v_iinc (ls' := [(2, .int _), (0, .ref _), (1, .int _)]) 2 2 dX12_least_43 rfl (congrArg (HAdd.hAdd _) (by decide : Int32.ofInt (1) = (1 : Int32))) (Nat.le_of_ble_eq_true rfl) rfl ?_
      refine v_aload_n 0 1 dX12_least_46 rfl rfl ?_
      refine v_iload_n 2 0 dX12_least_47 rfl rfl ?_
      refine v_cVv [.int _] mv_X12_stepGoes ml_RX12_571 ⟨_, _, rfl⟩ o10 rfl rfl (Nat.le_of_ble_eq_true rfl) (Nat.le_of_ble_eq_true rfl) (Nat.le_of_ble_eq_true rfl) (Nat.zero_le _) (Nat.zero_le _) dX12_least_48 (c_X12_stepGoes h) (fun m12 h => ?_)
      refine v_goto 29 dX12_least_51 (by decide) ?_
      refine v_sub [1, 2, 0] rfl ?_
      exact hK29 _ _ h
set_option maxHeartbeats 4000000 in
set_option maxRecDepth 100000 in
theorem v_X12_least_p29 {G : Gl} {F : Fr} {sh : Shp} {v0 : Nat} {v1 : Int32} {v2 : Int32} {Q : Int32 → Mem → Prop} {m : Mem} (h : X12_least_p29 sh v0 v1 Q v2 m) : V G F M_X12_least sh 0 0 (Zi G F sh Q) 29 [(0, .ref (G.1 + v0)), (1, .int v1), (2, .int v2)] [] m := by
  obtain ⟨n, h⟩ := h
  induction n generalizing v2 m with
  | zero => exact h.elim
  | succ n ih => exact v_X12_least_p29b (fun _ _ h => ih h) h
set_option maxHeartbeats 4000000 in
set_option maxRecDepth 100000 in
theorem c_X12_least {l : Launch} {G : Gl} {sh : Shp} {v0 : Nat} {v1 : Int32} {Q : Int32 → Mem → Prop} {m : Mem} (h : wp_X12_least sh v0 v1 Q m) : Cni l G yX12_least cX12_least 3 (Option.some FieldType.int) 5 157 sh [.ref (G.1 + v0), .int v1] m Q := by
  refine con_i (ls := [(0, .ref (G.1 + v0)), (1, .int v1)]) (by decide +kernel) rfl (Nat.le_of_ble_eq_true rfl) (fun F => ?_)
  show V G F M_X12_least sh 0 0 (Zi G F sh Q) 0 [(0, .ref (G.1 + v0)), (1, .int v1)] [] m
  unfold wp_X12_least at h
  refine v_iload_n 1 1 dX12_least_0 rfl rfl ?_
  refine v_i2l dX12_least_1 ?_
  refine v_lconst (0 : Int64) dX12_least_2 (by decide) ?_
  refine v_iconst (1 : Int32) dX12_least_3 (by decide) ?_
  refine v_aload_n 0 0 dX12_least_4 rfl rfl ?_
  obtain ⟨o3, h⟩ := h
  refine v_cVi [] mv_X12_farmMany ml_RX12_436 ⟨_, _, rfl⟩ o3 rfl rfl (Nat.le_of_ble_eq_true rfl) (Nat.le_of_ble_eq_true rfl) (Nat.le_of_ble_eq_true rfl) (Nat.zero_le _) (Nat.zero_le _) dX12_least_5 (c_X12_farmMany h) (fun r1 m2 h => ?_)
  refine v_ishl dX12_least_8 ?_
  refine v_iconst (1 : Int32) dX12_least_9 (by decide) ?_
  refine v_isub dX12_least_10 ?_
  refine v_i2l dX12_least_11 ?_
  refine v_cSi [.long _, .long _, .long _] mv_X12_isIn ml_RX12_328 rfl rfl (Nat.le_of_ble_eq_true rfl) (Nat.le_of_ble_eq_true rfl) (Nat.le_of_ble_eq_true rfl) (Nat.zero_le _) (Nat.zero_le _) dX12_least_12 (c_X12_isIn h) (fun r4 m5 h => ?_)
  refine v_if_eq 25 dX12_least_15 (by decide) (fun hc => ?_) (fun hc => ?_)
  · replace h := Eq.mp (if_pos hc) h
    refine v_iconst (-1 : Int32) dX12_least_25 (by decide) ?_
    exact v_iret dX12_least_26 rfl rfl h
  · replace h := Eq.mp (if_neg hc) h
    refine v_aload_n 0 0 dX12_least_18 rfl rfl ?_
    refine v_cVi [] mv_X12_isBegun ml_RX12_565 ⟨_, _, rfl⟩ o3 rfl rfl (Nat.le_of_ble_eq_true rfl) (Nat.le_of_ble_eq_true rfl) (Nat.le_of_ble_eq_true rfl) (Nat.zero_le _) (Nat.zero_le _) dX12_least_19 (c_X12_isBegun h) (fun r6 m7 h => ?_)
    refine v_if_ne 27 dX12_least_22 (by decide) (fun hc => ?_) (fun hc => ?_)
    · replace h := Eq.mp (if_neg hc) h
      refine v_iconst (0 : Int32) dX12_least_27 (by decide) ?_
      refine v_istore_n (ls' := [(2, .int _), (0, .ref _), (1, .int _)]) 2 dX12_least_28 rfl (Nat.le_of_ble_eq_true rfl) rfl ?_
      refine v_sub [1, 2, 0] rfl ?_
      exact v_X12_least_p29 h
    · replace h := Eq.mp (if_pos hc) h
      refine v_iconst (-1 : Int32) dX12_least_25 (by decide) ?_
      exact v_iret dX12_least_26 rfl rfl h
/-! CalledRiverModel.letter -/
theorem dX12_letter_0 : decode cX12_letter 0 = .ok (.iload_n 1, 1) := by decide +kernel
theorem dX12_letter_1 : decode cX12_letter 1 = .ok (.i2l, 1) := by decide +kernel
theorem dX12_letter_2 : decode cX12_letter 2 = .ok (.lconst 0, 1) := by decide +kernel
theorem dX12_letter_3 : decode cX12_letter 3 = .ok (.lconst 1, 1) := by decide +kernel
theorem dX12_letter_4 : decode cX12_letter 4 = .ok (.invokestatic 328, 3) := by decide +kernel
theorem dX12_letter_7 : decode cX12_letter 7 = .ok (.ifCond .eq 35, 3) := by decide +kernel
theorem dX12_letter_10 : decode cX12_letter 10 = .ok (.iload_n 2, 1) := by decide +kernel
theorem dX12_letter_11 : decode cX12_letter 11 = .ok (.i2l, 1) := by decide +kernel
theorem dX12_letter_12 : decode cX12_letter 12 = .ok (.lconst 0, 1) := by decide +kernel
theorem dX12_letter_13 : decode cX12_letter 13 = .ok (.aload_n 0, 1) := by decide +kernel
theorem dX12_letter_14 : decode cX12_letter 14 = .ok (.getfield 114, 3) := by decide +kernel
theorem dX12_letter_17 : decode cX12_letter 17 = .ok (.iconst 2, 1) := by decide +kernel
theorem dX12_letter_18 : decode cX12_letter 18 = .ok (.iload_n 1, 1) := by decide +kernel
theorem dX12_letter_19 : decode cX12_letter 19 = .ok (.iadd, 1) := by decide +kernel
theorem dX12_letter_20 : decode cX12_letter 20 = .ok (.iaload, 1) := by decide +kernel
theorem dX12_letter_21 : decode cX12_letter 21 = .ok (.iconst 1, 1) := by decide +kernel
theorem dX12_letter_22 : decode cX12_letter 22 = .ok (.isub, 1) := by decide +kernel
theorem dX12_letter_23 : decode cX12_letter 23 = .ok (.i2l, 1) := by decide +kernel
theorem dX12_letter_24 : decode cX12_letter 24 = .ok (.invokestatic 328, 3) := by decide +kernel
theorem dX12_letter_27 : decode cX12_letter 27 = .ok (.ifCond .eq 15, 3) := by decide +kernel
theorem dX12_letter_30 : decode cX12_letter 30 = .ok (.iload_n 3, 1) := by decide +kernel
theorem dX12_letter_31 : decode cX12_letter 31 = .ok (.i2l, 1) := by decide +kernel
theorem dX12_letter_32 : decode cX12_letter 32 = .ok (.lconst 0, 1) := by decide +kernel
theorem dX12_letter_33 : decode cX12_letter 33 = .ok (.ldc2_w 550, 3) := by decide +kernel
theorem dX12_letter_36 : decode cX12_letter 36 = .ok (.invokestatic 328, 3) := by decide +kernel
theorem dX12_letter_39 : decode cX12_letter 39 = .ok (.ifCond .ne 5, 3) := by decide +kernel
theorem dX12_letter_42 : decode cX12_letter 42 = .ok (.iconst (-1), 1) := by decide +kernel
theorem dX12_letter_43 : decode cX12_letter 43 = .ok (.ireturn, 1) := by decide +kernel
theorem dX12_letter_44 : decode cX12_letter 44 = .ok (.aload_n 0, 1) := by decide +kernel
theorem dX12_letter_45 : decode cX12_letter 45 = .ok (.getfield 117, 3) := by decide +kernel
theorem dX12_letter_48 : decode cX12_letter 48 = .ok (.bipush 16, 2) := by decide +kernel
theorem dX12_letter_50 : decode cX12_letter 50 = .ok (.bipush 8, 2) := by decide +kernel
theorem dX12_letter_52 : decode cX12_letter 52 = .ok (.iload_n 1, 1) := by decide +kernel
theorem dX12_letter_53 : decode cX12_letter 53 = .ok (.imul, 1) := by decide +kernel
theorem dX12_letter_54 : decode cX12_letter 54 = .ok (.iadd, 1) := by decide +kernel
theorem dX12_letter_55 : decode cX12_letter 55 = .ok (.iload_n 2, 1) := by decide +kernel
theorem dX12_letter_56 : decode cX12_letter 56 = .ok (.iadd, 1) := by decide +kernel
theorem dX12_letter_57 : decode cX12_letter 57 = .ok (.laload, 1) := by decide +kernel
theorem dX12_letter_58 : decode cX12_letter 58 = .ok (.lstore 4, 2) := by decide +kernel
theorem dX12_letter_60 : decode cX12_letter 60 = .ok (.iconst 0, 1) := by decide +kernel
theorem dX12_letter_61 : decode cX12_letter 61 = .ok (.istore 6, 2) := by decide +kernel
theorem dX12_letter_63 : decode cX12_letter 63 = .ok (.lload 4, 2) := by decide +kernel
theorem dX12_letter_65 : decode cX12_letter 65 = .ok (.lstore 7, 2) := by decide +kernel
theorem dX12_letter_67 : decode cX12_letter 67 = .ok (.lload 7, 2) := by decide +kernel
theorem dX12_letter_69 : decode cX12_letter 69 = .ok (.lconst 0, 1) := by decide +kernel
theorem dX12_letter_70 : decode cX12_letter 70 = .ok (.lcmp, 1) := by decide +kernel
theorem dX12_letter_71 : decode cX12_letter 71 = .ok (.ifCond .le 17, 3) := by decide +kernel
theorem dX12_letter_74 : decode cX12_letter 74 = .ok (.iinc 6 1, 3) := by decide +kernel
theorem dX12_letter_77 : decode cX12_letter 77 = .ok (.lload 7, 2) := by decide +kernel
theorem dX12_letter_79 : decode cX12_letter 79 = .ok (.ldc2_w 339, 3) := by decide +kernel
theorem dX12_letter_82 : decode cX12_letter 82 = .ok (.ldiv, 1) := by decide +kernel
theorem dX12_letter_83 : decode cX12_letter 83 = .ok (.lstore 7, 2) := by decide +kernel
theorem dX12_letter_85 : decode cX12_letter 85 = .ok (.goto (-18), 3) := by decide +kernel
theorem dX12_letter_88 : decode cX12_letter 88 = .ok (.iload_n 3, 1) := by decide +kernel
theorem dX12_letter_89 : decode cX12_letter 89 = .ok (.iload 6, 2) := by decide +kernel
theorem dX12_letter_91 : decode cX12_letter 91 = .ok (.if_icmp .lt 5, 3) := by decide +kernel
theorem dX12_letter_94 : decode cX12_letter 94 = .ok (.iconst 0, 1) := by decide +kernel
theorem dX12_letter_95 : decode cX12_letter 95 = .ok (.ireturn, 1) := by decide +kernel
theorem dX12_letter_96 : decode cX12_letter 96 = .ok (.iload 6, 2) := by decide +kernel
theorem dX12_letter_98 : decode cX12_letter 98 = .ok (.iconst 1, 1) := by decide +kernel
theorem dX12_letter_99 : decode cX12_letter 99 = .ok (.isub, 1) := by decide +kernel
theorem dX12_letter_100 : decode cX12_letter 100 = .ok (.istore 7, 2) := by decide +kernel
theorem dX12_letter_102 : decode cX12_letter 102 = .ok (.iload 7, 2) := by decide +kernel
theorem dX12_letter_104 : decode cX12_letter 104 = .ok (.iload_n 3, 1) := by decide +kernel
theorem dX12_letter_105 : decode cX12_letter 105 = .ok (.if_icmp .le 17, 3) := by decide +kernel
theorem dX12_letter_108 : decode cX12_letter 108 = .ok (.lload 4, 2) := by decide +kernel
theorem dX12_letter_110 : decode cX12_letter 110 = .ok (.ldc2_w 339, 3) := by decide +kernel
theorem dX12_letter_113 : decode cX12_letter 113 = .ok (.ldiv, 1) := by decide +kernel
theorem dX12_letter_114 : decode cX12_letter 114 = .ok (.lstore 4, 2) := by decide +kernel
theorem dX12_letter_116 : decode cX12_letter 116 = .ok (.iinc 7 (-1), 3) := by decide +kernel
theorem dX12_letter_119 : decode cX12_letter 119 = .ok (.goto (-17), 3) := by decide +kernel
theorem dX12_letter_122 : decode cX12_letter 122 = .ok (.lload 4, 2) := by decide +kernel
theorem dX12_letter_124 : decode cX12_letter 124 = .ok (.ldc2_w 339, 3) := by decide +kernel
theorem dX12_letter_127 : decode cX12_letter 127 = .ok (.lrem, 1) := by decide +kernel
theorem dX12_letter_128 : decode cX12_letter 128 = .ok (.l2i, 1) := by decide +kernel
theorem dX12_letter_129 : decode cX12_letter 129 = .ok (.ireturn, 1) := by decide +kernel
def X12_letter_p102b (sh : Shp) (v3 : Int32) (Q : Int32 → Mem → Prop) (K102 : Int64 → Int32 → Mem → Prop) (v4 : Int64) (v7 : Int32) (m : Mem) : Prop :=
  if v7 ≤ v3 then (Q (v4 - v4 / (27 : Int64) * (27 : Int64)).toInt32 m) else (K102 (v4 / (27 : Int64)) (v7 + (-1 : Int32)) m)
def X12_letter_p102n (sh : Shp) (v3 : Int32) (Q : Int32 → Mem → Prop) : Nat → Int64 → Int32 → Mem → Prop
  | 0 => fun _ _ _ => False
  | n + 1 => X12_letter_p102b sh v3 Q (X12_letter_p102n sh v3 Q n)
def X12_letter_p102 (sh : Shp) (v3 : Int32) (Q : Int32 → Mem → Prop) (v4 : Int64) (v7 : Int32) (m : Mem) : Prop := ∃ n, X12_letter_p102n sh v3 Q n v4 v7 m
def X12_letter_p67b (sh : Shp) (v3 : Int32) (v4 : Int64) (Q : Int32 → Mem → Prop) (K67 : Int32 → Int64 → Mem → Prop) (v6 : Int32) (v7 : Int64) (m : Mem) : Prop :=
  if (lg_cmp v7 (0 : Int64)) ≤ 0 then (if v3 < v6 then (X12_letter_p102 sh v3 Q v4 (v6 - (1 : Int32)) m) else (Q (0 : Int32) m)) else (K67 (v6 + (1 : Int32)) (v7 / (27 : Int64)) m)
def X12_letter_p67n (sh : Shp) (v3 : Int32) (v4 : Int64) (Q : Int32 → Mem → Prop) : Nat → Int32 → Int64 → Mem → Prop
  | 0 => fun _ _ _ => False
  | n + 1 => X12_letter_p67b sh v3 v4 Q (X12_letter_p67n sh v3 v4 Q n)
def X12_letter_p67 (sh : Shp) (v3 : Int32) (v4 : Int64) (Q : Int32 → Mem → Prop) (v6 : Int32) (v7 : Int64) (m : Mem) : Prop := ∃ n, X12_letter_p67n sh v3 v4 Q n v6 v7 m
def wp_X12_letter (sh : Shp) (v0 : Nat) (v1 : Int32) (v2 : Int32) (v3 : Int32) (Q : Int32 → Mem → Prop) (m : Mem) : Prop :=
  wp_X12_isIn sh v1.toInt64 (0 : Int64) (1 : Int64) (fun r1 m2 => if r1 = 0 then (Q (-1 : Int32) m2) else (Ob sh v0 12 ∧ ∃ b4 : Nat, m2.2.2 v0 45 = some b4 ∧ (Ix sh b4 100 ((2 : Int32) + v1) ∧ (wp_X12_isIn sh v2.toInt64 (0 : Int64) ((m2.1 b4 ((2 : Int32) + v1).toNatClampNeg) - (1 : Int32)).toInt64 (fun r7 m8 => if r7 = 0 then (Q (-1 : Int32) m8) else (wp_X12_isIn sh v3.toInt64 (0 : Int64) (5 : Int64) (fun r9 m10 => if r9 = 0 then (Q (-1 : Int32) m10) else (∃ b11 : Nat, m10.2.2 v0 46 = some b11 ∧ (Ix sh b11 103 (((16 : Int32) + ((8 : Int32) * v1)) + v2) ∧ (X12_letter_p67 sh v3 (m10.2.1 b11 (((16 : Int32) + ((8 : Int32) * v1)) + v2).toNatClampNeg) Q (0 : Int32) (m10.2.1 b11 (((16 : Int32) + ((8 : Int32) * v1)) + v2).toNatClampNeg) m10)))) m8)) m2)))) m
abbrev M_X12_letter : Mi := (cX12_letter, 9, RX12, (Option.some FieldType.int), "letter", 2, 85, 0, 0)
set_option maxHeartbeats 4000000 in
set_option maxRecDepth 100000 in
theorem v_X12_letter_p102b {G : Gl} {F : Fr} {sh : Shp} {v3 : Int32} {v4 : Int64} {v7 : Int32} {Q : Int32 → Mem → Prop} {K102 : Int64 → Int32 → Mem → Prop} {m : Mem} (hK102 : ∀ (x4 : Int64) (x7 : Int32) (m : Mem), K102 x4 x7 m → V G F M_X12_letter sh 0 0 (Zi G F sh Q) 102 [(3, .int v3), (4, .long x4), (7, .int x7)] [] m) (h : X12_letter_p102b sh v3 Q K102 v4 v7 m) : V G F M_X12_letter sh 0 0 (Zi G F sh Q) 102 [(3, .int v3), (4, .long v4), (7, .int v7)] [] m := by
  unfold X12_letter_p102b at h
  refine v_iload 7 2 dX12_letter_102 rfl ?_
  refine v_iload_n 3 0 dX12_letter_104 rfl rfl ?_
  refine v_icmp_le 122 dX12_letter_105 (by decide) (fun hc => ?_) (fun hc => ?_)
  · replace h := Eq.mp (if_pos hc) h
    refine v_lload 4 1 dX12_letter_122 rfl ?_
    refine v_ldc2 (27 : Int64) dX12_letter_124 cw_RX12_339 ?_
    refine v_lrem dX12_letter_127 (by decide) ?_
    refine v_l2i dX12_letter_128 ?_
    exact v_iret dX12_letter_129 rfl rfl h
  · replace h := Eq.mp (if_neg hc) h
    refine v_lload 4 1 dX12_letter_108 rfl ?_
    refine v_ldc2 (27 : Int64) dX12_letter_110 cw_RX12_339 ?_
    refine v_ldiv dX12_letter_113 (by decide) ?_
    refine v_lstore (ls' := [(4, .long _), (3, .int _), (7, .int _)]) 4 dX12_letter_114 (Nat.le_of_ble_eq_true rfl) rfl ?_
    refine v_iinc (ls' := [(7, .int _), (4, .long _), (3, .int _)]) 7 2 dX12_letter_116 rfl (congrArg (HAdd.hAdd _) (by decide : Int32.ofInt (-1) = (-1 : Int32))) (Nat.le_of_ble_eq_true rfl) rfl ?_
    refine v_goto 102 dX12_letter_119 (by decide) ?_
    refine v_sub [2, 1, 0] rfl ?_
    exact hK102 _ _ _ h
set_option maxHeartbeats 4000000 in
set_option maxRecDepth 100000 in
theorem v_X12_letter_p102 {G : Gl} {F : Fr} {sh : Shp} {v3 : Int32} {v4 : Int64} {v7 : Int32} {Q : Int32 → Mem → Prop} {m : Mem} (h : X12_letter_p102 sh v3 Q v4 v7 m) : V G F M_X12_letter sh 0 0 (Zi G F sh Q) 102 [(3, .int v3), (4, .long v4), (7, .int v7)] [] m := by
  obtain ⟨n, h⟩ := h
  induction n generalizing v4 v7 m with
  | zero => exact h.elim
  | succ n ih => exact v_X12_letter_p102b (fun _ _ _ h => ih h) h
set_option maxHeartbeats 4000000 in
set_option maxRecDepth 100000 in
theorem v_X12_letter_p67b {G : Gl} {F : Fr} {sh : Shp} {v3 : Int32} {v4 : Int64} {v6 : Int32} {v7 : Int64} {Q : Int32 → Mem → Prop} {K67 : Int32 → Int64 → Mem → Prop} {m : Mem} (hK67 : ∀ (x6 : Int32) (x7 : Int64) (m : Mem), K67 x6 x7 m → V G F M_X12_letter sh 0 0 (Zi G F sh Q) 67 [(3, .int v3), (4, .long v4), (6, .int x6), (7, .long x7)] [] m) (h : X12_letter_p67b sh v3 v4 Q K67 v6 v7 m) : V G F M_X12_letter sh 0 0 (Zi G F sh Q) 67 [(3, .int v3), (4, .long v4), (6, .int v6), (7, .long v7)] [] m := by
  unfold X12_letter_p67b at h
  refine v_lload 7 3 dX12_letter_67 rfl ?_
  refine v_lconst (0 : Int64) dX12_letter_69 (by decide) ?_
  refine v_lcmp dX12_letter_70 ?_
  refine v_if_le 88 dX12_letter_71 (by decide) (fun hc => ?_) (fun hc => ?_)
  · replace h := Eq.mp (if_pos hc) h
    refine v_iload_n 3 0 dX12_letter_88 rfl rfl ?_
    refine v_iload 6 2 dX12_letter_89 rfl ?_
    refine v_icmp_lt 96 dX12_letter_91 (by decide) (fun hc => ?_) (fun hc => ?_)
    · replace h := Eq.mp (if_pos hc) h
      refine v_iload 6 2 dX12_letter_96 rfl ?_
      refine v_iconst (1 : Int32) dX12_letter_98 (by decide) ?_
      refine v_isub dX12_letter_99 ?_
      refine v_istore (ls' := [(7, .int _), (3, .int _), (4, .long _), (6, .int _)]) 7 dX12_letter_100 (Nat.le_of_ble_eq_true rfl) rfl ?_
      refine v_sub [1, 2, 0] rfl ?_
      exact v_X12_letter_p102 h
    · replace h := Eq.mp (if_neg hc) h
      refine v_iconst (0 : Int32) dX12_letter_94 (by decide) ?_
      exact v_iret dX12_letter_95 rfl rfl h
  · replace h := Eq.mp (if_neg hc) h
    refine v_iinc (ls' := [(6, .int _), (3, .int _), (4, .long _), (7, .long _)]) 6 2 dX12_letter_74 rfl (congrArg (HAdd.hAdd _) (by decide : Int32.ofInt (1) = (1 : Int32))) (Nat.le_of_ble_eq_true rfl) rfl ?_
    refine v_lload 7 3 dX12_letter_77 rfl ?_
    refine v_ldc2 (27 : Int64) dX12_letter_79 cw_RX12_339 ?_
    refine v_ldiv dX12_letter_82 (by decide) ?_
    refine v_lstore (ls' := [(7, .long _), (6, .int _), (3, .int _), (4, .long _)]) 7 dX12_letter_83 (Nat.le_of_ble_eq_true rfl) rfl ?_
    refine v_goto 67 dX12_letter_85 (by decide) ?_
    refine v_sub [2, 3, 1, 0] rfl ?_
    exact hK67 _ _ _ h
set_option maxHeartbeats 4000000 in
set_option maxRecDepth 100000 in
theorem v_X12_letter_p67 {G : Gl} {F : Fr} {sh : Shp} {v3 : Int32} {v4 : Int64} {v6 : Int32} {v7 : Int64} {Q : Int32 → Mem → Prop} {m : Mem} (h : X12_letter_p67 sh v3 v4 Q v6 v7 m) : V G F M_X12_letter sh 0 0 (Zi G F sh Q) 67 [(3, .int v3), (4, .long v4), (6, .int v6), (7, .long v7)] [] m := by
  obtain ⟨n, h⟩ := h
  induction n generalizing v6 v7 m with
  | zero => exact h.elim
  | succ n ih => exact v_X12_letter_p67b (fun _ _ _ h => ih h) h
set_option maxHeartbeats 4000000 in
set_option maxRecDepth 100000 in
theorem c_X12_letter {l : Launch} {G : Gl} {sh : Shp} {v0 : Nat} {v1 : Int32} {v2 : Int32} {v3 : Int32} {Q : Int32 → Mem → Prop} {m : Mem} (h : wp_X12_letter sh v0 v1 v2 v3 Q m) : Cni l G yX12_letter cX12_letter 9 (Option.some FieldType.int) 2 85 sh [.ref (G.1 + v0), .int v1, .int v2, .int v3] m Q := by
  refine con_i (ls := [(0, .ref (G.1 + v0)), (1, .int v1), (2, .int v2), (3, .int v3)]) (by decide +kernel) rfl (Nat.le_of_ble_eq_true rfl) (fun F => ?_)
  show V G F M_X12_letter sh 0 0 (Zi G F sh Q) 0 [(0, .ref (G.1 + v0)), (1, .int v1), (2, .int v2), (3, .int v3)] [] m
  unfold wp_X12_letter at h
  refine v_iload_n 1 1 dX12_letter_0 rfl rfl ?_
  refine v_i2l dX12_letter_1 ?_
  refine v_lconst (0 : Int64) dX12_letter_2 (by decide) ?_
  refine v_lconst (1 : Int64) dX12_letter_3 (by decide) ?_
  refine v_cSi [.long _, .long _, .long _] mv_X12_isIn ml_RX12_328 rfl rfl (Nat.le_of_ble_eq_true rfl) (Nat.le_of_ble_eq_true rfl) (Nat.le_of_ble_eq_true rfl) (Nat.zero_le _) (Nat.zero_le _) dX12_letter_4 (c_X12_isIn h) (fun r1 m2 h => ?_)
  refine v_if_eq 42 dX12_letter_7 (by decide) (fun hc => ?_) (fun hc => ?_)
  · replace h := Eq.mp (if_pos hc) h
    refine v_iconst (-1 : Int32) dX12_letter_42 (by decide) ?_
    exact v_iret dX12_letter_43 rfl rfl h
  · replace h := Eq.mp (if_neg hc) h
    refine v_iload_n 2 2 dX12_letter_10 rfl rfl ?_
    refine v_i2l dX12_letter_11 ?_
    refine v_lconst (0 : Int64) dX12_letter_12 (by decide) ?_
    refine v_aload_n 0 0 dX12_letter_13 rfl rfl ?_
    obtain ⟨o3, h⟩ := h
    obtain ⟨b4, e5, h⟩ := h
    refine v_gR 12 45 dX12_letter_14 fg_RX12_114 o3 e5 ?_
    refine v_iconst (2 : Int32) dX12_letter_17 (by decide) ?_
    refine v_iload_n 1 1 dX12_letter_18 rfl rfl ?_
    refine v_iadd dX12_letter_19 ?_
    obtain ⟨i6, h⟩ := h
    refine v_iald dX12_letter_20 i6 ?_
    refine v_iconst (1 : Int32) dX12_letter_21 (by decide) ?_
    refine v_isub dX12_letter_22 ?_
    refine v_i2l dX12_letter_23 ?_
    refine v_cSi [.long _, .long _, .long _] mv_X12_isIn ml_RX12_328 rfl rfl (Nat.le_of_ble_eq_true rfl) (Nat.le_of_ble_eq_true rfl) (Nat.le_of_ble_eq_true rfl) (Nat.zero_le _) (Nat.zero_le _) dX12_letter_24 (c_X12_isIn h) (fun r7 m8 h => ?_)
    refine v_if_eq 42 dX12_letter_27 (by decide) (fun hc => ?_) (fun hc => ?_)
    · replace h := Eq.mp (if_pos hc) h
      refine v_iconst (-1 : Int32) dX12_letter_42 (by decide) ?_
      exact v_iret dX12_letter_43 rfl rfl h
    · replace h := Eq.mp (if_neg hc) h
      refine v_iload_n 3 3 dX12_letter_30 rfl rfl ?_
      refine v_i2l dX12_letter_31 ?_
      refine v_lconst (0 : Int64) dX12_letter_32 (by decide) ?_
      refine v_ldc2 (5 : Int64) dX12_letter_33 cw_RX12_550 ?_
      refine v_cSi [.long _, .long _, .long _] mv_X12_isIn ml_RX12_328 rfl rfl (Nat.le_of_ble_eq_true rfl) (Nat.le_of_ble_eq_true rfl) (Nat.le_of_ble_eq_true rfl) (Nat.zero_le _) (Nat.zero_le _) dX12_letter_36 (c_X12_isIn h) (fun r9 m10 h => ?_)
      refine v_if_ne 44 dX12_letter_39 (by decide) (fun hc => ?_) (fun hc => ?_)
      · replace h := Eq.mp (if_neg hc) h
        refine v_aload_n 0 0 dX12_letter_44 rfl rfl ?_
        obtain ⟨b11, e12, h⟩ := h
        refine v_gR 12 46 dX12_letter_45 fg_RX12_117 o3 e12 ?_
        refine v_bipush (16 : Int32) dX12_letter_48 (by decide) ?_
        refine v_bipush (8 : Int32) dX12_letter_50 (by decide) ?_
        refine v_iload_n 1 1 dX12_letter_52 rfl rfl ?_
        refine v_imul dX12_letter_53 ?_
        refine v_iadd dX12_letter_54 ?_
        refine v_iload_n 2 2 dX12_letter_55 rfl rfl ?_
        refine v_iadd dX12_letter_56 ?_
        obtain ⟨i13, h⟩ := h
        refine v_lald dX12_letter_57 i13 ?_
        refine v_lstore (ls' := [(4, .long _), (0, .ref _), (1, .int _), (2, .int _), (3, .int _)]) 4 dX12_letter_58 (Nat.le_of_ble_eq_true rfl) rfl ?_
        refine v_iconst (0 : Int32) dX12_letter_60 (by decide) ?_
        refine v_istore (ls' := [(6, .int _), (4, .long _), (0, .ref _), (1, .int _), (2, .int _), (3, .int _)]) 6 dX12_letter_61 (Nat.le_of_ble_eq_true rfl) rfl ?_
        refine v_lload 4 1 dX12_letter_63 rfl ?_
        refine v_lstore (ls' := [(7, .long _), (6, .int _), (4, .long _), (0, .ref _), (1, .int _), (2, .int _), (3, .int _)]) 7 dX12_letter_65 (Nat.le_of_ble_eq_true rfl) rfl ?_
        refine v_sub [6, 2, 1, 0] rfl ?_
        exact v_X12_letter_p67 h
      · replace h := Eq.mp (if_pos hc) h
        refine v_iconst (-1 : Int32) dX12_letter_42 (by decide) ?_
        exact v_iret dX12_letter_43 rfl rfl h
/-! CalledRiverModel.mill -/
theorem dX12_mill_0 : decode cX12_mill 0 = .ok (.aload_n 0, 1) := by decide +kernel
theorem dX12_mill_1 : decode cX12_mill 1 = .ok (.invokevirtual 509, 3) := by decide +kernel
theorem dX12_mill_4 : decode cX12_mill 4 = .ok (.ifCond .eq 15, 3) := by decide +kernel
theorem dX12_mill_7 : decode cX12_mill 7 = .ok (.iload_n 1, 1) := by decide +kernel
theorem dX12_mill_8 : decode cX12_mill 8 = .ok (.i2l, 1) := by decide +kernel
theorem dX12_mill_9 : decode cX12_mill 9 = .ok (.lconst 0, 1) := by decide +kernel
theorem dX12_mill_10 : decode cX12_mill 10 = .ok (.ldc2_w 552, 3) := by decide +kernel
theorem dX12_mill_13 : decode cX12_mill 13 = .ok (.invokestatic 328, 3) := by decide +kernel
theorem dX12_mill_16 : decode cX12_mill 16 = .ok (.ifCond .ne 5, 3) := by decide +kernel
theorem dX12_mill_19 : decode cX12_mill 19 = .ok (.iconst (-1), 1) := by decide +kernel
theorem dX12_mill_20 : decode cX12_mill 20 = .ok (.ireturn, 1) := by decide +kernel
theorem dX12_mill_21 : decode cX12_mill 21 = .ok (.iconst 0, 1) := by decide +kernel
theorem dX12_mill_22 : decode cX12_mill 22 = .ok (.istore_n 2, 1) := by decide +kernel
theorem dX12_mill_23 : decode cX12_mill 23 = .ok (.iload_n 2, 1) := by decide +kernel
theorem dX12_mill_24 : decode cX12_mill 24 = .ok (.bipush 36, 2) := by decide +kernel
theorem dX12_mill_26 : decode cX12_mill 26 = .ok (.if_icmp .ge 16, 3) := by decide +kernel
theorem dX12_mill_29 : decode cX12_mill 29 = .ok (.aload_n 0, 1) := by decide +kernel
theorem dX12_mill_30 : decode cX12_mill 30 = .ok (.getfield 173, 3) := by decide +kernel
theorem dX12_mill_33 : decode cX12_mill 33 = .ok (.iload_n 2, 1) := by decide +kernel
theorem dX12_mill_34 : decode cX12_mill 34 = .ok (.iconst 0, 1) := by decide +kernel
theorem dX12_mill_35 : decode cX12_mill 35 = .ok (.iastore, 1) := by decide +kernel
theorem dX12_mill_36 : decode cX12_mill 36 = .ok (.iinc 2 1, 3) := by decide +kernel
theorem dX12_mill_39 : decode cX12_mill 39 = .ok (.goto (-16), 3) := by decide +kernel
theorem dX12_mill_42 : decode cX12_mill 42 = .ok (.iconst 0, 1) := by decide +kernel
theorem dX12_mill_43 : decode cX12_mill 43 = .ok (.istore_n 2, 1) := by decide +kernel
theorem dX12_mill_44 : decode cX12_mill 44 = .ok (.iload_n 2, 1) := by decide +kernel
theorem dX12_mill_45 : decode cX12_mill 45 = .ok (.aload_n 0, 1) := by decide +kernel
theorem dX12_mill_46 : decode cX12_mill 46 = .ok (.invokevirtual 439, 3) := by decide +kernel
theorem dX12_mill_49 : decode cX12_mill 49 = .ok (.if_icmp .ge 45, 3) := by decide +kernel
theorem dX12_mill_52 : decode cX12_mill 52 = .ok (.aload_n 0, 1) := by decide +kernel
theorem dX12_mill_53 : decode cX12_mill 53 = .ok (.iload_n 2, 1) := by decide +kernel
theorem dX12_mill_54 : decode cX12_mill 54 = .ok (.invokevirtual 521, 3) := by decide +kernel
theorem dX12_mill_57 : decode cX12_mill 57 = .ok (.iconst 1, 1) := by decide +kernel
theorem dX12_mill_58 : decode cX12_mill 58 = .ok (.istore_n 3, 1) := by decide +kernel
theorem dX12_mill_59 : decode cX12_mill 59 = .ok (.iload_n 3, 1) := by decide +kernel
theorem dX12_mill_60 : decode cX12_mill 60 = .ok (.aload_n 0, 1) := by decide +kernel
theorem dX12_mill_61 : decode cX12_mill 61 = .ok (.getfield 497, 3) := by decide +kernel
theorem dX12_mill_64 : decode cX12_mill 64 = .ok (.if_icmp .ge 24, 3) := by decide +kernel
theorem dX12_mill_67 : decode cX12_mill 67 = .ok (.aload_n 0, 1) := by decide +kernel
theorem dX12_mill_68 : decode cX12_mill 68 = .ok (.getfield 173, 3) := by decide +kernel
theorem dX12_mill_71 : decode cX12_mill 71 = .ok (.aload_n 0, 1) := by decide +kernel
theorem dX12_mill_72 : decode cX12_mill 72 = .ok (.getfield 146, 3) := by decide +kernel
theorem dX12_mill_75 : decode cX12_mill 75 = .ok (.iload_n 3, 1) := by decide +kernel
theorem dX12_mill_76 : decode cX12_mill 76 = .ok (.iaload, 1) := by decide +kernel
theorem dX12_mill_77 : decode cX12_mill 77 = .ok (.dup2, 1) := by decide +kernel
theorem dX12_mill_78 : decode cX12_mill 78 = .ok (.iaload, 1) := by decide +kernel
theorem dX12_mill_79 : decode cX12_mill 79 = .ok (.iconst 1, 1) := by decide +kernel
theorem dX12_mill_80 : decode cX12_mill 80 = .ok (.iadd, 1) := by decide +kernel
theorem dX12_mill_81 : decode cX12_mill 81 = .ok (.iastore, 1) := by decide +kernel
theorem dX12_mill_82 : decode cX12_mill 82 = .ok (.iinc 3 1, 3) := by decide +kernel
theorem dX12_mill_85 : decode cX12_mill 85 = .ok (.goto (-26), 3) := by decide +kernel
theorem dX12_mill_88 : decode cX12_mill 88 = .ok (.iinc 2 1, 3) := by decide +kernel
theorem dX12_mill_91 : decode cX12_mill 91 = .ok (.goto (-47), 3) := by decide +kernel
theorem dX12_mill_94 : decode cX12_mill 94 = .ok (.iconst (-1), 1) := by decide +kernel
theorem dX12_mill_95 : decode cX12_mill 95 = .ok (.istore_n 2, 1) := by decide +kernel
theorem dX12_mill_96 : decode cX12_mill 96 = .ok (.iconst 0, 1) := by decide +kernel
theorem dX12_mill_97 : decode cX12_mill 97 = .ok (.istore_n 3, 1) := by decide +kernel
theorem dX12_mill_98 : decode cX12_mill 98 = .ok (.iload_n 3, 1) := by decide +kernel
theorem dX12_mill_99 : decode cX12_mill 99 = .ok (.bipush 36, 2) := by decide +kernel
theorem dX12_mill_101 : decode cX12_mill 101 = .ok (.if_icmp .ge 40, 3) := by decide +kernel
theorem dX12_mill_104 : decode cX12_mill 104 = .ok (.aload_n 0, 1) := by decide +kernel
theorem dX12_mill_105 : decode cX12_mill 105 = .ok (.getfield 173, 3) := by decide +kernel
theorem dX12_mill_108 : decode cX12_mill 108 = .ok (.iload_n 3, 1) := by decide +kernel
theorem dX12_mill_109 : decode cX12_mill 109 = .ok (.iaload, 1) := by decide +kernel
theorem dX12_mill_110 : decode cX12_mill 110 = .ok (.ifCond .le 25, 3) := by decide +kernel
theorem dX12_mill_113 : decode cX12_mill 113 = .ok (.iload_n 2, 1) := by decide +kernel
theorem dX12_mill_114 : decode cX12_mill 114 = .ok (.iconst (-1), 1) := by decide +kernel
theorem dX12_mill_115 : decode cX12_mill 115 = .ok (.if_icmp .eq 18, 3) := by decide +kernel
theorem dX12_mill_118 : decode cX12_mill 118 = .ok (.aload_n 0, 1) := by decide +kernel
theorem dX12_mill_119 : decode cX12_mill 119 = .ok (.getfield 173, 3) := by decide +kernel
theorem dX12_mill_122 : decode cX12_mill 122 = .ok (.iload_n 3, 1) := by decide +kernel
theorem dX12_mill_123 : decode cX12_mill 123 = .ok (.iaload, 1) := by decide +kernel
theorem dX12_mill_124 : decode cX12_mill 124 = .ok (.aload_n 0, 1) := by decide +kernel
theorem dX12_mill_125 : decode cX12_mill 125 = .ok (.getfield 173, 3) := by decide +kernel
theorem dX12_mill_128 : decode cX12_mill 128 = .ok (.iload_n 2, 1) := by decide +kernel
theorem dX12_mill_129 : decode cX12_mill 129 = .ok (.iaload, 1) := by decide +kernel
theorem dX12_mill_130 : decode cX12_mill 130 = .ok (.if_icmp .le 5, 3) := by decide +kernel
theorem dX12_mill_133 : decode cX12_mill 133 = .ok (.iload_n 3, 1) := by decide +kernel
theorem dX12_mill_134 : decode cX12_mill 134 = .ok (.istore_n 2, 1) := by decide +kernel
theorem dX12_mill_135 : decode cX12_mill 135 = .ok (.iinc 3 1, 3) := by decide +kernel
theorem dX12_mill_138 : decode cX12_mill 138 = .ok (.goto (-40), 3) := by decide +kernel
theorem dX12_mill_141 : decode cX12_mill 141 = .ok (.iload_n 2, 1) := by decide +kernel
theorem dX12_mill_142 : decode cX12_mill 142 = .ok (.iconst (-1), 1) := by decide +kernel
theorem dX12_mill_143 : decode cX12_mill 143 = .ok (.if_icmp .ne 7, 3) := by decide +kernel
theorem dX12_mill_146 : decode cX12_mill 146 = .ok (.iconst (-1), 1) := by decide +kernel
theorem dX12_mill_147 : decode cX12_mill 147 = .ok (.goto 32, 3) := by decide +kernel
theorem dX12_mill_150 : decode cX12_mill 150 = .ok (.iload_n 1, 1) := by decide +kernel
theorem dX12_mill_151 : decode cX12_mill 151 = .ok (.ifCond .ne 10, 3) := by decide +kernel
theorem dX12_mill_154 : decode cX12_mill 154 = .ok (.iload_n 2, 1) := by decide +kernel
theorem dX12_mill_155 : decode cX12_mill 155 = .ok (.bipush 6, 2) := by decide +kernel
theorem dX12_mill_157 : decode cX12_mill 157 = .ok (.irem, 1) := by decide +kernel
theorem dX12_mill_158 : decode cX12_mill 158 = .ok (.goto 21, 3) := by decide +kernel
theorem dX12_mill_161 : decode cX12_mill 161 = .ok (.iload_n 1, 1) := by decide +kernel
theorem dX12_mill_162 : decode cX12_mill 162 = .ok (.iconst 1, 1) := by decide +kernel
theorem dX12_mill_163 : decode cX12_mill 163 = .ok (.if_icmp .ne 10, 3) := by decide +kernel
theorem dX12_mill_166 : decode cX12_mill 166 = .ok (.iload_n 2, 1) := by decide +kernel
theorem dX12_mill_167 : decode cX12_mill 167 = .ok (.bipush 6, 2) := by decide +kernel
theorem dX12_mill_169 : decode cX12_mill 169 = .ok (.idiv, 1) := by decide +kernel
theorem dX12_mill_170 : decode cX12_mill 170 = .ok (.goto 9, 3) := by decide +kernel
theorem dX12_mill_173 : decode cX12_mill 173 = .ok (.aload_n 0, 1) := by decide +kernel
theorem dX12_mill_174 : decode cX12_mill 174 = .ok (.getfield 173, 3) := by decide +kernel
theorem dX12_mill_177 : decode cX12_mill 177 = .ok (.iload_n 2, 1) := by decide +kernel
theorem dX12_mill_178 : decode cX12_mill 178 = .ok (.iaload, 1) := by decide +kernel
theorem dX12_mill_179 : decode cX12_mill 179 = .ok (.ireturn, 1) := by decide +kernel
def X12_mill_p59b (sh : Shp) (v0 : Nat) (v1 : Int32) (v2 : Int32) (Q : Int32 → Mem → Prop) (K44 : Int32 → Mem → Prop) (K59 : Int32 → Mem → Prop) (v3 : Int32) (m : Mem) : Prop :=
  Ob sh v0 12 ∧ (if (m.1 v0 64) ≤ v3 then (K44 (v2 + (1 : Int32)) m) else (∃ b26 : Nat, m.2.2 v0 73 = some b26 ∧ (∃ b28 : Nat, m.2.2 v0 63 = some b28 ∧ (Ix sh b28 100 v3 ∧ (Ix sh b26 100 (m.1 b28 v3.toNatClampNeg) ∧ (bnd (sI m b26 (m.1 b28 v3.toNatClampNeg).toNatClampNeg ((m.1 b26 (m.1 b28 v3.toNatClampNeg).toNatClampNeg) + (1 : Int32))) (fun m32 => K59 (v3 + (1 : Int32)) m32)))))))
def X12_mill_p59n (sh : Shp) (v0 : Nat) (v1 : Int32) (v2 : Int32) (Q : Int32 → Mem → Prop) (K44 : Int32 → Mem → Prop) : Nat → Int32 → Mem → Prop
  | 0 => fun _ _ => False
  | n + 1 => X12_mill_p59b sh v0 v1 v2 Q K44 (X12_mill_p59n sh v0 v1 v2 Q K44 n)
def X12_mill_p59 (sh : Shp) (v0 : Nat) (v1 : Int32) (v2 : Int32) (Q : Int32 → Mem → Prop) (K44 : Int32 → Mem → Prop) (v3 : Int32) (m : Mem) : Prop := ∃ n, X12_mill_p59n sh v0 v1 v2 Q K44 n v3 m
def X12_mill_p135 (sh : Shp) (v0 : Nat) (v1 : Int32) (v2 : Int32) (v3 : Int32) (Q : Int32 → Mem → Prop) (K98 : Int32 → Int32 → Mem → Prop) (m : Mem) : Prop :=
  K98 v2 (v3 + (1 : Int32)) m
def X12_mill_p133 (sh : Shp) (v0 : Nat) (v1 : Int32) (v3 : Int32) (Q : Int32 → Mem → Prop) (K98 : Int32 → Int32 → Mem → Prop) (m : Mem) : Prop :=
  X12_mill_p135 sh v0 v1 v3 v3 Q K98 m
def X12_mill_p98b (sh : Shp) (v0 : Nat) (v1 : Int32) (Q : Int32 → Mem → Prop) (K98 : Int32 → Int32 → Mem → Prop) (v2 : Int32) (v3 : Int32) (m : Mem) : Prop :=
  if (36 : Int32) ≤ v3 then (if v2 = (-1 : Int32) then (Q (-1 : Int32) m) else (if v1 = 0 then (Q (v2 - v2 / (6 : Int32) * (6 : Int32)) m) else (if v1 = (1 : Int32) then (Q (v2 / (6 : Int32)) m) else (Ob sh v0 12 ∧ ∃ b17 : Nat, m.2.2 v0 73 = some b17 ∧ (Ix sh b17 100 v2 ∧ (Q (m.1 b17 v2.toNatClampNeg) m)))))) else (Ob sh v0 12 ∧ ∃ b21 : Nat, m.2.2 v0 73 = some b21 ∧ (Ix sh b21 100 v3 ∧ (if (m.1 b21 v3.toNatClampNeg) ≤ 0 then (X12_mill_p135 sh v0 v1 v2 v3 Q K98 m) else (if v2 = (-1 : Int32) then (X12_mill_p133 sh v0 v1 v3 Q K98 m) else (Ix sh b21 100 v2 ∧ (if (m.1 b21 v3.toNatClampNeg) ≤ (m.1 b21 v2.toNatClampNeg) then (X12_mill_p135 sh v0 v1 v2 v3 Q K98 m) else (X12_mill_p133 sh v0 v1 v3 Q K98 m)))))))
def X12_mill_p98n (sh : Shp) (v0 : Nat) (v1 : Int32) (Q : Int32 → Mem → Prop) : Nat → Int32 → Int32 → Mem → Prop
  | 0 => fun _ _ _ => False
  | n + 1 => X12_mill_p98b sh v0 v1 Q (X12_mill_p98n sh v0 v1 Q n)
def X12_mill_p98 (sh : Shp) (v0 : Nat) (v1 : Int32) (Q : Int32 → Mem → Prop) (v2 : Int32) (v3 : Int32) (m : Mem) : Prop := ∃ n, X12_mill_p98n sh v0 v1 Q n v2 v3 m
def X12_mill_p44b (sh : Shp) (v0 : Nat) (v1 : Int32) (Q : Int32 → Mem → Prop) (K44 : Int32 → Mem → Prop) (v2 : Int32) (m : Mem) : Prop :=
  Ob sh v0 12 ∧ wp_X12_callerMany sh v0 (fun r11 m12 => if r11 ≤ v2 then (X12_mill_p98 sh v0 v1 Q (-1 : Int32) (0 : Int32) m12) else (wp_X12_laysWay sh v0 v2 (fun m15 => X12_mill_p59 sh v0 v1 v2 Q K44 (1 : Int32) m15) m12)) m
def X12_mill_p44n (sh : Shp) (v0 : Nat) (v1 : Int32) (Q : Int32 → Mem → Prop) : Nat → Int32 → Mem → Prop
  | 0 => fun _ _ => False
  | n + 1 => X12_mill_p44b sh v0 v1 Q (X12_mill_p44n sh v0 v1 Q n)
def X12_mill_p44 (sh : Shp) (v0 : Nat) (v1 : Int32) (Q : Int32 → Mem → Prop) (v2 : Int32) (m : Mem) : Prop := ∃ n, X12_mill_p44n sh v0 v1 Q n v2 m
def X12_mill_p23b (sh : Shp) (v0 : Nat) (v1 : Int32) (Q : Int32 → Mem → Prop) (K23 : Int32 → Mem → Prop) (v2 : Int32) (m : Mem) : Prop :=
  if (36 : Int32) ≤ v2 then (X12_mill_p44 sh v0 v1 Q (0 : Int32) m) else (Ob sh v0 12 ∧ ∃ b7 : Nat, m.2.2 v0 73 = some b7 ∧ (Ix sh b7 100 v2 ∧ bnd (sI m b7 v2.toNatClampNeg (0 : Int32)) (fun m10 => K23 (v2 + (1 : Int32)) m10)))
def X12_mill_p23n (sh : Shp) (v0 : Nat) (v1 : Int32) (Q : Int32 → Mem → Prop) : Nat → Int32 → Mem → Prop
  | 0 => fun _ _ => False
  | n + 1 => X12_mill_p23b sh v0 v1 Q (X12_mill_p23n sh v0 v1 Q n)
def X12_mill_p23 (sh : Shp) (v0 : Nat) (v1 : Int32) (Q : Int32 → Mem → Prop) (v2 : Int32) (m : Mem) : Prop := ∃ n, X12_mill_p23n sh v0 v1 Q n v2 m
def wp_X12_mill (sh : Shp) (v0 : Nat) (v1 : Int32) (Q : Int32 → Mem → Prop) (m : Mem) : Prop :=
  Ob sh v0 12 ∧ wp_X12_hasWay sh v0 (fun r1 m2 => if r1 = 0 then (Q (-1 : Int32) m2) else (wp_X12_isIn sh v1.toInt64 (0 : Int64) (2 : Int64) (fun r4 m5 => if r4 = 0 then (Q (-1 : Int32) m5) else (X12_mill_p23 sh v0 v1 Q (0 : Int32) m5)) m2)) m
abbrev M_X12_mill : Mi := (cX12_mill, 4, RX12, (Option.some FieldType.int), "mill", 9, 243, 0, 0)
set_option maxHeartbeats 4000000 in
set_option maxRecDepth 100000 in
theorem v_X12_mill_p59b {G : Gl} {F : Fr} {sh : Shp} {v0 : Nat} {v1 : Int32} {v2 : Int32} {v3 : Int32} {Q : Int32 → Mem → Prop} {K44 : Int32 → Mem → Prop} {K59 : Int32 → Mem → Prop} {m : Mem} (hK44 : ∀ (x2 : Int32) (m : Mem), K44 x2 m → V G F M_X12_mill sh 0 0 (Zi G F sh Q) 44 [(0, .ref (G.1 + v0)), (1, .int v1), (2, .int x2)] [] m) (hK59 : ∀ (x3 : Int32) (m : Mem), K59 x3 m → V G F M_X12_mill sh 0 0 (Zi G F sh Q) 59 [(0, .ref (G.1 + v0)), (1, .int v1), (2, .int v2), (3, .int x3)] [] m) (h : X12_mill_p59b sh v0 v1 v2 Q K44 K59 v3 m) : V G F M_X12_mill sh 0 0 (Zi G F sh Q) 59 [(0, .ref (G.1 + v0)), (1, .int v1), (2, .int v2), (3, .int v3)] [] m := by
  unfold X12_mill_p59b at h
  refine v_iload_n 3 3 dX12_mill_59 rfl rfl ?_
  refine v_aload_n 0 0 dX12_mill_60 rfl rfl ?_
  obtain ⟨o25, h⟩ := h
  refine v_gI 12 64 dX12_mill_61 fg_RX12_497 o25 ?_
  refine v_icmp_ge 88 dX12_mill_64 (by decide) (fun hc => ?_) (fun hc => ?_)
  · replace h := Eq.mp (if_pos hc) h
    refine v_iinc (ls' := [(2, .int _), (0, .ref _), (1, .int _), (3, .int _)]) 2 2 dX12_mill_88 rfl (congrArg (HAdd.hAdd _) (by decide : Int32.ofInt (1) = (1 : Int32))) (Nat.le_of_ble_eq_true rfl) rfl ?_
    refine v_goto 44 dX12_mill_91 (by decide) ?_
    refine v_sub [1, 2, 0] rfl ?_
    exact hK44 _ _ h
  · replace h := Eq.mp (if_neg hc) h
    refine v_aload_n 0 0 dX12_mill_67 rfl rfl ?_
    obtain ⟨b26, e27, h⟩ := h
    refine v_gR 12 73 dX12_mill_68 fg_RX12_173 o25 e27 ?_
    refine v_aload_n 0 0 dX12_mill_71 rfl rfl ?_
    obtain ⟨b28, e29, h⟩ := h
    refine v_gR 12 63 dX12_mill_72 fg_RX12_146 o25 e29 ?_
    refine v_iload_n 3 3 dX12_mill_75 rfl rfl ?_
    obtain ⟨i30, h⟩ := h
    refine v_iald dX12_mill_76 i30 ?_
    refine v_dup2 dX12_mill_77 rfl rfl ?_
    obtain ⟨i31, h⟩ := h
    refine v_iald dX12_mill_78 i31 ?_
    refine v_iconst (1 : Int32) dX12_mill_79 (by decide) ?_
    refine v_iadd dX12_mill_80 ?_
    refine v_iast dX12_mill_81 i31 ?_
    replace h := bnd_e h
    refine v_iinc (ls' := [(3, .int _), (0, .ref _), (1, .int _), (2, .int _)]) 3 3 dX12_mill_82 rfl (congrArg (HAdd.hAdd _) (by decide : Int32.ofInt (1) = (1 : Int32))) (Nat.le_of_ble_eq_true rfl) rfl ?_
    refine v_goto 59 dX12_mill_85 (by decide) ?_
    refine v_sub [1, 2, 3, 0] rfl ?_
    exact hK59 _ _ h
set_option maxHeartbeats 4000000 in
set_option maxRecDepth 100000 in
theorem v_X12_mill_p59 {G : Gl} {F : Fr} {sh : Shp} {v0 : Nat} {v1 : Int32} {v2 : Int32} {v3 : Int32} {Q : Int32 → Mem → Prop} {K44 : Int32 → Mem → Prop} {m : Mem} (hK44 : ∀ (x2 : Int32) (m : Mem), K44 x2 m → V G F M_X12_mill sh 0 0 (Zi G F sh Q) 44 [(0, .ref (G.1 + v0)), (1, .int v1), (2, .int x2)] [] m) (h : X12_mill_p59 sh v0 v1 v2 Q K44 v3 m) : V G F M_X12_mill sh 0 0 (Zi G F sh Q) 59 [(0, .ref (G.1 + v0)), (1, .int v1), (2, .int v2), (3, .int v3)] [] m := by
  obtain ⟨n, h⟩ := h
  induction n generalizing v3 m with
  | zero => exact h.elim
  | succ n ih => exact v_X12_mill_p59b hK44 (fun _ _ h => ih h) h
set_option maxHeartbeats 4000000 in
set_option maxRecDepth 100000 in
theorem v_X12_mill_p135 {G : Gl} {F : Fr} {sh : Shp} {v0 : Nat} {v1 : Int32} {v2 : Int32} {v3 : Int32} {Q : Int32 → Mem → Prop} {K98 : Int32 → Int32 → Mem → Prop} {m : Mem} (hK98 : ∀ (x2 : Int32) (x3 : Int32) (m : Mem), K98 x2 x3 m → V G F M_X12_mill sh 0 0 (Zi G F sh Q) 98 [(0, .ref (G.1 + v0)), (1, .int v1), (2, .int x2), (3, .int x3)] [] m) (h : X12_mill_p135 sh v0 v1 v2 v3 Q K98 m) : V G F M_X12_mill sh 0 0 (Zi G F sh Q) 135 [(0, .ref (G.1 + v0)), (1, .int v1), (2, .int v2), (3, .int v3)] [] m := by
  unfold X12_mill_p135 at h
  refine v_iinc (ls' := [(3, .int _), (0, .ref _), (1, .int _), (2, .int _)]) 3 3 dX12_mill_135 rfl (congrArg (HAdd.hAdd _) (by decide : Int32.ofInt (1) = (1 : Int32))) (Nat.le_of_ble_eq_true rfl) rfl ?_
  refine v_goto 98 dX12_mill_138 (by decide) ?_
  refine v_sub [1, 2, 3, 0] rfl ?_
  exact hK98 _ _ _ h
set_option maxHeartbeats 4000000 in
set_option maxRecDepth 100000 in
theorem v_X12_mill_p133 {G : Gl} {F : Fr} {sh : Shp} {v0 : Nat} {v1 : Int32} {v3 : Int32} {Q : Int32 → Mem → Prop} {K98 : Int32 → Int32 → Mem → Prop} {m : Mem} (hK98 : ∀ (x2 : Int32) (x3 : Int32) (m : Mem), K98 x2 x3 m → V G F M_X12_mill sh 0 0 (Zi G F sh Q) 98 [(0, .ref (G.1 + v0)), (1, .int v1), (2, .int x2), (3, .int x3)] [] m) (h : X12_mill_p133 sh v0 v1 v3 Q K98 m) : V G F M_X12_mill sh 0 0 (Zi G F sh Q) 133 [(0, .ref (G.1 + v0)), (1, .int v1), (3, .int v3)] [] m := by
  unfold X12_mill_p133 at h
  refine v_iload_n 3 2 dX12_mill_133 rfl rfl ?_
  refine v_istore_n (ls' := [(2, .int _), (0, .ref _), (1, .int _), (3, .int _)]) 2 dX12_mill_134 rfl (Nat.le_of_ble_eq_true rfl) rfl ?_
  refine v_sub [1, 2, 0, 3] rfl ?_
  exact v_X12_mill_p135 hK98 h
set_option maxHeartbeats 4000000 in
set_option maxRecDepth 100000 in
theorem v_X12_mill_p98b {G : Gl} {F : Fr} {sh : Shp} {v0 : Nat} {v1 : Int32} {v2 : Int32} {v3 : Int32} {Q : Int32 → Mem → Prop} {K98 : Int32 → Int32 → Mem → Prop} {m : Mem} (hK98 : ∀ (x2 : Int32) (x3 : Int32) (m : Mem), K98 x2 x3 m → V G F M_X12_mill sh 0 0 (Zi G F sh Q) 98 [(0, .ref (G.1 + v0)), (1, .int v1), (2, .int x2), (3, .int x3)] [] m) (h : X12_mill_p98b sh v0 v1 Q K98 v2 v3 m) : V G F M_X12_mill sh 0 0 (Zi G F sh Q) 98 [(0, .ref (G.1 + v0)), (1, .int v1), (2, .int v2), (3, .int v3)] [] m := by
  unfold X12_mill_p98b at h
  refine v_iload_n 3 3 dX12_mill_98 rfl rfl ?_
  refine v_bipush (36 : Int32) dX12_mill_99 (by decide) ?_
  refine v_icmp_ge 141 dX12_mill_101 (by decide) (fun hc => ?_) (fun hc => ?_)
  · replace h := Eq.mp (if_pos hc) h
    refine v_iload_n 2 2 dX12_mill_141 rfl rfl ?_
    refine v_iconst (-1 : Int32) dX12_mill_142 (by decide) ?_
    refine v_icmp_ne 150 dX12_mill_143 (by decide) (fun hc => ?_) (fun hc => ?_)
    · replace h := Eq.mp (if_neg hc) h
      refine v_iload_n 1 1 dX12_mill_150 rfl rfl ?_
      refine v_if_ne 161 dX12_mill_151 (by decide) (fun hc => ?_) (fun hc => ?_)
      · replace h := Eq.mp (if_neg hc) h
        refine v_iload_n 1 1 dX12_mill_161 rfl rfl ?_
        refine v_iconst (1 : Int32) dX12_mill_162 (by decide) ?_
        refine v_icmp_ne 173 dX12_mill_163 (by decide) (fun hc => ?_) (fun hc => ?_)
        · replace h := Eq.mp (if_neg hc) h
          refine v_aload_n 0 0 dX12_mill_173 rfl rfl ?_
          obtain ⟨o16, h⟩ := h
          obtain ⟨b17, e18, h⟩ := h
          refine v_gR 12 73 dX12_mill_174 fg_RX12_173 o16 e18 ?_
          refine v_iload_n 2 2 dX12_mill_177 rfl rfl ?_
          obtain ⟨i19, h⟩ := h
          refine v_iald dX12_mill_178 i19 ?_
          exact v_iret dX12_mill_179 rfl rfl h
        · replace h := Eq.mp (if_pos hc) h
          refine v_iload_n 2 2 dX12_mill_166 rfl rfl ?_
          refine v_bipush (6 : Int32) dX12_mill_167 (by decide) ?_
          refine v_idiv dX12_mill_169 (by decide) ?_
          refine v_goto 179 dX12_mill_170 (by decide) ?_
          exact v_iret dX12_mill_179 rfl rfl h
      · replace h := Eq.mp (if_pos hc) h
        refine v_iload_n 2 2 dX12_mill_154 rfl rfl ?_
        refine v_bipush (6 : Int32) dX12_mill_155 (by decide) ?_
        refine v_irem dX12_mill_157 (by decide) ?_
        refine v_goto 179 dX12_mill_158 (by decide) ?_
        exact v_iret dX12_mill_179 rfl rfl h
    · replace h := Eq.mp (if_pos hc) h
      refine v_iconst (-1 : Int32) dX12_mill_146 (by decide) ?_
      refine v_goto 179 dX12_mill_147 (by decide) ?_
      exact v_iret dX12_mill_179 rfl rfl h
  · replace h := Eq.mp (if_neg hc) h
    refine v_aload_n 0 0 dX12_mill_104 rfl rfl ?_
    obtain ⟨o20, h⟩ := h
    obtain ⟨b21, e22, h⟩ := h
    refine v_gR 12 73 dX12_mill_105 fg_RX12_173 o20 e22 ?_
    refine v_iload_n 3 3 dX12_mill_108 rfl rfl ?_
    obtain ⟨i23, h⟩ := h
    refine v_iald dX12_mill_109 i23 ?_
    refine v_if_le 135 dX12_mill_110 (by decide) (fun hc => ?_) (fun hc => ?_)
    · replace h := Eq.mp (if_pos hc) h
      refine v_sub [0, 1, 2, 3] rfl ?_
      exact v_X12_mill_p135 hK98 h
    · replace h := Eq.mp (if_neg hc) h
      refine v_iload_n 2 2 dX12_mill_113 rfl rfl ?_
      refine v_iconst (-1 : Int32) dX12_mill_114 (by decide) ?_
      refine v_icmp_eq 133 dX12_mill_115 (by decide) (fun hc => ?_) (fun hc => ?_)
      · replace h := Eq.mp (if_pos hc) h
        refine v_sub [0, 1, 3] rfl ?_
        exact v_X12_mill_p133 hK98 h
      · replace h := Eq.mp (if_neg hc) h
        refine v_aload_n 0 0 dX12_mill_118 rfl rfl ?_
        refine v_gR 12 73 dX12_mill_119 fg_RX12_173 o20 e22 ?_
        refine v_iload_n 3 3 dX12_mill_122 rfl rfl ?_
        refine v_iald dX12_mill_123 i23 ?_
        refine v_aload_n 0 0 dX12_mill_124 rfl rfl ?_
        refine v_gR 12 73 dX12_mill_125 fg_RX12_173 o20 e22 ?_
        refine v_iload_n 2 2 dX12_mill_128 rfl rfl ?_
        obtain ⟨i24, h⟩ := h
        refine v_iald dX12_mill_129 i24 ?_
        refine v_icmp_le 135 dX12_mill_130 (by decide) (fun hc => ?_) (fun hc => ?_)
        · replace h := Eq.mp (if_pos hc) h
          refine v_sub [0, 1, 2, 3] rfl ?_
          exact v_X12_mill_p135 hK98 h
        · replace h := Eq.mp (if_neg hc) h
          refine v_sub [0, 1, 3] rfl ?_
          exact v_X12_mill_p133 hK98 h
set_option maxHeartbeats 4000000 in
set_option maxRecDepth 100000 in
theorem v_X12_mill_p98 {G : Gl} {F : Fr} {sh : Shp} {v0 : Nat} {v1 : Int32} {v2 : Int32} {v3 : Int32} {Q : Int32 → Mem → Prop} {m : Mem} (h : X12_mill_p98 sh v0 v1 Q v2 v3 m) : V G F M_X12_mill sh 0 0 (Zi G F sh Q) 98 [(0, .ref (G.1 + v0)), (1, .int v1), (2, .int v2), (3, .int v3)] [] m := by
  obtain ⟨n, h⟩ := h
  induction n generalizing v2 v3 m with
  | zero => exact h.elim
  | succ n ih => exact v_X12_mill_p98b (fun _ _ _ h => ih h) h
set_option maxHeartbeats 4000000 in
set_option maxRecDepth 100000 in
theorem v_X12_mill_p44b {G : Gl} {F : Fr} {sh : Shp} {v0 : Nat} {v1 : Int32} {v2 : Int32} {Q : Int32 → Mem → Prop} {K44 : Int32 → Mem → Prop} {m : Mem} (hK44 : ∀ (x2 : Int32) (m : Mem), K44 x2 m → V G F M_X12_mill sh 0 0 (Zi G F sh Q) 44 [(0, .ref (G.1 + v0)), (1, .int v1), (2, .int x2)] [] m) (h : X12_mill_p44b sh v0 v1 Q K44 v2 m) : V G F M_X12_mill sh 0 0 (Zi G F sh Q) 44 [(0, .ref (G.1 + v0)), (1, .int v1), (2, .int v2)] [] m := by
  unfold X12_mill_p44b at h
  refine v_iload_n 2 2 dX12_mill_44 rfl rfl ?_
  refine v_aload_n 0 0 dX12_mill_45 rfl rfl ?_
  obtain ⟨o13, h⟩ := h
  refine v_cVi [] mv_X12_callerMany ml_RX12_439 ⟨_, _, rfl⟩ o13 rfl rfl (Nat.le_of_ble_eq_true rfl) (Nat.le_of_ble_eq_true rfl) (Nat.le_of_ble_eq_true rfl) (Nat.zero_le _) (Nat.zero_le _) dX12_mill_46 (c_X12_callerMany h) (fun r11 m12 h => ?_)
  refine v_icmp_ge 94 dX12_mill_49 (by decide) (fun hc => ?_) (fun hc => ?_)
  · replace h := Eq.mp (if_pos hc) h
    refine v_iconst (-1 : Int32) dX12_mill_94 (by decide) ?_
    refine v_istore_n (ls' := [(2, .int _), (0, .ref _), (1, .int _)]) 2 dX12_mill_95 rfl (Nat.le_of_ble_eq_true rfl) rfl ?_
    refine v_iconst (0 : Int32) dX12_mill_96 (by decide) ?_
    refine v_istore_n (ls' := [(3, .int _), (2, .int _), (0, .ref _), (1, .int _)]) 3 dX12_mill_97 rfl (Nat.le_of_ble_eq_true rfl) rfl ?_
    refine v_sub [2, 3, 1, 0] rfl ?_
    exact v_X12_mill_p98 h
  · replace h := Eq.mp (if_neg hc) h
    refine v_aload_n 0 0 dX12_mill_52 rfl rfl ?_
    refine v_iload_n 2 2 dX12_mill_53 rfl rfl ?_
    refine v_cVv [.int _] mv_X12_laysWay ml_RX12_521 ⟨_, _, rfl⟩ o13 rfl rfl (Nat.le_of_ble_eq_true rfl) (Nat.le_of_ble_eq_true rfl) (Nat.le_of_ble_eq_true rfl) (Nat.zero_le _) (Nat.zero_le _) dX12_mill_54 (c_X12_laysWay h) (fun m15 h => ?_)
    refine v_iconst (1 : Int32) dX12_mill_57 (by decide) ?_
    refine v_istore_n (ls' := [(3, .int _), (0, .ref _), (1, .int _), (2, .int _)]) 3 dX12_mill_58 rfl (Nat.le_of_ble_eq_true rfl) rfl ?_
    refine v_sub [1, 2, 3, 0] rfl ?_
    exact v_X12_mill_p59 hK44 h
set_option maxHeartbeats 4000000 in
set_option maxRecDepth 100000 in
theorem v_X12_mill_p44 {G : Gl} {F : Fr} {sh : Shp} {v0 : Nat} {v1 : Int32} {v2 : Int32} {Q : Int32 → Mem → Prop} {m : Mem} (h : X12_mill_p44 sh v0 v1 Q v2 m) : V G F M_X12_mill sh 0 0 (Zi G F sh Q) 44 [(0, .ref (G.1 + v0)), (1, .int v1), (2, .int v2)] [] m := by
  obtain ⟨n, h⟩ := h
  induction n generalizing v2 m with
  | zero => exact h.elim
  | succ n ih => exact v_X12_mill_p44b (fun _ _ h => ih h) h
set_option maxHeartbeats 4000000 in
set_option maxRecDepth 100000 in
theorem v_X12_mill_p23b {G : Gl} {F : Fr} {sh : Shp} {v0 : Nat} {v1 : Int32} {v2 : Int32} {Q : Int32 → Mem → Prop} {K23 : Int32 → Mem → Prop} {m : Mem} (hK23 : ∀ (x2 : Int32) (m : Mem), K23 x2 m → V G F M_X12_mill sh 0 0 (Zi G F sh Q) 23 [(0, .ref (G.1 + v0)), (1, .int v1), (2, .int x2)] [] m) (h : X12_mill_p23b sh v0 v1 Q K23 v2 m) : V G F M_X12_mill sh 0 0 (Zi G F sh Q) 23 [(0, .ref (G.1 + v0)), (1, .int v1), (2, .int v2)] [] m := by
  unfold X12_mill_p23b at h
  refine v_iload_n 2 2 dX12_mill_23 rfl rfl ?_
  refine v_bipush (36 : Int32) dX12_mill_24 (by decide) ?_
  refine v_icmp_ge 42 dX12_mill_26 (by decide) (fun hc => ?_) (fun hc => ?_)
  · replace h := Eq.mp (if_pos hc) h
    refine v_iconst (0 : Int32) dX12_mill_42 (by decide) ?_
    refine v_istore_n (ls' := [(2, .int _), (0, .ref _), (1, .int _)]) 2 dX12_mill_43 rfl (Nat.le_of_ble_eq_true rfl) rfl ?_
    refine v_sub [1, 2, 0] rfl ?_
    exact v_X12_mill_p44 h
  · replace h := Eq.mp (if_neg hc) h
    refine v_aload_n 0 0 dX12_mill_29 rfl rfl ?_
    obtain ⟨o6, h⟩ := h
    obtain ⟨b7, e8, h⟩ := h
    refine v_gR 12 73 dX12_mill_30 fg_RX12_173 o6 e8 ?_
    refine v_iload_n 2 2 dX12_mill_33 rfl rfl ?_
    refine v_iconst (0 : Int32) dX12_mill_34 (by decide) ?_
    obtain ⟨i9, h⟩ := h
    refine v_iast dX12_mill_35 i9 ?_
    replace h := bnd_e h
    refine v_iinc (ls' := [(2, .int _), (0, .ref _), (1, .int _)]) 2 2 dX12_mill_36 rfl (congrArg (HAdd.hAdd _) (by decide : Int32.ofInt (1) = (1 : Int32))) (Nat.le_of_ble_eq_true rfl) rfl ?_
    refine v_goto 23 dX12_mill_39 (by decide) ?_
    refine v_sub [1, 2, 0] rfl ?_
    exact hK23 _ _ h
set_option maxHeartbeats 4000000 in
set_option maxRecDepth 100000 in
theorem v_X12_mill_p23 {G : Gl} {F : Fr} {sh : Shp} {v0 : Nat} {v1 : Int32} {v2 : Int32} {Q : Int32 → Mem → Prop} {m : Mem} (h : X12_mill_p23 sh v0 v1 Q v2 m) : V G F M_X12_mill sh 0 0 (Zi G F sh Q) 23 [(0, .ref (G.1 + v0)), (1, .int v1), (2, .int v2)] [] m := by
  obtain ⟨n, h⟩ := h
  induction n generalizing v2 m with
  | zero => exact h.elim
  | succ n ih => exact v_X12_mill_p23b (fun _ _ h => ih h) h
set_option maxHeartbeats 4000000 in
set_option maxRecDepth 100000 in
theorem c_X12_mill {l : Launch} {G : Gl} {sh : Shp} {v0 : Nat} {v1 : Int32} {Q : Int32 → Mem → Prop} {m : Mem} (h : wp_X12_mill sh v0 v1 Q m) : Cni l G yX12_mill cX12_mill 4 (Option.some FieldType.int) 9 243 sh [.ref (G.1 + v0), .int v1] m Q := by
  refine con_i (ls := [(0, .ref (G.1 + v0)), (1, .int v1)]) (by decide +kernel) rfl (Nat.le_of_ble_eq_true rfl) (fun F => ?_)
  show V G F M_X12_mill sh 0 0 (Zi G F sh Q) 0 [(0, .ref (G.1 + v0)), (1, .int v1)] [] m
  unfold wp_X12_mill at h
  refine v_aload_n 0 0 dX12_mill_0 rfl rfl ?_
  obtain ⟨o3, h⟩ := h
  refine v_cVi [] mv_X12_hasWay ml_RX12_509 ⟨_, _, rfl⟩ o3 rfl rfl (Nat.le_of_ble_eq_true rfl) (Nat.le_of_ble_eq_true rfl) (Nat.le_of_ble_eq_true rfl) (Nat.zero_le _) (Nat.zero_le _) dX12_mill_1 (c_X12_hasWay h) (fun r1 m2 h => ?_)
  refine v_if_eq 19 dX12_mill_4 (by decide) (fun hc => ?_) (fun hc => ?_)
  · replace h := Eq.mp (if_pos hc) h
    refine v_iconst (-1 : Int32) dX12_mill_19 (by decide) ?_
    exact v_iret dX12_mill_20 rfl rfl h
  · replace h := Eq.mp (if_neg hc) h
    refine v_iload_n 1 1 dX12_mill_7 rfl rfl ?_
    refine v_i2l dX12_mill_8 ?_
    refine v_lconst (0 : Int64) dX12_mill_9 (by decide) ?_
    refine v_ldc2 (2 : Int64) dX12_mill_10 cw_RX12_552 ?_
    refine v_cSi [.long _, .long _, .long _] mv_X12_isIn ml_RX12_328 rfl rfl (Nat.le_of_ble_eq_true rfl) (Nat.le_of_ble_eq_true rfl) (Nat.le_of_ble_eq_true rfl) (Nat.zero_le _) (Nat.zero_le _) dX12_mill_13 (c_X12_isIn h) (fun r4 m5 h => ?_)
    refine v_if_ne 21 dX12_mill_16 (by decide) (fun hc => ?_) (fun hc => ?_)
    · replace h := Eq.mp (if_neg hc) h
      refine v_iconst (0 : Int32) dX12_mill_21 (by decide) ?_
      refine v_istore_n (ls' := [(2, .int _), (0, .ref _), (1, .int _)]) 2 dX12_mill_22 rfl (Nat.le_of_ble_eq_true rfl) rfl ?_
      refine v_sub [1, 2, 0] rfl ?_
      exact v_X12_mill_p23 h
    · replace h := Eq.mp (if_pos hc) h
      refine v_iconst (-1 : Int32) dX12_mill_19 (by decide) ?_
      exact v_iret dX12_mill_20 rfl rfl h
/-! CalledRiverModel.mostAlike -/
theorem dX12_mostAlike_0 : decode cX12_mostAlike 0 = .ok (.iconst 0, 1) := by decide +kernel
theorem dX12_mostAlike_1 : decode cX12_mostAlike 1 = .ok (.istore_n 3, 1) := by decide +kernel
theorem dX12_mostAlike_2 : decode cX12_mostAlike 2 = .ok (.iconst 0, 1) := by decide +kernel
theorem dX12_mostAlike_3 : decode cX12_mostAlike 3 = .ok (.istore 4, 2) := by decide +kernel
theorem dX12_mostAlike_5 : decode cX12_mostAlike 5 = .ok (.iload 4, 2) := by decide +kernel
theorem dX12_mostAlike_7 : decode cX12_mostAlike 7 = .ok (.aload_n 0, 1) := by decide +kernel
theorem dX12_mostAlike_8 : decode cX12_mostAlike 8 = .ok (.invokevirtual 439, 3) := by decide +kernel
theorem dX12_mostAlike_11 : decode cX12_mostAlike 11 = .ok (.if_icmp .ge 89, 3) := by decide +kernel
theorem dX12_mostAlike_14 : decode cX12_mostAlike 14 = .ok (.iconst 0, 1) := by decide +kernel
theorem dX12_mostAlike_15 : decode cX12_mostAlike 15 = .ok (.istore 5, 2) := by decide +kernel
theorem dX12_mostAlike_17 : decode cX12_mostAlike 17 = .ok (.iconst 0, 1) := by decide +kernel
theorem dX12_mostAlike_18 : decode cX12_mostAlike 18 = .ok (.istore 6, 2) := by decide +kernel
theorem dX12_mostAlike_20 : decode cX12_mostAlike 20 = .ok (.iload 6, 2) := by decide +kernel
theorem dX12_mostAlike_22 : decode cX12_mostAlike 22 = .ok (.aload_n 0, 1) := by decide +kernel
theorem dX12_mostAlike_23 : decode cX12_mostAlike 23 = .ok (.invokevirtual 439, 3) := by decide +kernel
theorem dX12_mostAlike_26 : decode cX12_mostAlike 26 = .ok (.if_icmp .ge 59, 3) := by decide +kernel
theorem dX12_mostAlike_29 : decode cX12_mostAlike 29 = .ok (.iload_n 1, 1) := by decide +kernel
theorem dX12_mostAlike_30 : decode cX12_mostAlike 30 = .ok (.iload 4, 2) := by decide +kernel
theorem dX12_mostAlike_32 : decode cX12_mostAlike 32 = .ok (.ishr, 1) := by decide +kernel
theorem dX12_mostAlike_33 : decode cX12_mostAlike 33 = .ok (.iconst 1, 1) := by decide +kernel
theorem dX12_mostAlike_34 : decode cX12_mostAlike 34 = .ok (.iand, 1) := by decide +kernel
theorem dX12_mostAlike_35 : decode cX12_mostAlike 35 = .ok (.iconst 1, 1) := by decide +kernel
theorem dX12_mostAlike_36 : decode cX12_mostAlike 36 = .ok (.if_icmp .ne 43, 3) := by decide +kernel
theorem dX12_mostAlike_39 : decode cX12_mostAlike 39 = .ok (.iload_n 1, 1) := by decide +kernel
theorem dX12_mostAlike_40 : decode cX12_mostAlike 40 = .ok (.iload 6, 2) := by decide +kernel
theorem dX12_mostAlike_42 : decode cX12_mostAlike 42 = .ok (.ishr, 1) := by decide +kernel
theorem dX12_mostAlike_43 : decode cX12_mostAlike 43 = .ok (.iconst 1, 1) := by decide +kernel
theorem dX12_mostAlike_44 : decode cX12_mostAlike 44 = .ok (.iand, 1) := by decide +kernel
theorem dX12_mostAlike_45 : decode cX12_mostAlike 45 = .ok (.iconst 1, 1) := by decide +kernel
theorem dX12_mostAlike_46 : decode cX12_mostAlike 46 = .ok (.if_icmp .ne 33, 3) := by decide +kernel
theorem dX12_mostAlike_49 : decode cX12_mostAlike 49 = .ok (.aload_n 0, 1) := by decide +kernel
theorem dX12_mostAlike_50 : decode cX12_mostAlike 50 = .ok (.getfield 179, 3) := by decide +kernel
theorem dX12_mostAlike_53 : decode cX12_mostAlike 53 = .ok (.bipush 41, 2) := by decide +kernel
theorem dX12_mostAlike_55 : decode cX12_mostAlike 55 = .ok (.iload 4, 2) := by decide +kernel
theorem dX12_mostAlike_57 : decode cX12_mostAlike 57 = .ok (.imul, 1) := by decide +kernel
theorem dX12_mostAlike_58 : decode cX12_mostAlike 58 = .ok (.iload_n 2, 1) := by decide +kernel
theorem dX12_mostAlike_59 : decode cX12_mostAlike 59 = .ok (.iadd, 1) := by decide +kernel
theorem dX12_mostAlike_60 : decode cX12_mostAlike 60 = .ok (.iaload, 1) := by decide +kernel
theorem dX12_mostAlike_61 : decode cX12_mostAlike 61 = .ok (.aload_n 0, 1) := by decide +kernel
theorem dX12_mostAlike_62 : decode cX12_mostAlike 62 = .ok (.getfield 179, 3) := by decide +kernel
theorem dX12_mostAlike_65 : decode cX12_mostAlike 65 = .ok (.bipush 41, 2) := by decide +kernel
theorem dX12_mostAlike_67 : decode cX12_mostAlike 67 = .ok (.iload 6, 2) := by decide +kernel
theorem dX12_mostAlike_69 : decode cX12_mostAlike 69 = .ok (.imul, 1) := by decide +kernel
theorem dX12_mostAlike_70 : decode cX12_mostAlike 70 = .ok (.iload_n 2, 1) := by decide +kernel
theorem dX12_mostAlike_71 : decode cX12_mostAlike 71 = .ok (.iadd, 1) := by decide +kernel
theorem dX12_mostAlike_72 : decode cX12_mostAlike 72 = .ok (.iaload, 1) := by decide +kernel
theorem dX12_mostAlike_73 : decode cX12_mostAlike 73 = .ok (.if_icmp .ne 6, 3) := by decide +kernel
theorem dX12_mostAlike_76 : decode cX12_mostAlike 76 = .ok (.iinc 5 1, 3) := by decide +kernel
theorem dX12_mostAlike_79 : decode cX12_mostAlike 79 = .ok (.iinc 6 1, 3) := by decide +kernel
theorem dX12_mostAlike_82 : decode cX12_mostAlike 82 = .ok (.goto (-62), 3) := by decide +kernel
theorem dX12_mostAlike_85 : decode cX12_mostAlike 85 = .ok (.iload 5, 2) := by decide +kernel
theorem dX12_mostAlike_87 : decode cX12_mostAlike 87 = .ok (.iload_n 3, 1) := by decide +kernel
theorem dX12_mostAlike_88 : decode cX12_mostAlike 88 = .ok (.if_icmp .le 6, 3) := by decide +kernel
theorem dX12_mostAlike_91 : decode cX12_mostAlike 91 = .ok (.iload 5, 2) := by decide +kernel
theorem dX12_mostAlike_93 : decode cX12_mostAlike 93 = .ok (.istore_n 3, 1) := by decide +kernel
theorem dX12_mostAlike_94 : decode cX12_mostAlike 94 = .ok (.iinc 4 1, 3) := by decide +kernel
theorem dX12_mostAlike_97 : decode cX12_mostAlike 97 = .ok (.goto (-92), 3) := by decide +kernel
theorem dX12_mostAlike_100 : decode cX12_mostAlike 100 = .ok (.iload_n 3, 1) := by decide +kernel
theorem dX12_mostAlike_101 : decode cX12_mostAlike 101 = .ok (.ireturn, 1) := by decide +kernel
def X12_mostAlike_p79 (sh : Shp) (v0 : Nat) (v1 : Int32) (v2 : Int32) (v3 : Int32) (v4 : Int32) (v5 : Int32) (v6 : Int32) (Q : Int32 → Mem → Prop) (K5 : Int32 → Int32 → Mem → Prop) (K20 : Int32 → Int32 → Mem → Prop) (m : Mem) : Prop :=
  K20 v5 (v6 + (1 : Int32)) m
def X12_mostAlike_p94 (sh : Shp) (v0 : Nat) (v1 : Int32) (v2 : Int32) (v3 : Int32) (v4 : Int32) (Q : Int32 → Mem → Prop) (K5 : Int32 → Int32 → Mem → Prop) (m : Mem) : Prop :=
  K5 v3 (v4 + (1 : Int32)) m
def X12_mostAlike_p20b (sh : Shp) (v0 : Nat) (v1 : Int32) (v2 : Int32) (v3 : Int32) (v4 : Int32) (Q : Int32 → Mem → Prop) (K5 : Int32 → Int32 → Mem → Prop) (K20 : Int32 → Int32 → Mem → Prop) (v5 : Int32) (v6 : Int32) (m : Mem) : Prop :=
  Ob sh v0 12 ∧ wp_X12_callerMany sh v0 (fun r4 m5 => if r4 ≤ v6 then (if v5 ≤ v3 then (X12_mostAlike_p94 sh v0 v1 v2 v3 v4 Q K5 m5) else (X12_mostAlike_p94 sh v0 v1 v2 v5 v4 Q K5 m5)) else (if ((v1 >>> (v4 &&& 31)) &&& (1 : Int32)) = (1 : Int32) then (if ((v1 >>> (v6 &&& 31)) &&& (1 : Int32)) = (1 : Int32) then (∃ b7 : Nat, m5.2.2 v0 76 = some b7 ∧ (Ix sh b7 100 (((41 : Int32) * v4) + v2) ∧ (Ix sh b7 100 (((41 : Int32) * v6) + v2) ∧ (if (m5.1 b7 (((41 : Int32) * v4) + v2).toNatClampNeg) = (m5.1 b7 (((41 : Int32) * v6) + v2).toNatClampNeg) then (X12_mostAlike_p79 sh v0 v1 v2 v3 v4 (v5 + (1 : Int32)) v6 Q K5 K20 m5) else (X12_mostAlike_p79 sh v0 v1 v2 v3 v4 v5 v6 Q K5 K20 m5))))) else (X12_mostAlike_p79 sh v0 v1 v2 v3 v4 v5 v6 Q K5 K20 m5)) else (X12_mostAlike_p79 sh v0 v1 v2 v3 v4 v5 v6 Q K5 K20 m5))) m
def X12_mostAlike_p20n (sh : Shp) (v0 : Nat) (v1 : Int32) (v2 : Int32) (v3 : Int32) (v4 : Int32) (Q : Int32 → Mem → Prop) (K5 : Int32 → Int32 → Mem → Prop) : Nat → Int32 → Int32 → Mem → Prop
  | 0 => fun _ _ _ => False
  | n + 1 => X12_mostAlike_p20b sh v0 v1 v2 v3 v4 Q K5 (X12_mostAlike_p20n sh v0 v1 v2 v3 v4 Q K5 n)
def X12_mostAlike_p20 (sh : Shp) (v0 : Nat) (v1 : Int32) (v2 : Int32) (v3 : Int32) (v4 : Int32) (Q : Int32 → Mem → Prop) (K5 : Int32 → Int32 → Mem → Prop) (v5 : Int32) (v6 : Int32) (m : Mem) : Prop := ∃ n, X12_mostAlike_p20n sh v0 v1 v2 v3 v4 Q K5 n v5 v6 m
def X12_mostAlike_p5b (sh : Shp) (v0 : Nat) (v1 : Int32) (v2 : Int32) (Q : Int32 → Mem → Prop) (K5 : Int32 → Int32 → Mem → Prop) (v3 : Int32) (v4 : Int32) (m : Mem) : Prop :=
  Ob sh v0 12 ∧ wp_X12_callerMany sh v0 (fun r1 m2 => if r1 ≤ v4 then (Q v3 m2) else (X12_mostAlike_p20 sh v0 v1 v2 v3 v4 Q K5 (0 : Int32) (0 : Int32) m2)) m
def X12_mostAlike_p5n (sh : Shp) (v0 : Nat) (v1 : Int32) (v2 : Int32) (Q : Int32 → Mem → Prop) : Nat → Int32 → Int32 → Mem → Prop
  | 0 => fun _ _ _ => False
  | n + 1 => X12_mostAlike_p5b sh v0 v1 v2 Q (X12_mostAlike_p5n sh v0 v1 v2 Q n)
def X12_mostAlike_p5 (sh : Shp) (v0 : Nat) (v1 : Int32) (v2 : Int32) (Q : Int32 → Mem → Prop) (v3 : Int32) (v4 : Int32) (m : Mem) : Prop := ∃ n, X12_mostAlike_p5n sh v0 v1 v2 Q n v3 v4 m
def wp_X12_mostAlike (sh : Shp) (v0 : Nat) (v1 : Int32) (v2 : Int32) (Q : Int32 → Mem → Prop) (m : Mem) : Prop :=
  X12_mostAlike_p5 sh v0 v1 v2 Q (0 : Int32) (0 : Int32) m
abbrev M_X12_mostAlike : Mi := (cX12_mostAlike, 7, RX12, (Option.some FieldType.int), "mostAlike", 2, 80, 0, 0)
set_option maxHeartbeats 4000000 in
set_option maxRecDepth 100000 in
theorem v_X12_mostAlike_p79 {G : Gl} {F : Fr} {sh : Shp} {v0 : Nat} {v1 : Int32} {v2 : Int32} {v3 : Int32} {v4 : Int32} {v5 : Int32} {v6 : Int32} {Q : Int32 → Mem → Prop} {K5 : Int32 → Int32 → Mem → Prop} {K20 : Int32 → Int32 → Mem → Prop} {m : Mem} (hK5 : ∀ (x3 : Int32) (x4 : Int32) (m : Mem), K5 x3 x4 m → V G F M_X12_mostAlike sh 0 0 (Zi G F sh Q) 5 [(0, .ref (G.1 + v0)), (1, .int v1), (2, .int v2), (3, .int x3), (4, .int x4)] [] m) (hK20 : ∀ (x5 : Int32) (x6 : Int32) (m : Mem), K20 x5 x6 m → V G F M_X12_mostAlike sh 0 0 (Zi G F sh Q) 20 [(0, .ref (G.1 + v0)), (1, .int v1), (2, .int v2), (3, .int v3), (4, .int v4), (5, .int x5), (6, .int x6)] [] m) (h : X12_mostAlike_p79 sh v0 v1 v2 v3 v4 v5 v6 Q K5 K20 m) : V G F M_X12_mostAlike sh 0 0 (Zi G F sh Q) 79 [(0, .ref (G.1 + v0)), (1, .int v1), (2, .int v2), (3, .int v3), (4, .int v4), (5, .int v5), (6, .int v6)] [] m := by
  unfold X12_mostAlike_p79 at h
  refine v_iinc (ls' := [(6, .int _), (0, .ref _), (1, .int _), (2, .int _), (3, .int _), (4, .int _), (5, .int _)]) 6 6 dX12_mostAlike_79 rfl (congrArg (HAdd.hAdd _) (by decide : Int32.ofInt (1) = (1 : Int32))) (Nat.le_of_ble_eq_true rfl) rfl ?_
  refine v_goto 20 dX12_mostAlike_82 (by decide) ?_
  refine v_sub [1, 2, 3, 4, 5, 6, 0] rfl ?_
  exact hK20 _ _ _ h
set_option maxHeartbeats 4000000 in
set_option maxRecDepth 100000 in
theorem v_X12_mostAlike_p94 {G : Gl} {F : Fr} {sh : Shp} {v0 : Nat} {v1 : Int32} {v2 : Int32} {v3 : Int32} {v4 : Int32} {Q : Int32 → Mem → Prop} {K5 : Int32 → Int32 → Mem → Prop} {m : Mem} (hK5 : ∀ (x3 : Int32) (x4 : Int32) (m : Mem), K5 x3 x4 m → V G F M_X12_mostAlike sh 0 0 (Zi G F sh Q) 5 [(0, .ref (G.1 + v0)), (1, .int v1), (2, .int v2), (3, .int x3), (4, .int x4)] [] m) (h : X12_mostAlike_p94 sh v0 v1 v2 v3 v4 Q K5 m) : V G F M_X12_mostAlike sh 0 0 (Zi G F sh Q) 94 [(0, .ref (G.1 + v0)), (1, .int v1), (2, .int v2), (3, .int v3), (4, .int v4)] [] m := by
  unfold X12_mostAlike_p94 at h
  refine v_iinc (ls' := [(4, .int _), (0, .ref _), (1, .int _), (2, .int _), (3, .int _)]) 4 4 dX12_mostAlike_94 rfl (congrArg (HAdd.hAdd _) (by decide : Int32.ofInt (1) = (1 : Int32))) (Nat.le_of_ble_eq_true rfl) rfl ?_
  refine v_goto 5 dX12_mostAlike_97 (by decide) ?_
  refine v_sub [1, 2, 3, 4, 0] rfl ?_
  exact hK5 _ _ _ h
set_option maxHeartbeats 4000000 in
set_option maxRecDepth 100000 in
theorem v_X12_mostAlike_p20b {G : Gl} {F : Fr} {sh : Shp} {v0 : Nat} {v1 : Int32} {v2 : Int32} {v3 : Int32} {v4 : Int32} {v5 : Int32} {v6 : Int32} {Q : Int32 → Mem → Prop} {K5 : Int32 → Int32 → Mem → Prop} {K20 : Int32 → Int32 → Mem → Prop} {m : Mem} (hK5 : ∀ (x3 : Int32) (x4 : Int32) (m : Mem), K5 x3 x4 m → V G F M_X12_mostAlike sh 0 0 (Zi G F sh Q) 5 [(0, .ref (G.1 + v0)), (1, .int v1), (2, .int v2), (3, .int x3), (4, .int x4)] [] m) (hK20 : ∀ (x5 : Int32) (x6 : Int32) (m : Mem), K20 x5 x6 m → V G F M_X12_mostAlike sh 0 0 (Zi G F sh Q) 20 [(0, .ref (G.1 + v0)), (1, .int v1), (2, .int v2), (3, .int v3), (4, .int v4), (5, .int x5), (6, .int x6)] [] m) (h : X12_mostAlike_p20b sh v0 v1 v2 v3 v4 Q K5 K20 v5 v6 m) : V G F M_X12_mostAlike sh 0 0 (Zi G F sh Q) 20 [(0, .ref (G.1 + v0)), (1, .int v1), (2, .int v2), (3, .int v3), (4, .int v4), (5, .int v5), (6, .int v6)] [] m := by
  unfold X12_mostAlike_p20b at h
  refine v_iload 6 6 dX12_mostAlike_20 rfl ?_
  refine v_aload_n 0 0 dX12_mostAlike_22 rfl rfl ?_
  obtain ⟨o6, h⟩ := h
  refine v_cVi [] mv_X12_callerMany ml_RX12_439 ⟨_, _, rfl⟩ o6 rfl rfl (Nat.le_of_ble_eq_true rfl) (Nat.le_of_ble_eq_true rfl) (Nat.le_of_ble_eq_true rfl) (Nat.zero_le _) (Nat.zero_le _) dX12_mostAlike_23 (c_X12_callerMany h) (fun r4 m5 h => ?_)
  refine v_icmp_ge 85 dX12_mostAlike_26 (by decide) (fun hc => ?_) (fun hc => ?_)
  · replace h := Eq.mp (if_pos hc) h
    refine v_iload 5 5 dX12_mostAlike_85 rfl ?_
    refine v_iload_n 3 3 dX12_mostAlike_87 rfl rfl ?_
    refine v_icmp_le 94 dX12_mostAlike_88 (by decide) (fun hc => ?_) (fun hc => ?_)
    · replace h := Eq.mp (if_pos hc) h
      refine v_sub [0, 1, 2, 3, 4] rfl ?_
      exact v_X12_mostAlike_p94 hK5 h
    · replace h := Eq.mp (if_neg hc) h
      refine v_iload 5 5 dX12_mostAlike_91 rfl ?_
      refine v_istore_n (ls' := [(3, .int _), (0, .ref _), (1, .int _), (2, .int _), (4, .int _), (5, .int _), (6, .int _)]) 3 dX12_mostAlike_93 rfl (Nat.le_of_ble_eq_true rfl) rfl ?_
      refine v_sub [1, 2, 3, 0, 4] rfl ?_
      exact v_X12_mostAlike_p94 hK5 h
  · replace h := Eq.mp (if_neg hc) h
    refine v_iload_n 1 1 dX12_mostAlike_29 rfl rfl ?_
    refine v_iload 4 4 dX12_mostAlike_30 rfl ?_
    refine v_ishr dX12_mostAlike_32 ?_
    refine v_iconst (1 : Int32) dX12_mostAlike_33 (by decide) ?_
    refine v_iand dX12_mostAlike_34 ?_
    refine v_iconst (1 : Int32) dX12_mostAlike_35 (by decide) ?_
    refine v_icmp_ne 79 dX12_mostAlike_36 (by decide) (fun hc => ?_) (fun hc => ?_)
    · replace h := Eq.mp (if_neg hc) h
      refine v_sub [0, 1, 2, 3, 4, 5, 6] rfl ?_
      exact v_X12_mostAlike_p79 hK5 hK20 h
    · replace h := Eq.mp (if_pos hc) h
      refine v_iload_n 1 1 dX12_mostAlike_39 rfl rfl ?_
      refine v_iload 6 6 dX12_mostAlike_40 rfl ?_
      refine v_ishr dX12_mostAlike_42 ?_
      refine v_iconst (1 : Int32) dX12_mostAlike_43 (by decide) ?_
      refine v_iand dX12_mostAlike_44 ?_
      refine v_iconst (1 : Int32) dX12_mostAlike_45 (by decide) ?_
      refine v_icmp_ne 79 dX12_mostAlike_46 (by decide) (fun hc => ?_) (fun hc => ?_)
      · replace h := Eq.mp (if_neg hc) h
        refine v_sub [0, 1, 2, 3, 4, 5, 6] rfl ?_
        exact v_X12_mostAlike_p79 hK5 hK20 h
      · replace h := Eq.mp (if_pos hc) h
        refine v_aload_n 0 0 dX12_mostAlike_49 rfl rfl ?_
        obtain ⟨b7, e8, h⟩ := h
        refine v_gR 12 76 dX12_mostAlike_50 fg_RX12_179 o6 e8 ?_
        refine v_bipush (41 : Int32) dX12_mostAlike_53 (by decide) ?_
        refine v_iload 4 4 dX12_mostAlike_55 rfl ?_
        refine v_imul dX12_mostAlike_57 ?_
        refine v_iload_n 2 2 dX12_mostAlike_58 rfl rfl ?_
        refine v_iadd dX12_mostAlike_59 ?_
        obtain ⟨i9, h⟩ := h
        refine v_iald dX12_mostAlike_60 i9 ?_
        refine v_aload_n 0 0 dX12_mostAlike_61 rfl rfl ?_
        refine v_gR 12 76 dX12_mostAlike_62 fg_RX12_179 o6 e8 ?_
        refine v_bipush (41 : Int32) dX12_mostAlike_65 (by decide) ?_
        refine v_iload 6 6 dX12_mostAlike_67 rfl ?_
        refine v_imul dX12_mostAlike_69 ?_
        refine v_iload_n 2 2 dX12_mostAlike_70 rfl rfl ?_
        refine v_iadd dX12_mostAlike_71 ?_
        obtain ⟨i10, h⟩ := h
        refine v_iald dX12_mostAlike_72 i10 ?_
        refine v_icmp_ne 79 dX12_mostAlike_73 (by decide) (fun hc => ?_) (fun hc => ?_)
        · replace h := Eq.mp (if_neg hc) h
          refine v_sub [0, 1, 2, 3, 4, 5, 6] rfl ?_
          exact v_X12_mostAlike_p79 hK5 hK20 h
        · replace h := Eq.mp (if_pos hc) h
          refine v_iinc (ls' := [(5, .int _), (0, .ref _), (1, .int _), (2, .int _), (3, .int _), (4, .int _), (6, .int _)]) 5 5 dX12_mostAlike_76 rfl (congrArg (HAdd.hAdd _) (by decide : Int32.ofInt (1) = (1 : Int32))) (Nat.le_of_ble_eq_true rfl) rfl ?_
          refine v_sub [1, 2, 3, 4, 5, 0, 6] rfl ?_
          exact v_X12_mostAlike_p79 hK5 hK20 h
set_option maxHeartbeats 4000000 in
set_option maxRecDepth 100000 in
theorem v_X12_mostAlike_p20 {G : Gl} {F : Fr} {sh : Shp} {v0 : Nat} {v1 : Int32} {v2 : Int32} {v3 : Int32} {v4 : Int32} {v5 : Int32} {v6 : Int32} {Q : Int32 → Mem → Prop} {K5 : Int32 → Int32 → Mem → Prop} {m : Mem} (hK5 : ∀ (x3 : Int32) (x4 : Int32) (m : Mem), K5 x3 x4 m → V G F M_X12_mostAlike sh 0 0 (Zi G F sh Q) 5 [(0, .ref (G.1 + v0)), (1, .int v1), (2, .int v2), (3, .int x3), (4, .int x4)] [] m) (h : X12_mostAlike_p20 sh v0 v1 v2 v3 v4 Q K5 v5 v6 m) : V G F M_X12_mostAlike sh 0 0 (Zi G F sh Q) 20 [(0, .ref (G.1 + v0)), (1, .int v1), (2, .int v2), (3, .int v3), (4, .int v4), (5, .int v5), (6, .int v6)] [] m := by
  obtain ⟨n, h⟩ := h
  induction n generalizing v5 v6 m with
  | zero => exact h.elim
  | succ n ih => exact v_X12_mostAlike_p20b hK5 (fun _ _ _ h => ih h) h
set_option maxHeartbeats 4000000 in
set_option maxRecDepth 100000 in
theorem v_X12_mostAlike_p5b {G : Gl} {F : Fr} {sh : Shp} {v0 : Nat} {v1 : Int32} {v2 : Int32} {v3 : Int32} {v4 : Int32} {Q : Int32 → Mem → Prop} {K5 : Int32 → Int32 → Mem → Prop} {m : Mem} (hK5 : ∀ (x3 : Int32) (x4 : Int32) (m : Mem), K5 x3 x4 m → V G F M_X12_mostAlike sh 0 0 (Zi G F sh Q) 5 [(0, .ref (G.1 + v0)), (1, .int v1), (2, .int v2), (3, .int x3), (4, .int x4)] [] m) (h : X12_mostAlike_p5b sh v0 v1 v2 Q K5 v3 v4 m) : V G F M_X12_mostAlike sh 0 0 (Zi G F sh Q) 5 [(0, .ref (G.1 + v0)), (1, .int v1), (2, .int v2), (3, .int v3), (4, .int v4)] [] m := by
  unfold X12_mostAlike_p5b at h
  refine v_iload 4 4 dX12_mostAlike_5 rfl ?_
  refine v_aload_n 0 0 dX12_mostAlike_7 rfl rfl ?_
  obtain ⟨o3, h⟩ := h
  refine v_cVi [] mv_X12_callerMany ml_RX12_439 ⟨_, _, rfl⟩ o3 rfl rfl (Nat.le_of_ble_eq_true rfl) (Nat.le_of_ble_eq_true rfl) (Nat.le_of_ble_eq_true rfl) (Nat.zero_le _) (Nat.zero_le _) dX12_mostAlike_8 (c_X12_callerMany h) (fun r1 m2 h => ?_)
  refine v_icmp_ge 100 dX12_mostAlike_11 (by decide) (fun hc => ?_) (fun hc => ?_)
  · replace h := Eq.mp (if_pos hc) h
    refine v_iload_n 3 3 dX12_mostAlike_100 rfl rfl ?_
    exact v_iret dX12_mostAlike_101 rfl rfl h
  · replace h := Eq.mp (if_neg hc) h
    refine v_iconst (0 : Int32) dX12_mostAlike_14 (by decide) ?_
    refine v_istore (ls' := [(5, .int _), (0, .ref _), (1, .int _), (2, .int _), (3, .int _), (4, .int _)]) 5 dX12_mostAlike_15 (Nat.le_of_ble_eq_true rfl) rfl ?_
    refine v_iconst (0 : Int32) dX12_mostAlike_17 (by decide) ?_
    refine v_istore (ls' := [(6, .int _), (5, .int _), (0, .ref _), (1, .int _), (2, .int _), (3, .int _), (4, .int _)]) 6 dX12_mostAlike_18 (Nat.le_of_ble_eq_true rfl) rfl ?_
    refine v_sub [2, 3, 4, 5, 6, 1, 0] rfl ?_
    exact v_X12_mostAlike_p20 hK5 h
set_option maxHeartbeats 4000000 in
set_option maxRecDepth 100000 in
theorem v_X12_mostAlike_p5 {G : Gl} {F : Fr} {sh : Shp} {v0 : Nat} {v1 : Int32} {v2 : Int32} {v3 : Int32} {v4 : Int32} {Q : Int32 → Mem → Prop} {m : Mem} (h : X12_mostAlike_p5 sh v0 v1 v2 Q v3 v4 m) : V G F M_X12_mostAlike sh 0 0 (Zi G F sh Q) 5 [(0, .ref (G.1 + v0)), (1, .int v1), (2, .int v2), (3, .int v3), (4, .int v4)] [] m := by
  obtain ⟨n, h⟩ := h
  induction n generalizing v3 v4 m with
  | zero => exact h.elim
  | succ n ih => exact v_X12_mostAlike_p5b (fun _ _ _ h => ih h) h
set_option maxHeartbeats 4000000 in
set_option maxRecDepth 100000 in
theorem c_X12_mostAlike {l : Launch} {G : Gl} {sh : Shp} {v0 : Nat} {v1 : Int32} {v2 : Int32} {Q : Int32 → Mem → Prop} {m : Mem} (h : wp_X12_mostAlike sh v0 v1 v2 Q m) : Cni l G yX12_mostAlike cX12_mostAlike 7 (Option.some FieldType.int) 2 80 sh [.ref (G.1 + v0), .int v1, .int v2] m Q := by
  refine con_i (ls := [(0, .ref (G.1 + v0)), (1, .int v1), (2, .int v2)]) (by decide +kernel) rfl (Nat.le_of_ble_eq_true rfl) (fun F => ?_)
  show V G F M_X12_mostAlike sh 0 0 (Zi G F sh Q) 0 [(0, .ref (G.1 + v0)), (1, .int v1), (2, .int v2)] [] m
  unfold wp_X12_mostAlike at h
  refine v_iconst (0 : Int32) dX12_mostAlike_0 (by decide) ?_
  refine v_istore_n (ls' := [(3, .int _), (0, .ref _), (1, .int _), (2, .int _)]) 3 dX12_mostAlike_1 rfl (Nat.le_of_ble_eq_true rfl) rfl ?_
  refine v_iconst (0 : Int32) dX12_mostAlike_2 (by decide) ?_
  refine v_istore (ls' := [(4, .int _), (3, .int _), (0, .ref _), (1, .int _), (2, .int _)]) 4 dX12_mostAlike_3 (Nat.le_of_ble_eq_true rfl) rfl ?_
  refine v_sub [2, 3, 4, 1, 0] rfl ?_
  exact v_X12_mostAlike_p5 h
/-! CalledRiverModel.octet -/
theorem dX12_octet_0 : decode cX12_octet 0 = .ok (.iload_n 1, 1) := by decide +kernel
theorem dX12_octet_1 : decode cX12_octet 1 = .ok (.ifCond .lt 20, 3) := by decide +kernel
theorem dX12_octet_4 : decode cX12_octet 4 = .ok (.iload_n 1, 1) := by decide +kernel
theorem dX12_octet_5 : decode cX12_octet 5 = .ok (.aload_n 0, 1) := by decide +kernel
theorem dX12_octet_6 : decode cX12_octet 6 = .ok (.getfield 721, 3) := by decide +kernel
theorem dX12_octet_9 : decode cX12_octet 9 = .ok (.if_icmp .ge 12, 3) := by decide +kernel
theorem dX12_octet_12 : decode cX12_octet 12 = .ok (.aload_n 0, 1) := by decide +kernel
theorem dX12_octet_13 : decode cX12_octet 13 = .ok (.getfield 279, 3) := by decide +kernel
theorem dX12_octet_16 : decode cX12_octet 16 = .ok (.iload_n 1, 1) := by decide +kernel
theorem dX12_octet_17 : decode cX12_octet 17 = .ok (.iaload, 1) := by decide +kernel
theorem dX12_octet_18 : decode cX12_octet 18 = .ok (.goto 4, 3) := by decide +kernel
theorem dX12_octet_21 : decode cX12_octet 21 = .ok (.iconst (-1), 1) := by decide +kernel
theorem dX12_octet_22 : decode cX12_octet 22 = .ok (.ireturn, 1) := by decide +kernel
def wp_X12_octet (sh : Shp) (v0 : Nat) (v1 : Int32) (Q : Int32 → Mem → Prop) (m : Mem) : Prop :=
  if v1 < 0 then (Q (-1 : Int32) m) else (Ob sh v0 12 ∧ (if (m.1 v0 119) ≤ v1 then (Q (-1 : Int32) m) else (∃ b2 : Nat, m.2.2 v0 118 = some b2 ∧ (Ix sh b2 100 v1 ∧ (Q (m.1 b2 v1.toNatClampNeg) m)))))
abbrev M_X12_octet : Mi := (cX12_octet, 2, RX12, (Option.some FieldType.int), "octet", 1, 60, 0, 0)
set_option maxHeartbeats 4000000 in
set_option maxRecDepth 100000 in
theorem c_X12_octet {l : Launch} {G : Gl} {sh : Shp} {v0 : Nat} {v1 : Int32} {Q : Int32 → Mem → Prop} {m : Mem} (h : wp_X12_octet sh v0 v1 Q m) : Cni l G yX12_octet cX12_octet 2 (Option.some FieldType.int) 1 60 sh [.ref (G.1 + v0), .int v1] m Q := by
  refine con_i (ls := [(0, .ref (G.1 + v0)), (1, .int v1)]) (by decide +kernel) rfl (Nat.le_of_ble_eq_true rfl) (fun F => ?_)
  show V G F M_X12_octet sh 0 0 (Zi G F sh Q) 0 [(0, .ref (G.1 + v0)), (1, .int v1)] [] m
  unfold wp_X12_octet at h
  refine v_iload_n 1 1 dX12_octet_0 rfl rfl ?_
  refine v_if_lt 21 dX12_octet_1 (by decide) (fun hc => ?_) (fun hc => ?_)
  · replace h := Eq.mp (if_pos hc) h
    refine v_iconst (-1 : Int32) dX12_octet_21 (by decide) ?_
    exact v_iret dX12_octet_22 rfl rfl h
  · replace h := Eq.mp (if_neg hc) h
    refine v_iload_n 1 1 dX12_octet_4 rfl rfl ?_
    refine v_aload_n 0 0 dX12_octet_5 rfl rfl ?_
    obtain ⟨o1, h⟩ := h
    refine v_gI 12 119 dX12_octet_6 fg_RX12_721 o1 ?_
    refine v_icmp_ge 21 dX12_octet_9 (by decide) (fun hc => ?_) (fun hc => ?_)
    · replace h := Eq.mp (if_pos hc) h
      refine v_iconst (-1 : Int32) dX12_octet_21 (by decide) ?_
      exact v_iret dX12_octet_22 rfl rfl h
    · replace h := Eq.mp (if_neg hc) h
      refine v_aload_n 0 0 dX12_octet_12 rfl rfl ?_
      obtain ⟨b2, e3, h⟩ := h
      refine v_gR 12 118 dX12_octet_13 fg_RX12_279 o1 e3 ?_
      refine v_iload_n 1 1 dX12_octet_16 rfl rfl ?_
      obtain ⟨i4, h⟩ := h
      refine v_iald dX12_octet_17 i4 ?_
      refine v_goto 22 dX12_octet_18 (by decide) ?_
      exact v_iret dX12_octet_22 rfl rfl h
/-! CalledRiverModel.on -/
theorem dX12_on_0 : decode cX12_on 0 = .ok (.aload_n 0, 1) := by decide +kernel
theorem dX12_on_1 : decode cX12_on 1 = .ok (.getfield 282, 3) := by decide +kernel
theorem dX12_on_4 : decode cX12_on 4 = .ok (.istore_n 1, 1) := by decide +kernel
theorem dX12_on_5 : decode cX12_on 5 = .ok (.aload_n 0, 1) := by decide +kernel
theorem dX12_on_6 : decode cX12_on 6 = .ok (.iconst 0, 1) := by decide +kernel
theorem dX12_on_7 : decode cX12_on 7 = .ok (.putfield 282, 3) := by decide +kernel
theorem dX12_on_10 : decode cX12_on 10 = .ok (.aload_n 0, 1) := by decide +kernel
theorem dX12_on_11 : decode cX12_on 11 = .ok (.iload_n 1, 1) := by decide +kernel
theorem dX12_on_12 : decode cX12_on 12 = .ok (.invokevirtual 731, 3) := by decide +kernel
theorem dX12_on_15 : decode cX12_on 15 = .ok (.ifCond .ne 15, 3) := by decide +kernel
theorem dX12_on_18 : decode cX12_on 18 = .ok (.aload_n 0, 1) := by decide +kernel
theorem dX12_on_19 : decode cX12_on 19 = .ok (.getfield 17, 3) := by decide +kernel
theorem dX12_on_22 : decode cX12_on 22 = .ok (.iconst 5, 1) := by decide +kernel
theorem dX12_on_23 : decode cX12_on 23 = .ok (.dup2, 1) := by decide +kernel
theorem dX12_on_24 : decode cX12_on 24 = .ok (.iaload, 1) := by decide +kernel
theorem dX12_on_25 : decode cX12_on 25 = .ok (.iconst 1, 1) := by decide +kernel
theorem dX12_on_26 : decode cX12_on 26 = .ok (.iadd, 1) := by decide +kernel
theorem dX12_on_27 : decode cX12_on 27 = .ok (.iastore, 1) := by decide +kernel
theorem dX12_on_28 : decode cX12_on 28 = .ok (.iconst 0, 1) := by decide +kernel
theorem dX12_on_29 : decode cX12_on 29 = .ok (.ireturn, 1) := by decide +kernel
theorem dX12_on_30 : decode cX12_on 30 = .ok (.aload_n 0, 1) := by decide +kernel
theorem dX12_on_31 : decode cX12_on 31 = .ok (.getfield 143, 3) := by decide +kernel
theorem dX12_on_34 : decode cX12_on 34 = .ok (.iconst 0, 1) := by decide +kernel
theorem dX12_on_35 : decode cX12_on 35 = .ok (.sipush 256, 3) := by decide +kernel
theorem dX12_on_38 : decode cX12_on 38 = .ok (.aload_n 0, 1) := by decide +kernel
theorem dX12_on_39 : decode cX12_on 39 = .ok (.getfield 7, 3) := by decide +kernel
theorem dX12_on_42 : decode cX12_on 42 = .ok (.iconst 0, 1) := by decide +kernel
theorem dX12_on_43 : decode cX12_on 43 = .ok (.iaload, 1) := by decide +kernel
theorem dX12_on_44 : decode cX12_on 44 = .ok (.imul, 1) := by decide +kernel
theorem dX12_on_45 : decode cX12_on 45 = .ok (.aload_n 0, 1) := by decide +kernel
theorem dX12_on_46 : decode cX12_on 46 = .ok (.getfield 7, 3) := by decide +kernel
theorem dX12_on_49 : decode cX12_on 49 = .ok (.iconst 1, 1) := by decide +kernel
theorem dX12_on_50 : decode cX12_on 50 = .ok (.iaload, 1) := by decide +kernel
theorem dX12_on_51 : decode cX12_on 51 = .ok (.iadd, 1) := by decide +kernel
theorem dX12_on_52 : decode cX12_on 52 = .ok (.iastore, 1) := by decide +kernel
theorem dX12_on_53 : decode cX12_on 53 = .ok (.iconst 0, 1) := by decide +kernel
theorem dX12_on_54 : decode cX12_on 54 = .ok (.istore_n 2, 1) := by decide +kernel
theorem dX12_on_55 : decode cX12_on 55 = .ok (.iload_n 2, 1) := by decide +kernel
theorem dX12_on_56 : decode cX12_on 56 = .ok (.aload_n 0, 1) := by decide +kernel
theorem dX12_on_57 : decode cX12_on 57 = .ok (.invokevirtual 484, 3) := by decide +kernel
theorem dX12_on_60 : decode cX12_on 60 = .ok (.if_icmp .ge 50, 3) := by decide +kernel
theorem dX12_on_63 : decode cX12_on 63 = .ok (.iconst 0, 1) := by decide +kernel
theorem dX12_on_64 : decode cX12_on 64 = .ok (.istore_n 3, 1) := by decide +kernel
theorem dX12_on_65 : decode cX12_on 65 = .ok (.iload_n 3, 1) := by decide +kernel
theorem dX12_on_66 : decode cX12_on 66 = .ok (.iconst 3, 1) := by decide +kernel
theorem dX12_on_67 : decode cX12_on 67 = .ok (.if_icmp .ge 37, 3) := by decide +kernel
theorem dX12_on_70 : decode cX12_on 70 = .ok (.aload_n 0, 1) := by decide +kernel
theorem dX12_on_71 : decode cX12_on 71 = .ok (.getfield 143, 3) := by decide +kernel
theorem dX12_on_74 : decode cX12_on 74 = .ok (.iconst 1, 1) := by decide +kernel
theorem dX12_on_75 : decode cX12_on 75 = .ok (.iconst 3, 1) := by decide +kernel
theorem dX12_on_76 : decode cX12_on 76 = .ok (.aload_n 0, 1) := by decide +kernel
theorem dX12_on_77 : decode cX12_on 77 = .ok (.iload_n 2, 1) := by decide +kernel
theorem dX12_on_78 : decode cX12_on 78 = .ok (.invokevirtual 487, 3) := by decide +kernel
theorem dX12_on_81 : decode cX12_on 81 = .ok (.imul, 1) := by decide +kernel
theorem dX12_on_82 : decode cX12_on 82 = .ok (.iadd, 1) := by decide +kernel
theorem dX12_on_83 : decode cX12_on 83 = .ok (.iload_n 3, 1) := by decide +kernel
theorem dX12_on_84 : decode cX12_on 84 = .ok (.iadd, 1) := by decide +kernel
theorem dX12_on_85 : decode cX12_on 85 = .ok (.aload_n 0, 1) := by decide +kernel
theorem dX12_on_86 : decode cX12_on 86 = .ok (.getfield 7, 3) := by decide +kernel
theorem dX12_on_89 : decode cX12_on 89 = .ok (.iconst 2, 1) := by decide +kernel
theorem dX12_on_90 : decode cX12_on 90 = .ok (.iconst 3, 1) := by decide +kernel
theorem dX12_on_91 : decode cX12_on 91 = .ok (.iload_n 2, 1) := by decide +kernel
theorem dX12_on_92 : decode cX12_on 92 = .ok (.imul, 1) := by decide +kernel
theorem dX12_on_93 : decode cX12_on 93 = .ok (.iadd, 1) := by decide +kernel
theorem dX12_on_94 : decode cX12_on 94 = .ok (.iload_n 3, 1) := by decide +kernel
theorem dX12_on_95 : decode cX12_on 95 = .ok (.iadd, 1) := by decide +kernel
theorem dX12_on_96 : decode cX12_on 96 = .ok (.iaload, 1) := by decide +kernel
theorem dX12_on_97 : decode cX12_on 97 = .ok (.iastore, 1) := by decide +kernel
theorem dX12_on_98 : decode cX12_on 98 = .ok (.iinc 3 1, 3) := by decide +kernel
theorem dX12_on_101 : decode cX12_on 101 = .ok (.goto (-36), 3) := by decide +kernel
theorem dX12_on_104 : decode cX12_on 104 = .ok (.iinc 2 1, 3) := by decide +kernel
theorem dX12_on_107 : decode cX12_on 107 = .ok (.goto (-52), 3) := by decide +kernel
theorem dX12_on_110 : decode cX12_on 110 = .ok (.iconst 0, 1) := by decide +kernel
theorem dX12_on_111 : decode cX12_on 111 = .ok (.istore_n 2, 1) := by decide +kernel
theorem dX12_on_112 : decode cX12_on 112 = .ok (.iload_n 2, 1) := by decide +kernel
theorem dX12_on_113 : decode cX12_on 113 = .ok (.aload_n 0, 1) := by decide +kernel
theorem dX12_on_114 : decode cX12_on 114 = .ok (.invokevirtual 436, 3) := by decide +kernel
theorem dX12_on_117 : decode cX12_on 117 = .ok (.if_icmp .ge 33, 3) := by decide +kernel
theorem dX12_on_120 : decode cX12_on 120 = .ok (.aload_n 0, 1) := by decide +kernel
theorem dX12_on_121 : decode cX12_on 121 = .ok (.getfield 143, 3) := by decide +kernel
theorem dX12_on_124 : decode cX12_on 124 = .ok (.bipush 109, 2) := by decide +kernel
theorem dX12_on_126 : decode cX12_on 126 = .ok (.iload_n 2, 1) := by decide +kernel
theorem dX12_on_127 : decode cX12_on 127 = .ok (.iadd, 1) := by decide +kernel
theorem dX12_on_128 : decode cX12_on 128 = .ok (.aload_n 0, 1) := by decide +kernel
theorem dX12_on_129 : decode cX12_on 129 = .ok (.getfield 7, 3) := by decide +kernel
theorem dX12_on_132 : decode cX12_on 132 = .ok (.iconst 2, 1) := by decide +kernel
theorem dX12_on_133 : decode cX12_on 133 = .ok (.iconst 3, 1) := by decide +kernel
theorem dX12_on_134 : decode cX12_on 134 = .ok (.aload_n 0, 1) := by decide +kernel
theorem dX12_on_135 : decode cX12_on 135 = .ok (.invokevirtual 484, 3) := by decide +kernel
theorem dX12_on_138 : decode cX12_on 138 = .ok (.imul, 1) := by decide +kernel
theorem dX12_on_139 : decode cX12_on 139 = .ok (.iadd, 1) := by decide +kernel
theorem dX12_on_140 : decode cX12_on 140 = .ok (.iload_n 2, 1) := by decide +kernel
theorem dX12_on_141 : decode cX12_on 141 = .ok (.iadd, 1) := by decide +kernel
theorem dX12_on_142 : decode cX12_on 142 = .ok (.iaload, 1) := by decide +kernel
theorem dX12_on_143 : decode cX12_on 143 = .ok (.iastore, 1) := by decide +kernel
theorem dX12_on_144 : decode cX12_on 144 = .ok (.iinc 2 1, 3) := by decide +kernel
theorem dX12_on_147 : decode cX12_on 147 = .ok (.goto (-35), 3) := by decide +kernel
theorem dX12_on_150 : decode cX12_on 150 = .ok (.aload_n 0, 1) := by decide +kernel
theorem dX12_on_151 : decode cX12_on 151 = .ok (.getfield 143, 3) := by decide +kernel
theorem dX12_on_154 : decode cX12_on 154 = .ok (.bipush 115, 2) := by decide +kernel
theorem dX12_on_156 : decode cX12_on 156 = .ok (.iconst 0, 1) := by decide +kernel
theorem dX12_on_157 : decode cX12_on 157 = .ok (.iastore, 1) := by decide +kernel
theorem dX12_on_158 : decode cX12_on 158 = .ok (.aload_n 0, 1) := by decide +kernel
theorem dX12_on_159 : decode cX12_on 159 = .ok (.iconst 0, 1) := by decide +kernel
theorem dX12_on_160 : decode cX12_on 160 = .ok (.putfield 430, 3) := by decide +kernel
theorem dX12_on_163 : decode cX12_on 163 = .ok (.iconst 1, 1) := by decide +kernel
theorem dX12_on_164 : decode cX12_on 164 = .ok (.ireturn, 1) := by decide +kernel
def X12_on_p65b (sh : Shp) (v0 : Nat) (v2 : Int32) (Q : Int32 → Mem → Prop) (K55 : Int32 → Mem → Prop) (K65 : Int32 → Mem → Prop) (v3 : Int32) (m : Mem) : Prop :=
  if (3 : Int32) ≤ v3 then (K55 (v2 + (1 : Int32)) m) else (Ob sh v0 12 ∧ ∃ b38 : Nat, m.2.2 v0 58 = some b38 ∧ (wp_X12_cellOfNumber sh v0 v2 (fun r40 m41 => ∃ b42 : Nat, m41.2.2 v0 0 = some b42 ∧ (Ix sh b42 100 (((2 : Int32) + ((3 : Int32) * v2)) + v3) ∧ (Ix sh b38 100 (((1 : Int32) + ((3 : Int32) * r40)) + v3) ∧ bnd (sI m41 b38 (((1 : Int32) + ((3 : Int32) * r40)) + v3).toNatClampNeg (m41.1 b42 (((2 : Int32) + ((3 : Int32) * v2)) + v3).toNatClampNeg)) (fun m46 => K65 (v3 + (1 : Int32)) m46)))) m))
def X12_on_p65n (sh : Shp) (v0 : Nat) (v2 : Int32) (Q : Int32 → Mem → Prop) (K55 : Int32 → Mem → Prop) : Nat → Int32 → Mem → Prop
  | 0 => fun _ _ => False
  | n + 1 => X12_on_p65b sh v0 v2 Q K55 (X12_on_p65n sh v0 v2 Q K55 n)
def X12_on_p65 (sh : Shp) (v0 : Nat) (v2 : Int32) (Q : Int32 → Mem → Prop) (K55 : Int32 → Mem → Prop) (v3 : Int32) (m : Mem) : Prop := ∃ n, X12_on_p65n sh v0 v2 Q K55 n v3 m
def X12_on_p112b (sh : Shp) (v0 : Nat) (Q : Int32 → Mem → Prop) (K112 : Int32 → Mem → Prop) (v2 : Int32) (m : Mem) : Prop :=
  Ob sh v0 12 ∧ wp_X12_farmMany sh v0 (fun r20 m21 => if r20 ≤ v2 then (∃ b23 : Nat, m21.2.2 v0 58 = some b23 ∧ (Ix sh b23 100 (115 : Int32) ∧ bnd (sI m21 b23 (115 : Int32).toNatClampNeg (0 : Int32)) (fun m26 => bnd (sI m26 v0 78 (0 : Int32)) (fun m27 => Q (1 : Int32) m27)))) else (∃ b28 : Nat, m21.2.2 v0 58 = some b28 ∧ (∃ b30 : Nat, m21.2.2 v0 0 = some b30 ∧ (wp_X12_cellMany sh v0 (fun r32 m33 => Ix sh b30 100 (((2 : Int32) + ((3 : Int32) * r32)) + v2) ∧ (Ix sh b28 100 ((109 : Int32) + v2) ∧ bnd (sI m33 b28 ((109 : Int32) + v2).toNatClampNeg (m33.1 b30 (((2 : Int32) + ((3 : Int32) * r32)) + v2).toNatClampNeg)) (fun m36 => K112 (v2 + (1 : Int32)) m36))) m21)))) m
def X12_on_p112n (sh : Shp) (v0 : Nat) (Q : Int32 → Mem → Prop) : Nat → Int32 → Mem → Prop
  | 0 => fun _ _ => False
  | n + 1 => X12_on_p112b sh v0 Q (X12_on_p112n sh v0 Q n)
def X12_on_p112 (sh : Shp) (v0 : Nat) (Q : Int32 → Mem → Prop) (v2 : Int32) (m : Mem) : Prop := ∃ n, X12_on_p112n sh v0 Q n v2 m
def X12_on_p55b (sh : Shp) (v0 : Nat) (Q : Int32 → Mem → Prop) (K55 : Int32 → Mem → Prop) (v2 : Int32) (m : Mem) : Prop :=
  Ob sh v0 12 ∧ wp_X12_cellMany sh v0 (fun r17 m18 => if r17 ≤ v2 then (X12_on_p112 sh v0 Q (0 : Int32) m18) else (X12_on_p65 sh v0 v2 Q K55 (0 : Int32) m18)) m
def X12_on_p55n (sh : Shp) (v0 : Nat) (Q : Int32 → Mem → Prop) : Nat → Int32 → Mem → Prop
  | 0 => fun _ _ => False
  | n + 1 => X12_on_p55b sh v0 Q (X12_on_p55n sh v0 Q n)
def X12_on_p55 (sh : Shp) (v0 : Nat) (Q : Int32 → Mem → Prop) (v2 : Int32) (m : Mem) : Prop := ∃ n, X12_on_p55n sh v0 Q n v2 m
def wp_X12_on (sh : Shp) (v0 : Nat) (Q : Int32 → Mem → Prop) (m : Mem) : Prop :=
  Ob sh v0 12 ∧ (bnd (sI m v0 1 (0 : Int32)) (fun m2 => wp_X12_isImage sh v0 (m.1 v0 1) (fun r3 m4 => if r3 = 0 then (∃ b13 : Nat, m4.2.2 v0 9 = some b13 ∧ (Ix sh b13 100 (5 : Int32) ∧ (bnd (sI m4 b13 (5 : Int32).toNatClampNeg ((m4.1 b13 (5 : Int32).toNatClampNeg) + (1 : Int32))) (fun m16 => Q (0 : Int32) m16)))) else (∃ b5 : Nat, m4.2.2 v0 58 = some b5 ∧ (∃ b7 : Nat, m4.2.2 v0 0 = some b7 ∧ (Ix sh b7 100 (0 : Int32) ∧ (Ix sh b7 100 (1 : Int32) ∧ (Ix sh b5 100 (0 : Int32) ∧ bnd (sI m4 b5 (0 : Int32).toNatClampNeg (((256 : Int32) * (m4.1 b7 (0 : Int32).toNatClampNeg)) + (m4.1 b7 (1 : Int32).toNatClampNeg))) (fun m12 => X12_on_p55 sh v0 Q (0 : Int32) m12))))))) m2))
abbrev M_X12_on : Mi := (cX12_on, 4, RX12, (Option.some FieldType.boolean), "on", 3, 106, 0, 0)
set_option maxHeartbeats 4000000 in
set_option maxRecDepth 100000 in
theorem v_X12_on_p65b {G : Gl} {F : Fr} {sh : Shp} {v0 : Nat} {v2 : Int32} {v3 : Int32} {Q : Int32 → Mem → Prop} {K55 : Int32 → Mem → Prop} {K65 : Int32 → Mem → Prop} {m : Mem} (hK55 : ∀ (x2 : Int32) (m : Mem), K55 x2 m → V G F M_X12_on sh 0 0 (Zi G F sh Q) 55 [(0, .ref (G.1 + v0)), (2, .int x2)] [] m) (hK65 : ∀ (x3 : Int32) (m : Mem), K65 x3 m → V G F M_X12_on sh 0 0 (Zi G F sh Q) 65 [(0, .ref (G.1 + v0)), (2, .int v2), (3, .int x3)] [] m) (h : X12_on_p65b sh v0 v2 Q K55 K65 v3 m) : V G F M_X12_on sh 0 0 (Zi G F sh Q) 65 [(0, .ref (G.1 + v0)), (2, .int v2), (3, .int v3)] [] m := by
  unfold X12_on_p65b at h
  refine v_iload_n 3 2 dX12_on_65 rfl rfl ?_
  refine v_iconst (3 : Int32) dX12_on_66 (by decide) ?_
  refine v_icmp_ge 104 dX12_on_67 (by decide) (fun hc => ?_) (fun hc => ?_)
  · replace h := Eq.mp (if_pos hc) h
    refine v_iinc (ls' := [(2, .int _), (0, .ref _), (3, .int _)]) 2 1 dX12_on_104 rfl (congrArg (HAdd.hAdd _) (by decide : Int32.ofInt (1) = (1 : Int32))) (Nat.le_of_ble_eq_true rfl) rfl ?_
    refine v_goto 55 dX12_on_107 (by decide) ?_
    refine v_sub [1, 0] rfl ?_
    exact hK55 _ _ h
  · replace h := Eq.mp (if_neg hc) h
    refine v_aload_n 0 0 dX12_on_70 rfl rfl ?_
    obtain ⟨o37, h⟩ := h
    obtain ⟨b38, e39, h⟩ := h
    refine v_gR 12 58 dX12_on_71 fg_RX12_143 o37 e39 ?_
    refine v_iconst (1 : Int32) dX12_on_74 (by decide) ?_
    refine v_iconst (3 : Int32) dX12_on_75 (by decide) ?_
    refine v_aload_n 0 0 dX12_on_76 rfl rfl ?_
    refine v_iload_n 2 1 dX12_on_77 rfl rfl ?_
    refine v_cVi [.int _] mv_X12_cellOfNumber ml_RX12_487 ⟨_, _, rfl⟩ o37 rfl rfl (Nat.le_of_ble_eq_true rfl) (Nat.le_of_ble_eq_true rfl) (Nat.le_of_ble_eq_true rfl) (Nat.zero_le _) (Nat.zero_le _) dX12_on_78 (c_X12_cellOfNumber h) (fun r40 m41 h => ?_)
    refine v_imul dX12_on_81 ?_
    refine v_iadd dX12_on_82 ?_
    refine v_iload_n 3 2 dX12_on_83 rfl rfl ?_
    refine v_iadd dX12_on_84 ?_
    refine v_aload_n 0 0 dX12_on_85 rfl rfl ?_
    obtain ⟨b42, e43, h⟩ := h
    refine v_gR 12 0 dX12_on_86 fg_RX12_7 o37 e43 ?_
    refine v_iconst (2 : Int32) dX12_on_89 (by decide) ?_
    refine v_iconst (3 : Int32) dX12_on_90 (by decide) ?_
    refine v_iload_n 2 1 dX12_on_91 rfl rfl ?_
    refine v_imul dX12_on_92 ?_
    refine v_iadd dX12_on_93 ?_
    refine v_iload_n 3 2 dX12_on_94 rfl rfl ?_
    refine v_iadd dX12_on_95 ?_
    obtain ⟨i44, h⟩ := h
    refine v_iald dX12_on_96 i44 ?_
    obtain ⟨i45, h⟩ := h
    refine v_iast dX12_on_97 i45 ?_
    replace h := bnd_e h
    refine v_iinc (ls' := [(3, .int _), (0, .ref _), (2, .int _)]) 3 2 dX12_on_98 rfl (congrArg (HAdd.hAdd _) (by decide : Int32.ofInt (1) = (1 : Int32))) (Nat.le_of_ble_eq_true rfl) rfl ?_
    refine v_goto 65 dX12_on_101 (by decide) ?_
    refine v_sub [1, 2, 0] rfl ?_
    exact hK65 _ _ h
set_option maxHeartbeats 4000000 in
set_option maxRecDepth 100000 in
theorem v_X12_on_p65 {G : Gl} {F : Fr} {sh : Shp} {v0 : Nat} {v2 : Int32} {v3 : Int32} {Q : Int32 → Mem → Prop} {K55 : Int32 → Mem → Prop} {m : Mem} (hK55 : ∀ (x2 : Int32) (m : Mem), K55 x2 m → V G F M_X12_on sh 0 0 (Zi G F sh Q) 55 [(0, .ref (G.1 + v0)), (2, .int x2)] [] m) (h : X12_on_p65 sh v0 v2 Q K55 v3 m) : V G F M_X12_on sh 0 0 (Zi G F sh Q) 65 [(0, .ref (G.1 + v0)), (2, .int v2), (3, .int v3)] [] m := by
  obtain ⟨n, h⟩ := h
  induction n generalizing v3 m with
  | zero => exact h.elim
  | succ n ih => exact v_X12_on_p65b hK55 (fun _ _ h => ih h) h
set_option maxHeartbeats 4000000 in
set_option maxRecDepth 100000 in
theorem v_X12_on_p112b {G : Gl} {F : Fr} {sh : Shp} {v0 : Nat} {v2 : Int32} {Q : Int32 → Mem → Prop} {K112 : Int32 → Mem → Prop} {m : Mem} (hK112 : ∀ (x2 : Int32) (m : Mem), K112 x2 m → V G F M_X12_on sh 0 0 (Zi G F sh Q) 112 [(0, .ref (G.1 + v0)), (2, .int x2)] [] m) (h : X12_on_p112b sh v0 Q K112 v2 m) : V G F M_X12_on sh 0 0 (Zi G F sh Q) 112 [(0, .ref (G.1 + v0)), (2, .int v2)] [] m := by
  unfold X12_on_p112b at h
  refine v_iload_n 2 1 dX12_on_112 rfl rfl ?_
  refine v_aload_n 0 0 dX12_on_113 rfl rfl ?_
  obtain ⟨o22, h⟩ := h
  refine v_cVi [] mv_X12_farmMany ml_RX12_436 ⟨_, _, rfl⟩ o22 rfl rfl (Nat.le_of_ble_eq_true rfl) (Nat.le_of_ble_eq_true rfl) (Nat.le_of_ble_eq_true rfl) (Nat.zero_le _) (Nat.zero_le _) dX12_on_114 (c_X12_farmMany h) (fun r20 m21 h => ?_)
  refine v_icmp_ge 150 dX12_on_117 (by decide) (fun hc => ?_) (fun hc => ?_)
  · replace h := Eq.mp (if_pos hc) h
    refine v_aload_n 0 0 dX12_on_150 rfl rfl ?_
    obtain ⟨b23, e24, h⟩ := h
    refine v_gR 12 58 dX12_on_151 fg_RX12_143 o22 e24 ?_
    refine v_bipush (115 : Int32) dX12_on_154 (by decide) ?_
    refine v_iconst (0 : Int32) dX12_on_156 (by decide) ?_
    obtain ⟨i25, h⟩ := h
    refine v_iast dX12_on_157 i25 ?_
    replace h := bnd_e h
    refine v_aload_n 0 0 dX12_on_158 rfl rfl ?_
    refine v_iconst (0 : Int32) dX12_on_159 (by decide) ?_
    refine v_pI 12 78 dX12_on_160 fw_RX12_430 o22 ?_
    replace h := bnd_e h
    refine v_iconst (1 : Int32) dX12_on_163 (by decide) ?_
    exact v_iret dX12_on_164 rfl (by decide) h
  · replace h := Eq.mp (if_neg hc) h
    refine v_aload_n 0 0 dX12_on_120 rfl rfl ?_
    obtain ⟨b28, e29, h⟩ := h
    refine v_gR 12 58 dX12_on_121 fg_RX12_143 o22 e29 ?_
    refine v_bipush (109 : Int32) dX12_on_124 (by decide) ?_
    refine v_iload_n 2 1 dX12_on_126 rfl rfl ?_
    refine v_iadd dX12_on_127 ?_
    refine v_aload_n 0 0 dX12_on_128 rfl rfl ?_
    obtain ⟨b30, e31, h⟩ := h
    refine v_gR 12 0 dX12_on_129 fg_RX12_7 o22 e31 ?_
    refine v_iconst (2 : Int32) dX12_on_132 (by decide) ?_
    refine v_iconst (3 : Int32) dX12_on_133 (by decide) ?_
    refine v_aload_n 0 0 dX12_on_134 rfl rfl ?_
    refine v_cVi [] mv_X12_cellMany ml_RX12_484 ⟨_, _, rfl⟩ o22 rfl rfl (Nat.le_of_ble_eq_true rfl) (Nat.le_of_ble_eq_true rfl) (Nat.le_of_ble_eq_true rfl) (Nat.zero_le _) (Nat.zero_le _) dX12_on_135 (c_X12_cellMany h) (fun r32 m33 h => ?_)
    refine v_imul dX12_on_138 ?_
    refine v_iadd dX12_on_139 ?_
    refine v_iload_n 2 1 dX12_on_140 rfl rfl ?_
    refine v_iadd dX12_on_141 ?_
    obtain ⟨i34, h⟩ := h
    refine v_iald dX12_on_142 i34 ?_
    obtain ⟨i35, h⟩ := h
    refine v_iast dX12_on_143 i35 ?_
    replace h := bnd_e h
    refine v_iinc (ls' := [(2, .int _), (0, .ref _)]) 2 1 dX12_on_144 rfl (congrArg (HAdd.hAdd _) (by decide : Int32.ofInt (1) = (1 : Int32))) (Nat.le_of_ble_eq_true rfl) rfl ?_
    refine v_goto 112 dX12_on_147 (by decide) ?_
    refine v_sub [1, 0] rfl ?_
    exact hK112 _ _ h
set_option maxHeartbeats 4000000 in
set_option maxRecDepth 100000 in
theorem v_X12_on_p112 {G : Gl} {F : Fr} {sh : Shp} {v0 : Nat} {v2 : Int32} {Q : Int32 → Mem → Prop} {m : Mem} (h : X12_on_p112 sh v0 Q v2 m) : V G F M_X12_on sh 0 0 (Zi G F sh Q) 112 [(0, .ref (G.1 + v0)), (2, .int v2)] [] m := by
  obtain ⟨n, h⟩ := h
  induction n generalizing v2 m with
  | zero => exact h.elim
  | succ n ih => exact v_X12_on_p112b (fun _ _ h => ih h) h
set_option maxHeartbeats 4000000 in
set_option maxRecDepth 100000 in
theorem v_X12_on_p55b {G : Gl} {F : Fr} {sh : Shp} {v0 : Nat} {v2 : Int32} {Q : Int32 → Mem → Prop} {K55 : Int32 → Mem → Prop} {m : Mem} (hK55 : ∀ (x2 : Int32) (m : Mem), K55 x2 m → V G F M_X12_on sh 0 0 (Zi G F sh Q) 55 [(0, .ref (G.1 + v0)), (2, .int x2)] [] m) (h : X12_on_p55b sh v0 Q K55 v2 m) : V G F M_X12_on sh 0 0 (Zi G F sh Q) 55 [(0, .ref (G.1 + v0)), (2, .int v2)] [] m := by
  unfold X12_on_p55b at h
  refine v_iload_n 2 1 dX12_on_55 rfl rfl ?_
  refine v_aload_n 0 0 dX12_on_56 rfl rfl ?_
  obtain ⟨o19, h⟩ := h
  refine v_cVi [] mv_X12_cellMany ml_RX12_484 ⟨_, _, rfl⟩ o19 rfl rfl (Nat.le_of_ble_eq_true rfl) (Nat.le_of_ble_eq_true rfl) (Nat.le_of_ble_eq_true rfl) (Nat.zero_le _) (Nat.zero_le _) dX12_on_57 (c_X12_cellMany h) (fun r17 m18 h => ?_)
  refine v_icmp_ge 110 dX12_on_60 (by decide) (fun hc => ?_) (fun hc => ?_)
  · replace h := Eq.mp (if_pos hc) h
    refine v_iconst (0 : Int32) dX12_on_110 (by decide) ?_
    refine v_istore_n (ls' := [(2, .int _), (0, .ref _)]) 2 dX12_on_111 rfl (Nat.le_of_ble_eq_true rfl) rfl ?_
    refine v_sub [1, 0] rfl ?_
    exact v_X12_on_p112 h
  · replace h := Eq.mp (if_neg hc) h
    refine v_iconst (0 : Int32) dX12_on_63 (by decide) ?_
    refine v_istore_n (ls' := [(3, .int _), (0, .ref _), (2, .int _)]) 3 dX12_on_64 rfl (Nat.le_of_ble_eq_true rfl) rfl ?_
    refine v_sub [1, 2, 0] rfl ?_
    exact v_X12_on_p65 hK55 h
set_option maxHeartbeats 4000000 in
set_option maxRecDepth 100000 in
theorem v_X12_on_p55 {G : Gl} {F : Fr} {sh : Shp} {v0 : Nat} {v2 : Int32} {Q : Int32 → Mem → Prop} {m : Mem} (h : X12_on_p55 sh v0 Q v2 m) : V G F M_X12_on sh 0 0 (Zi G F sh Q) 55 [(0, .ref (G.1 + v0)), (2, .int v2)] [] m := by
  obtain ⟨n, h⟩ := h
  induction n generalizing v2 m with
  | zero => exact h.elim
  | succ n ih => exact v_X12_on_p55b (fun _ _ h => ih h) h
set_option maxHeartbeats 4000000 in
set_option maxRecDepth 100000 in
theorem c_X12_on {l : Launch} {G : Gl} {sh : Shp} {v0 : Nat} {Q : Int32 → Mem → Prop} {m : Mem} (h : wp_X12_on sh v0 Q m) : Cni l G yX12_on cX12_on 4 (Option.some FieldType.boolean) 3 106 sh [.ref (G.1 + v0)] m Q := by
  refine con_i (ls := [(0, .ref (G.1 + v0))]) (by decide +kernel) rfl (Nat.le_of_ble_eq_true rfl) (fun F => ?_)
  show V G F M_X12_on sh 0 0 (Zi G F sh Q) 0 [(0, .ref (G.1 + v0))] [] m
  unfold wp_X12_on at h
  refine v_aload_n 0 0 dX12_on_0 rfl rfl ?_
  obtain ⟨o1, h⟩ := h
  refine v_gI 12 1 dX12_on_1 fg_RX12_282 o1 ?_
  refine v_istore_n (ls' := [(1, .int _), (0, .ref _)]) 1 dX12_on_4 rfl (Nat.le_of_ble_eq_true rfl) rfl ?_
  refine v_aload_n 0 1 dX12_on_5 rfl rfl ?_
  refine v_iconst (0 : Int32) dX12_on_6 (by decide) ?_
  refine v_pI 12 1 dX12_on_7 fw_RX12_282 o1 ?_
  replace h := bnd_e h
  refine v_aload_n 0 1 dX12_on_10 rfl rfl ?_
  refine v_iload_n 1 0 dX12_on_11 rfl rfl ?_
  refine v_cVi [.int _] mv_X12_isImage ml_RX12_731 ⟨_, _, rfl⟩ o1 rfl rfl (Nat.le_of_ble_eq_true rfl) (Nat.le_of_ble_eq_true rfl) (Nat.le_of_ble_eq_true rfl) (Nat.zero_le _) (Nat.zero_le _) dX12_on_12 (c_X12_isImage h) (fun r3 m4 h => ?_)
  refine v_if_ne 30 dX12_on_15 (by decide) (fun hc => ?_) (fun hc => ?_)
  · replace h := Eq.mp (if_neg hc) h
    refine v_aload_n 0 1 dX12_on_30 rfl rfl ?_
    obtain ⟨b5, e6, h⟩ := h
    refine v_gR 12 58 dX12_on_31 fg_RX12_143 o1 e6 ?_
    refine v_iconst (0 : Int32) dX12_on_34 (by decide) ?_
    refine v_sipush (256 : Int32) dX12_on_35 (by decide) ?_
    refine v_aload_n 0 1 dX12_on_38 rfl rfl ?_
    obtain ⟨b7, e8, h⟩ := h
    refine v_gR 12 0 dX12_on_39 fg_RX12_7 o1 e8 ?_
    refine v_iconst (0 : Int32) dX12_on_42 (by decide) ?_
    obtain ⟨i9, h⟩ := h
    refine v_iald dX12_on_43 i9 ?_
    refine v_imul dX12_on_44 ?_
    refine v_aload_n 0 1 dX12_on_45 rfl rfl ?_
    refine v_gR 12 0 dX12_on_46 fg_RX12_7 o1 e8 ?_
    refine v_iconst (1 : Int32) dX12_on_49 (by decide) ?_
    obtain ⟨i10, h⟩ := h
    refine v_iald dX12_on_50 i10 ?_
    refine v_iadd dX12_on_51 ?_
    obtain ⟨i11, h⟩ := h
    refine v_iast dX12_on_52 i11 ?_
    replace h := bnd_e h
    refine v_iconst (0 : Int32) dX12_on_53 (by decide) ?_
    refine v_istore_n (ls' := [(2, .int _), (1, .int _), (0, .ref _)]) 2 dX12_on_54 rfl (Nat.le_of_ble_eq_true rfl) rfl ?_
    refine v_sub [2, 0] rfl ?_
    exact v_X12_on_p55 h
  · replace h := Eq.mp (if_pos hc) h
    refine v_aload_n 0 1 dX12_on_18 rfl rfl ?_
    obtain ⟨b13, e14, h⟩ := h
    refine v_gR 12 9 dX12_on_19 fg_RX12_17 o1 e14 ?_
    refine v_iconst (5 : Int32) dX12_on_22 (by decide) ?_
    refine v_dup2 dX12_on_23 rfl rfl ?_
    obtain ⟨i15, h⟩ := h
    refine v_iald dX12_on_24 i15 ?_
    refine v_iconst (1 : Int32) dX12_on_25 (by decide) ?_
    refine v_iadd dX12_on_26 ?_
    refine v_iast dX12_on_27 i15 ?_
    replace h := bnd_e h
    refine v_iconst (0 : Int32) dX12_on_28 (by decide) ?_
    exact v_iret dX12_on_29 rfl (by decide) h
/-! CalledRiverModel.parts -/
theorem dX12_parts_0 : decode cX12_parts 0 = .ok (.aload_n 0, 1) := by decide +kernel
theorem dX12_parts_1 : decode cX12_parts 1 = .ok (.iload_n 1, 1) := by decide +kernel
theorem dX12_parts_2 : decode cX12_parts 2 = .ok (.i2l, 1) := by decide +kernel
theorem dX12_parts_3 : decode cX12_parts 3 = .ok (.invokevirtual 557, 3) := by decide +kernel
theorem dX12_parts_6 : decode cX12_parts 6 = .ok (.ifCond .eq 36, 3) := by decide +kernel
theorem dX12_parts_9 : decode cX12_parts 9 = .ok (.aload_n 0, 1) := by decide +kernel
theorem dX12_parts_10 : decode cX12_parts 10 = .ok (.iload_n 2, 1) := by decide +kernel
theorem dX12_parts_11 : decode cX12_parts 11 = .ok (.i2l, 1) := by decide +kernel
theorem dX12_parts_12 : decode cX12_parts 12 = .ok (.invokevirtual 557, 3) := by decide +kernel
theorem dX12_parts_15 : decode cX12_parts 15 = .ok (.ifCond .eq 27, 3) := by decide +kernel
theorem dX12_parts_18 : decode cX12_parts 18 = .ok (.iload_n 1, 1) := by decide +kernel
theorem dX12_parts_19 : decode cX12_parts 19 = .ok (.iload_n 2, 1) := by decide +kernel
theorem dX12_parts_20 : decode cX12_parts 20 = .ok (.if_icmp .eq 22, 3) := by decide +kernel
theorem dX12_parts_23 : decode cX12_parts 23 = .ok (.iload_n 3, 1) := by decide +kernel
theorem dX12_parts_24 : decode cX12_parts 24 = .ok (.i2l, 1) := by decide +kernel
theorem dX12_parts_25 : decode cX12_parts 25 = .ok (.lconst 0, 1) := by decide +kernel
theorem dX12_parts_26 : decode cX12_parts 26 = .ok (.ldc2_w 552, 3) := by decide +kernel
theorem dX12_parts_29 : decode cX12_parts 29 = .ok (.invokestatic 328, 3) := by decide +kernel
theorem dX12_parts_32 : decode cX12_parts 32 = .ok (.ifCond .eq 10, 3) := by decide +kernel
theorem dX12_parts_35 : decode cX12_parts 35 = .ok (.aload_n 0, 1) := by decide +kernel
theorem dX12_parts_36 : decode cX12_parts 36 = .ok (.invokevirtual 509, 3) := by decide +kernel
theorem dX12_parts_39 : decode cX12_parts 39 = .ok (.ifCond .ne 5, 3) := by decide +kernel
theorem dX12_parts_42 : decode cX12_parts 42 = .ok (.iconst (-1), 1) := by decide +kernel
theorem dX12_parts_43 : decode cX12_parts 43 = .ok (.ireturn, 1) := by decide +kernel
theorem dX12_parts_44 : decode cX12_parts 44 = .ok (.aload_n 0, 1) := by decide +kernel
theorem dX12_parts_45 : decode cX12_parts 45 = .ok (.iload_n 1, 1) := by decide +kernel
theorem dX12_parts_46 : decode cX12_parts 46 = .ok (.invokevirtual 521, 3) := by decide +kernel
theorem dX12_parts_49 : decode cX12_parts 49 = .ok (.aload_n 0, 1) := by decide +kernel
theorem dX12_parts_50 : decode cX12_parts 50 = .ok (.getfield 497, 3) := by decide +kernel
theorem dX12_parts_53 : decode cX12_parts 53 = .ok (.istore 4, 2) := by decide +kernel
theorem dX12_parts_55 : decode cX12_parts 55 = .ok (.iconst 0, 1) := by decide +kernel
theorem dX12_parts_56 : decode cX12_parts 56 = .ok (.istore 5, 2) := by decide +kernel
theorem dX12_parts_58 : decode cX12_parts 58 = .ok (.iload 5, 2) := by decide +kernel
theorem dX12_parts_60 : decode cX12_parts 60 = .ok (.iload 4, 2) := by decide +kernel
theorem dX12_parts_62 : decode cX12_parts 62 = .ok (.if_icmp .ge 23, 3) := by decide +kernel
theorem dX12_parts_65 : decode cX12_parts 65 = .ok (.aload_n 0, 1) := by decide +kernel
theorem dX12_parts_66 : decode cX12_parts 66 = .ok (.getfield 170, 3) := by decide +kernel
theorem dX12_parts_69 : decode cX12_parts 69 = .ok (.iload 5, 2) := by decide +kernel
theorem dX12_parts_71 : decode cX12_parts 71 = .ok (.aload_n 0, 1) := by decide +kernel
theorem dX12_parts_72 : decode cX12_parts 72 = .ok (.getfield 146, 3) := by decide +kernel
theorem dX12_parts_75 : decode cX12_parts 75 = .ok (.iload 5, 2) := by decide +kernel
theorem dX12_parts_77 : decode cX12_parts 77 = .ok (.iaload, 1) := by decide +kernel
theorem dX12_parts_78 : decode cX12_parts 78 = .ok (.iastore, 1) := by decide +kernel
theorem dX12_parts_79 : decode cX12_parts 79 = .ok (.iinc 5 1, 3) := by decide +kernel
theorem dX12_parts_82 : decode cX12_parts 82 = .ok (.goto (-24), 3) := by decide +kernel
theorem dX12_parts_85 : decode cX12_parts 85 = .ok (.aload_n 0, 1) := by decide +kernel
theorem dX12_parts_86 : decode cX12_parts 86 = .ok (.iload_n 2, 1) := by decide +kernel
theorem dX12_parts_87 : decode cX12_parts 87 = .ok (.invokevirtual 521, 3) := by decide +kernel
theorem dX12_parts_90 : decode cX12_parts 90 = .ok (.iconst 0, 1) := by decide +kernel
theorem dX12_parts_91 : decode cX12_parts 91 = .ok (.istore 5, 2) := by decide +kernel
theorem dX12_parts_93 : decode cX12_parts 93 = .ok (.iload 5, 2) := by decide +kernel
theorem dX12_parts_95 : decode cX12_parts 95 = .ok (.iload 4, 2) := by decide +kernel
theorem dX12_parts_97 : decode cX12_parts 97 = .ok (.if_icmp .ge 35, 3) := by decide +kernel
theorem dX12_parts_100 : decode cX12_parts 100 = .ok (.iload 5, 2) := by decide +kernel
theorem dX12_parts_102 : decode cX12_parts 102 = .ok (.aload_n 0, 1) := by decide +kernel
theorem dX12_parts_103 : decode cX12_parts 103 = .ok (.getfield 497, 3) := by decide +kernel
theorem dX12_parts_106 : decode cX12_parts 106 = .ok (.if_icmp .ge 26, 3) := by decide +kernel
theorem dX12_parts_109 : decode cX12_parts 109 = .ok (.aload_n 0, 1) := by decide +kernel
theorem dX12_parts_110 : decode cX12_parts 110 = .ok (.getfield 170, 3) := by decide +kernel
theorem dX12_parts_113 : decode cX12_parts 113 = .ok (.iload 5, 2) := by decide +kernel
theorem dX12_parts_115 : decode cX12_parts 115 = .ok (.iaload, 1) := by decide +kernel
theorem dX12_parts_116 : decode cX12_parts 116 = .ok (.aload_n 0, 1) := by decide +kernel
theorem dX12_parts_117 : decode cX12_parts 117 = .ok (.getfield 146, 3) := by decide +kernel
theorem dX12_parts_120 : decode cX12_parts 120 = .ok (.iload 5, 2) := by decide +kernel
theorem dX12_parts_122 : decode cX12_parts 122 = .ok (.iaload, 1) := by decide +kernel
theorem dX12_parts_123 : decode cX12_parts 123 = .ok (.if_icmp .ne 9, 3) := by decide +kernel
theorem dX12_parts_126 : decode cX12_parts 126 = .ok (.iinc 5 1, 3) := by decide +kernel
theorem dX12_parts_129 : decode cX12_parts 129 = .ok (.goto (-36), 3) := by decide +kernel
theorem dX12_parts_132 : decode cX12_parts 132 = .ok (.iload 5, 2) := by decide +kernel
theorem dX12_parts_134 : decode cX12_parts 134 = .ok (.iload 4, 2) := by decide +kernel
theorem dX12_parts_136 : decode cX12_parts 136 = .ok (.if_icmp .ne 14, 3) := by decide +kernel
theorem dX12_parts_139 : decode cX12_parts 139 = .ok (.iload 5, 2) := by decide +kernel
theorem dX12_parts_141 : decode cX12_parts 141 = .ok (.aload_n 0, 1) := by decide +kernel
theorem dX12_parts_142 : decode cX12_parts 142 = .ok (.getfield 497, 3) := by decide +kernel
theorem dX12_parts_145 : decode cX12_parts 145 = .ok (.if_icmp .ne 5, 3) := by decide +kernel
theorem dX12_parts_148 : decode cX12_parts 148 = .ok (.iconst (-1), 1) := by decide +kernel
theorem dX12_parts_149 : decode cX12_parts 149 = .ok (.ireturn, 1) := by decide +kernel
theorem dX12_parts_150 : decode cX12_parts 150 = .ok (.iload_n 3, 1) := by decide +kernel
theorem dX12_parts_151 : decode cX12_parts 151 = .ok (.ifCond .ne 8, 3) := by decide +kernel
theorem dX12_parts_154 : decode cX12_parts 154 = .ok (.iload 5, 2) := by decide +kernel
theorem dX12_parts_156 : decode cX12_parts 156 = .ok (.iconst 1, 1) := by decide +kernel
theorem dX12_parts_157 : decode cX12_parts 157 = .ok (.isub, 1) := by decide +kernel
theorem dX12_parts_158 : decode cX12_parts 158 = .ok (.ireturn, 1) := by decide +kernel
theorem dX12_parts_159 : decode cX12_parts 159 = .ok (.iload 5, 2) := by decide +kernel
theorem dX12_parts_161 : decode cX12_parts 161 = .ok (.istore 6, 2) := by decide +kernel
theorem dX12_parts_163 : decode cX12_parts 163 = .ok (.iload 6, 2) := by decide +kernel
theorem dX12_parts_165 : decode cX12_parts 165 = .ok (.iload 4, 2) := by decide +kernel
theorem dX12_parts_167 : decode cX12_parts 167 = .ok (.if_icmp .ge 55, 3) := by decide +kernel
theorem dX12_parts_170 : decode cX12_parts 170 = .ok (.aload_n 0, 1) := by decide +kernel
theorem dX12_parts_171 : decode cX12_parts 171 = .ok (.getfield 149, 3) := by decide +kernel
theorem dX12_parts_174 : decode cX12_parts 174 = .ok (.aload_n 0, 1) := by decide +kernel
theorem dX12_parts_175 : decode cX12_parts 175 = .ok (.getfield 170, 3) := by decide +kernel
theorem dX12_parts_178 : decode cX12_parts 178 = .ok (.iload 6, 2) := by decide +kernel
theorem dX12_parts_180 : decode cX12_parts 180 = .ok (.iaload, 1) := by decide +kernel
theorem dX12_parts_181 : decode cX12_parts 181 = .ok (.iaload, 1) := by decide +kernel
theorem dX12_parts_182 : decode cX12_parts 182 = .ok (.iload 5, 2) := by decide +kernel
theorem dX12_parts_184 : decode cX12_parts 184 = .ok (.if_icmp .lt 32, 3) := by decide +kernel
theorem dX12_parts_187 : decode cX12_parts 187 = .ok (.iload_n 3, 1) := by decide +kernel
theorem dX12_parts_188 : decode cX12_parts 188 = .ok (.iconst 1, 1) := by decide +kernel
theorem dX12_parts_189 : decode cX12_parts 189 = .ok (.if_icmp .ne 16, 3) := by decide +kernel
theorem dX12_parts_192 : decode cX12_parts 192 = .ok (.aload_n 0, 1) := by decide +kernel
theorem dX12_parts_193 : decode cX12_parts 193 = .ok (.getfield 170, 3) := by decide +kernel
theorem dX12_parts_196 : decode cX12_parts 196 = .ok (.iload 6, 2) := by decide +kernel
theorem dX12_parts_198 : decode cX12_parts 198 = .ok (.iaload, 1) := by decide +kernel
theorem dX12_parts_199 : decode cX12_parts 199 = .ok (.bipush 6, 2) := by decide +kernel
theorem dX12_parts_201 : decode cX12_parts 201 = .ok (.irem, 1) := by decide +kernel
theorem dX12_parts_202 : decode cX12_parts 202 = .ok (.goto 13, 3) := by decide +kernel
theorem dX12_parts_205 : decode cX12_parts 205 = .ok (.aload_n 0, 1) := by decide +kernel
theorem dX12_parts_206 : decode cX12_parts 206 = .ok (.getfield 170, 3) := by decide +kernel
theorem dX12_parts_209 : decode cX12_parts 209 = .ok (.iload 6, 2) := by decide +kernel
theorem dX12_parts_211 : decode cX12_parts 211 = .ok (.iaload, 1) := by decide +kernel
theorem dX12_parts_212 : decode cX12_parts 212 = .ok (.bipush 6, 2) := by decide +kernel
theorem dX12_parts_214 : decode cX12_parts 214 = .ok (.idiv, 1) := by decide +kernel
theorem dX12_parts_215 : decode cX12_parts 215 = .ok (.ireturn, 1) := by decide +kernel
theorem dX12_parts_216 : decode cX12_parts 216 = .ok (.iinc 6 1, 3) := by decide +kernel
theorem dX12_parts_219 : decode cX12_parts 219 = .ok (.goto (-56), 3) := by decide +kernel
theorem dX12_parts_222 : decode cX12_parts 222 = .ok (.iconst (-1), 1) := by decide +kernel
theorem dX12_parts_223 : decode cX12_parts 223 = .ok (.ireturn, 1) := by decide +kernel
def X12_parts_p163b (sh : Shp) (v0 : Nat) (v3 : Int32) (v4 : Int32) (v5 : Int32) (Q : Int32 → Mem → Prop) (K163 : Int32 → Mem → Prop) (v6 : Int32) (m : Mem) : Prop :=
  if v4 ≤ v6 then (Q (-1 : Int32) m) else (Ob sh v0 12 ∧ ∃ b32 : Nat, m.2.2 v0 65 = some b32 ∧ (∃ b34 : Nat, m.2.2 v0 72 = some b34 ∧ (Ix sh b34 100 v6 ∧ (Ix sh b32 100 (m.1 b34 v6.toNatClampNeg) ∧ (if (m.1 b32 (m.1 b34 v6.toNatClampNeg).toNatClampNeg) < v5 then (K163 (v6 + (1 : Int32)) m) else (if v3 = (1 : Int32) then (Q ((m.1 b34 v6.toNatClampNeg) - (m.1 b34 v6.toNatClampNeg) / (6 : Int32) * (6 : Int32)) m) else (Q ((m.1 b34 v6.toNatClampNeg) / (6 : Int32)) m)))))))
def X12_parts_p163n (sh : Shp) (v0 : Nat) (v3 : Int32) (v4 : Int32) (v5 : Int32) (Q : Int32 → Mem → Prop) : Nat → Int32 → Mem → Prop
  | 0 => fun _ _ => False
  | n + 1 => X12_parts_p163b sh v0 v3 v4 v5 Q (X12_parts_p163n sh v0 v3 v4 v5 Q n)
def X12_parts_p163 (sh : Shp) (v0 : Nat) (v3 : Int32) (v4 : Int32) (v5 : Int32) (Q : Int32 → Mem → Prop) (v6 : Int32) (m : Mem) : Prop := ∃ n, X12_parts_p163n sh v0 v3 v4 v5 Q n v6 m
def X12_parts_p150 (sh : Shp) (v0 : Nat) (v3 : Int32) (v4 : Int32) (v5 : Int32) (Q : Int32 → Mem → Prop) (m : Mem) : Prop :=
  if v3 = 0 then (Q (v5 - (1 : Int32)) m) else (X12_parts_p163 sh v0 v3 v4 v5 Q v5 m)
def X12_parts_p132 (sh : Shp) (v0 : Nat) (v3 : Int32) (v4 : Int32) (v5 : Int32) (Q : Int32 → Mem → Prop) (m : Mem) : Prop :=
  if v5 = v4 then (Ob sh v0 12 ∧ (if v5 = (m.1 v0 64) then (Q (-1 : Int32) m) else (X12_parts_p150 sh v0 v3 v4 v5 Q m))) else (X12_parts_p150 sh v0 v3 v4 v5 Q m)
def X12_parts_p93b (sh : Shp) (v0 : Nat) (v3 : Int32) (v4 : Int32) (Q : Int32 → Mem → Prop) (K93 : Int32 → Mem → Prop) (v5 : Int32) (m : Mem) : Prop :=
  if v4 ≤ v5 then (X12_parts_p132 sh v0 v3 v4 v5 Q m) else (Ob sh v0 12 ∧ (if (m.1 v0 64) ≤ v5 then (X12_parts_p132 sh v0 v3 v4 v5 Q m) else (∃ b24 : Nat, m.2.2 v0 72 = some b24 ∧ (Ix sh b24 100 v5 ∧ (∃ b27 : Nat, m.2.2 v0 63 = some b27 ∧ (Ix sh b27 100 v5 ∧ (if (m.1 b24 v5.toNatClampNeg) = (m.1 b27 v5.toNatClampNeg) then (K93 (v5 + (1 : Int32)) m) else (X12_parts_p132 sh v0 v3 v4 v5 Q m))))))))
def X12_parts_p93n (sh : Shp) (v0 : Nat) (v3 : Int32) (v4 : Int32) (Q : Int32 → Mem → Prop) : Nat → Int32 → Mem → Prop
  | 0 => fun _ _ => False
  | n + 1 => X12_parts_p93b sh v0 v3 v4 Q (X12_parts_p93n sh v0 v3 v4 Q n)
def X12_parts_p93 (sh : Shp) (v0 : Nat) (v3 : Int32) (v4 : Int32) (Q : Int32 → Mem → Prop) (v5 : Int32) (m : Mem) : Prop := ∃ n, X12_parts_p93n sh v0 v3 v4 Q n v5 m
def X12_parts_p58b (sh : Shp) (v0 : Nat) (v2 : Int32) (v3 : Int32) (v4 : Int32) (Q : Int32 → Mem → Prop) (K58 : Int32 → Mem → Prop) (v5 : Int32) (m : Mem) : Prop :=
  if v4 ≤ v5 then (Ob sh v0 12 ∧ wp_X12_laysWay sh v0 v2 (fun m13 => X12_parts_p93 sh v0 v3 v4 Q (0 : Int32) m13) m) else (Ob sh v0 12 ∧ ∃ b16 : Nat, m.2.2 v0 72 = some b16 ∧ (∃ b18 : Nat, m.2.2 v0 63 = some b18 ∧ (Ix sh b18 100 v5 ∧ (Ix sh b16 100 v5 ∧ bnd (sI m b16 v5.toNatClampNeg (m.1 b18 v5.toNatClampNeg)) (fun m22 => K58 (v5 + (1 : Int32)) m22)))))
def X12_parts_p58n (sh : Shp) (v0 : Nat) (v2 : Int32) (v3 : Int32) (v4 : Int32) (Q : Int32 → Mem → Prop) : Nat → Int32 → Mem → Prop
  | 0 => fun _ _ => False
  | n + 1 => X12_parts_p58b sh v0 v2 v3 v4 Q (X12_parts_p58n sh v0 v2 v3 v4 Q n)
def X12_parts_p58 (sh : Shp) (v0 : Nat) (v2 : Int32) (v3 : Int32) (v4 : Int32) (Q : Int32 → Mem → Prop) (v5 : Int32) (m : Mem) : Prop := ∃ n, X12_parts_p58n sh v0 v2 v3 v4 Q n v5 m
def wp_X12_parts (sh : Shp) (v0 : Nat) (v1 : Int32) (v2 : Int32) (v3 : Int32) (Q : Int32 → Mem → Prop) (m : Mem) : Prop :=
  Ob sh v0 12 ∧ wp_X12_isCaller sh v0 v1.toInt64 (fun r1 m2 => if r1 = 0 then (Q (-1 : Int32) m2) else (wp_X12_isCaller sh v0 v2.toInt64 (fun r4 m5 => if r4 = 0 then (Q (-1 : Int32) m5) else (if v1 = v2 then (Q (-1 : Int32) m5) else (wp_X12_isIn sh v3.toInt64 (0 : Int64) (2 : Int64) (fun r6 m7 => if r6 = 0 then (Q (-1 : Int32) m7) else (wp_X12_hasWay sh v0 (fun r8 m9 => if r8 = 0 then (Q (-1 : Int32) m9) else (wp_X12_laysWay sh v0 v1 (fun m11 => X12_parts_p58 sh v0 v2 v3 (m11.1 v0 64) Q (0 : Int32) m11) m9)) m7)) m5))) m2)) m
abbrev M_X12_parts : Mi := (cX12_parts, 7, RX12, (Option.some FieldType.int), "parts", 9, 243, 0, 0)
set_option maxHeartbeats 4000000 in
set_option maxRecDepth 100000 in
theorem v_X12_parts_p163b {G : Gl} {F : Fr} {sh : Shp} {v0 : Nat} {v3 : Int32} {v4 : Int32} {v5 : Int32} {v6 : Int32} {Q : Int32 → Mem → Prop} {K163 : Int32 → Mem → Prop} {m : Mem} (hK163 : ∀ (x6 : Int32) (m : Mem), K163 x6 m → V G F M_X12_parts sh 0 0 (Zi G F sh Q) 163 [(0, .ref (G.1 + v0)), (3, .int v3), (4, .int v4), (5, .int v5), (6, .int x6)] [] m) (h : X12_parts_p163b sh v0 v3 v4 v5 Q K163 v6 m) : V G F M_X12_parts sh 0 0 (Zi G F sh Q) 163 [(0, .ref (G.1 + v0)), (3, .int v3), (4, .int v4), (5, .int v5), (6, .int v6)] [] m := by
  unfold X12_parts_p163b at h
  refine v_iload 6 4 dX12_parts_163 rfl ?_
  refine v_iload 4 2 dX12_parts_165 rfl ?_
  refine v_icmp_ge 222 dX12_parts_167 (by decide) (fun hc => ?_) (fun hc => ?_)
  · replace h := Eq.mp (if_pos hc) h
    refine v_iconst (-1 : Int32) dX12_parts_222 (by decide) ?_
    exact v_iret dX12_parts_223 rfl rfl h
  · replace h := Eq.mp (if_neg hc) h
    refine v_aload_n 0 0 dX12_parts_170 rfl rfl ?_
    obtain ⟨o31, h⟩ := h
    obtain ⟨b32, e33, h⟩ := h
    refine v_gR 12 65 dX12_parts_171 fg_RX12_149 o31 e33 ?_
    refine v_aload_n 0 0 dX12_parts_174 rfl rfl ?_
    obtain ⟨b34, e35, h⟩ := h
    refine v_gR 12 72 dX12_parts_175 fg_RX12_170 o31 e35 ?_
    refine v_iload 6 4 dX12_parts_178 rfl ?_
    obtain ⟨i36, h⟩ := h
    refine v_iald dX12_parts_180 i36 ?_
    obtain ⟨i37, h⟩ := h
    refine v_iald dX12_parts_181 i37 ?_
    refine v_iload 5 3 dX12_parts_182 rfl ?_
    refine v_icmp_lt 216 dX12_parts_184 (by decide) (fun hc => ?_) (fun hc => ?_)
    · replace h := Eq.mp (if_pos hc) h
      refine v_iinc (ls' := [(6, .int _), (0, .ref _), (3, .int _), (4, .int _), (5, .int _)]) 6 4 dX12_parts_216 rfl (congrArg (HAdd.hAdd _) (by decide : Int32.ofInt (1) = (1 : Int32))) (Nat.le_of_ble_eq_true rfl) rfl ?_
      refine v_goto 163 dX12_parts_219 (by decide) ?_
      refine v_sub [1, 2, 3, 4, 0] rfl ?_
      exact hK163 _ _ h
    · replace h := Eq.mp (if_neg hc) h
      refine v_iload_n 3 1 dX12_parts_187 rfl rfl ?_
      refine v_iconst (1 : Int32) dX12_parts_188 (by decide) ?_
      refine v_icmp_ne 205 dX12_parts_189 (by decide) (fun hc => ?_) (fun hc => ?_)
      · replace h := Eq.mp (if_neg hc) h
        refine v_aload_n 0 0 dX12_parts_205 rfl rfl ?_
        refine v_gR 12 72 dX12_parts_206 fg_RX12_170 o31 e35 ?_
        refine v_iload 6 4 dX12_parts_209 rfl ?_
        refine v_iald dX12_parts_211 i36 ?_
        refine v_bipush (6 : Int32) dX12_parts_212 (by decide) ?_
        refine v_idiv dX12_parts_214 (by decide) ?_
        exact v_iret dX12_parts_215 rfl rfl h
      · replace h := Eq.mp (if_pos hc) h
        refine v_aload_n 0 0 dX12_parts_192 rfl rfl ?_
        refine v_gR 12 72 dX12_parts_193 fg_RX12_170 o31 e35 ?_
        refine v_iload 6 4 dX12_parts_196 rfl ?_
        refine v_iald dX12_parts_198 i36 ?_
        refine v_bipush (6 : Int32) dX12_parts_199 (by decide) ?_
        refine v_irem dX12_parts_201 (by decide) ?_
        refine v_goto 215 dX12_parts_202 (by decide) ?_
        exact v_iret dX12_parts_215 rfl rfl h
set_option maxHeartbeats 4000000 in
set_option maxRecDepth 100000 in
theorem v_X12_parts_p163 {G : Gl} {F : Fr} {sh : Shp} {v0 : Nat} {v3 : Int32} {v4 : Int32} {v5 : Int32} {v6 : Int32} {Q : Int32 → Mem → Prop} {m : Mem} (h : X12_parts_p163 sh v0 v3 v4 v5 Q v6 m) : V G F M_X12_parts sh 0 0 (Zi G F sh Q) 163 [(0, .ref (G.1 + v0)), (3, .int v3), (4, .int v4), (5, .int v5), (6, .int v6)] [] m := by
  obtain ⟨n, h⟩ := h
  induction n generalizing v6 m with
  | zero => exact h.elim
  | succ n ih => exact v_X12_parts_p163b (fun _ _ h => ih h) h
set_option maxHeartbeats 4000000 in
set_option maxRecDepth 100000 in
theorem v_X12_parts_p150 {G : Gl} {F : Fr} {sh : Shp} {v0 : Nat} {v3 : Int32} {v4 : Int32} {v5 : Int32} {Q : Int32 → Mem → Prop} {m : Mem} (h : X12_parts_p150 sh v0 v3 v4 v5 Q m) : V G F M_X12_parts sh 0 0 (Zi G F sh Q) 150 [(0, .ref (G.1 + v0)), (3, .int v3), (4, .int v4), (5, .int v5)] [] m := by
  unfold X12_parts_p150 at h
  refine v_iload_n 3 1 dX12_parts_150 rfl rfl ?_
  refine v_if_ne 159 dX12_parts_151 (by decide) (fun hc => ?_) (fun hc => ?_)
  · replace h := Eq.mp (if_neg hc) h
    refine v_iload 5 3 dX12_parts_159 rfl ?_
    refine v_istore (ls' := [(6, .int _), (0, .ref _), (3, .int _), (4, .int _), (5, .int _)]) 6 dX12_parts_161 (Nat.le_of_ble_eq_true rfl) rfl ?_
    refine v_sub [1, 2, 3, 4, 0] rfl ?_
    exact v_X12_parts_p163 h
  · replace h := Eq.mp (if_pos hc) h
    refine v_iload 5 3 dX12_parts_154 rfl ?_
    refine v_iconst (1 : Int32) dX12_parts_156 (by decide) ?_
    refine v_isub dX12_parts_157 ?_
    exact v_iret dX12_parts_158 rfl rfl h
set_option maxHeartbeats 4000000 in
set_option maxRecDepth 100000 in
theorem v_X12_parts_p132 {G : Gl} {F : Fr} {sh : Shp} {v0 : Nat} {v3 : Int32} {v4 : Int32} {v5 : Int32} {Q : Int32 → Mem → Prop} {m : Mem} (h : X12_parts_p132 sh v0 v3 v4 v5 Q m) : V G F M_X12_parts sh 0 0 (Zi G F sh Q) 132 [(0, .ref (G.1 + v0)), (3, .int v3), (4, .int v4), (5, .int v5)] [] m := by
  unfold X12_parts_p132 at h
  refine v_iload 5 3 dX12_parts_132 rfl ?_
  refine v_iload 4 2 dX12_parts_134 rfl ?_
  refine v_icmp_ne 150 dX12_parts_136 (by decide) (fun hc => ?_) (fun hc => ?_)
  · replace h := Eq.mp (if_neg hc) h
    refine v_sub [0, 1, 2, 3] rfl ?_
    exact v_X12_parts_p150 h
  · replace h := Eq.mp (if_pos hc) h
    refine v_iload 5 3 dX12_parts_139 rfl ?_
    refine v_aload_n 0 0 dX12_parts_141 rfl rfl ?_
    obtain ⟨o30, h⟩ := h
    refine v_gI 12 64 dX12_parts_142 fg_RX12_497 o30 ?_
    refine v_icmp_ne 150 dX12_parts_145 (by decide) (fun hc => ?_) (fun hc => ?_)
    · replace h := Eq.mp (if_neg hc) h
      refine v_sub [0, 1, 2, 3] rfl ?_
      exact v_X12_parts_p150 h
    · replace h := Eq.mp (if_pos hc) h
      refine v_iconst (-1 : Int32) dX12_parts_148 (by decide) ?_
      exact v_iret dX12_parts_149 rfl rfl h
set_option maxHeartbeats 4000000 in
set_option maxRecDepth 100000 in
theorem v_X12_parts_p93b {G : Gl} {F : Fr} {sh : Shp} {v0 : Nat} {v3 : Int32} {v4 : Int32} {v5 : Int32} {Q : Int32 → Mem → Prop} {K93 : Int32 → Mem → Prop} {m : Mem} (hK93 : ∀ (x5 : Int32) (m : Mem), K93 x5 m → V G F M_X12_parts sh 0 0 (Zi G F sh Q) 93 [(0, .ref (G.1 + v0)), (3, .int v3), (4, .int v4), (5, .int x5)] [] m) (h : X12_parts_p93b sh v0 v3 v4 Q K93 v5 m) : V G F M_X12_parts sh 0 0 (Zi G F sh Q) 93 [(0, .ref (G.1 + v0)), (3, .int v3), (4, .int v4), (5, .int v5)] [] m := by
  unfold X12_parts_p93b at h
  refine v_iload 5 3 dX12_parts_93 rfl ?_
  refine v_iload 4 2 dX12_parts_95 rfl ?_
  refine v_icmp_ge 132 dX12_parts_97 (by decide) (fun hc => ?_) (fun hc => ?_)
  · replace h := Eq.mp (if_pos hc) h
    refine v_sub [0, 1, 2, 3] rfl ?_
    exact v_X12_parts_p132 h
  · replace h := Eq.mp (if_neg hc) h
    refine v_iload 5 3 dX12_parts_100 rfl ?_
    refine v_aload_n 0 0 dX12_parts_102 rfl rfl ?_
    obtain ⟨o23, h⟩ := h
    refine v_gI 12 64 dX12_parts_103 fg_RX12_497 o23 ?_
    refine v_icmp_ge 132 dX12_parts_106 (by decide) (fun hc => ?_) (fun hc => ?_)
    · replace h := Eq.mp (if_pos hc) h
      refine v_sub [0, 1, 2, 3] rfl ?_
      exact v_X12_parts_p132 h
    · replace h := Eq.mp (if_neg hc) h
      refine v_aload_n 0 0 dX12_parts_109 rfl rfl ?_
      obtain ⟨b24, e25, h⟩ := h
      refine v_gR 12 72 dX12_parts_110 fg_RX12_170 o23 e25 ?_
      refine v_iload 5 3 dX12_parts_113 rfl ?_
      obtain ⟨i26, h⟩ := h
      refine v_iald dX12_parts_115 i26 ?_
      refine v_aload_n 0 0 dX12_parts_116 rfl rfl ?_
      obtain ⟨b27, e28, h⟩ := h
      refine v_gR 12 63 dX12_parts_117 fg_RX12_146 o23 e28 ?_
      refine v_iload 5 3 dX12_parts_120 rfl ?_
      obtain ⟨i29, h⟩ := h
      refine v_iald dX12_parts_122 i29 ?_
      refine v_icmp_ne 132 dX12_parts_123 (by decide) (fun hc => ?_) (fun hc => ?_)
      · replace h := Eq.mp (if_neg hc) h
        refine v_sub [0, 1, 2, 3] rfl ?_
        exact v_X12_parts_p132 h
      · replace h := Eq.mp (if_pos hc) h
        refine v_iinc (ls' := [(5, .int _), (0, .ref _), (3, .int _), (4, .int _)]) 5 3 dX12_parts_126 rfl (congrArg (HAdd.hAdd _) (by decide : Int32.ofInt (1) = (1 : Int32))) (Nat.le_of_ble_eq_true rfl) rfl ?_
        refine v_goto 93 dX12_parts_129 (by decide) ?_
        refine v_sub [1, 2, 3, 0] rfl ?_
        exact hK93 _ _ h
set_option maxHeartbeats 4000000 in
set_option maxRecDepth 100000 in
theorem v_X12_parts_p93 {G : Gl} {F : Fr} {sh : Shp} {v0 : Nat} {v3 : Int32} {v4 : Int32} {v5 : Int32} {Q : Int32 → Mem → Prop} {m : Mem} (h : X12_parts_p93 sh v0 v3 v4 Q v5 m) : V G F M_X12_parts sh 0 0 (Zi G F sh Q) 93 [(0, .ref (G.1 + v0)), (3, .int v3), (4, .int v4), (5, .int v5)] [] m := by
  obtain ⟨n, h⟩ := h
  induction n generalizing v5 m with
  | zero => exact h.elim
  | succ n ih => exact v_X12_parts_p93b (fun _ _ h => ih h) h
set_option maxHeartbeats 4000000 in
set_option maxRecDepth 100000 in
theorem v_X12_parts_p58b {G : Gl} {F : Fr} {sh : Shp} {v0 : Nat} {v2 : Int32} {v3 : Int32} {v4 : Int32} {v5 : Int32} {Q : Int32 → Mem → Prop} {K58 : Int32 → Mem → Prop} {m : Mem} (hK58 : ∀ (x5 : Int32) (m : Mem), K58 x5 m → V G F M_X12_parts sh 0 0 (Zi G F sh Q) 58 [(0, .ref (G.1 + v0)), (2, .int v2), (3, .int v3), (4, .int v4), (5, .int x5)] [] m) (h : X12_parts_p58b sh v0 v2 v3 v4 Q K58 v5 m) : V G F M_X12_parts sh 0 0 (Zi G F sh Q) 58 [(0, .ref (G.1 + v0)), (2, .int v2), (3, .int v3), (4, .int v4), (5, .int v5)] [] m := by
  unfold X12_parts_p58b at h
  refine v_iload 5 4 dX12_parts_58 rfl ?_
  refine v_iload 4 3 dX12_parts_60 rfl ?_
  refine v_icmp_ge 85 dX12_parts_62 (by decide) (fun hc => ?_) (fun hc => ?_)
  · replace h := Eq.mp (if_pos hc) h
    refine v_aload_n 0 0 dX12_parts_85 rfl rfl ?_
    refine v_iload_n 2 1 dX12_parts_86 rfl rfl ?_
    obtain ⟨o14, h⟩ := h
    refine v_cVv [.int _] mv_X12_laysWay ml_RX12_521 ⟨_, _, rfl⟩ o14 rfl rfl (Nat.le_of_ble_eq_true rfl) (Nat.le_of_ble_eq_true rfl) (Nat.le_of_ble_eq_true rfl) (Nat.zero_le _) (Nat.zero_le _) dX12_parts_87 (c_X12_laysWay h) (fun m13 h => ?_)
    refine v_iconst (0 : Int32) dX12_parts_90 (by decide) ?_
    refine v_istore (ls' := [(5, .int _), (0, .ref _), (2, .int _), (3, .int _), (4, .int _)]) 5 dX12_parts_91 (Nat.le_of_ble_eq_true rfl) rfl ?_
    refine v_sub [1, 3, 4, 0] rfl ?_
    exact v_X12_parts_p93 h
  · replace h := Eq.mp (if_neg hc) h
    refine v_aload_n 0 0 dX12_parts_65 rfl rfl ?_
    obtain ⟨o15, h⟩ := h
    obtain ⟨b16, e17, h⟩ := h
    refine v_gR 12 72 dX12_parts_66 fg_RX12_170 o15 e17 ?_
    refine v_iload 5 4 dX12_parts_69 rfl ?_
    refine v_aload_n 0 0 dX12_parts_71 rfl rfl ?_
    obtain ⟨b18, e19, h⟩ := h
    refine v_gR 12 63 dX12_parts_72 fg_RX12_146 o15 e19 ?_
    refine v_iload 5 4 dX12_parts_75 rfl ?_
    obtain ⟨i20, h⟩ := h
    refine v_iald dX12_parts_77 i20 ?_
    obtain ⟨i21, h⟩ := h
    refine v_iast dX12_parts_78 i21 ?_
    replace h := bnd_e h
    refine v_iinc (ls' := [(5, .int _), (0, .ref _), (2, .int _), (3, .int _), (4, .int _)]) 5 4 dX12_parts_79 rfl (congrArg (HAdd.hAdd _) (by decide : Int32.ofInt (1) = (1 : Int32))) (Nat.le_of_ble_eq_true rfl) rfl ?_
    refine v_goto 58 dX12_parts_82 (by decide) ?_
    refine v_sub [1, 2, 3, 4, 0] rfl ?_
    exact hK58 _ _ h
set_option maxHeartbeats 4000000 in
set_option maxRecDepth 100000 in
theorem v_X12_parts_p58 {G : Gl} {F : Fr} {sh : Shp} {v0 : Nat} {v2 : Int32} {v3 : Int32} {v4 : Int32} {v5 : Int32} {Q : Int32 → Mem → Prop} {m : Mem} (h : X12_parts_p58 sh v0 v2 v3 v4 Q v5 m) : V G F M_X12_parts sh 0 0 (Zi G F sh Q) 58 [(0, .ref (G.1 + v0)), (2, .int v2), (3, .int v3), (4, .int v4), (5, .int v5)] [] m := by
  obtain ⟨n, h⟩ := h
  induction n generalizing v5 m with
  | zero => exact h.elim
  | succ n ih => exact v_X12_parts_p58b (fun _ _ h => ih h) h
set_option maxHeartbeats 4000000 in
set_option maxRecDepth 100000 in
theorem c_X12_parts {l : Launch} {G : Gl} {sh : Shp} {v0 : Nat} {v1 : Int32} {v2 : Int32} {v3 : Int32} {Q : Int32 → Mem → Prop} {m : Mem} (h : wp_X12_parts sh v0 v1 v2 v3 Q m) : Cni l G yX12_parts cX12_parts 7 (Option.some FieldType.int) 9 243 sh [.ref (G.1 + v0), .int v1, .int v2, .int v3] m Q := by
  refine con_i (ls := [(0, .ref (G.1 + v0)), (1, .int v1), (2, .int v2), (3, .int v3)]) (by decide +kernel) rfl (Nat.le_of_ble_eq_true rfl) (fun F => ?_)
  show V G F M_X12_parts sh 0 0 (Zi G F sh Q) 0 [(0, .ref (G.1 + v0)), (1, .int v1), (2, .int v2), (3, .int v3)] [] m
  unfold wp_X12_parts at h
  refine v_aload_n 0 0 dX12_parts_0 rfl rfl ?_
  refine v_iload_n 1 1 dX12_parts_1 rfl rfl ?_
  refine v_i2l dX12_parts_2 ?_
  obtain ⟨o3, h⟩ := h
  refine v_cVi [.long _] mv_X12_isCaller ml_RX12_557 ⟨_, _, rfl⟩ o3 rfl rfl (Nat.le_of_ble_eq_true rfl) (Nat.le_of_ble_eq_true rfl) (Nat.le_of_ble_eq_true rfl) (Nat.zero_le _) (Nat.zero_le _) dX12_parts_3 (c_X12_isCaller h) (fun r1 m2 h => ?_)
  refine v_if_eq 42 dX12_parts_6 (by decide) (fun hc => ?_) (fun hc => ?_)
  · replace h := Eq.mp (if_pos hc) h
    refine v_iconst (-1 : Int32) dX12_parts_42 (by decide) ?_
    exact v_iret dX12_parts_43 rfl rfl h
  · replace h := Eq.mp (if_neg hc) h
    refine v_aload_n 0 0 dX12_parts_9 rfl rfl ?_
    refine v_iload_n 2 2 dX12_parts_10 rfl rfl ?_
    refine v_i2l dX12_parts_11 ?_
    refine v_cVi [.long _] mv_X12_isCaller ml_RX12_557 ⟨_, _, rfl⟩ o3 rfl rfl (Nat.le_of_ble_eq_true rfl) (Nat.le_of_ble_eq_true rfl) (Nat.le_of_ble_eq_true rfl) (Nat.zero_le _) (Nat.zero_le _) dX12_parts_12 (c_X12_isCaller h) (fun r4 m5 h => ?_)
    refine v_if_eq 42 dX12_parts_15 (by decide) (fun hc => ?_) (fun hc => ?_)
    · replace h := Eq.mp (if_pos hc) h
      refine v_iconst (-1 : Int32) dX12_parts_42 (by decide) ?_
      exact v_iret dX12_parts_43 rfl rfl h
    · replace h := Eq.mp (if_neg hc) h
      refine v_iload_n 1 1 dX12_parts_18 rfl rfl ?_
      refine v_iload_n 2 2 dX12_parts_19 rfl rfl ?_
      refine v_icmp_eq 42 dX12_parts_20 (by decide) (fun hc => ?_) (fun hc => ?_)
      · replace h := Eq.mp (if_pos hc) h
        refine v_iconst (-1 : Int32) dX12_parts_42 (by decide) ?_
        exact v_iret dX12_parts_43 rfl rfl h
      · replace h := Eq.mp (if_neg hc) h
        refine v_iload_n 3 3 dX12_parts_23 rfl rfl ?_
        refine v_i2l dX12_parts_24 ?_
        refine v_lconst (0 : Int64) dX12_parts_25 (by decide) ?_
        refine v_ldc2 (2 : Int64) dX12_parts_26 cw_RX12_552 ?_
        refine v_cSi [.long _, .long _, .long _] mv_X12_isIn ml_RX12_328 rfl rfl (Nat.le_of_ble_eq_true rfl) (Nat.le_of_ble_eq_true rfl) (Nat.le_of_ble_eq_true rfl) (Nat.zero_le _) (Nat.zero_le _) dX12_parts_29 (c_X12_isIn h) (fun r6 m7 h => ?_)
        refine v_if_eq 42 dX12_parts_32 (by decide) (fun hc => ?_) (fun hc => ?_)
        · replace h := Eq.mp (if_pos hc) h
          refine v_iconst (-1 : Int32) dX12_parts_42 (by decide) ?_
          exact v_iret dX12_parts_43 rfl rfl h
        · replace h := Eq.mp (if_neg hc) h
          refine v_aload_n 0 0 dX12_parts_35 rfl rfl ?_
          refine v_cVi [] mv_X12_hasWay ml_RX12_509 ⟨_, _, rfl⟩ o3 rfl rfl (Nat.le_of_ble_eq_true rfl) (Nat.le_of_ble_eq_true rfl) (Nat.le_of_ble_eq_true rfl) (Nat.zero_le _) (Nat.zero_le _) dX12_parts_36 (c_X12_hasWay h) (fun r8 m9 h => ?_)
          refine v_if_ne 44 dX12_parts_39 (by decide) (fun hc => ?_) (fun hc => ?_)
          · replace h := Eq.mp (if_neg hc) h
            refine v_aload_n 0 0 dX12_parts_44 rfl rfl ?_
            refine v_iload_n 1 1 dX12_parts_45 rfl rfl ?_
            refine v_cVv [.int _] mv_X12_laysWay ml_RX12_521 ⟨_, _, rfl⟩ o3 rfl rfl (Nat.le_of_ble_eq_true rfl) (Nat.le_of_ble_eq_true rfl) (Nat.le_of_ble_eq_true rfl) (Nat.zero_le _) (Nat.zero_le _) dX12_parts_46 (c_X12_laysWay h) (fun m11 h => ?_)
            refine v_aload_n 0 0 dX12_parts_49 rfl rfl ?_
            refine v_gI 12 64 dX12_parts_50 fg_RX12_497 o3 ?_
            refine v_istore (ls' := [(4, .int _), (0, .ref _), (1, .int _), (2, .int _), (3, .int _)]) 4 dX12_parts_53 (Nat.le_of_ble_eq_true rfl) rfl ?_
            refine v_iconst (0 : Int32) dX12_parts_55 (by decide) ?_
            refine v_istore (ls' := [(5, .int _), (4, .int _), (0, .ref _), (1, .int _), (2, .int _), (3, .int _)]) 5 dX12_parts_56 (Nat.le_of_ble_eq_true rfl) rfl ?_
            refine v_sub [2, 4, 5, 1, 0] rfl ?_
            exact v_X12_parts_p58 h
          · replace h := Eq.mp (if_pos hc) h
            refine v_iconst (-1 : Int32) dX12_parts_42 (by decide) ?_
            exact v_iret dX12_parts_43 rfl rfl h
/-! CalledRiverModel.plainTold -/
theorem dX12_plainTold_0 : decode cX12_plainTold 0 = .ok (.aload_n 0, 1) := by decide +kernel
theorem dX12_plainTold_1 : decode cX12_plainTold 1 = .ok (.aload_n 0, 1) := by decide +kernel
theorem dX12_plainTold_2 : decode cX12_plainTold 2 = .ok (.getfield 20, 3) := by decide +kernel
theorem dX12_plainTold_5 : decode cX12_plainTold 5 = .ok (.invokevirtual 350, 3) := by decide +kernel
theorem dX12_plainTold_8 : decode cX12_plainTold 8 = .ok (.aload_n 0, 1) := by decide +kernel
theorem dX12_plainTold_9 : decode cX12_plainTold 9 = .ok (.getfield 111, 3) := by decide +kernel
theorem dX12_plainTold_12 : decode cX12_plainTold 12 = .ok (.iconst 0, 1) := by decide +kernel
theorem dX12_plainTold_13 : decode cX12_plainTold 13 = .ok (.aload_n 0, 1) := by decide +kernel
theorem dX12_plainTold_14 : decode cX12_plainTold 14 = .ok (.iconst 2, 1) := by decide +kernel
theorem dX12_plainTold_15 : decode cX12_plainTold 15 = .ok (.bipush 6, 2) := by decide +kernel
theorem dX12_plainTold_17 : decode cX12_plainTold 17 = .ok (.invokevirtual 354, 3) := by decide +kernel
theorem dX12_plainTold_20 : decode cX12_plainTold 20 = .ok (.iastore, 1) := by decide +kernel
theorem dX12_plainTold_21 : decode cX12_plainTold 21 = .ok (.aload_n 0, 1) := by decide +kernel
theorem dX12_plainTold_22 : decode cX12_plainTold 22 = .ok (.aload_n 0, 1) := by decide +kernel
theorem dX12_plainTold_23 : decode cX12_plainTold 23 = .ok (.getfield 24, 3) := by decide +kernel
theorem dX12_plainTold_26 : decode cX12_plainTold 26 = .ok (.invokevirtual 350, 3) := by decide +kernel
theorem dX12_plainTold_29 : decode cX12_plainTold 29 = .ok (.aload_n 0, 1) := by decide +kernel
theorem dX12_plainTold_30 : decode cX12_plainTold 30 = .ok (.getfield 111, 3) := by decide +kernel
theorem dX12_plainTold_33 : decode cX12_plainTold 33 = .ok (.iconst 1, 1) := by decide +kernel
theorem dX12_plainTold_34 : decode cX12_plainTold 34 = .ok (.aload_n 0, 1) := by decide +kernel
theorem dX12_plainTold_35 : decode cX12_plainTold 35 = .ok (.iconst 2, 1) := by decide +kernel
theorem dX12_plainTold_36 : decode cX12_plainTold 36 = .ok (.bipush 6, 2) := by decide +kernel
theorem dX12_plainTold_38 : decode cX12_plainTold 38 = .ok (.invokevirtual 354, 3) := by decide +kernel
theorem dX12_plainTold_41 : decode cX12_plainTold 41 = .ok (.iastore, 1) := by decide +kernel
theorem dX12_plainTold_42 : decode cX12_plainTold 42 = .ok (.aload_n 0, 1) := by decide +kernel
theorem dX12_plainTold_43 : decode cX12_plainTold 43 = .ok (.bipush 59, 2) := by decide +kernel
theorem dX12_plainTold_45 : decode cX12_plainTold 45 = .ok (.invokevirtual 358, 3) := by decide +kernel
theorem dX12_plainTold_48 : decode cX12_plainTold 48 = .ok (.return_, 1) := by decide +kernel
def wp_X12_plainTold (sh : Shp) (v0 : Nat) (Q : Mem → Prop) (m : Mem) : Prop :=
  Ob sh v0 12 ∧ ∃ b2 : Nat, m.2.2 v0 11 = some b2 ∧ (wp_X12_asks sh v0 b2 (fun m5 => ∃ b6 : Nat, m5.2.2 v0 42 = some b6 ∧ (wp_X12_number sh v0 (2 : Int32) (6 : Int32) (fun r8 m9 => Ix sh b6 100 (0 : Int32) ∧ bnd (sI m9 b6 (0 : Int32).toNatClampNeg r8) (fun m11 => ∃ b12 : Nat, m11.2.2 v0 12 = some b12 ∧ (wp_X12_asks sh v0 b12 (fun m15 => ∃ b16 : Nat, m15.2.2 v0 42 = some b16 ∧ (wp_X12_number sh v0 (2 : Int32) (6 : Int32) (fun r18 m19 => Ix sh b16 100 (1 : Int32) ∧ bnd (sI m19 b16 (1 : Int32).toNatClampNeg r18) (fun m21 => wp_X12_asksSign sh v0 (59 : Int32) (fun m23 => Q m23) m21)) m15)) m11))) m5)) m)
abbrev M_X12_plainTold : Mi := (cX12_plainTold, 1, RX12, (none : Option FieldType), "plainTold", 5, 145, 0, 0)
set_option maxHeartbeats 4000000 in
set_option maxRecDepth 100000 in
theorem c_X12_plainTold {l : Launch} {G : Gl} {sh : Shp} {v0 : Nat} {Q : Mem → Prop} {m : Mem} (h : wp_X12_plainTold sh v0 Q m) : Cnv l G yX12_plainTold cX12_plainTold 1 (none : Option FieldType) 5 145 sh [.ref (G.1 + v0)] m Q := by
  refine con_v (ls := [(0, .ref (G.1 + v0))]) (by decide +kernel) rfl (Nat.le_of_ble_eq_true rfl) (fun F => ?_)
  show V G F M_X12_plainTold sh 0 0 (Zv G F sh Q) 0 [(0, .ref (G.1 + v0))] [] m
  unfold wp_X12_plainTold at h
  refine v_aload_n 0 0 dX12_plainTold_0 rfl rfl ?_
  refine v_aload_n 0 0 dX12_plainTold_1 rfl rfl ?_
  obtain ⟨o1, h⟩ := h
  obtain ⟨b2, e3, h⟩ := h
  refine v_gR 12 11 dX12_plainTold_2 fg_RX12_20 o1 e3 ?_
  refine v_cVv [.ref _] mv_X12_asks ml_RX12_350 ⟨_, _, rfl⟩ o1 rfl rfl (Nat.le_of_ble_eq_true rfl) (Nat.le_of_ble_eq_true rfl) (Nat.le_of_ble_eq_true rfl) (Nat.zero_le _) (Nat.zero_le _) dX12_plainTold_5 (c_X12_asks h) (fun m5 h => ?_)
  refine v_aload_n 0 0 dX12_plainTold_8 rfl rfl ?_
  obtain ⟨b6, e7, h⟩ := h
  refine v_gR 12 42 dX12_plainTold_9 fg_RX12_111 o1 e7 ?_
  refine v_iconst (0 : Int32) dX12_plainTold_12 (by decide) ?_
  refine v_aload_n 0 0 dX12_plainTold_13 rfl rfl ?_
  refine v_iconst (2 : Int32) dX12_plainTold_14 (by decide) ?_
  refine v_bipush (6 : Int32) dX12_plainTold_15 (by decide) ?_
  refine v_cVi [.int _, .int _] mv_X12_number ml_RX12_354 ⟨_, _, rfl⟩ o1 rfl rfl (Nat.le_of_ble_eq_true rfl) (Nat.le_of_ble_eq_true rfl) (Nat.le_of_ble_eq_true rfl) (Nat.zero_le _) (Nat.zero_le _) dX12_plainTold_17 (c_X12_number h) (fun r8 m9 h => ?_)
  obtain ⟨i10, h⟩ := h
  refine v_iast dX12_plainTold_20 i10 ?_
  replace h := bnd_e h
  refine v_aload_n 0 0 dX12_plainTold_21 rfl rfl ?_
  refine v_aload_n 0 0 dX12_plainTold_22 rfl rfl ?_
  obtain ⟨b12, e13, h⟩ := h
  refine v_gR 12 12 dX12_plainTold_23 fg_RX12_24 o1 e13 ?_
  refine v_cVv [.ref _] mv_X12_asks ml_RX12_350 ⟨_, _, rfl⟩ o1 rfl rfl (Nat.le_of_ble_eq_true rfl) (Nat.le_of_ble_eq_true rfl) (Nat.le_of_ble_eq_true rfl) (Nat.zero_le _) (Nat.zero_le _) dX12_plainTold_26 (c_X12_asks h) (fun m15 h => ?_)
  refine v_aload_n 0 0 dX12_plainTold_29 rfl rfl ?_
  obtain ⟨b16, e17, h⟩ := h
  refine v_gR 12 42 dX12_plainTold_30 fg_RX12_111 o1 e17 ?_
  refine v_iconst (1 : Int32) dX12_plainTold_33 (by decide) ?_
  refine v_aload_n 0 0 dX12_plainTold_34 rfl rfl ?_
  refine v_iconst (2 : Int32) dX12_plainTold_35 (by decide) ?_
  refine v_bipush (6 : Int32) dX12_plainTold_36 (by decide) ?_
  refine v_cVi [.int _, .int _] mv_X12_number ml_RX12_354 ⟨_, _, rfl⟩ o1 rfl rfl (Nat.le_of_ble_eq_true rfl) (Nat.le_of_ble_eq_true rfl) (Nat.le_of_ble_eq_true rfl) (Nat.zero_le _) (Nat.zero_le _) dX12_plainTold_38 (c_X12_number h) (fun r18 m19 h => ?_)
  obtain ⟨i20, h⟩ := h
  refine v_iast dX12_plainTold_41 i20 ?_
  replace h := bnd_e h
  refine v_aload_n 0 0 dX12_plainTold_42 rfl rfl ?_
  refine v_bipush (59 : Int32) dX12_plainTold_43 (by decide) ?_
  refine v_cVv [.int _] mv_X12_asksSign ml_RX12_358 ⟨_, _, rfl⟩ o1 rfl rfl (Nat.le_of_ble_eq_true rfl) (Nat.le_of_ble_eq_true rfl) (Nat.le_of_ble_eq_true rfl) (Nat.zero_le _) (Nat.zero_le _) dX12_plainTold_45 (c_X12_asksSign h) (fun m23 h => ?_)
  exact v_vret dX12_plainTold_48 rfl h
/-! CalledRiverModel.stands -/
theorem dX12_stands_0 : decode cX12_stands 0 = .ok (.aload_n 0, 1) := by decide +kernel
theorem dX12_stands_1 : decode cX12_stands 1 = .ok (.iconst 1, 1) := by decide +kernel
theorem dX12_stands_2 : decode cX12_stands 2 = .ok (.putfield 423, 3) := by decide +kernel
theorem dX12_stands_5 : decode cX12_stands 5 = .ok (.aload_n 0, 1) := by decide +kernel
theorem dX12_stands_6 : decode cX12_stands 6 = .ok (.aload_n 0, 1) := by decide +kernel
theorem dX12_stands_7 : decode cX12_stands 7 = .ok (.getfield 399, 3) := by decide +kernel
theorem dX12_stands_10 : decode cX12_stands 10 = .ok (.putfield 427, 3) := by decide +kernel
theorem dX12_stands_13 : decode cX12_stands 13 = .ok (.iconst 0, 1) := by decide +kernel
theorem dX12_stands_14 : decode cX12_stands 14 = .ok (.istore_n 1, 1) := by decide +kernel
theorem dX12_stands_15 : decode cX12_stands 15 = .ok (.iload_n 1, 1) := by decide +kernel
theorem dX12_stands_16 : decode cX12_stands 16 = .ok (.iconst 2, 1) := by decide +kernel
theorem dX12_stands_17 : decode cX12_stands 17 = .ok (.if_icmp .ge 65, 3) := by decide +kernel
theorem dX12_stands_20 : decode cX12_stands 20 = .ok (.aload_n 0, 1) := by decide +kernel
theorem dX12_stands_21 : decode cX12_stands 21 = .ok (.getfield 111, 3) := by decide +kernel
theorem dX12_stands_24 : decode cX12_stands 24 = .ok (.iconst 2, 1) := by decide +kernel
theorem dX12_stands_25 : decode cX12_stands 25 = .ok (.iload_n 1, 1) := by decide +kernel
theorem dX12_stands_26 : decode cX12_stands 26 = .ok (.iadd, 1) := by decide +kernel
theorem dX12_stands_27 : decode cX12_stands 27 = .ok (.aload_n 0, 1) := by decide +kernel
theorem dX12_stands_28 : decode cX12_stands 28 = .ok (.getfield 111, 3) := by decide +kernel
theorem dX12_stands_31 : decode cX12_stands 31 = .ok (.iload_n 1, 1) := by decide +kernel
theorem dX12_stands_32 : decode cX12_stands 32 = .ok (.iaload, 1) := by decide +kernel
theorem dX12_stands_33 : decode cX12_stands 33 = .ok (.iastore, 1) := by decide +kernel
theorem dX12_stands_34 : decode cX12_stands 34 = .ok (.aload_n 0, 1) := by decide +kernel
theorem dX12_stands_35 : decode cX12_stands 35 = .ok (.getfield 114, 3) := by decide +kernel
theorem dX12_stands_38 : decode cX12_stands 38 = .ok (.iconst 2, 1) := by decide +kernel
theorem dX12_stands_39 : decode cX12_stands 39 = .ok (.iload_n 1, 1) := by decide +kernel
theorem dX12_stands_40 : decode cX12_stands 40 = .ok (.iadd, 1) := by decide +kernel
theorem dX12_stands_41 : decode cX12_stands 41 = .ok (.aload_n 0, 1) := by decide +kernel
theorem dX12_stands_42 : decode cX12_stands 42 = .ok (.getfield 114, 3) := by decide +kernel
theorem dX12_stands_45 : decode cX12_stands 45 = .ok (.iload_n 1, 1) := by decide +kernel
theorem dX12_stands_46 : decode cX12_stands 46 = .ok (.iaload, 1) := by decide +kernel
theorem dX12_stands_47 : decode cX12_stands 47 = .ok (.iastore, 1) := by decide +kernel
theorem dX12_stands_48 : decode cX12_stands 48 = .ok (.aload_n 0, 1) := by decide +kernel
theorem dX12_stands_49 : decode cX12_stands 49 = .ok (.getfield 134, 3) := by decide +kernel
theorem dX12_stands_52 : decode cX12_stands 52 = .ok (.iconst 2, 1) := by decide +kernel
theorem dX12_stands_53 : decode cX12_stands 53 = .ok (.iload_n 1, 1) := by decide +kernel
theorem dX12_stands_54 : decode cX12_stands 54 = .ok (.iadd, 1) := by decide +kernel
theorem dX12_stands_55 : decode cX12_stands 55 = .ok (.aload_n 0, 1) := by decide +kernel
theorem dX12_stands_56 : decode cX12_stands 56 = .ok (.getfield 134, 3) := by decide +kernel
theorem dX12_stands_59 : decode cX12_stands 59 = .ok (.iload_n 1, 1) := by decide +kernel
theorem dX12_stands_60 : decode cX12_stands 60 = .ok (.iaload, 1) := by decide +kernel
theorem dX12_stands_61 : decode cX12_stands 61 = .ok (.iastore, 1) := by decide +kernel
theorem dX12_stands_62 : decode cX12_stands 62 = .ok (.aload_n 0, 1) := by decide +kernel
theorem dX12_stands_63 : decode cX12_stands 63 = .ok (.getfield 137, 3) := by decide +kernel
theorem dX12_stands_66 : decode cX12_stands 66 = .ok (.iconst 2, 1) := by decide +kernel
theorem dX12_stands_67 : decode cX12_stands 67 = .ok (.iload_n 1, 1) := by decide +kernel
theorem dX12_stands_68 : decode cX12_stands 68 = .ok (.iadd, 1) := by decide +kernel
theorem dX12_stands_69 : decode cX12_stands 69 = .ok (.aload_n 0, 1) := by decide +kernel
theorem dX12_stands_70 : decode cX12_stands 70 = .ok (.getfield 137, 3) := by decide +kernel
theorem dX12_stands_73 : decode cX12_stands 73 = .ok (.iload_n 1, 1) := by decide +kernel
theorem dX12_stands_74 : decode cX12_stands 74 = .ok (.iaload, 1) := by decide +kernel
theorem dX12_stands_75 : decode cX12_stands 75 = .ok (.iastore, 1) := by decide +kernel
theorem dX12_stands_76 : decode cX12_stands 76 = .ok (.iinc 1 1, 3) := by decide +kernel
theorem dX12_stands_79 : decode cX12_stands 79 = .ok (.goto (-64), 3) := by decide +kernel
theorem dX12_stands_82 : decode cX12_stands 82 = .ok (.iconst 0, 1) := by decide +kernel
theorem dX12_stands_83 : decode cX12_stands 83 = .ok (.istore_n 1, 1) := by decide +kernel
theorem dX12_stands_84 : decode cX12_stands 84 = .ok (.iload_n 1, 1) := by decide +kernel
theorem dX12_stands_85 : decode cX12_stands 85 = .ok (.bipush 16, 2) := by decide +kernel
theorem dX12_stands_87 : decode cX12_stands 87 = .ok (.if_icmp .ge 24, 3) := by decide +kernel
theorem dX12_stands_90 : decode cX12_stands 90 = .ok (.aload_n 0, 1) := by decide +kernel
theorem dX12_stands_91 : decode cX12_stands 91 = .ok (.getfield 117, 3) := by decide +kernel
theorem dX12_stands_94 : decode cX12_stands 94 = .ok (.bipush 16, 2) := by decide +kernel
theorem dX12_stands_96 : decode cX12_stands 96 = .ok (.iload_n 1, 1) := by decide +kernel
theorem dX12_stands_97 : decode cX12_stands 97 = .ok (.iadd, 1) := by decide +kernel
theorem dX12_stands_98 : decode cX12_stands 98 = .ok (.aload_n 0, 1) := by decide +kernel
theorem dX12_stands_99 : decode cX12_stands 99 = .ok (.getfield 117, 3) := by decide +kernel
theorem dX12_stands_102 : decode cX12_stands 102 = .ok (.iload_n 1, 1) := by decide +kernel
theorem dX12_stands_103 : decode cX12_stands 103 = .ok (.laload, 1) := by decide +kernel
theorem dX12_stands_104 : decode cX12_stands 104 = .ok (.lastore, 1) := by decide +kernel
theorem dX12_stands_105 : decode cX12_stands 105 = .ok (.iinc 1 1, 3) := by decide +kernel
theorem dX12_stands_108 : decode cX12_stands 108 = .ok (.goto (-24), 3) := by decide +kernel
theorem dX12_stands_111 : decode cX12_stands 111 = .ok (.iconst 0, 1) := by decide +kernel
theorem dX12_stands_112 : decode cX12_stands 112 = .ok (.istore_n 1, 1) := by decide +kernel
theorem dX12_stands_113 : decode cX12_stands 113 = .ok (.iload_n 1, 1) := by decide +kernel
theorem dX12_stands_114 : decode cX12_stands 114 = .ok (.bipush 18, 2) := by decide +kernel
theorem dX12_stands_116 : decode cX12_stands 116 = .ok (.if_icmp .ge 24, 3) := by decide +kernel
theorem dX12_stands_119 : decode cX12_stands 119 = .ok (.aload_n 0, 1) := by decide +kernel
theorem dX12_stands_120 : decode cX12_stands 120 = .ok (.getfield 121, 3) := by decide +kernel
theorem dX12_stands_123 : decode cX12_stands 123 = .ok (.bipush 18, 2) := by decide +kernel
theorem dX12_stands_125 : decode cX12_stands 125 = .ok (.iload_n 1, 1) := by decide +kernel
theorem dX12_stands_126 : decode cX12_stands 126 = .ok (.iadd, 1) := by decide +kernel
theorem dX12_stands_127 : decode cX12_stands 127 = .ok (.aload_n 0, 1) := by decide +kernel
theorem dX12_stands_128 : decode cX12_stands 128 = .ok (.getfield 121, 3) := by decide +kernel
theorem dX12_stands_131 : decode cX12_stands 131 = .ok (.iload_n 1, 1) := by decide +kernel
theorem dX12_stands_132 : decode cX12_stands 132 = .ok (.iaload, 1) := by decide +kernel
theorem dX12_stands_133 : decode cX12_stands 133 = .ok (.iastore, 1) := by decide +kernel
theorem dX12_stands_134 : decode cX12_stands 134 = .ok (.iinc 1 1, 3) := by decide +kernel
theorem dX12_stands_137 : decode cX12_stands 137 = .ok (.goto (-24), 3) := by decide +kernel
theorem dX12_stands_140 : decode cX12_stands 140 = .ok (.iconst 0, 1) := by decide +kernel
theorem dX12_stands_141 : decode cX12_stands 141 = .ok (.istore_n 1, 1) := by decide +kernel
theorem dX12_stands_142 : decode cX12_stands 142 = .ok (.iload_n 1, 1) := by decide +kernel
theorem dX12_stands_143 : decode cX12_stands 143 = .ok (.bipush 10, 2) := by decide +kernel
theorem dX12_stands_145 : decode cX12_stands 145 = .ok (.if_icmp .ge 24, 3) := by decide +kernel
theorem dX12_stands_148 : decode cX12_stands 148 = .ok (.aload_n 0, 1) := by decide +kernel
theorem dX12_stands_149 : decode cX12_stands 149 = .ok (.getfield 124, 3) := by decide +kernel
theorem dX12_stands_152 : decode cX12_stands 152 = .ok (.bipush 10, 2) := by decide +kernel
theorem dX12_stands_154 : decode cX12_stands 154 = .ok (.iload_n 1, 1) := by decide +kernel
theorem dX12_stands_155 : decode cX12_stands 155 = .ok (.iadd, 1) := by decide +kernel
theorem dX12_stands_156 : decode cX12_stands 156 = .ok (.aload_n 0, 1) := by decide +kernel
theorem dX12_stands_157 : decode cX12_stands 157 = .ok (.getfield 124, 3) := by decide +kernel
theorem dX12_stands_160 : decode cX12_stands 160 = .ok (.iload_n 1, 1) := by decide +kernel
theorem dX12_stands_161 : decode cX12_stands 161 = .ok (.iaload, 1) := by decide +kernel
theorem dX12_stands_162 : decode cX12_stands 162 = .ok (.iastore, 1) := by decide +kernel
theorem dX12_stands_163 : decode cX12_stands 163 = .ok (.iinc 1 1, 3) := by decide +kernel
theorem dX12_stands_166 : decode cX12_stands 166 = .ok (.goto (-24), 3) := by decide +kernel
theorem dX12_stands_169 : decode cX12_stands 169 = .ok (.iconst 0, 1) := by decide +kernel
theorem dX12_stands_170 : decode cX12_stands 170 = .ok (.istore_n 1, 1) := by decide +kernel
theorem dX12_stands_171 : decode cX12_stands 171 = .ok (.iload_n 1, 1) := by decide +kernel
theorem dX12_stands_172 : decode cX12_stands 172 = .ok (.aload_n 0, 1) := by decide +kernel
theorem dX12_stands_173 : decode cX12_stands 173 = .ok (.getfield 387, 3) := by decide +kernel
theorem dX12_stands_176 : decode cX12_stands 176 = .ok (.if_icmp .ge 25, 3) := by decide +kernel
theorem dX12_stands_179 : decode cX12_stands 179 = .ok (.aload_n 0, 1) := by decide +kernel
theorem dX12_stands_180 : decode cX12_stands 180 = .ok (.getfield 140, 3) := by decide +kernel
theorem dX12_stands_183 : decode cX12_stands 183 = .ok (.sipush 1600, 3) := by decide +kernel
theorem dX12_stands_186 : decode cX12_stands 186 = .ok (.iload_n 1, 1) := by decide +kernel
theorem dX12_stands_187 : decode cX12_stands 187 = .ok (.iadd, 1) := by decide +kernel
theorem dX12_stands_188 : decode cX12_stands 188 = .ok (.aload_n 0, 1) := by decide +kernel
theorem dX12_stands_189 : decode cX12_stands 189 = .ok (.getfield 140, 3) := by decide +kernel
theorem dX12_stands_192 : decode cX12_stands 192 = .ok (.iload_n 1, 1) := by decide +kernel
theorem dX12_stands_193 : decode cX12_stands 193 = .ok (.iaload, 1) := by decide +kernel
theorem dX12_stands_194 : decode cX12_stands 194 = .ok (.iastore, 1) := by decide +kernel
theorem dX12_stands_195 : decode cX12_stands 195 = .ok (.iinc 1 1, 3) := by decide +kernel
theorem dX12_stands_198 : decode cX12_stands 198 = .ok (.goto (-27), 3) := by decide +kernel
theorem dX12_stands_201 : decode cX12_stands 201 = .ok (.iconst 0, 1) := by decide +kernel
theorem dX12_stands_202 : decode cX12_stands 202 = .ok (.istore_n 1, 1) := by decide +kernel
theorem dX12_stands_203 : decode cX12_stands 203 = .ok (.iload_n 1, 1) := by decide +kernel
theorem dX12_stands_204 : decode cX12_stands 204 = .ok (.sipush 236, 3) := by decide +kernel
theorem dX12_stands_207 : decode cX12_stands 207 = .ok (.if_icmp .ge 16, 3) := by decide +kernel
theorem dX12_stands_210 : decode cX12_stands 210 = .ok (.aload_n 0, 1) := by decide +kernel
theorem dX12_stands_211 : decode cX12_stands 211 = .ok (.getfield 143, 3) := by decide +kernel
theorem dX12_stands_214 : decode cX12_stands 214 = .ok (.iload_n 1, 1) := by decide +kernel
theorem dX12_stands_215 : decode cX12_stands 215 = .ok (.iconst 0, 1) := by decide +kernel
theorem dX12_stands_216 : decode cX12_stands 216 = .ok (.iastore, 1) := by decide +kernel
theorem dX12_stands_217 : decode cX12_stands 217 = .ok (.iinc 1 1, 3) := by decide +kernel
theorem dX12_stands_220 : decode cX12_stands 220 = .ok (.goto (-17), 3) := by decide +kernel
theorem dX12_stands_223 : decode cX12_stands 223 = .ok (.iconst 0, 1) := by decide +kernel
theorem dX12_stands_224 : decode cX12_stands 224 = .ok (.istore_n 1, 1) := by decide +kernel
theorem dX12_stands_225 : decode cX12_stands 225 = .ok (.iload_n 1, 1) := by decide +kernel
theorem dX12_stands_226 : decode cX12_stands 226 = .ok (.bipush 36, 2) := by decide +kernel
theorem dX12_stands_228 : decode cX12_stands 228 = .ok (.if_icmp .ge 49, 3) := by decide +kernel
theorem dX12_stands_231 : decode cX12_stands 231 = .ok (.aload_n 0, 1) := by decide +kernel
theorem dX12_stands_232 : decode cX12_stands 232 = .ok (.getfield 143, 3) := by decide +kernel
theorem dX12_stands_235 : decode cX12_stands 235 = .ok (.iconst 1, 1) := by decide +kernel
theorem dX12_stands_236 : decode cX12_stands 236 = .ok (.iconst 3, 1) := by decide +kernel
theorem dX12_stands_237 : decode cX12_stands 237 = .ok (.iload_n 1, 1) := by decide +kernel
theorem dX12_stands_238 : decode cX12_stands 238 = .ok (.imul, 1) := by decide +kernel
theorem dX12_stands_239 : decode cX12_stands 239 = .ok (.iadd, 1) := by decide +kernel
theorem dX12_stands_240 : decode cX12_stands 240 = .ok (.aload_n 0, 1) := by decide +kernel
theorem dX12_stands_241 : decode cX12_stands 241 = .ok (.getfield 127, 3) := by decide +kernel
theorem dX12_stands_244 : decode cX12_stands 244 = .ok (.iload_n 1, 1) := by decide +kernel
theorem dX12_stands_245 : decode cX12_stands 245 = .ok (.iaload, 1) := by decide +kernel
theorem dX12_stands_246 : decode cX12_stands 246 = .ok (.iastore, 1) := by decide +kernel
theorem dX12_stands_247 : decode cX12_stands 247 = .ok (.aload_n 0, 1) := by decide +kernel
theorem dX12_stands_248 : decode cX12_stands 248 = .ok (.getfield 143, 3) := by decide +kernel
theorem dX12_stands_251 : decode cX12_stands 251 = .ok (.iconst 2, 1) := by decide +kernel
theorem dX12_stands_252 : decode cX12_stands 252 = .ok (.iconst 3, 1) := by decide +kernel
theorem dX12_stands_253 : decode cX12_stands 253 = .ok (.iload_n 1, 1) := by decide +kernel
theorem dX12_stands_254 : decode cX12_stands 254 = .ok (.imul, 1) := by decide +kernel
theorem dX12_stands_255 : decode cX12_stands 255 = .ok (.iadd, 1) := by decide +kernel
theorem dX12_stands_256 : decode cX12_stands 256 = .ok (.aload_n 0, 1) := by decide +kernel
theorem dX12_stands_257 : decode cX12_stands 257 = .ok (.getfield 130, 3) := by decide +kernel
theorem dX12_stands_260 : decode cX12_stands 260 = .ok (.iload_n 1, 1) := by decide +kernel
theorem dX12_stands_261 : decode cX12_stands 261 = .ok (.baload, 1) := by decide +kernel
theorem dX12_stands_262 : decode cX12_stands 262 = .ok (.ifCond .eq 7, 3) := by decide +kernel
theorem dX12_stands_265 : decode cX12_stands 265 = .ok (.iconst 1, 1) := by decide +kernel
theorem dX12_stands_266 : decode cX12_stands 266 = .ok (.goto 4, 3) := by decide +kernel
theorem dX12_stands_269 : decode cX12_stands 269 = .ok (.iconst 0, 1) := by decide +kernel
theorem dX12_stands_270 : decode cX12_stands 270 = .ok (.iastore, 1) := by decide +kernel
theorem dX12_stands_271 : decode cX12_stands 271 = .ok (.iinc 1 1, 3) := by decide +kernel
theorem dX12_stands_274 : decode cX12_stands 274 = .ok (.goto (-49), 3) := by decide +kernel
theorem dX12_stands_277 : decode cX12_stands 277 = .ok (.iconst 0, 1) := by decide +kernel
theorem dX12_stands_278 : decode cX12_stands 278 = .ok (.istore_n 1, 1) := by decide +kernel
theorem dX12_stands_279 : decode cX12_stands 279 = .ok (.iload_n 1, 1) := by decide +kernel
theorem dX12_stands_280 : decode cX12_stands 280 = .ok (.aload_n 0, 1) := by decide +kernel
theorem dX12_stands_281 : decode cX12_stands 281 = .ok (.getfield 114, 3) := by decide +kernel
theorem dX12_stands_284 : decode cX12_stands 284 = .ok (.iconst 0, 1) := by decide +kernel
theorem dX12_stands_285 : decode cX12_stands 285 = .ok (.iaload, 1) := by decide +kernel
theorem dX12_stands_286 : decode cX12_stands 286 = .ok (.if_icmp .ge 28, 3) := by decide +kernel
theorem dX12_stands_289 : decode cX12_stands 289 = .ok (.aload_n 0, 1) := by decide +kernel
theorem dX12_stands_290 : decode cX12_stands 290 = .ok (.getfield 143, 3) := by decide +kernel
theorem dX12_stands_293 : decode cX12_stands 293 = .ok (.bipush 109, 2) := by decide +kernel
theorem dX12_stands_295 : decode cX12_stands 295 = .ok (.iload_n 1, 1) := by decide +kernel
theorem dX12_stands_296 : decode cX12_stands 296 = .ok (.iadd, 1) := by decide +kernel
theorem dX12_stands_297 : decode cX12_stands 297 = .ok (.aload_n 0, 1) := by decide +kernel
theorem dX12_stands_298 : decode cX12_stands 298 = .ok (.getfield 121, 3) := by decide +kernel
theorem dX12_stands_301 : decode cX12_stands 301 = .ok (.iconst 3, 1) := by decide +kernel
theorem dX12_stands_302 : decode cX12_stands 302 = .ok (.iload_n 1, 1) := by decide +kernel
theorem dX12_stands_303 : decode cX12_stands 303 = .ok (.imul, 1) := by decide +kernel
theorem dX12_stands_304 : decode cX12_stands 304 = .ok (.iconst 2, 1) := by decide +kernel
theorem dX12_stands_305 : decode cX12_stands 305 = .ok (.iadd, 1) := by decide +kernel
theorem dX12_stands_306 : decode cX12_stands 306 = .ok (.iaload, 1) := by decide +kernel
theorem dX12_stands_307 : decode cX12_stands 307 = .ok (.iastore, 1) := by decide +kernel
theorem dX12_stands_308 : decode cX12_stands 308 = .ok (.iinc 1 1, 3) := by decide +kernel
theorem dX12_stands_311 : decode cX12_stands 311 = .ok (.goto (-32), 3) := by decide +kernel
theorem dX12_stands_314 : decode cX12_stands 314 = .ok (.aload_n 0, 1) := by decide +kernel
theorem dX12_stands_315 : decode cX12_stands 315 = .ok (.iconst 0, 1) := by decide +kernel
theorem dX12_stands_316 : decode cX12_stands 316 = .ok (.putfield 430, 3) := by decide +kernel
theorem dX12_stands_319 : decode cX12_stands 319 = .ok (.aload_n 0, 1) := by decide +kernel
theorem dX12_stands_320 : decode cX12_stands 320 = .ok (.iconst 0, 1) := by decide +kernel
theorem dX12_stands_321 : decode cX12_stands 321 = .ok (.putfield 433, 3) := by decide +kernel
theorem dX12_stands_324 : decode cX12_stands 324 = .ok (.return_, 1) := by decide +kernel
def X12_stands_p270 (sh : Shp) (v0 : Nat) (v1 : Int32) (s2 : Int32) (s1 : Int32) (s0 : Nat) (Q : Mem → Prop) (K225 : Int32 → Mem → Prop) (m : Mem) : Prop :=
  Ix sh s0 100 s1 ∧ bnd (sI m s0 s1.toNatClampNeg s2) (fun m79 => K225 (v1 + (1 : Int32)) m79)
def X12_stands_p279b (sh : Shp) (v0 : Nat) (Q : Mem → Prop) (K279 : Int32 → Mem → Prop) (v1 : Int32) (m : Mem) : Prop :=
  Ob sh v0 12 ∧ ∃ b66 : Nat, m.2.2 v0 45 = some b66 ∧ (Ix sh b66 100 (0 : Int32) ∧ (if (m.1 b66 (0 : Int32).toNatClampNeg) ≤ v1 then (bnd (sI m v0 78 (0 : Int32)) (fun m69 => bnd (sI m69 v0 74 (0 : Int32)) (fun m70 => Q m70))) else (∃ b71 : Nat, m.2.2 v0 58 = some b71 ∧ (∃ b73 : Nat, m.2.2 v0 47 = some b73 ∧ (Ix sh b73 100 (((3 : Int32) * v1) + (2 : Int32)) ∧ (Ix sh b71 100 ((109 : Int32) + v1) ∧ bnd (sI m b71 ((109 : Int32) + v1).toNatClampNeg (m.1 b73 (((3 : Int32) * v1) + (2 : Int32)).toNatClampNeg)) (fun m77 => K279 (v1 + (1 : Int32)) m77)))))))
def X12_stands_p279n (sh : Shp) (v0 : Nat) (Q : Mem → Prop) : Nat → Int32 → Mem → Prop
  | 0 => fun _ _ => False
  | n + 1 => X12_stands_p279b sh v0 Q (X12_stands_p279n sh v0 Q n)
def X12_stands_p279 (sh : Shp) (v0 : Nat) (Q : Mem → Prop) (v1 : Int32) (m : Mem) : Prop := ∃ n, X12_stands_p279n sh v0 Q n v1 m
def X12_stands_p225b (sh : Shp) (v0 : Nat) (Q : Mem → Prop) (K225 : Int32 → Mem → Prop) (v1 : Int32) (m : Mem) : Prop :=
  if (36 : Int32) ≤ v1 then (X12_stands_p279 sh v0 Q (0 : Int32) m) else (Ob sh v0 12 ∧ ∃ b55 : Nat, m.2.2 v0 58 = some b55 ∧ (∃ b57 : Nat, m.2.2 v0 49 = some b57 ∧ (Ix sh b57 100 v1 ∧ (Ix sh b55 100 ((1 : Int32) + ((3 : Int32) * v1)) ∧ bnd (sI m b55 ((1 : Int32) + ((3 : Int32) * v1)).toNatClampNeg (m.1 b57 v1.toNatClampNeg)) (fun m61 => ∃ b62 : Nat, m61.2.2 v0 50 = some b62 ∧ (Ix sh b62 102 v1 ∧ (if (m61.1 b62 v1.toNatClampNeg) = 0 then (X12_stands_p270 sh v0 v1 (0 : Int32) ((2 : Int32) + ((3 : Int32) * v1)) b55 Q K225 m61) else (X12_stands_p270 sh v0 v1 (1 : Int32) ((2 : Int32) + ((3 : Int32) * v1)) b55 Q K225 m61))))))))
def X12_stands_p225n (sh : Shp) (v0 : Nat) (Q : Mem → Prop) : Nat → Int32 → Mem → Prop
  | 0 => fun _ _ => False
  | n + 1 => X12_stands_p225b sh v0 Q (X12_stands_p225n sh v0 Q n)
def X12_stands_p225 (sh : Shp) (v0 : Nat) (Q : Mem → Prop) (v1 : Int32) (m : Mem) : Prop := ∃ n, X12_stands_p225n sh v0 Q n v1 m
def X12_stands_p203b (sh : Shp) (v0 : Nat) (Q : Mem → Prop) (K203 : Int32 → Mem → Prop) (v1 : Int32) (m : Mem) : Prop :=
  if (236 : Int32) ≤ v1 then (X12_stands_p225 sh v0 Q (0 : Int32) m) else (Ob sh v0 12 ∧ ∃ b50 : Nat, m.2.2 v0 58 = some b50 ∧ (Ix sh b50 100 v1 ∧ bnd (sI m b50 v1.toNatClampNeg (0 : Int32)) (fun m53 => K203 (v1 + (1 : Int32)) m53)))
def X12_stands_p203n (sh : Shp) (v0 : Nat) (Q : Mem → Prop) : Nat → Int32 → Mem → Prop
  | 0 => fun _ _ => False
  | n + 1 => X12_stands_p203b sh v0 Q (X12_stands_p203n sh v0 Q n)
def X12_stands_p203 (sh : Shp) (v0 : Nat) (Q : Mem → Prop) (v1 : Int32) (m : Mem) : Prop := ∃ n, X12_stands_p203n sh v0 Q n v1 m
def X12_stands_p171b (sh : Shp) (v0 : Nat) (Q : Mem → Prop) (K171 : Int32 → Mem → Prop) (v1 : Int32) (m : Mem) : Prop :=
  Ob sh v0 12 ∧ (if (m.1 v0 54) ≤ v1 then (X12_stands_p203 sh v0 Q (0 : Int32) m) else (∃ b44 : Nat, m.2.2 v0 53 = some b44 ∧ (Ix sh b44 100 v1 ∧ (Ix sh b44 100 ((1600 : Int32) + v1) ∧ bnd (sI m b44 ((1600 : Int32) + v1).toNatClampNeg (m.1 b44 v1.toNatClampNeg)) (fun m48 => K171 (v1 + (1 : Int32)) m48)))))
def X12_stands_p171n (sh : Shp) (v0 : Nat) (Q : Mem → Prop) : Nat → Int32 → Mem → Prop
  | 0 => fun _ _ => False
  | n + 1 => X12_stands_p171b sh v0 Q (X12_stands_p171n sh v0 Q n)
def X12_stands_p171 (sh : Shp) (v0 : Nat) (Q : Mem → Prop) (v1 : Int32) (m : Mem) : Prop := ∃ n, X12_stands_p171n sh v0 Q n v1 m
def X12_stands_p142b (sh : Shp) (v0 : Nat) (Q : Mem → Prop) (K142 : Int32 → Mem → Prop) (v1 : Int32) (m : Mem) : Prop :=
  if (10 : Int32) ≤ v1 then (X12_stands_p171 sh v0 Q (0 : Int32) m) else (Ob sh v0 12 ∧ ∃ b38 : Nat, m.2.2 v0 48 = some b38 ∧ (Ix sh b38 100 v1 ∧ (Ix sh b38 100 ((10 : Int32) + v1) ∧ bnd (sI m b38 ((10 : Int32) + v1).toNatClampNeg (m.1 b38 v1.toNatClampNeg)) (fun m42 => K142 (v1 + (1 : Int32)) m42))))
def X12_stands_p142n (sh : Shp) (v0 : Nat) (Q : Mem → Prop) : Nat → Int32 → Mem → Prop
  | 0 => fun _ _ => False
  | n + 1 => X12_stands_p142b sh v0 Q (X12_stands_p142n sh v0 Q n)
def X12_stands_p142 (sh : Shp) (v0 : Nat) (Q : Mem → Prop) (v1 : Int32) (m : Mem) : Prop := ∃ n, X12_stands_p142n sh v0 Q n v1 m
def X12_stands_p113b (sh : Shp) (v0 : Nat) (Q : Mem → Prop) (K113 : Int32 → Mem → Prop) (v1 : Int32) (m : Mem) : Prop :=
  if (18 : Int32) ≤ v1 then (X12_stands_p142 sh v0 Q (0 : Int32) m) else (Ob sh v0 12 ∧ ∃ b32 : Nat, m.2.2 v0 47 = some b32 ∧ (Ix sh b32 100 v1 ∧ (Ix sh b32 100 ((18 : Int32) + v1) ∧ bnd (sI m b32 ((18 : Int32) + v1).toNatClampNeg (m.1 b32 v1.toNatClampNeg)) (fun m36 => K113 (v1 + (1 : Int32)) m36))))
def X12_stands_p113n (sh : Shp) (v0 : Nat) (Q : Mem → Prop) : Nat → Int32 → Mem → Prop
  | 0 => fun _ _ => False
  | n + 1 => X12_stands_p113b sh v0 Q (X12_stands_p113n sh v0 Q n)
def X12_stands_p113 (sh : Shp) (v0 : Nat) (Q : Mem → Prop) (v1 : Int32) (m : Mem) : Prop := ∃ n, X12_stands_p113n sh v0 Q n v1 m
def X12_stands_p84b (sh : Shp) (v0 : Nat) (Q : Mem → Prop) (K84 : Int32 → Mem → Prop) (v1 : Int32) (m : Mem) : Prop :=
  if (16 : Int32) ≤ v1 then (X12_stands_p113 sh v0 Q (0 : Int32) m) else (Ob sh v0 12 ∧ ∃ b26 : Nat, m.2.2 v0 46 = some b26 ∧ (Ix sh b26 103 v1 ∧ (Ix sh b26 103 ((16 : Int32) + v1) ∧ bnd (sL m b26 ((16 : Int32) + v1).toNatClampNeg (m.2.1 b26 v1.toNatClampNeg)) (fun m30 => K84 (v1 + (1 : Int32)) m30))))
def X12_stands_p84n (sh : Shp) (v0 : Nat) (Q : Mem → Prop) : Nat → Int32 → Mem → Prop
  | 0 => fun _ _ => False
  | n + 1 => X12_stands_p84b sh v0 Q (X12_stands_p84n sh v0 Q n)
def X12_stands_p84 (sh : Shp) (v0 : Nat) (Q : Mem → Prop) (v1 : Int32) (m : Mem) : Prop := ∃ n, X12_stands_p84n sh v0 Q n v1 m
def X12_stands_p15b (sh : Shp) (v0 : Nat) (Q : Mem → Prop) (K15 : Int32 → Mem → Prop) (v1 : Int32) (m : Mem) : Prop :=
  if (2 : Int32) ≤ v1 then (X12_stands_p84 sh v0 Q (0 : Int32) m) else (Ob sh v0 12 ∧ ∃ b5 : Nat, m.2.2 v0 42 = some b5 ∧ (Ix sh b5 100 v1 ∧ (Ix sh b5 100 ((2 : Int32) + v1) ∧ bnd (sI m b5 ((2 : Int32) + v1).toNatClampNeg (m.1 b5 v1.toNatClampNeg)) (fun m9 => ∃ b10 : Nat, m9.2.2 v0 45 = some b10 ∧ (Ix sh b10 100 v1 ∧ (Ix sh b10 100 ((2 : Int32) + v1) ∧ bnd (sI m9 b10 ((2 : Int32) + v1).toNatClampNeg (m9.1 b10 v1.toNatClampNeg)) (fun m14 => ∃ b15 : Nat, m14.2.2 v0 51 = some b15 ∧ (Ix sh b15 100 v1 ∧ (Ix sh b15 100 ((2 : Int32) + v1) ∧ bnd (sI m14 b15 ((2 : Int32) + v1).toNatClampNeg (m14.1 b15 v1.toNatClampNeg)) (fun m19 => ∃ b20 : Nat, m19.2.2 v0 52 = some b20 ∧ (Ix sh b20 100 v1 ∧ (Ix sh b20 100 ((2 : Int32) + v1) ∧ bnd (sI m19 b20 ((2 : Int32) + v1).toNatClampNeg (m19.1 b20 v1.toNatClampNeg)) (fun m24 => K15 (v1 + (1 : Int32)) m24)))))))))))))
def X12_stands_p15n (sh : Shp) (v0 : Nat) (Q : Mem → Prop) : Nat → Int32 → Mem → Prop
  | 0 => fun _ _ => False
  | n + 1 => X12_stands_p15b sh v0 Q (X12_stands_p15n sh v0 Q n)
def X12_stands_p15 (sh : Shp) (v0 : Nat) (Q : Mem → Prop) (v1 : Int32) (m : Mem) : Prop := ∃ n, X12_stands_p15n sh v0 Q n v1 m
def wp_X12_stands (sh : Shp) (v0 : Nat) (Q : Mem → Prop) (m : Mem) : Prop :=
  Ob sh v0 12 ∧ bnd (sI m v0 56 (1 : Int32)) (fun m2 => bnd (sI m2 v0 44 (m2.1 v0 43)) (fun m3 => X12_stands_p15 sh v0 Q (0 : Int32) m3))
abbrev M_X12_stands : Mi := (cX12_stands, 2, RX12, (none : Option FieldType), "stands", 1, 60, 0, 0)
set_option maxHeartbeats 4000000 in
set_option maxRecDepth 100000 in
theorem v_X12_stands_p270 {G : Gl} {F : Fr} {sh : Shp} {v0 : Nat} {v1 : Int32} {s0 : Nat} {s1 : Int32} {s2 : Int32} {Q : Mem → Prop} {K225 : Int32 → Mem → Prop} {m : Mem} (hK225 : ∀ (x1 : Int32) (m : Mem), K225 x1 m → V G F M_X12_stands sh 0 0 (Zv G F sh Q) 225 [(0, .ref (G.1 + v0)), (1, .int x1)] [] m) (h : X12_stands_p270 sh v0 v1 s2 s1 s0 Q K225 m) : V G F M_X12_stands sh 0 0 (Zv G F sh Q) 270 [(0, .ref (G.1 + v0)), (1, .int v1)] [.int s2, .int s1, .ref (G.1 + s0)] m := by
  unfold X12_stands_p270 at h
  obtain ⟨i78, h⟩ := h
  refine v_iast dX12_stands_270 i78 ?_
  replace h := bnd_e h
  refine v_iinc (ls' := [(1, .int _), (0, .ref _)]) 1 1 dX12_stands_271 rfl (congrArg (HAdd.hAdd _) (by decide : Int32.ofInt (1) = (1 : Int32))) (Nat.le_of_ble_eq_true rfl) rfl ?_
  refine v_goto 225 dX12_stands_274 (by decide) ?_
  refine v_sub [1, 0] rfl ?_
  exact hK225 _ _ h
set_option maxHeartbeats 4000000 in
set_option maxRecDepth 100000 in
theorem v_X12_stands_p279b {G : Gl} {F : Fr} {sh : Shp} {v0 : Nat} {v1 : Int32} {Q : Mem → Prop} {K279 : Int32 → Mem → Prop} {m : Mem} (hK279 : ∀ (x1 : Int32) (m : Mem), K279 x1 m → V G F M_X12_stands sh 0 0 (Zv G F sh Q) 279 [(0, .ref (G.1 + v0)), (1, .int x1)] [] m) (h : X12_stands_p279b sh v0 Q K279 v1 m) : V G F M_X12_stands sh 0 0 (Zv G F sh Q) 279 [(0, .ref (G.1 + v0)), (1, .int v1)] [] m := by
  unfold X12_stands_p279b at h
  refine v_iload_n 1 1 dX12_stands_279 rfl rfl ?_
  refine v_aload_n 0 0 dX12_stands_280 rfl rfl ?_
  obtain ⟨o65, h⟩ := h
  obtain ⟨b66, e67, h⟩ := h
  refine v_gR 12 45 dX12_stands_281 fg_RX12_114 o65 e67 ?_
  refine v_iconst (0 : Int32) dX12_stands_284 (by decide) ?_
  obtain ⟨i68, h⟩ := h
  refine v_iald dX12_stands_285 i68 ?_
  refine v_icmp_ge 314 dX12_stands_286 (by decide) (fun hc => ?_) (fun hc => ?_)
  · replace h := Eq.mp (if_pos hc) h
    refine v_aload_n 0 0 dX12_stands_314 rfl rfl ?_
    refine v_iconst (0 : Int32) dX12_stands_315 (by decide) ?_
    refine v_pI 12 78 dX12_stands_316 fw_RX12_430 o65 ?_
    replace h := bnd_e h
    refine v_aload_n 0 0 dX12_stands_319 rfl rfl ?_
    refine v_iconst (0 : Int32) dX12_stands_320 (by decide) ?_
    refine v_pI 12 74 dX12_stands_321 fw_RX12_433 o65 ?_
    replace h := bnd_e h
    exact v_vret dX12_stands_324 rfl h
  · replace h := Eq.mp (if_neg hc) h
    refine v_aload_n 0 0 dX12_stands_289 rfl rfl ?_
    obtain ⟨b71, e72, h⟩ := h
    refine v_gR 12 58 dX12_stands_290 fg_RX12_143 o65 e72 ?_
    refine v_bipush (109 : Int32) dX12_stands_293 (by decide) ?_
    refine v_iload_n 1 1 dX12_stands_295 rfl rfl ?_
    refine v_iadd dX12_stands_296 ?_
    refine v_aload_n 0 0 dX12_stands_297 rfl rfl ?_
    obtain ⟨b73, e74, h⟩ := h
    refine v_gR 12 47 dX12_stands_298 fg_RX12_121 o65 e74 ?_
    refine v_iconst (3 : Int32) dX12_stands_301 (by decide) ?_
    refine v_iload_n 1 1 dX12_stands_302 rfl rfl ?_
    refine v_imul dX12_stands_303 ?_
    refine v_iconst (2 : Int32) dX12_stands_304 (by decide) ?_
    refine v_iadd dX12_stands_305 ?_
    obtain ⟨i75, h⟩ := h
    refine v_iald dX12_stands_306 i75 ?_
    obtain ⟨i76, h⟩ := h
    refine v_iast dX12_stands_307 i76 ?_
    replace h := bnd_e h
    refine v_iinc (ls' := [(1, .int _), (0, .ref _)]) 1 1 dX12_stands_308 rfl (congrArg (HAdd.hAdd _) (by decide : Int32.ofInt (1) = (1 : Int32))) (Nat.le_of_ble_eq_true rfl) rfl ?_
    refine v_goto 279 dX12_stands_311 (by decide) ?_
    refine v_sub [1, 0] rfl ?_
    exact hK279 _ _ h
set_option maxHeartbeats 4000000 in
set_option maxRecDepth 100000 in
theorem v_X12_stands_p279 {G : Gl} {F : Fr} {sh : Shp} {v0 : Nat} {v1 : Int32} {Q : Mem → Prop} {m : Mem} (h : X12_stands_p279 sh v0 Q v1 m) : V G F M_X12_stands sh 0 0 (Zv G F sh Q) 279 [(0, .ref (G.1 + v0)), (1, .int v1)] [] m := by
  obtain ⟨n, h⟩ := h
  induction n generalizing v1 m with
  | zero => exact h.elim
  | succ n ih => exact v_X12_stands_p279b (fun _ _ h => ih h) h
set_option maxHeartbeats 4000000 in
set_option maxRecDepth 100000 in
theorem v_X12_stands_p225b {G : Gl} {F : Fr} {sh : Shp} {v0 : Nat} {v1 : Int32} {Q : Mem → Prop} {K225 : Int32 → Mem → Prop} {m : Mem} (hK225 : ∀ (x1 : Int32) (m : Mem), K225 x1 m → V G F M_X12_stands sh 0 0 (Zv G F sh Q) 225 [(0, .ref (G.1 + v0)), (1, .int x1)] [] m) (h : X12_stands_p225b sh v0 Q K225 v1 m) : V G F M_X12_stands sh 0 0 (Zv G F sh Q) 225 [(0, .ref (G.1 + v0)), (1, .int v1)] [] m := by
  unfold X12_stands_p225b at h
  refine v_iload_n 1 1 dX12_stands_225 rfl rfl ?_
  refine v_bipush (36 : Int32) dX12_stands_226 (by decide) ?_
  refine v_icmp_ge 277 dX12_stands_228 (by decide) (fun hc => ?_) (fun hc => ?_)
  · replace h := Eq.mp (if_pos hc) h
    refine v_iconst (0 : Int32) dX12_stands_277 (by decide) ?_
    refine v_istore_n (ls' := [(1, .int _), (0, .ref _)]) 1 dX12_stands_278 rfl (Nat.le_of_ble_eq_true rfl) rfl ?_
    refine v_sub [1, 0] rfl ?_
    exact v_X12_stands_p279 h
  · replace h := Eq.mp (if_neg hc) h
    refine v_aload_n 0 0 dX12_stands_231 rfl rfl ?_
    obtain ⟨o54, h⟩ := h
    obtain ⟨b55, e56, h⟩ := h
    refine v_gR 12 58 dX12_stands_232 fg_RX12_143 o54 e56 ?_
    refine v_iconst (1 : Int32) dX12_stands_235 (by decide) ?_
    refine v_iconst (3 : Int32) dX12_stands_236 (by decide) ?_
    refine v_iload_n 1 1 dX12_stands_237 rfl rfl ?_
    refine v_imul dX12_stands_238 ?_
    refine v_iadd dX12_stands_239 ?_
    refine v_aload_n 0 0 dX12_stands_240 rfl rfl ?_
    obtain ⟨b57, e58, h⟩ := h
    refine v_gR 12 49 dX12_stands_241 fg_RX12_127 o54 e58 ?_
    refine v_iload_n 1 1 dX12_stands_244 rfl rfl ?_
    obtain ⟨i59, h⟩ := h
    refine v_iald dX12_stands_245 i59 ?_
    obtain ⟨i60, h⟩ := h
    refine v_iast dX12_stands_246 i60 ?_
    replace h := bnd_e h
    refine v_aload_n 0 0 dX12_stands_247 rfl rfl ?_
    refine v_gR 12 58 dX12_stands_248 fg_RX12_143 o54 e56 ?_
    refine v_iconst (2 : Int32) dX12_stands_251 (by decide) ?_
    refine v_iconst (3 : Int32) dX12_stands_252 (by decide) ?_
    refine v_iload_n 1 1 dX12_stands_253 rfl rfl ?_
    refine v_imul dX12_stands_254 ?_
    refine v_iadd dX12_stands_255 ?_
    refine v_aload_n 0 0 dX12_stands_256 rfl rfl ?_
    obtain ⟨b62, e63, h⟩ := h
    refine v_gR 12 50 dX12_stands_257 fg_RX12_130 o54 e63 ?_
    refine v_iload_n 1 1 dX12_stands_260 rfl rfl ?_
    obtain ⟨i64, h⟩ := h
    refine v_zald dX12_stands_261 i64 ?_
    refine v_if_eq 269 dX12_stands_262 (by decide) (fun hc => ?_) (fun hc => ?_)
    · replace h := Eq.mp (if_pos hc) h
      refine v_iconst (0 : Int32) dX12_stands_269 (by decide) ?_
      refine v_sub [0, 1] rfl ?_
      exact v_X12_stands_p270 hK225 h
    · replace h := Eq.mp (if_neg hc) h
      refine v_iconst (1 : Int32) dX12_stands_265 (by decide) ?_
      refine v_goto 270 dX12_stands_266 (by decide) ?_
      refine v_sub [0, 1] rfl ?_
      exact v_X12_stands_p270 hK225 h
set_option maxHeartbeats 4000000 in
set_option maxRecDepth 100000 in
theorem v_X12_stands_p225 {G : Gl} {F : Fr} {sh : Shp} {v0 : Nat} {v1 : Int32} {Q : Mem → Prop} {m : Mem} (h : X12_stands_p225 sh v0 Q v1 m) : V G F M_X12_stands sh 0 0 (Zv G F sh Q) 225 [(0, .ref (G.1 + v0)), (1, .int v1)] [] m := by
  obtain ⟨n, h⟩ := h
  induction n generalizing v1 m with
  | zero => exact h.elim
  | succ n ih => exact v_X12_stands_p225b (fun _ _ h => ih h) h
set_option maxHeartbeats 4000000 in
set_option maxRecDepth 100000 in
theorem v_X12_stands_p203b {G : Gl} {F : Fr} {sh : Shp} {v0 : Nat} {v1 : Int32} {Q : Mem → Prop} {K203 : Int32 → Mem → Prop} {m : Mem} (hK203 : ∀ (x1 : Int32) (m : Mem), K203 x1 m → V G F M_X12_stands sh 0 0 (Zv G F sh Q) 203 [(0, .ref (G.1 + v0)), (1, .int x1)] [] m) (h : X12_stands_p203b sh v0 Q K203 v1 m) : V G F M_X12_stands sh 0 0 (Zv G F sh Q) 203 [(0, .ref (G.1 + v0)), (1, .int v1)] [] m := by
  unfold X12_stands_p203b at h
  refine v_iload_n 1 1 dX12_stands_203 rfl rfl ?_
  refine v_sipush (236 : Int32) dX12_stands_204 (by decide) ?_
  refine v_icmp_ge 223 dX12_stands_207 (by decide) (fun hc => ?_) (fun hc => ?_)
  · replace h := Eq.mp (if_pos hc) h
    refine v_iconst (0 : Int32) dX12_stands_223 (by decide) ?_
    refine v_istore_n (ls' := [(1, .int _), (0, .ref _)]) 1 dX12_stands_224 rfl (Nat.le_of_ble_eq_true rfl) rfl ?_
    refine v_sub [1, 0] rfl ?_
    exact v_X12_stands_p225 h
  · replace h := Eq.mp (if_neg hc) h
    refine v_aload_n 0 0 dX12_stands_210 rfl rfl ?_
    obtain ⟨o49, h⟩ := h
    obtain ⟨b50, e51, h⟩ := h
    refine v_gR 12 58 dX12_stands_211 fg_RX12_143 o49 e51 ?_
    refine v_iload_n 1 1 dX12_stands_214 rfl rfl ?_
    refine v_iconst (0 : Int32) dX12_stands_215 (by decide) ?_
    obtain ⟨i52, h⟩ := h
    refine v_iast dX12_stands_216 i52 ?_
    replace h := bnd_e h
    refine v_iinc (ls' := [(1, .int _), (0, .ref _)]) 1 1 dX12_stands_217 rfl (congrArg (HAdd.hAdd _) (by decide : Int32.ofInt (1) = (1 : Int32))) (Nat.le_of_ble_eq_true rfl) rfl ?_
    refine v_goto 203 dX12_stands_220 (by decide) ?_
    refine v_sub [1, 0] rfl ?_
    exact hK203 _ _ h
set_option maxHeartbeats 4000000 in
set_option maxRecDepth 100000 in
theorem v_X12_stands_p203 {G : Gl} {F : Fr} {sh : Shp} {v0 : Nat} {v1 : Int32} {Q : Mem → Prop} {m : Mem} (h : X12_stands_p203 sh v0 Q v1 m) : V G F M_X12_stands sh 0 0 (Zv G F sh Q) 203 [(0, .ref (G.1 + v0)), (1, .int v1)] [] m := by
  obtain ⟨n, h⟩ := h
  induction n generalizing v1 m with
  | zero => exact h.elim
  | succ n ih => exact v_X12_stands_p203b (fun _ _ h => ih h) h
set_option maxHeartbeats 4000000 in
set_option maxRecDepth 100000 in
theorem v_X12_stands_p171b {G : Gl} {F : Fr} {sh : Shp} {v0 : Nat} {v1 : Int32} {Q : Mem → Prop} {K171 : Int32 → Mem → Prop} {m : Mem} (hK171 : ∀ (x1 : Int32) (m : Mem), K171 x1 m → V G F M_X12_stands sh 0 0 (Zv G F sh Q) 171 [(0, .ref (G.1 + v0)), (1, .int x1)] [] m) (h : X12_stands_p171b sh v0 Q K171 v1 m) : V G F M_X12_stands sh 0 0 (Zv G F sh Q) 171 [(0, .ref (G.1 + v0)), (1, .int v1)] [] m := by
  unfold X12_stands_p171b at h
  refine v_iload_n 1 1 dX12_stands_171 rfl rfl ?_
  refine v_aload_n 0 0 dX12_stands_172 rfl rfl ?_
  obtain ⟨o43, h⟩ := h
  refine v_gI 12 54 dX12_stands_173 fg_RX12_387 o43 ?_
  refine v_icmp_ge 201 dX12_stands_176 (by decide) (fun hc => ?_) (fun hc => ?_)
  · replace h := Eq.mp (if_pos hc) h
    refine v_iconst (0 : Int32) dX12_stands_201 (by decide) ?_
    refine v_istore_n (ls' := [(1, .int _), (0, .ref _)]) 1 dX12_stands_202 rfl (Nat.le_of_ble_eq_true rfl) rfl ?_
    refine v_sub [1, 0] rfl ?_
    exact v_X12_stands_p203 h
  · replace h := Eq.mp (if_neg hc) h
    refine v_aload_n 0 0 dX12_stands_179 rfl rfl ?_
    obtain ⟨b44, e45, h⟩ := h
    refine v_gR 12 53 dX12_stands_180 fg_RX12_140 o43 e45 ?_
    refine v_sipush (1600 : Int32) dX12_stands_183 (by decide) ?_
    refine v_iload_n 1 1 dX12_stands_186 rfl rfl ?_
    refine v_iadd dX12_stands_187 ?_
    refine v_aload_n 0 0 dX12_stands_188 rfl rfl ?_
    refine v_gR 12 53 dX12_stands_189 fg_RX12_140 o43 e45 ?_
    refine v_iload_n 1 1 dX12_stands_192 rfl rfl ?_
    obtain ⟨i46, h⟩ := h
    refine v_iald dX12_stands_193 i46 ?_
    obtain ⟨i47, h⟩ := h
    refine v_iast dX12_stands_194 i47 ?_
    replace h := bnd_e h
    refine v_iinc (ls' := [(1, .int _), (0, .ref _)]) 1 1 dX12_stands_195 rfl (congrArg (HAdd.hAdd _) (by decide : Int32.ofInt (1) = (1 : Int32))) (Nat.le_of_ble_eq_true rfl) rfl ?_
    refine v_goto 171 dX12_stands_198 (by decide) ?_
    refine v_sub [1, 0] rfl ?_
    exact hK171 _ _ h
set_option maxHeartbeats 4000000 in
set_option maxRecDepth 100000 in
theorem v_X12_stands_p171 {G : Gl} {F : Fr} {sh : Shp} {v0 : Nat} {v1 : Int32} {Q : Mem → Prop} {m : Mem} (h : X12_stands_p171 sh v0 Q v1 m) : V G F M_X12_stands sh 0 0 (Zv G F sh Q) 171 [(0, .ref (G.1 + v0)), (1, .int v1)] [] m := by
  obtain ⟨n, h⟩ := h
  induction n generalizing v1 m with
  | zero => exact h.elim
  | succ n ih => exact v_X12_stands_p171b (fun _ _ h => ih h) h
set_option maxHeartbeats 4000000 in
set_option maxRecDepth 100000 in
theorem v_X12_stands_p142b {G : Gl} {F : Fr} {sh : Shp} {v0 : Nat} {v1 : Int32} {Q : Mem → Prop} {K142 : Int32 → Mem → Prop} {m : Mem} (hK142 : ∀ (x1 : Int32) (m : Mem), K142 x1 m → V G F M_X12_stands sh 0 0 (Zv G F sh Q) 142 [(0, .ref (G.1 + v0)), (1, .int x1)] [] m) (h : X12_stands_p142b sh v0 Q K142 v1 m) : V G F M_X12_stands sh 0 0 (Zv G F sh Q) 142 [(0, .ref (G.1 + v0)), (1, .int v1)] [] m := by
  unfold X12_stands_p142b at h
  refine v_iload_n 1 1 dX12_stands_142 rfl rfl ?_
  refine v_bipush (10 : Int32) dX12_stands_143 (by decide) ?_
  refine v_icmp_ge 169 dX12_stands_145 (by decide) (fun hc => ?_) (fun hc => ?_)
  · replace h := Eq.mp (if_pos hc) h
    refine v_iconst (0 : Int32) dX12_stands_169 (by decide) ?_
    refine v_istore_n (ls' := [(1, .int _), (0, .ref _)]) 1 dX12_stands_170 rfl (Nat.le_of_ble_eq_true rfl) rfl ?_
    refine v_sub [1, 0] rfl ?_
    exact v_X12_stands_p171 h
  · replace h := Eq.mp (if_neg hc) h
    refine v_aload_n 0 0 dX12_stands_148 rfl rfl ?_
    obtain ⟨o37, h⟩ := h
    obtain ⟨b38, e39, h⟩ := h
    refine v_gR 12 48 dX12_stands_149 fg_RX12_124 o37 e39 ?_
    refine v_bipush (10 : Int32) dX12_stands_152 (by decide) ?_
    refine v_iload_n 1 1 dX12_stands_154 rfl rfl ?_
    refine v_iadd dX12_stands_155 ?_
    refine v_aload_n 0 0 dX12_stands_156 rfl rfl ?_
    refine v_gR 12 48 dX12_stands_157 fg_RX12_124 o37 e39 ?_
    refine v_iload_n 1 1 dX12_stands_160 rfl rfl ?_
    obtain ⟨i40, h⟩ := h
    refine v_iald dX12_stands_161 i40 ?_
    obtain ⟨i41, h⟩ := h
    refine v_iast dX12_stands_162 i41 ?_
    replace h := bnd_e h
    refine v_iinc (ls' := [(1, .int _), (0, .ref _)]) 1 1 dX12_stands_163 rfl (congrArg (HAdd.hAdd _) (by decide : Int32.ofInt (1) = (1 : Int32))) (Nat.le_of_ble_eq_true rfl) rfl ?_
    refine v_goto 142 dX12_stands_166 (by decide) ?_
    refine v_sub [1, 0] rfl ?_
    exact hK142 _ _ h
set_option maxHeartbeats 4000000 in
set_option maxRecDepth 100000 in
theorem v_X12_stands_p142 {G : Gl} {F : Fr} {sh : Shp} {v0 : Nat} {v1 : Int32} {Q : Mem → Prop} {m : Mem} (h : X12_stands_p142 sh v0 Q v1 m) : V G F M_X12_stands sh 0 0 (Zv G F sh Q) 142 [(0, .ref (G.1 + v0)), (1, .int v1)] [] m := by
  obtain ⟨n, h⟩ := h
  induction n generalizing v1 m with
  | zero => exact h.elim
  | succ n ih => exact v_X12_stands_p142b (fun _ _ h => ih h) h
set_option maxHeartbeats 4000000 in
set_option maxRecDepth 100000 in
theorem v_X12_stands_p113b {G : Gl} {F : Fr} {sh : Shp} {v0 : Nat} {v1 : Int32} {Q : Mem → Prop} {K113 : Int32 → Mem → Prop} {m : Mem} (hK113 : ∀ (x1 : Int32) (m : Mem), K113 x1 m → V G F M_X12_stands sh 0 0 (Zv G F sh Q) 113 [(0, .ref (G.1 + v0)), (1, .int x1)] [] m) (h : X12_stands_p113b sh v0 Q K113 v1 m) : V G F M_X12_stands sh 0 0 (Zv G F sh Q) 113 [(0, .ref (G.1 + v0)), (1, .int v1)] [] m := by
  unfold X12_stands_p113b at h
  refine v_iload_n 1 1 dX12_stands_113 rfl rfl ?_
  refine v_bipush (18 : Int32) dX12_stands_114 (by decide) ?_
  refine v_icmp_ge 140 dX12_stands_116 (by decide) (fun hc => ?_) (fun hc => ?_)
  · replace h := Eq.mp (if_pos hc) h
    refine v_iconst (0 : Int32) dX12_stands_140 (by decide) ?_
    refine v_istore_n (ls' := [(1, .int _), (0, .ref _)]) 1 dX12_stands_141 rfl (Nat.le_of_ble_eq_true rfl) rfl ?_
    refine v_sub [1, 0] rfl ?_
    exact v_X12_stands_p142 h
  · replace h := Eq.mp (if_neg hc) h
    refine v_aload_n 0 0 dX12_stands_119 rfl rfl ?_
    obtain ⟨o31, h⟩ := h
    obtain ⟨b32, e33, h⟩ := h
    refine v_gR 12 47 dX12_stands_120 fg_RX12_121 o31 e33 ?_
    refine v_bipush (18 : Int32) dX12_stands_123 (by decide) ?_
    refine v_iload_n 1 1 dX12_stands_125 rfl rfl ?_
    refine v_iadd dX12_stands_126 ?_
    refine v_aload_n 0 0 dX12_stands_127 rfl rfl ?_
    refine v_gR 12 47 dX12_stands_128 fg_RX12_121 o31 e33 ?_
    refine v_iload_n 1 1 dX12_stands_131 rfl rfl ?_
    obtain ⟨i34, h⟩ := h
    refine v_iald dX12_stands_132 i34 ?_
    obtain ⟨i35, h⟩ := h
    refine v_iast dX12_stands_133 i35 ?_
    replace h := bnd_e h
    refine v_iinc (ls' := [(1, .int _), (0, .ref _)]) 1 1 dX12_stands_134 rfl (congrArg (HAdd.hAdd _) (by decide : Int32.ofInt (1) = (1 : Int32))) (Nat.le_of_ble_eq_true rfl) rfl ?_
    refine v_goto 113 dX12_stands_137 (by decide) ?_
    refine v_sub [1, 0] rfl ?_
    exact hK113 _ _ h
set_option maxHeartbeats 4000000 in
set_option maxRecDepth 100000 in
theorem v_X12_stands_p113 {G : Gl} {F : Fr} {sh : Shp} {v0 : Nat} {v1 : Int32} {Q : Mem → Prop} {m : Mem} (h : X12_stands_p113 sh v0 Q v1 m) : V G F M_X12_stands sh 0 0 (Zv G F sh Q) 113 [(0, .ref (G.1 + v0)), (1, .int v1)] [] m := by
  obtain ⟨n, h⟩ := h
  induction n generalizing v1 m with
  | zero => exact h.elim
  | succ n ih => exact v_X12_stands_p113b (fun _ _ h => ih h) h
set_option maxHeartbeats 4000000 in
set_option maxRecDepth 100000 in
theorem v_X12_stands_p84b {G : Gl} {F : Fr} {sh : Shp} {v0 : Nat} {v1 : Int32} {Q : Mem → Prop} {K84 : Int32 → Mem → Prop} {m : Mem} (hK84 : ∀ (x1 : Int32) (m : Mem), K84 x1 m → V G F M_X12_stands sh 0 0 (Zv G F sh Q) 84 [(0, .ref (G.1 + v0)), (1, .int x1)] [] m) (h : X12_stands_p84b sh v0 Q K84 v1 m) : V G F M_X12_stands sh 0 0 (Zv G F sh Q) 84 [(0, .ref (G.1 + v0)), (1, .int v1)] [] m := by
  unfold X12_stands_p84b at h
  refine v_iload_n 1 1 dX12_stands_84 rfl rfl ?_
  refine v_bipush (16 : Int32) dX12_stands_85 (by decide) ?_
  refine v_icmp_ge 111 dX12_stands_87 (by decide) (fun hc => ?_) (fun hc => ?_)
  · replace h := Eq.mp (if_pos hc) h
    refine v_iconst (0 : Int32) dX12_stands_111 (by decide) ?_
    refine v_istore_n (ls' := [(1, .int _), (0, .ref _)]) 1 dX12_stands_112 rfl (Nat.le_of_ble_eq_true rfl) rfl ?_
    refine v_sub [1, 0] rfl ?_
    exact v_X12_stands_p113 h
  · replace h := Eq.mp (if_neg hc) h
    refine v_aload_n 0 0 dX12_stands_90 rfl rfl ?_
    obtain ⟨o25, h⟩ := h
    obtain ⟨b26, e27, h⟩ := h
    refine v_gR 12 46 dX12_stands_91 fg_RX12_117 o25 e27 ?_
    refine v_bipush (16 : Int32) dX12_stands_94 (by decide) ?_
    refine v_iload_n 1 1 dX12_stands_96 rfl rfl ?_
    refine v_iadd dX12_stands_97 ?_
    refine v_aload_n 0 0 dX12_stands_98 rfl rfl ?_
    refine v_gR 12 46 dX12_stands_99 fg_RX12_117 o25 e27 ?_
    refine v_iload_n 1 1 dX12_stands_102 rfl rfl ?_
    obtain ⟨i28, h⟩ := h
    refine v_lald dX12_stands_103 i28 ?_
    obtain ⟨i29, h⟩ := h
    refine v_last dX12_stands_104 i29 ?_
    replace h := bnd_e h
    refine v_iinc (ls' := [(1, .int _), (0, .ref _)]) 1 1 dX12_stands_105 rfl (congrArg (HAdd.hAdd _) (by decide : Int32.ofInt (1) = (1 : Int32))) (Nat.le_of_ble_eq_true rfl) rfl ?_
    refine v_goto 84 dX12_stands_108 (by decide) ?_
    refine v_sub [1, 0] rfl ?_
    exact hK84 _ _ h
set_option maxHeartbeats 4000000 in
set_option maxRecDepth 100000 in
theorem v_X12_stands_p84 {G : Gl} {F : Fr} {sh : Shp} {v0 : Nat} {v1 : Int32} {Q : Mem → Prop} {m : Mem} (h : X12_stands_p84 sh v0 Q v1 m) : V G F M_X12_stands sh 0 0 (Zv G F sh Q) 84 [(0, .ref (G.1 + v0)), (1, .int v1)] [] m := by
  obtain ⟨n, h⟩ := h
  induction n generalizing v1 m with
  | zero => exact h.elim
  | succ n ih => exact v_X12_stands_p84b (fun _ _ h => ih h) h
set_option maxHeartbeats 4000000 in
set_option maxRecDepth 100000 in
theorem v_X12_stands_p15b {G : Gl} {F : Fr} {sh : Shp} {v0 : Nat} {v1 : Int32} {Q : Mem → Prop} {K15 : Int32 → Mem → Prop} {m : Mem} (hK15 : ∀ (x1 : Int32) (m : Mem), K15 x1 m → V G F M_X12_stands sh 0 0 (Zv G F sh Q) 15 [(0, .ref (G.1 + v0)), (1, .int x1)] [] m) (h : X12_stands_p15b sh v0 Q K15 v1 m) : V G F M_X12_stands sh 0 0 (Zv G F sh Q) 15 [(0, .ref (G.1 + v0)), (1, .int v1)] [] m := by
  unfold X12_stands_p15b at h
  refine v_iload_n 1 1 dX12_stands_15 rfl rfl ?_
  refine v_iconst (2 : Int32) dX12_stands_16 (by decide) ?_
  refine v_icmp_ge 82 dX12_stands_17 (by decide) (fun hc => ?_) (fun hc => ?_)
  · replace h := Eq.mp (if_pos hc) h
    refine v_iconst (0 : Int32) dX12_stands_82 (by decide) ?_
    refine v_istore_n (ls' := [(1, .int _), (0, .ref _)]) 1 dX12_stands_83 rfl (Nat.le_of_ble_eq_true rfl) rfl ?_
    refine v_sub [1, 0] rfl ?_
    exact v_X12_stands_p84 h
  · replace h := Eq.mp (if_neg hc) h
    refine v_aload_n 0 0 dX12_stands_20 rfl rfl ?_
    obtain ⟨o4, h⟩ := h
    obtain ⟨b5, e6, h⟩ := h
    refine v_gR 12 42 dX12_stands_21 fg_RX12_111 o4 e6 ?_
    refine v_iconst (2 : Int32) dX12_stands_24 (by decide) ?_
    refine v_iload_n 1 1 dX12_stands_25 rfl rfl ?_
    refine v_iadd dX12_stands_26 ?_
    refine v_aload_n 0 0 dX12_stands_27 rfl rfl ?_
    refine v_gR 12 42 dX12_stands_28 fg_RX12_111 o4 e6 ?_
    refine v_iload_n 1 1 dX12_stands_31 rfl rfl ?_
    obtain ⟨i7, h⟩ := h
    refine v_iald dX12_stands_32 i7 ?_
    obtain ⟨i8, h⟩ := h
    refine v_iast dX12_stands_33 i8 ?_
    replace h := bnd_e h
    refine v_aload_n 0 0 dX12_stands_34 rfl rfl ?_
    obtain ⟨b10, e11, h⟩ := h
    refine v_gR 12 45 dX12_stands_35 fg_RX12_114 o4 e11 ?_
    refine v_iconst (2 : Int32) dX12_stands_38 (by decide) ?_
    refine v_iload_n 1 1 dX12_stands_39 rfl rfl ?_
    refine v_iadd dX12_stands_40 ?_
    refine v_aload_n 0 0 dX12_stands_41 rfl rfl ?_
    refine v_gR 12 45 dX12_stands_42 fg_RX12_114 o4 e11 ?_
    refine v_iload_n 1 1 dX12_stands_45 rfl rfl ?_
    obtain ⟨i12, h⟩ := h
    refine v_iald dX12_stands_46 i12 ?_
    obtain ⟨i13, h⟩ := h
    refine v_iast dX12_stands_47 i13 ?_
    replace h := bnd_e h
    refine v_aload_n 0 0 dX12_stands_48 rfl rfl ?_
    obtain ⟨b15, e16, h⟩ := h
    refine v_gR 12 51 dX12_stands_49 fg_RX12_134 o4 e16 ?_
    refine v_iconst (2 : Int32) dX12_stands_52 (by decide) ?_
    refine v_iload_n 1 1 dX12_stands_53 rfl rfl ?_
    refine v_iadd dX12_stands_54 ?_
    refine v_aload_n 0 0 dX12_stands_55 rfl rfl ?_
    refine v_gR 12 51 dX12_stands_56 fg_RX12_134 o4 e16 ?_
    refine v_iload_n 1 1 dX12_stands_59 rfl rfl ?_
    obtain ⟨i17, h⟩ := h
    refine v_iald dX12_stands_60 i17 ?_
    obtain ⟨i18, h⟩ := h
    refine v_iast dX12_stands_61 i18 ?_
    replace h := bnd_e h
    refine v_aload_n 0 0 dX12_stands_62 rfl rfl ?_
    obtain ⟨b20, e21, h⟩ := h
    refine v_gR 12 52 dX12_stands_63 fg_RX12_137 o4 e21 ?_
    refine v_iconst (2 : Int32) dX12_stands_66 (by decide) ?_
    refine v_iload_n 1 1 dX12_stands_67 rfl rfl ?_
    refine v_iadd dX12_stands_68 ?_
    refine v_aload_n 0 0 dX12_stands_69 rfl rfl ?_
    refine v_gR 12 52 dX12_stands_70 fg_RX12_137 o4 e21 ?_
    refine v_iload_n 1 1 dX12_stands_73 rfl rfl ?_
    obtain ⟨i22, h⟩ := h
    refine v_iald dX12_stands_74 i22 ?_
    obtain ⟨i23, h⟩ := h
    refine v_iast dX12_stands_75 i23 ?_
    replace h := bnd_e h
    refine v_iinc (ls' := [(1, .int _), (0, .ref _)]) 1 1 dX12_stands_76 rfl (congrArg (HAdd.hAdd _) (by decide : Int32.ofInt (1) = (1 : Int32))) (Nat.le_of_ble_eq_true rfl) rfl ?_
    refine v_goto 15 dX12_stands_79 (by decide) ?_
    refine v_sub [1, 0] rfl ?_
    exact hK15 _ _ h
set_option maxHeartbeats 4000000 in
set_option maxRecDepth 100000 in
theorem v_X12_stands_p15 {G : Gl} {F : Fr} {sh : Shp} {v0 : Nat} {v1 : Int32} {Q : Mem → Prop} {m : Mem} (h : X12_stands_p15 sh v0 Q v1 m) : V G F M_X12_stands sh 0 0 (Zv G F sh Q) 15 [(0, .ref (G.1 + v0)), (1, .int v1)] [] m := by
  obtain ⟨n, h⟩ := h
  induction n generalizing v1 m with
  | zero => exact h.elim
  | succ n ih => exact v_X12_stands_p15b (fun _ _ h => ih h) h
set_option maxHeartbeats 4000000 in
set_option maxRecDepth 100000 in
theorem c_X12_stands {l : Launch} {G : Gl} {sh : Shp} {v0 : Nat} {Q : Mem → Prop} {m : Mem} (h : wp_X12_stands sh v0 Q m) : Cnv l G yX12_stands cX12_stands 2 (none : Option FieldType) 1 60 sh [.ref (G.1 + v0)] m Q := by
  refine con_v (ls := [(0, .ref (G.1 + v0))]) (by decide +kernel) rfl (Nat.le_of_ble_eq_true rfl) (fun F => ?_)
  show V G F M_X12_stands sh 0 0 (Zv G F sh Q) 0 [(0, .ref (G.1 + v0))] [] m
  unfold wp_X12_stands at h
  refine v_aload_n 0 0 dX12_stands_0 rfl rfl ?_
  refine v_iconst (1 : Int32) dX12_stands_1 (by decide) ?_
  obtain ⟨o1, h⟩ := h
  refine v_pZ 12 56 dX12_stands_2 fw_RX12_423 o1 (by decide) ?_
  replace h := bnd_e h
  refine v_aload_n 0 0 dX12_stands_5 rfl rfl ?_
  refine v_aload_n 0 0 dX12_stands_6 rfl rfl ?_
  refine v_gI 12 43 dX12_stands_7 fg_RX12_399 o1 ?_
  refine v_pI 12 44 dX12_stands_10 fw_RX12_427 o1 ?_
  replace h := bnd_e h
  refine v_iconst (0 : Int32) dX12_stands_13 (by decide) ?_
  refine v_istore_n (ls' := [(1, .int _), (0, .ref _)]) 1 dX12_stands_14 rfl (Nat.le_of_ble_eq_true rfl) rfl ?_
  refine v_sub [1, 0] rfl ?_
  exact v_X12_stands_p15 h
/-! CalledRiverModel.stoneTold -/
theorem dX12_stoneTold_0 : decode cX12_stoneTold 0 = .ok (.aload_n 0, 1) := by decide +kernel
theorem dX12_stoneTold_1 : decode cX12_stoneTold 1 = .ok (.invokevirtual 362, 3) := by decide +kernel
theorem dX12_stoneTold_4 : decode cX12_stoneTold 4 = .ok (.istore_n 1, 1) := by decide +kernel
theorem dX12_stoneTold_5 : decode cX12_stoneTold 5 = .ok (.aload_n 0, 1) := by decide +kernel
theorem dX12_stoneTold_6 : decode cX12_stoneTold 6 = .ok (.getfield 285, 3) := by decide +kernel
theorem dX12_stoneTold_9 : decode cX12_stoneTold 9 = .ok (.ifCond .ne 21, 3) := by decide +kernel
theorem dX12_stoneTold_12 : decode cX12_stoneTold 12 = .ok (.aload_n 0, 1) := by decide +kernel
theorem dX12_stoneTold_13 : decode cX12_stoneTold 13 = .ok (.getfield 130, 3) := by decide +kernel
theorem dX12_stoneTold_16 : decode cX12_stoneTold 16 = .ok (.iload_n 1, 1) := by decide +kernel
theorem dX12_stoneTold_17 : decode cX12_stoneTold 17 = .ok (.baload, 1) := by decide +kernel
theorem dX12_stoneTold_18 : decode cX12_stoneTold 18 = .ok (.ifCond .eq 12, 3) := by decide +kernel
theorem dX12_stoneTold_21 : decode cX12_stoneTold 21 = .ok (.aload_n 0, 1) := by decide +kernel
theorem dX12_stoneTold_22 : decode cX12_stoneTold 22 = .ok (.iconst 2, 1) := by decide +kernel
theorem dX12_stoneTold_23 : decode cX12_stoneTold 23 = .ok (.aload_n 0, 1) := by decide +kernel
theorem dX12_stoneTold_24 : decode cX12_stoneTold 24 = .ok (.getfield 325, 3) := by decide +kernel
theorem dX12_stoneTold_27 : decode cX12_stoneTold 27 = .ok (.invokevirtual 315, 3) := by decide +kernel
theorem dX12_stoneTold_30 : decode cX12_stoneTold 30 = .ok (.aload_n 0, 1) := by decide +kernel
theorem dX12_stoneTold_31 : decode cX12_stoneTold 31 = .ok (.getfield 285, 3) := by decide +kernel
theorem dX12_stoneTold_34 : decode cX12_stoneTold 34 = .ok (.ifCond .ne 10, 3) := by decide +kernel
theorem dX12_stoneTold_37 : decode cX12_stoneTold 37 = .ok (.aload_n 0, 1) := by decide +kernel
theorem dX12_stoneTold_38 : decode cX12_stoneTold 38 = .ok (.getfield 130, 3) := by decide +kernel
theorem dX12_stoneTold_41 : decode cX12_stoneTold 41 = .ok (.iload_n 1, 1) := by decide +kernel
theorem dX12_stoneTold_42 : decode cX12_stoneTold 42 = .ok (.iconst 1, 1) := by decide +kernel
theorem dX12_stoneTold_43 : decode cX12_stoneTold 43 = .ok (.bastore, 1) := by decide +kernel
theorem dX12_stoneTold_44 : decode cX12_stoneTold 44 = .ok (.return_, 1) := by decide +kernel
def X12_stoneTold_p30 (sh : Shp) (v0 : Nat) (v1 : Int32) (Q : Mem → Prop) (m : Mem) : Prop :=
  Ob sh v0 12 ∧ (if (m.1 v0 5) = 0 then (∃ b10 : Nat, m.2.2 v0 50 = some b10 ∧ (Ix sh b10 102 v1 ∧ bnd (sI m b10 v1.toNatClampNeg (vp_nar .boolean (1 : Int32))) (fun m13 => Q m13))) else (Q m))
def wp_X12_stoneTold (sh : Shp) (v0 : Nat) (Q : Mem → Prop) (m : Mem) : Prop :=
  Ob sh v0 12 ∧ wp_X12_cellTold sh v0 (fun r1 m2 => if (m2.1 v0 5) = 0 then (∃ b4 : Nat, m2.2.2 v0 50 = some b4 ∧ (Ix sh b4 102 r1 ∧ (if (m2.1 b4 r1.toNatClampNeg) = 0 then (X12_stoneTold_p30 sh v0 r1 Q m2) else (wp_X12_fail sh v0 (2 : Int32) (m2.1 v0 10) (fun m8 => X12_stoneTold_p30 sh v0 r1 Q m8) m2)))) else (X12_stoneTold_p30 sh v0 r1 Q m2)) m
abbrev M_X12_stoneTold : Mi := (cX12_stoneTold, 2, RX12, (none : Option FieldType), "stoneTold", 4, 131, 0, 0)
set_option maxHeartbeats 4000000 in
set_option maxRecDepth 100000 in
theorem v_X12_stoneTold_p30 {G : Gl} {F : Fr} {sh : Shp} {v0 : Nat} {v1 : Int32} {Q : Mem → Prop} {m : Mem} (h : X12_stoneTold_p30 sh v0 v1 Q m) : V G F M_X12_stoneTold sh 0 0 (Zv G F sh Q) 30 [(0, .ref (G.1 + v0)), (1, .int v1)] [] m := by
  unfold X12_stoneTold_p30 at h
  refine v_aload_n 0 0 dX12_stoneTold_30 rfl rfl ?_
  obtain ⟨o9, h⟩ := h
  refine v_gI 12 5 dX12_stoneTold_31 fg_RX12_285 o9 ?_
  refine v_if_ne 44 dX12_stoneTold_34 (by decide) (fun hc => ?_) (fun hc => ?_)
  · replace h := Eq.mp (if_neg hc) h
    exact v_vret dX12_stoneTold_44 rfl h
  · replace h := Eq.mp (if_pos hc) h
    refine v_aload_n 0 0 dX12_stoneTold_37 rfl rfl ?_
    obtain ⟨b10, e11, h⟩ := h
    refine v_gR 12 50 dX12_stoneTold_38 fg_RX12_130 o9 e11 ?_
    refine v_iload_n 1 1 dX12_stoneTold_41 rfl rfl ?_
    refine v_iconst (1 : Int32) dX12_stoneTold_42 (by decide) ?_
    obtain ⟨i12, h⟩ := h
    refine v_zast dX12_stoneTold_43 i12 ?_
    replace h := bnd_e h
    exact v_vret dX12_stoneTold_44 rfl h
set_option maxHeartbeats 4000000 in
set_option maxRecDepth 100000 in
theorem c_X12_stoneTold {l : Launch} {G : Gl} {sh : Shp} {v0 : Nat} {Q : Mem → Prop} {m : Mem} (h : wp_X12_stoneTold sh v0 Q m) : Cnv l G yX12_stoneTold cX12_stoneTold 2 (none : Option FieldType) 4 131 sh [.ref (G.1 + v0)] m Q := by
  refine con_v (ls := [(0, .ref (G.1 + v0))]) (by decide +kernel) rfl (Nat.le_of_ble_eq_true rfl) (fun F => ?_)
  show V G F M_X12_stoneTold sh 0 0 (Zv G F sh Q) 0 [(0, .ref (G.1 + v0))] [] m
  unfold wp_X12_stoneTold at h
  refine v_aload_n 0 0 dX12_stoneTold_0 rfl rfl ?_
  obtain ⟨o3, h⟩ := h
  refine v_cVi [] mv_X12_cellTold ml_RX12_362 ⟨_, _, rfl⟩ o3 rfl rfl (Nat.le_of_ble_eq_true rfl) (Nat.le_of_ble_eq_true rfl) (Nat.le_of_ble_eq_true rfl) (Nat.zero_le _) (Nat.zero_le _) dX12_stoneTold_1 (c_X12_cellTold h) (fun r1 m2 h => ?_)
  refine v_istore_n (ls' := [(1, .int _), (0, .ref _)]) 1 dX12_stoneTold_4 rfl (Nat.le_of_ble_eq_true rfl) rfl ?_
  refine v_aload_n 0 1 dX12_stoneTold_5 rfl rfl ?_
  refine v_gI 12 5 dX12_stoneTold_6 fg_RX12_285 o3 ?_
  refine v_if_ne 30 dX12_stoneTold_9 (by decide) (fun hc => ?_) (fun hc => ?_)
  · replace h := Eq.mp (if_neg hc) h
    refine v_sub [1, 0] rfl ?_
    exact v_X12_stoneTold_p30 h
  · replace h := Eq.mp (if_pos hc) h
    refine v_aload_n 0 1 dX12_stoneTold_12 rfl rfl ?_
    obtain ⟨b4, e5, h⟩ := h
    refine v_gR 12 50 dX12_stoneTold_13 fg_RX12_130 o3 e5 ?_
    refine v_iload_n 1 0 dX12_stoneTold_16 rfl rfl ?_
    obtain ⟨i6, h⟩ := h
    refine v_zald dX12_stoneTold_17 i6 ?_
    refine v_if_eq 30 dX12_stoneTold_18 (by decide) (fun hc => ?_) (fun hc => ?_)
    · replace h := Eq.mp (if_pos hc) h
      refine v_sub [1, 0] rfl ?_
      exact v_X12_stoneTold_p30 h
    · replace h := Eq.mp (if_neg hc) h
      refine v_aload_n 0 1 dX12_stoneTold_21 rfl rfl ?_
      refine v_iconst (2 : Int32) dX12_stoneTold_22 (by decide) ?_
      refine v_aload_n 0 1 dX12_stoneTold_23 rfl rfl ?_
      refine v_gI 12 10 dX12_stoneTold_24 fg_RX12_325 o3 ?_
      refine v_cVv [.int _, .int _] mv_X12_fail ml_RX12_315 ⟨_, _, rfl⟩ o3 rfl rfl (Nat.le_of_ble_eq_true rfl) (Nat.le_of_ble_eq_true rfl) (Nat.le_of_ble_eq_true rfl) (Nat.zero_le _) (Nat.zero_le _) dX12_stoneTold_27 (c_X12_fail h) (fun m8 h => ?_)
      refine v_sub [1, 0] rfl ?_
      exact v_X12_stoneTold_p30 h
/-! CalledRiverModel.statementTold -/
theorem dX12_statementTold_0 : decode cX12_statementTold 0 = .ok (.aload_n 0, 1) := by decide +kernel
theorem dX12_statementTold_1 : decode cX12_statementTold 1 = .ok (.getfield 291, 3) := by decide +kernel
theorem dX12_statementTold_4 : decode cX12_statementTold 4 = .ok (.istore_n 1, 1) := by decide +kernel
theorem dX12_statementTold_5 : decode cX12_statementTold 5 = .ok (.aload_n 0, 1) := by decide +kernel
theorem dX12_statementTold_6 : decode cX12_statementTold 6 = .ok (.getfield 390, 3) := by decide +kernel
theorem dX12_statementTold_9 : decode cX12_statementTold 9 = .ok (.bipush 80, 2) := by decide +kernel
theorem dX12_statementTold_11 : decode cX12_statementTold 11 = .ok (.if_icmp .ne 10, 3) := by decide +kernel
theorem dX12_statementTold_14 : decode cX12_statementTold 14 = .ok (.aload_n 0, 1) := by decide +kernel
theorem dX12_statementTold_15 : decode cX12_statementTold 15 = .ok (.iconst 5, 1) := by decide +kernel
theorem dX12_statementTold_16 : decode cX12_statementTold 16 = .ok (.iload_n 1, 1) := by decide +kernel
theorem dX12_statementTold_17 : decode cX12_statementTold 17 = .ok (.invokevirtual 315, 3) := by decide +kernel
theorem dX12_statementTold_20 : decode cX12_statementTold 20 = .ok (.return_, 1) := by decide +kernel
theorem dX12_statementTold_21 : decode cX12_statementTold 21 = .ok (.aload_n 0, 1) := by decide +kernel
theorem dX12_statementTold_22 : decode cX12_statementTold 22 = .ok (.aload_n 0, 1) := by decide +kernel
theorem dX12_statementTold_23 : decode cX12_statementTold 23 = .ok (.getfield 27, 3) := by decide +kernel
theorem dX12_statementTold_26 : decode cX12_statementTold 26 = .ok (.invokevirtual 312, 3) := by decide +kernel
theorem dX12_statementTold_29 : decode cX12_statementTold 29 = .ok (.ifCond .eq 10, 3) := by decide +kernel
theorem dX12_statementTold_32 : decode cX12_statementTold 32 = .ok (.aload_n 0, 1) := by decide +kernel
theorem dX12_statementTold_33 : decode cX12_statementTold 33 = .ok (.invokevirtual 393, 3) := by decide +kernel
theorem dX12_statementTold_36 : decode cX12_statementTold 36 = .ok (.goto 124, 3) := by decide +kernel
theorem dX12_statementTold_39 : decode cX12_statementTold 39 = .ok (.aload_n 0, 1) := by decide +kernel
theorem dX12_statementTold_40 : decode cX12_statementTold 40 = .ok (.aload_n 0, 1) := by decide +kernel
theorem dX12_statementTold_41 : decode cX12_statementTold 41 = .ok (.getfield 30, 3) := by decide +kernel
theorem dX12_statementTold_44 : decode cX12_statementTold 44 = .ok (.invokevirtual 312, 3) := by decide +kernel
theorem dX12_statementTold_47 : decode cX12_statementTold 47 = .ok (.ifCond .eq 10, 3) := by decide +kernel
theorem dX12_statementTold_50 : decode cX12_statementTold 50 = .ok (.aload_n 0, 1) := by decide +kernel
theorem dX12_statementTold_51 : decode cX12_statementTold 51 = .ok (.invokevirtual 396, 3) := by decide +kernel
theorem dX12_statementTold_54 : decode cX12_statementTold 54 = .ok (.goto 106, 3) := by decide +kernel
theorem dX12_statementTold_57 : decode cX12_statementTold 57 = .ok (.aload_n 0, 1) := by decide +kernel
theorem dX12_statementTold_58 : decode cX12_statementTold 58 = .ok (.aload_n 0, 1) := by decide +kernel
theorem dX12_statementTold_59 : decode cX12_statementTold 59 = .ok (.getfield 33, 3) := by decide +kernel
theorem dX12_statementTold_62 : decode cX12_statementTold 62 = .ok (.invokevirtual 312, 3) := by decide +kernel
theorem dX12_statementTold_65 : decode cX12_statementTold 65 = .ok (.ifCond .eq 23, 3) := by decide +kernel
theorem dX12_statementTold_68 : decode cX12_statementTold 68 = .ok (.aload_n 0, 1) := by decide +kernel
theorem dX12_statementTold_69 : decode cX12_statementTold 69 = .ok (.aload_n 0, 1) := by decide +kernel
theorem dX12_statementTold_70 : decode cX12_statementTold 70 = .ok (.iconst 0, 1) := by decide +kernel
theorem dX12_statementTold_71 : decode cX12_statementTold 71 = .ok (.aload_n 0, 1) := by decide +kernel
theorem dX12_statementTold_72 : decode cX12_statementTold 72 = .ok (.getfield 111, 3) := by decide +kernel
theorem dX12_statementTold_75 : decode cX12_statementTold 75 = .ok (.iconst 0, 1) := by decide +kernel
theorem dX12_statementTold_76 : decode cX12_statementTold 76 = .ok (.iaload, 1) := by decide +kernel
theorem dX12_statementTold_77 : decode cX12_statementTold 77 = .ok (.iconst 1, 1) := by decide +kernel
theorem dX12_statementTold_78 : decode cX12_statementTold 78 = .ok (.isub, 1) := by decide +kernel
theorem dX12_statementTold_79 : decode cX12_statementTold 79 = .ok (.invokevirtual 354, 3) := by decide +kernel
theorem dX12_statementTold_82 : decode cX12_statementTold 82 = .ok (.putfield 399, 3) := by decide +kernel
theorem dX12_statementTold_85 : decode cX12_statementTold 85 = .ok (.goto 75, 3) := by decide +kernel
theorem dX12_statementTold_88 : decode cX12_statementTold 88 = .ok (.aload_n 0, 1) := by decide +kernel
theorem dX12_statementTold_89 : decode cX12_statementTold 89 = .ok (.aload_n 0, 1) := by decide +kernel
theorem dX12_statementTold_90 : decode cX12_statementTold 90 = .ok (.getfield 36, 3) := by decide +kernel
theorem dX12_statementTold_93 : decode cX12_statementTold 93 = .ok (.invokevirtual 312, 3) := by decide +kernel
theorem dX12_statementTold_96 : decode cX12_statementTold 96 = .ok (.ifCond .eq 11, 3) := by decide +kernel
theorem dX12_statementTold_99 : decode cX12_statementTold 99 = .ok (.aload_n 0, 1) := by decide +kernel
theorem dX12_statementTold_100 : decode cX12_statementTold 100 = .ok (.iload_n 1, 1) := by decide +kernel
theorem dX12_statementTold_101 : decode cX12_statementTold 101 = .ok (.invokevirtual 402, 3) := by decide +kernel
theorem dX12_statementTold_104 : decode cX12_statementTold 104 = .ok (.goto 56, 3) := by decide +kernel
theorem dX12_statementTold_107 : decode cX12_statementTold 107 = .ok (.aload_n 0, 1) := by decide +kernel
theorem dX12_statementTold_108 : decode cX12_statementTold 108 = .ok (.aload_n 0, 1) := by decide +kernel
theorem dX12_statementTold_109 : decode cX12_statementTold 109 = .ok (.getfield 48, 3) := by decide +kernel
theorem dX12_statementTold_112 : decode cX12_statementTold 112 = .ok (.invokevirtual 312, 3) := by decide +kernel
theorem dX12_statementTold_115 : decode cX12_statementTold 115 = .ok (.ifCond .eq 11, 3) := by decide +kernel
theorem dX12_statementTold_118 : decode cX12_statementTold 118 = .ok (.aload_n 0, 1) := by decide +kernel
theorem dX12_statementTold_119 : decode cX12_statementTold 119 = .ok (.iload_n 1, 1) := by decide +kernel
theorem dX12_statementTold_120 : decode cX12_statementTold 120 = .ok (.invokevirtual 405, 3) := by decide +kernel
theorem dX12_statementTold_123 : decode cX12_statementTold 123 = .ok (.goto 37, 3) := by decide +kernel
theorem dX12_statementTold_126 : decode cX12_statementTold 126 = .ok (.aload_n 0, 1) := by decide +kernel
theorem dX12_statementTold_127 : decode cX12_statementTold 127 = .ok (.aload_n 0, 1) := by decide +kernel
theorem dX12_statementTold_128 : decode cX12_statementTold 128 = .ok (.getfield 57, 3) := by decide +kernel
theorem dX12_statementTold_131 : decode cX12_statementTold 131 = .ok (.invokevirtual 312, 3) := by decide +kernel
theorem dX12_statementTold_134 : decode cX12_statementTold 134 = .ok (.ifCond .eq 12, 3) := by decide +kernel
theorem dX12_statementTold_137 : decode cX12_statementTold 137 = .ok (.aload_n 0, 1) := by decide +kernel
theorem dX12_statementTold_138 : decode cX12_statementTold 138 = .ok (.iconst 0, 1) := by decide +kernel
theorem dX12_statementTold_139 : decode cX12_statementTold 139 = .ok (.iload_n 1, 1) := by decide +kernel
theorem dX12_statementTold_140 : decode cX12_statementTold 140 = .ok (.invokevirtual 408, 3) := by decide +kernel
theorem dX12_statementTold_143 : decode cX12_statementTold 143 = .ok (.goto 17, 3) := by decide +kernel
theorem dX12_statementTold_146 : decode cX12_statementTold 146 = .ok (.aload_n 0, 1) := by decide +kernel
theorem dX12_statementTold_147 : decode cX12_statementTold 147 = .ok (.aload_n 0, 1) := by decide +kernel
theorem dX12_statementTold_148 : decode cX12_statementTold 148 = .ok (.getfield 60, 3) := by decide +kernel
theorem dX12_statementTold_151 : decode cX12_statementTold 151 = .ok (.invokevirtual 350, 3) := by decide +kernel
theorem dX12_statementTold_154 : decode cX12_statementTold 154 = .ok (.aload_n 0, 1) := by decide +kernel
theorem dX12_statementTold_155 : decode cX12_statementTold 155 = .ok (.iconst 1, 1) := by decide +kernel
theorem dX12_statementTold_156 : decode cX12_statementTold 156 = .ok (.iload_n 1, 1) := by decide +kernel
theorem dX12_statementTold_157 : decode cX12_statementTold 157 = .ok (.invokevirtual 408, 3) := by decide +kernel
theorem dX12_statementTold_160 : decode cX12_statementTold 160 = .ok (.aload_n 0, 1) := by decide +kernel
theorem dX12_statementTold_161 : decode cX12_statementTold 161 = .ok (.bipush 59, 2) := by decide +kernel
theorem dX12_statementTold_163 : decode cX12_statementTold 163 = .ok (.invokevirtual 358, 3) := by decide +kernel
theorem dX12_statementTold_166 : decode cX12_statementTold 166 = .ok (.aload_n 0, 1) := by decide +kernel
theorem dX12_statementTold_167 : decode cX12_statementTold 167 = .ok (.dup, 1) := by decide +kernel
theorem dX12_statementTold_168 : decode cX12_statementTold 168 = .ok (.getfield 390, 3) := by decide +kernel
theorem dX12_statementTold_171 : decode cX12_statementTold 171 = .ok (.iconst 1, 1) := by decide +kernel
theorem dX12_statementTold_172 : decode cX12_statementTold 172 = .ok (.iadd, 1) := by decide +kernel
theorem dX12_statementTold_173 : decode cX12_statementTold 173 = .ok (.putfield 390, 3) := by decide +kernel
theorem dX12_statementTold_176 : decode cX12_statementTold 176 = .ok (.return_, 1) := by decide +kernel
def X12_statementTold_p160 (sh : Shp) (v0 : Nat) (Q : Mem → Prop) (m : Mem) : Prop :=
  Ob sh v0 12 ∧ wp_X12_asksSign sh v0 (59 : Int32) (fun m51 => bnd (sI m51 v0 55 ((m51.1 v0 55) + (1 : Int32))) (fun m53 => Q m53)) m
def wp_X12_statementTold (sh : Shp) (v0 : Nat) (Q : Mem → Prop) (m : Mem) : Prop :=
  Ob sh v0 12 ∧ (if (m.1 v0 55) = (80 : Int32) then (wp_X12_fail sh v0 (5 : Int32) (m.1 v0 2) (fun m49 => Q m49) m) else (∃ b2 : Nat, m.2.2 v0 13 = some b2 ∧ (wp_X12_takes sh v0 b2 (fun r4 m5 => if r4 = 0 then (∃ b6 : Nat, m5.2.2 v0 14 = some b6 ∧ (wp_X12_takes sh v0 b6 (fun r8 m9 => if r8 = 0 then (∃ b10 : Nat, m9.2.2 v0 15 = some b10 ∧ (wp_X12_takes sh v0 b10 (fun r12 m13 => if r12 = 0 then (∃ b14 : Nat, m13.2.2 v0 16 = some b14 ∧ (wp_X12_takes sh v0 b14 (fun r16 m17 => if r16 = 0 then (∃ b18 : Nat, m17.2.2 v0 20 = some b18 ∧ (wp_X12_takes sh v0 b18 (fun r20 m21 => if r20 = 0 then (∃ b22 : Nat, m21.2.2 v0 23 = some b22 ∧ (wp_X12_takes sh v0 b22 (fun r24 m25 => if r24 = 0 then (∃ b26 : Nat, m25.2.2 v0 24 = some b26 ∧ (wp_X12_asks sh v0 b26 (fun m29 => wp_X12_codesTold sh v0 (1 : Int32) (m.1 v0 2) (fun m31 => X12_statementTold_p160 sh v0 Q m31) m29) m25)) else (wp_X12_codesTold sh v0 (0 : Int32) (m.1 v0 2) (fun m33 => X12_statementTold_p160 sh v0 Q m33) m25)) m21)) else (wp_X12_callerTold sh v0 (m.1 v0 2) (fun m35 => X12_statementTold_p160 sh v0 Q m35) m21)) m17)) else (wp_X12_farmTold sh v0 (m.1 v0 2) (fun m37 => X12_statementTold_p160 sh v0 Q m37) m17)) m13)) else (∃ b38 : Nat, m13.2.2 v0 42 = some b38 ∧ (Ix sh b38 100 (0 : Int32) ∧ (wp_X12_number sh v0 (0 : Int32) ((m13.1 b38 (0 : Int32).toNatClampNeg) - (1 : Int32)) (fun r41 m42 => bnd (sI m42 v0 43 r41) (fun m43 => X12_statementTold_p160 sh v0 Q m43)) m13)))) m9)) else (wp_X12_stoneTold sh v0 (fun m45 => X12_statementTold_p160 sh v0 Q m45) m9)) m5)) else (wp_X12_highTold sh v0 (fun m47 => X12_statementTold_p160 sh v0 Q m47) m5)) m)))
abbrev M_X12_statementTold : Mi := (cX12_statementTold, 2, RX12, (none : Option FieldType), "statementTold", 9, 236, 0, 0)
set_option maxHeartbeats 4000000 in
set_option maxRecDepth 100000 in
theorem v_X12_statementTold_p160 {G : Gl} {F : Fr} {sh : Shp} {v0 : Nat} {Q : Mem → Prop} {m : Mem} (h : X12_statementTold_p160 sh v0 Q m) : V G F M_X12_statementTold sh 0 0 (Zv G F sh Q) 160 [(0, .ref (G.1 + v0))] [] m := by
  unfold X12_statementTold_p160 at h
  refine v_aload_n 0 0 dX12_statementTold_160 rfl rfl ?_
  refine v_bipush (59 : Int32) dX12_statementTold_161 (by decide) ?_
  obtain ⟨o52, h⟩ := h
  refine v_cVv [.int _] mv_X12_asksSign ml_RX12_358 ⟨_, _, rfl⟩ o52 rfl rfl (Nat.le_of_ble_eq_true rfl) (Nat.le_of_ble_eq_true rfl) (Nat.le_of_ble_eq_true rfl) (Nat.zero_le _) (Nat.zero_le _) dX12_statementTold_163 (c_X12_asksSign h) (fun m51 h => ?_)
  refine v_aload_n 0 0 dX12_statementTold_166 rfl rfl ?_
  refine v_dup dX12_statementTold_167 rfl ?_
  refine v_gI 12 55 dX12_statementTold_168 fg_RX12_390 o52 ?_
  refine v_iconst (1 : Int32) dX12_statementTold_171 (by decide) ?_
  refine v_iadd dX12_statementTold_172 ?_
  refine v_pI 12 55 dX12_statementTold_173 fw_RX12_390 o52 ?_
  replace h := bnd_e h
  exact v_vret dX12_statementTold_176 rfl h
set_option maxHeartbeats 4000000 in
set_option maxRecDepth 100000 in
theorem c_X12_statementTold {l : Launch} {G : Gl} {sh : Shp} {v0 : Nat} {Q : Mem → Prop} {m : Mem} (h : wp_X12_statementTold sh v0 Q m) : Cnv l G yX12_statementTold cX12_statementTold 2 (none : Option FieldType) 9 236 sh [.ref (G.1 + v0)] m Q := by
  refine con_v (ls := [(0, .ref (G.1 + v0))]) (by decide +kernel) rfl (Nat.le_of_ble_eq_true rfl) (fun F => ?_)
  show V G F M_X12_statementTold sh 0 0 (Zv G F sh Q) 0 [(0, .ref (G.1 + v0))] [] m
  unfold wp_X12_statementTold at h
  refine v_aload_n 0 0 dX12_statementTold_0 rfl rfl ?_
  obtain ⟨o1, h⟩ := h
  refine v_gI 12 2 dX12_statementTold_1 fg_RX12_291 o1 ?_
  refine v_istore_n (ls' := [(1, .int _), (0, .ref _)]) 1 dX12_statementTold_4 rfl (Nat.le_of_ble_eq_true rfl) rfl ?_
  refine v_aload_n 0 1 dX12_statementTold_5 rfl rfl ?_
  refine v_gI 12 55 dX12_statementTold_6 fg_RX12_390 o1 ?_
  refine v_bipush (80 : Int32) dX12_statementTold_9 (by decide) ?_
  refine v_icmp_ne 21 dX12_statementTold_11 (by decide) (fun hc => ?_) (fun hc => ?_)
  · replace h := Eq.mp (if_neg hc) h
    refine v_aload_n 0 1 dX12_statementTold_21 rfl rfl ?_
    refine v_aload_n 0 1 dX12_statementTold_22 rfl rfl ?_
    obtain ⟨b2, e3, h⟩ := h
    refine v_gR 12 13 dX12_statementTold_23 fg_RX12_27 o1 e3 ?_
    refine v_cVi [.ref _] mv_X12_takes ml_RX12_312 ⟨_, _, rfl⟩ o1 rfl rfl (Nat.le_of_ble_eq_true rfl) (Nat.le_of_ble_eq_true rfl) (Nat.le_of_ble_eq_true rfl) (Nat.zero_le _) (Nat.zero_le _) dX12_statementTold_26 (c_X12_takes h) (fun r4 m5 h => ?_)
    refine v_if_eq 39 dX12_statementTold_29 (by decide) (fun hc => ?_) (fun hc => ?_)
    · replace h := Eq.mp (if_pos hc) h
      refine v_aload_n 0 1 dX12_statementTold_39 rfl rfl ?_
      refine v_aload_n 0 1 dX12_statementTold_40 rfl rfl ?_
      obtain ⟨b6, e7, h⟩ := h
      refine v_gR 12 14 dX12_statementTold_41 fg_RX12_30 o1 e7 ?_
      refine v_cVi [.ref _] mv_X12_takes ml_RX12_312 ⟨_, _, rfl⟩ o1 rfl rfl (Nat.le_of_ble_eq_true rfl) (Nat.le_of_ble_eq_true rfl) (Nat.le_of_ble_eq_true rfl) (Nat.zero_le _) (Nat.zero_le _) dX12_statementTold_44 (c_X12_takes h) (fun r8 m9 h => ?_)
      refine v_if_eq 57 dX12_statementTold_47 (by decide) (fun hc => ?_) (fun hc => ?_)
      · replace h := Eq.mp (if_pos hc) h
        refine v_aload_n 0 1 dX12_statementTold_57 rfl rfl ?_
        refine v_aload_n 0 1 dX12_statementTold_58 rfl rfl ?_
        obtain ⟨b10, e11, h⟩ := h
        refine v_gR 12 15 dX12_statementTold_59 fg_RX12_33 o1 e11 ?_
        refine v_cVi [.ref _] mv_X12_takes ml_RX12_312 ⟨_, _, rfl⟩ o1 rfl rfl (Nat.le_of_ble_eq_true rfl) (Nat.le_of_ble_eq_true rfl) (Nat.le_of_ble_eq_true rfl) (Nat.zero_le _) (Nat.zero_le _) dX12_statementTold_62 (c_X12_takes h) (fun r12 m13 h => ?_)
        refine v_if_eq 88 dX12_statementTold_65 (by decide) (fun hc => ?_) (fun hc => ?_)
        · replace h := Eq.mp (if_pos hc) h
          refine v_aload_n 0 1 dX12_statementTold_88 rfl rfl ?_
          refine v_aload_n 0 1 dX12_statementTold_89 rfl rfl ?_
          obtain ⟨b14, e15, h⟩ := h
          refine v_gR 12 16 dX12_statementTold_90 fg_RX12_36 o1 e15 ?_
          refine v_cVi [.ref _] mv_X12_takes ml_RX12_312 ⟨_, _, rfl⟩ o1 rfl rfl (Nat.le_of_ble_eq_true rfl) (Nat.le_of_ble_eq_true rfl) (Nat.le_of_ble_eq_true rfl) (Nat.zero_le _) (Nat.zero_le _) dX12_statementTold_93 (c_X12_takes h) (fun r16 m17 h => ?_)
          refine v_if_eq 107 dX12_statementTold_96 (by decide) (fun hc => ?_) (fun hc => ?_)
          · replace h := Eq.mp (if_pos hc) h
            refine v_aload_n 0 1 dX12_statementTold_107 rfl rfl ?_
            refine v_aload_n 0 1 dX12_statementTold_108 rfl rfl ?_
            obtain ⟨b18, e19, h⟩ := h
            refine v_gR 12 20 dX12_statementTold_109 fg_RX12_48 o1 e19 ?_
            refine v_cVi [.ref _] mv_X12_takes ml_RX12_312 ⟨_, _, rfl⟩ o1 rfl rfl (Nat.le_of_ble_eq_true rfl) (Nat.le_of_ble_eq_true rfl) (Nat.le_of_ble_eq_true rfl) (Nat.zero_le _) (Nat.zero_le _) dX12_statementTold_112 (c_X12_takes h) (fun r20 m21 h => ?_)
            refine v_if_eq 126 dX12_statementTold_115 (by decide) (fun hc => ?_) (fun hc => ?_)
            · replace h := Eq.mp (if_pos hc) h
              refine v_aload_n 0 1 dX12_statementTold_126 rfl rfl ?_
              refine v_aload_n 0 1 dX12_statementTold_127 rfl rfl ?_
              obtain ⟨b22, e23, h⟩ := h
              refine v_gR 12 23 dX12_statementTold_128 fg_RX12_57 o1 e23 ?_
              refine v_cVi [.ref _] mv_X12_takes ml_RX12_312 ⟨_, _, rfl⟩ o1 rfl rfl (Nat.le_of_ble_eq_true rfl) (Nat.le_of_ble_eq_true rfl) (Nat.le_of_ble_eq_true rfl) (Nat.zero_le _) (Nat.zero_le _) dX12_statementTold_131 (c_X12_takes h) (fun r24 m25 h => ?_)
              refine v_if_eq 146 dX12_statementTold_134 (by decide) (fun hc => ?_) (fun hc => ?_)
              · replace h := Eq.mp (if_pos hc) h
                refine v_aload_n 0 1 dX12_statementTold_146 rfl rfl ?_
                refine v_aload_n 0 1 dX12_statementTold_147 rfl rfl ?_
                obtain ⟨b26, e27, h⟩ := h
                refine v_gR 12 24 dX12_statementTold_148 fg_RX12_60 o1 e27 ?_
                refine v_cVv [.ref _] mv_X12_asks ml_RX12_350 ⟨_, _, rfl⟩ o1 rfl rfl (Nat.le_of_ble_eq_true rfl) (Nat.le_of_ble_eq_true rfl) (Nat.le_of_ble_eq_true rfl) (Nat.zero_le _) (Nat.zero_le _) dX12_statementTold_151 (c_X12_asks h) (fun m29 h => ?_)
                refine v_aload_n 0 1 dX12_statementTold_154 rfl rfl ?_
                refine v_iconst (1 : Int32) dX12_statementTold_155 (by decide) ?_
                refine v_iload_n 1 0 dX12_statementTold_156 rfl rfl ?_
                refine v_cVv [.int _, .int _] mv_X12_codesTold ml_RX12_408 ⟨_, _, rfl⟩ o1 rfl rfl (Nat.le_of_ble_eq_true rfl) (Nat.le_of_ble_eq_true rfl) (Nat.le_of_ble_eq_true rfl) (Nat.zero_le _) (Nat.zero_le _) dX12_statementTold_157 (c_X12_codesTold h) (fun m31 h => ?_)
                refine v_sub [1] rfl ?_
                exact v_X12_statementTold_p160 h
              · replace h := Eq.mp (if_neg hc) h
                refine v_aload_n 0 1 dX12_statementTold_137 rfl rfl ?_
                refine v_iconst (0 : Int32) dX12_statementTold_138 (by decide) ?_
                refine v_iload_n 1 0 dX12_statementTold_139 rfl rfl ?_
                refine v_cVv [.int _, .int _] mv_X12_codesTold ml_RX12_408 ⟨_, _, rfl⟩ o1 rfl rfl (Nat.le_of_ble_eq_true rfl) (Nat.le_of_ble_eq_true rfl) (Nat.le_of_ble_eq_true rfl) (Nat.zero_le _) (Nat.zero_le _) dX12_statementTold_140 (c_X12_codesTold h) (fun m33 h => ?_)
                refine v_goto 160 dX12_statementTold_143 (by decide) ?_
                refine v_sub [1] rfl ?_
                exact v_X12_statementTold_p160 h
            · replace h := Eq.mp (if_neg hc) h
              refine v_aload_n 0 1 dX12_statementTold_118 rfl rfl ?_
              refine v_iload_n 1 0 dX12_statementTold_119 rfl rfl ?_
              refine v_cVv [.int _] mv_X12_callerTold ml_RX12_405 ⟨_, _, rfl⟩ o1 rfl rfl (Nat.le_of_ble_eq_true rfl) (Nat.le_of_ble_eq_true rfl) (Nat.le_of_ble_eq_true rfl) (Nat.zero_le _) (Nat.zero_le _) dX12_statementTold_120 (c_X12_callerTold h) (fun m35 h => ?_)
              refine v_goto 160 dX12_statementTold_123 (by decide) ?_
              refine v_sub [1] rfl ?_
              exact v_X12_statementTold_p160 h
          · replace h := Eq.mp (if_neg hc) h
            refine v_aload_n 0 1 dX12_statementTold_99 rfl rfl ?_
            refine v_iload_n 1 0 dX12_statementTold_100 rfl rfl ?_
            refine v_cVv [.int _] mv_X12_farmTold ml_RX12_402 ⟨_, _, rfl⟩ o1 rfl rfl (Nat.le_of_ble_eq_true rfl) (Nat.le_of_ble_eq_true rfl) (Nat.le_of_ble_eq_true rfl) (Nat.zero_le _) (Nat.zero_le _) dX12_statementTold_101 (c_X12_farmTold h) (fun m37 h => ?_)
            refine v_goto 160 dX12_statementTold_104 (by decide) ?_
            refine v_sub [1] rfl ?_
            exact v_X12_statementTold_p160 h
        · replace h := Eq.mp (if_neg hc) h
          refine v_aload_n 0 1 dX12_statementTold_68 rfl rfl ?_
          refine v_aload_n 0 1 dX12_statementTold_69 rfl rfl ?_
          refine v_iconst (0 : Int32) dX12_statementTold_70 (by decide) ?_
          refine v_aload_n 0 1 dX12_statementTold_71 rfl rfl ?_
          obtain ⟨b38, e39, h⟩ := h
          refine v_gR 12 42 dX12_statementTold_72 fg_RX12_111 o1 e39 ?_
          refine v_iconst (0 : Int32) dX12_statementTold_75 (by decide) ?_
          obtain ⟨i40, h⟩ := h
          refine v_iald dX12_statementTold_76 i40 ?_
          refine v_iconst (1 : Int32) dX12_statementTold_77 (by decide) ?_
          refine v_isub dX12_statementTold_78 ?_
          refine v_cVi [.int _, .int _] mv_X12_number ml_RX12_354 ⟨_, _, rfl⟩ o1 rfl rfl (Nat.le_of_ble_eq_true rfl) (Nat.le_of_ble_eq_true rfl) (Nat.le_of_ble_eq_true rfl) (Nat.zero_le _) (Nat.zero_le _) dX12_statementTold_79 (c_X12_number h) (fun r41 m42 h => ?_)
          refine v_pI 12 43 dX12_statementTold_82 fw_RX12_399 o1 ?_
          replace h := bnd_e h
          refine v_goto 160 dX12_statementTold_85 (by decide) ?_
          refine v_sub [1] rfl ?_
          exact v_X12_statementTold_p160 h
      · replace h := Eq.mp (if_neg hc) h
        refine v_aload_n 0 1 dX12_statementTold_50 rfl rfl ?_
        refine v_cVv [] mv_X12_stoneTold ml_RX12_396 ⟨_, _, rfl⟩ o1 rfl rfl (Nat.le_of_ble_eq_true rfl) (Nat.le_of_ble_eq_true rfl) (Nat.le_of_ble_eq_true rfl) (Nat.zero_le _) (Nat.zero_le _) dX12_statementTold_51 (c_X12_stoneTold h) (fun m45 h => ?_)
        refine v_goto 160 dX12_statementTold_54 (by decide) ?_
        refine v_sub [1] rfl ?_
        exact v_X12_statementTold_p160 h
    · replace h := Eq.mp (if_neg hc) h
      refine v_aload_n 0 1 dX12_statementTold_32 rfl rfl ?_
      refine v_cVv [] mv_X12_highTold ml_RX12_393 ⟨_, _, rfl⟩ o1 rfl rfl (Nat.le_of_ble_eq_true rfl) (Nat.le_of_ble_eq_true rfl) (Nat.le_of_ble_eq_true rfl) (Nat.zero_le _) (Nat.zero_le _) dX12_statementTold_33 (c_X12_highTold h) (fun m47 h => ?_)
      refine v_goto 160 dX12_statementTold_36 (by decide) ?_
      refine v_sub [1] rfl ?_
      exact v_X12_statementTold_p160 h
  · replace h := Eq.mp (if_pos hc) h
    refine v_aload_n 0 1 dX12_statementTold_14 rfl rfl ?_
    refine v_iconst (5 : Int32) dX12_statementTold_15 (by decide) ?_
    refine v_iload_n 1 0 dX12_statementTold_16 rfl rfl ?_
    refine v_cVv [.int _, .int _] mv_X12_fail ml_RX12_315 ⟨_, _, rfl⟩ o1 rfl rfl (Nat.le_of_ble_eq_true rfl) (Nat.le_of_ble_eq_true rfl) (Nat.le_of_ble_eq_true rfl) (Nat.zero_le _) (Nat.zero_le _) dX12_statementTold_17 (c_X12_fail h) (fun m49 h => ?_)
    exact v_vret dX12_statementTold_20 rfl h
/-! CalledRiverModel.plain -/
theorem dX12_plain_0 : decode cX12_plain 0 = .ok (.aload_n 0, 1) := by decide +kernel
theorem dX12_plain_1 : decode cX12_plain 1 = .ok (.aload_n 0, 1) := by decide +kernel
theorem dX12_plain_2 : decode cX12_plain 2 = .ok (.getfield 282, 3) := by decide +kernel
theorem dX12_plain_5 : decode cX12_plain 5 = .ok (.putfield 294, 3) := by decide +kernel
theorem dX12_plain_8 : decode cX12_plain 8 = .ok (.aload_n 0, 1) := by decide +kernel
theorem dX12_plain_9 : decode cX12_plain 9 = .ok (.iconst 0, 1) := by decide +kernel
theorem dX12_plain_10 : decode cX12_plain 10 = .ok (.putfield 282, 3) := by decide +kernel
theorem dX12_plain_13 : decode cX12_plain 13 = .ok (.aload_n 0, 1) := by decide +kernel
theorem dX12_plain_14 : decode cX12_plain 14 = .ok (.iconst 0, 1) := by decide +kernel
theorem dX12_plain_15 : decode cX12_plain 15 = .ok (.putfield 291, 3) := by decide +kernel
theorem dX12_plain_18 : decode cX12_plain 18 = .ok (.aload_n 0, 1) := by decide +kernel
theorem dX12_plain_19 : decode cX12_plain 19 = .ok (.iconst (-1), 1) := by decide +kernel
theorem dX12_plain_20 : decode cX12_plain 20 = .ok (.putfield 305, 3) := by decide +kernel
theorem dX12_plain_23 : decode cX12_plain 23 = .ok (.aload_n 0, 1) := by decide +kernel
theorem dX12_plain_24 : decode cX12_plain 24 = .ok (.iconst 0, 1) := by decide +kernel
theorem dX12_plain_25 : decode cX12_plain 25 = .ok (.putfield 285, 3) := by decide +kernel
theorem dX12_plain_28 : decode cX12_plain 28 = .ok (.aload_n 0, 1) := by decide +kernel
theorem dX12_plain_29 : decode cX12_plain 29 = .ok (.iconst (-1), 1) := by decide +kernel
theorem dX12_plain_30 : decode cX12_plain 30 = .ok (.putfield 288, 3) := by decide +kernel
theorem dX12_plain_33 : decode cX12_plain 33 = .ok (.aload_n 0, 1) := by decide +kernel
theorem dX12_plain_34 : decode cX12_plain 34 = .ok (.iconst 0, 1) := by decide +kernel
theorem dX12_plain_35 : decode cX12_plain 35 = .ok (.putfield 387, 3) := by decide +kernel
theorem dX12_plain_38 : decode cX12_plain 38 = .ok (.aload_n 0, 1) := by decide +kernel
theorem dX12_plain_39 : decode cX12_plain 39 = .ok (.iconst 0, 1) := by decide +kernel
theorem dX12_plain_40 : decode cX12_plain 40 = .ok (.putfield 399, 3) := by decide +kernel
theorem dX12_plain_43 : decode cX12_plain 43 = .ok (.iconst 0, 1) := by decide +kernel
theorem dX12_plain_44 : decode cX12_plain 44 = .ok (.istore_n 1, 1) := by decide +kernel
theorem dX12_plain_45 : decode cX12_plain 45 = .ok (.iload_n 1, 1) := by decide +kernel
theorem dX12_plain_46 : decode cX12_plain 46 = .ok (.iconst 2, 1) := by decide +kernel
theorem dX12_plain_47 : decode cX12_plain 47 = .ok (.if_icmp .ge 23, 3) := by decide +kernel
theorem dX12_plain_50 : decode cX12_plain 50 = .ok (.aload_n 0, 1) := by decide +kernel
theorem dX12_plain_51 : decode cX12_plain 51 = .ok (.getfield 114, 3) := by decide +kernel
theorem dX12_plain_54 : decode cX12_plain 54 = .ok (.iload_n 1, 1) := by decide +kernel
theorem dX12_plain_55 : decode cX12_plain 55 = .ok (.iconst 0, 1) := by decide +kernel
theorem dX12_plain_56 : decode cX12_plain 56 = .ok (.iastore, 1) := by decide +kernel
theorem dX12_plain_57 : decode cX12_plain 57 = .ok (.aload_n 0, 1) := by decide +kernel
theorem dX12_plain_58 : decode cX12_plain 58 = .ok (.getfield 134, 3) := by decide +kernel
theorem dX12_plain_61 : decode cX12_plain 61 = .ok (.iload_n 1, 1) := by decide +kernel
theorem dX12_plain_62 : decode cX12_plain 62 = .ok (.iconst (-1), 1) := by decide +kernel
theorem dX12_plain_63 : decode cX12_plain 63 = .ok (.iastore, 1) := by decide +kernel
theorem dX12_plain_64 : decode cX12_plain 64 = .ok (.iinc 1 1, 3) := by decide +kernel
theorem dX12_plain_67 : decode cX12_plain 67 = .ok (.goto (-22), 3) := by decide +kernel
theorem dX12_plain_70 : decode cX12_plain 70 = .ok (.iconst 0, 1) := by decide +kernel
theorem dX12_plain_71 : decode cX12_plain 71 = .ok (.istore_n 1, 1) := by decide +kernel
theorem dX12_plain_72 : decode cX12_plain 72 = .ok (.iload_n 1, 1) := by decide +kernel
theorem dX12_plain_73 : decode cX12_plain 73 = .ok (.bipush 36, 2) := by decide +kernel
theorem dX12_plain_75 : decode cX12_plain 75 = .ok (.if_icmp .ge 23, 3) := by decide +kernel
theorem dX12_plain_78 : decode cX12_plain 78 = .ok (.aload_n 0, 1) := by decide +kernel
theorem dX12_plain_79 : decode cX12_plain 79 = .ok (.getfield 127, 3) := by decide +kernel
theorem dX12_plain_82 : decode cX12_plain 82 = .ok (.iload_n 1, 1) := by decide +kernel
theorem dX12_plain_83 : decode cX12_plain 83 = .ok (.iconst 0, 1) := by decide +kernel
theorem dX12_plain_84 : decode cX12_plain 84 = .ok (.iastore, 1) := by decide +kernel
theorem dX12_plain_85 : decode cX12_plain 85 = .ok (.aload_n 0, 1) := by decide +kernel
theorem dX12_plain_86 : decode cX12_plain 86 = .ok (.getfield 130, 3) := by decide +kernel
theorem dX12_plain_89 : decode cX12_plain 89 = .ok (.iload_n 1, 1) := by decide +kernel
theorem dX12_plain_90 : decode cX12_plain 90 = .ok (.iconst 0, 1) := by decide +kernel
theorem dX12_plain_91 : decode cX12_plain 91 = .ok (.bastore, 1) := by decide +kernel
theorem dX12_plain_92 : decode cX12_plain 92 = .ok (.iinc 1 1, 3) := by decide +kernel
theorem dX12_plain_95 : decode cX12_plain 95 = .ok (.goto (-23), 3) := by decide +kernel
theorem dX12_plain_98 : decode cX12_plain 98 = .ok (.aload_n 0, 1) := by decide +kernel
theorem dX12_plain_99 : decode cX12_plain 99 = .ok (.invokevirtual 411, 3) := by decide +kernel
theorem dX12_plain_102 : decode cX12_plain 102 = .ok (.aload_n 0, 1) := by decide +kernel
theorem dX12_plain_103 : decode cX12_plain 103 = .ok (.iconst 1, 1) := by decide +kernel
theorem dX12_plain_104 : decode cX12_plain 104 = .ok (.putfield 390, 3) := by decide +kernel
theorem dX12_plain_107 : decode cX12_plain 107 = .ok (.aload_n 0, 1) := by decide +kernel
theorem dX12_plain_108 : decode cX12_plain 108 = .ok (.getfield 285, 3) := by decide +kernel
theorem dX12_plain_111 : decode cX12_plain 111 = .ok (.ifCond .ne 18, 3) := by decide +kernel
theorem dX12_plain_114 : decode cX12_plain 114 = .ok (.aload_n 0, 1) := by decide +kernel
theorem dX12_plain_115 : decode cX12_plain 115 = .ok (.invokevirtual 297, 3) := by decide +kernel
theorem dX12_plain_118 : decode cX12_plain 118 = .ok (.iconst (-1), 1) := by decide +kernel
theorem dX12_plain_119 : decode cX12_plain 119 = .ok (.if_icmp .eq 10, 3) := by decide +kernel
theorem dX12_plain_122 : decode cX12_plain 122 = .ok (.aload_n 0, 1) := by decide +kernel
theorem dX12_plain_123 : decode cX12_plain 123 = .ok (.invokevirtual 414, 3) := by decide +kernel
theorem dX12_plain_126 : decode cX12_plain 126 = .ok (.goto (-19), 3) := by decide +kernel
theorem dX12_plain_129 : decode cX12_plain 129 = .ok (.aload_n 0, 1) := by decide +kernel
theorem dX12_plain_130 : decode cX12_plain 130 = .ok (.aload_n 0, 1) := by decide +kernel
theorem dX12_plain_131 : decode cX12_plain 131 = .ok (.getfield 285, 3) := by decide +kernel
theorem dX12_plain_134 : decode cX12_plain 134 = .ok (.putfield 417, 3) := by decide +kernel
theorem dX12_plain_137 : decode cX12_plain 137 = .ok (.aload_n 0, 1) := by decide +kernel
theorem dX12_plain_138 : decode cX12_plain 138 = .ok (.aload_n 0, 1) := by decide +kernel
theorem dX12_plain_139 : decode cX12_plain 139 = .ok (.getfield 288, 3) := by decide +kernel
theorem dX12_plain_142 : decode cX12_plain 142 = .ok (.putfield 13, 3) := by decide +kernel
theorem dX12_plain_145 : decode cX12_plain 145 = .ok (.aload_n 0, 1) := by decide +kernel
theorem dX12_plain_146 : decode cX12_plain 146 = .ok (.getfield 285, 3) := by decide +kernel
theorem dX12_plain_149 : decode cX12_plain 149 = .ok (.ifCond .eq 15, 3) := by decide +kernel
theorem dX12_plain_152 : decode cX12_plain 152 = .ok (.aload_n 0, 1) := by decide +kernel
theorem dX12_plain_153 : decode cX12_plain 153 = .ok (.getfield 17, 3) := by decide +kernel
theorem dX12_plain_156 : decode cX12_plain 156 = .ok (.iconst 1, 1) := by decide +kernel
theorem dX12_plain_157 : decode cX12_plain 157 = .ok (.dup2, 1) := by decide +kernel
theorem dX12_plain_158 : decode cX12_plain 158 = .ok (.iaload, 1) := by decide +kernel
theorem dX12_plain_159 : decode cX12_plain 159 = .ok (.iconst 1, 1) := by decide +kernel
theorem dX12_plain_160 : decode cX12_plain 160 = .ok (.iadd, 1) := by decide +kernel
theorem dX12_plain_161 : decode cX12_plain 161 = .ok (.iastore, 1) := by decide +kernel
theorem dX12_plain_162 : decode cX12_plain 162 = .ok (.iconst (-1), 1) := by decide +kernel
theorem dX12_plain_163 : decode cX12_plain 163 = .ok (.ireturn, 1) := by decide +kernel
theorem dX12_plain_164 : decode cX12_plain 164 = .ok (.aload_n 0, 1) := by decide +kernel
theorem dX12_plain_165 : decode cX12_plain 165 = .ok (.invokevirtual 420, 3) := by decide +kernel
theorem dX12_plain_168 : decode cX12_plain 168 = .ok (.aload_n 0, 1) := by decide +kernel
theorem dX12_plain_169 : decode cX12_plain 169 = .ok (.getfield 390, 3) := by decide +kernel
theorem dX12_plain_172 : decode cX12_plain 172 = .ok (.ireturn, 1) := by decide +kernel
def X12_plain_p129 (sh : Shp) (v0 : Nat) (Q : Int32 → Mem → Prop) (m : Mem) : Prop :=
  Ob sh v0 12 ∧ (bnd (sI m v0 7 (m.1 v0 5)) (fun m38 => bnd (sI m38 v0 8 (m38.1 v0 6)) (fun m39 => if (m39.1 v0 5) = 0 then (wp_X12_stands sh v0 (fun m41 => Q (m41.1 v0 55) m41) m39) else (∃ b42 : Nat, m39.2.2 v0 9 = some b42 ∧ (Ix sh b42 100 (1 : Int32) ∧ (bnd (sI m39 b42 (1 : Int32).toNatClampNeg ((m39.1 b42 (1 : Int32).toNatClampNeg) + (1 : Int32))) (fun m45 => Q (-1 : Int32) m45)))))))
def X12_plain_p107b (sh : Shp) (v0 : Nat) (Q : Int32 → Mem → Prop) (K107 : Mem → Prop) (m : Mem) : Prop :=
  Ob sh v0 12 ∧ (if (m.1 v0 5) = 0 then (wp_X12_look sh v0 (fun r33 m34 => if r33 = (-1 : Int32) then (X12_plain_p129 sh v0 Q m34) else (wp_X12_statementTold sh v0 (fun m36 => K107 m36) m34)) m) else (X12_plain_p129 sh v0 Q m))
def X12_plain_p107n (sh : Shp) (v0 : Nat) (Q : Int32 → Mem → Prop) : Nat → Mem → Prop
  | 0 => fun _ => False
  | n + 1 => X12_plain_p107b sh v0 Q (X12_plain_p107n sh v0 Q n)
def X12_plain_p107 (sh : Shp) (v0 : Nat) (Q : Int32 → Mem → Prop) (m : Mem) : Prop := ∃ n, X12_plain_p107n sh v0 Q n m
def X12_plain_p72b (sh : Shp) (v0 : Nat) (Q : Int32 → Mem → Prop) (K72 : Int32 → Mem → Prop) (v1 : Int32) (m : Mem) : Prop :=
  if (36 : Int32) ≤ v1 then (Ob sh v0 12 ∧ wp_X12_plainTold sh v0 (fun m20 => bnd (sI m20 v0 55 (1 : Int32)) (fun m22 => X12_plain_p107 sh v0 Q m22)) m) else (Ob sh v0 12 ∧ ∃ b24 : Nat, m.2.2 v0 49 = some b24 ∧ (Ix sh b24 100 v1 ∧ bnd (sI m b24 v1.toNatClampNeg (0 : Int32)) (fun m27 => ∃ b28 : Nat, m27.2.2 v0 50 = some b28 ∧ (Ix sh b28 102 v1 ∧ bnd (sI m27 b28 v1.toNatClampNeg (vp_nar .boolean (0 : Int32))) (fun m31 => K72 (v1 + (1 : Int32)) m31)))))
def X12_plain_p72n (sh : Shp) (v0 : Nat) (Q : Int32 → Mem → Prop) : Nat → Int32 → Mem → Prop
  | 0 => fun _ _ => False
  | n + 1 => X12_plain_p72b sh v0 Q (X12_plain_p72n sh v0 Q n)
def X12_plain_p72 (sh : Shp) (v0 : Nat) (Q : Int32 → Mem → Prop) (v1 : Int32) (m : Mem) : Prop := ∃ n, X12_plain_p72n sh v0 Q n v1 m
def X12_plain_p45b (sh : Shp) (v0 : Nat) (Q : Int32 → Mem → Prop) (K45 : Int32 → Mem → Prop) (v1 : Int32) (m : Mem) : Prop :=
  if (2 : Int32) ≤ v1 then (X12_plain_p72 sh v0 Q (0 : Int32) m) else (Ob sh v0 12 ∧ ∃ b11 : Nat, m.2.2 v0 45 = some b11 ∧ (Ix sh b11 100 v1 ∧ bnd (sI m b11 v1.toNatClampNeg (0 : Int32)) (fun m14 => ∃ b15 : Nat, m14.2.2 v0 51 = some b15 ∧ (Ix sh b15 100 v1 ∧ bnd (sI m14 b15 v1.toNatClampNeg (-1 : Int32)) (fun m18 => K45 (v1 + (1 : Int32)) m18)))))
def X12_plain_p45n (sh : Shp) (v0 : Nat) (Q : Int32 → Mem → Prop) : Nat → Int32 → Mem → Prop
  | 0 => fun _ _ => False
  | n + 1 => X12_plain_p45b sh v0 Q (X12_plain_p45n sh v0 Q n)
def X12_plain_p45 (sh : Shp) (v0 : Nat) (Q : Int32 → Mem → Prop) (v1 : Int32) (m : Mem) : Prop := ∃ n, X12_plain_p45n sh v0 Q n v1 m
def wp_X12_plain (sh : Shp) (v0 : Nat) (Q : Int32 → Mem → Prop) (m : Mem) : Prop :=
  Ob sh v0 12 ∧ (bnd (sI m v0 3 (m.1 v0 1)) (fun m2 => bnd (sI m2 v0 1 (0 : Int32)) (fun m3 => bnd (sI m3 v0 2 (0 : Int32)) (fun m4 => bnd (sI m4 v0 4 (-1 : Int32)) (fun m5 => bnd (sI m5 v0 5 (0 : Int32)) (fun m6 => bnd (sI m6 v0 6 (-1 : Int32)) (fun m7 => bnd (sI m7 v0 54 (0 : Int32)) (fun m8 => bnd (sI m8 v0 43 (0 : Int32)) (fun m9 => X12_plain_p45 sh v0 Q (0 : Int32) m9)))))))))
abbrev M_X12_plain : Mi := (cX12_plain, 2, RX12, (Option.some FieldType.int), "plain", 10, 257, 0, 0)
set_option maxHeartbeats 4000000 in
set_option maxRecDepth 100000 in
theorem v_X12_plain_p129 {G : Gl} {F : Fr} {sh : Shp} {v0 : Nat} {Q : Int32 → Mem → Prop} {m : Mem} (h : X12_plain_p129 sh v0 Q m) : V G F M_X12_plain sh 0 0 (Zi G F sh Q) 129 [(0, .ref (G.1 + v0))] [] m := by
  unfold X12_plain_p129 at h
  refine v_aload_n 0 0 dX12_plain_129 rfl rfl ?_
  refine v_aload_n 0 0 dX12_plain_130 rfl rfl ?_
  obtain ⟨o37, h⟩ := h
  refine v_gI 12 5 dX12_plain_131 fg_RX12_285 o37 ?_
  refine v_pI 12 7 dX12_plain_134 fw_RX12_417 o37 ?_
  replace h := bnd_e h
  refine v_aload_n 0 0 dX12_plain_137 rfl rfl ?_
  refine v_aload_n 0 0 dX12_plain_138 rfl rfl ?_
  refine v_gI 12 6 dX12_plain_139 fg_RX12_288 o37 ?_
  refine v_pI 12 8 dX12_plain_142 fw_RX12_13 o37 ?_
  replace h := bnd_e h
  refine v_aload_n 0 0 dX12_plain_145 rfl rfl ?_
  refine v_gI 12 5 dX12_plain_146 fg_RX12_285 o37 ?_
  refine v_if_eq 164 dX12_plain_149 (by decide) (fun hc => ?_) (fun hc => ?_)
  · replace h := Eq.mp (if_pos hc) h
    refine v_aload_n 0 0 dX12_plain_164 rfl rfl ?_
    refine v_cVv [] mv_X12_stands ml_RX12_420 ⟨_, _, rfl⟩ o37 rfl rfl (Nat.le_of_ble_eq_true rfl) (Nat.le_of_ble_eq_true rfl) (Nat.le_of_ble_eq_true rfl) (Nat.zero_le _) (Nat.zero_le _) dX12_plain_165 (c_X12_stands h) (fun m41 h => ?_)
    refine v_aload_n 0 0 dX12_plain_168 rfl rfl ?_
    refine v_gI 12 55 dX12_plain_169 fg_RX12_390 o37 ?_
    exact v_iret dX12_plain_172 rfl rfl h
  · replace h := Eq.mp (if_neg hc) h
    refine v_aload_n 0 0 dX12_plain_152 rfl rfl ?_
    obtain ⟨b42, e43, h⟩ := h
    refine v_gR 12 9 dX12_plain_153 fg_RX12_17 o37 e43 ?_
    refine v_iconst (1 : Int32) dX12_plain_156 (by decide) ?_
    refine v_dup2 dX12_plain_157 rfl rfl ?_
    obtain ⟨i44, h⟩ := h
    refine v_iald dX12_plain_158 i44 ?_
    refine v_iconst (1 : Int32) dX12_plain_159 (by decide) ?_
    refine v_iadd dX12_plain_160 ?_
    refine v_iast dX12_plain_161 i44 ?_
    replace h := bnd_e h
    refine v_iconst (-1 : Int32) dX12_plain_162 (by decide) ?_
    exact v_iret dX12_plain_163 rfl rfl h
set_option maxHeartbeats 4000000 in
set_option maxRecDepth 100000 in
theorem v_X12_plain_p107b {G : Gl} {F : Fr} {sh : Shp} {v0 : Nat} {Q : Int32 → Mem → Prop} {K107 : Mem → Prop} {m : Mem} (hK107 : ∀ (m : Mem), K107 m → V G F M_X12_plain sh 0 0 (Zi G F sh Q) 107 [(0, .ref (G.1 + v0))] [] m) (h : X12_plain_p107b sh v0 Q K107 m) : V G F M_X12_plain sh 0 0 (Zi G F sh Q) 107 [(0, .ref (G.1 + v0))] [] m := by
  unfold X12_plain_p107b at h
  refine v_aload_n 0 0 dX12_plain_107 rfl rfl ?_
  obtain ⟨o32, h⟩ := h
  refine v_gI 12 5 dX12_plain_108 fg_RX12_285 o32 ?_
  refine v_if_ne 129 dX12_plain_111 (by decide) (fun hc => ?_) (fun hc => ?_)
  · replace h := Eq.mp (if_neg hc) h
    refine v_sub [0] rfl ?_
    exact v_X12_plain_p129 h
  · replace h := Eq.mp (if_pos hc) h
    refine v_aload_n 0 0 dX12_plain_114 rfl rfl ?_
    refine v_cVi [] mv_X12_look ml_RX12_297 ⟨_, _, rfl⟩ o32 rfl rfl (Nat.le_of_ble_eq_true rfl) (Nat.le_of_ble_eq_true rfl) (Nat.le_of_ble_eq_true rfl) (Nat.zero_le _) (Nat.zero_le _) dX12_plain_115 (c_X12_look h) (fun r33 m34 h => ?_)
    refine v_iconst (-1 : Int32) dX12_plain_118 (by decide) ?_
    refine v_icmp_eq 129 dX12_plain_119 (by decide) (fun hc => ?_) (fun hc => ?_)
    · replace h := Eq.mp (if_pos hc) h
      refine v_sub [0] rfl ?_
      exact v_X12_plain_p129 h
    · replace h := Eq.mp (if_neg hc) h
      refine v_aload_n 0 0 dX12_plain_122 rfl rfl ?_
      refine v_cVv [] mv_X12_statementTold ml_RX12_414 ⟨_, _, rfl⟩ o32 rfl rfl (Nat.le_of_ble_eq_true rfl) (Nat.le_of_ble_eq_true rfl) (Nat.le_of_ble_eq_true rfl) (Nat.zero_le _) (Nat.zero_le _) dX12_plain_123 (c_X12_statementTold h) (fun m36 h => ?_)
      refine v_goto 107 dX12_plain_126 (by decide) ?_
      refine v_sub [0] rfl ?_
      exact hK107  _ h
set_option maxHeartbeats 4000000 in
set_option maxRecDepth 100000 in
theorem v_X12_plain_p107 {G : Gl} {F : Fr} {sh : Shp} {v0 : Nat} {Q : Int32 → Mem → Prop} {m : Mem} (h : X12_plain_p107 sh v0 Q m) : V G F M_X12_plain sh 0 0 (Zi G F sh Q) 107 [(0, .ref (G.1 + v0))] [] m := by
  obtain ⟨n, h⟩ := h
  induction n generalizing  m with
  | zero => exact h.elim
  | succ n ih => exact v_X12_plain_p107b (fun  _ h => ih h) h
set_option maxHeartbeats 4000000 in
set_option maxRecDepth 100000 in
theorem v_X12_plain_p72b {G : Gl} {F : Fr} {sh : Shp} {v0 : Nat} {v1 : Int32} {Q : Int32 → Mem → Prop} {K72 : Int32 → Mem → Prop} {m : Mem} (hK72 : ∀ (x1 : Int32) (m : Mem), K72 x1 m → V G F M_X12_plain sh 0 0 (Zi G F sh Q) 72 [(0, .ref (G.1 + v0)), (1, .int x1)] [] m) (h : X12_plain_p72b sh v0 Q K72 v1 m) : V G F M_X12_plain sh 0 0 (Zi G F sh Q) 72 [(0, .ref (G.1 + v0)), (1, .int v1)] [] m := by
  unfold X12_plain_p72b at h
  refine v_iload_n 1 1 dX12_plain_72 rfl rfl ?_
  refine v_bipush (36 : Int32) dX12_plain_73 (by decide) ?_
  refine v_icmp_ge 98 dX12_plain_75 (by decide) (fun hc => ?_) (fun hc => ?_)
  · replace h := Eq.mp (if_pos hc) h
    refine v_aload_n 0 0 dX12_plain_98 rfl rfl ?_
    obtain ⟨o21, h⟩ := h
    refine v_cVv [] mv_X12_plainTold ml_RX12_411 ⟨_, _, rfl⟩ o21 rfl rfl (Nat.le_of_ble_eq_true rfl) (Nat.le_of_ble_eq_true rfl) (Nat.le_of_ble_eq_true rfl) (Nat.zero_le _) (Nat.zero_le _) dX12_plain_99 (c_X12_plainTold h) (fun m20 h => ?_)
    refine v_aload_n 0 0 dX12_plain_102 rfl rfl ?_
    refine v_iconst (1 : Int32) dX12_plain_103 (by decide) ?_
    refine v_pI 12 55 dX12_plain_104 fw_RX12_390 o21 ?_
    replace h := bnd_e h
    refine v_sub [0] rfl ?_
    exact v_X12_plain_p107 h
  · replace h := Eq.mp (if_neg hc) h
    refine v_aload_n 0 0 dX12_plain_78 rfl rfl ?_
    obtain ⟨o23, h⟩ := h
    obtain ⟨b24, e25, h⟩ := h
    refine v_gR 12 49 dX12_plain_79 fg_RX12_127 o23 e25 ?_
    refine v_iload_n 1 1 dX12_plain_82 rfl rfl ?_
    refine v_iconst (0 : Int32) dX12_plain_83 (by decide) ?_
    obtain ⟨i26, h⟩ := h
    refine v_iast dX12_plain_84 i26 ?_
    replace h := bnd_e h
    refine v_aload_n 0 0 dX12_plain_85 rfl rfl ?_
    obtain ⟨b28, e29, h⟩ := h
    refine v_gR 12 50 dX12_plain_86 fg_RX12_130 o23 e29 ?_
    refine v_iload_n 1 1 dX12_plain_89 rfl rfl ?_
    refine v_iconst (0 : Int32) dX12_plain_90 (by decide) ?_
    obtain ⟨i30, h⟩ := h
    refine v_zast dX12_plain_91 i30 ?_
    replace h := bnd_e h
    refine v_iinc (ls' := [(1, .int _), (0, .ref _)]) 1 1 dX12_plain_92 rfl (congrArg (HAdd.hAdd _) (by decide : Int32.ofInt (1) = (1 : Int32))) (Nat.le_of_ble_eq_true rfl) rfl ?_
    refine v_goto 72 dX12_plain_95 (by decide) ?_
    refine v_sub [1, 0] rfl ?_
    exact hK72 _ _ h
set_option maxHeartbeats 4000000 in
set_option maxRecDepth 100000 in
theorem v_X12_plain_p72 {G : Gl} {F : Fr} {sh : Shp} {v0 : Nat} {v1 : Int32} {Q : Int32 → Mem → Prop} {m : Mem} (h : X12_plain_p72 sh v0 Q v1 m) : V G F M_X12_plain sh 0 0 (Zi G F sh Q) 72 [(0, .ref (G.1 + v0)), (1, .int v1)] [] m := by
  obtain ⟨n, h⟩ := h
  induction n generalizing v1 m with
  | zero => exact h.elim
  | succ n ih => exact v_X12_plain_p72b (fun _ _ h => ih h) h
set_option maxHeartbeats 4000000 in
set_option maxRecDepth 100000 in
theorem v_X12_plain_p45b {G : Gl} {F : Fr} {sh : Shp} {v0 : Nat} {v1 : Int32} {Q : Int32 → Mem → Prop} {K45 : Int32 → Mem → Prop} {m : Mem} (hK45 : ∀ (x1 : Int32) (m : Mem), K45 x1 m → V G F M_X12_plain sh 0 0 (Zi G F sh Q) 45 [(0, .ref (G.1 + v0)), (1, .int x1)] [] m) (h : X12_plain_p45b sh v0 Q K45 v1 m) : V G F M_X12_plain sh 0 0 (Zi G F sh Q) 45 [(0, .ref (G.1 + v0)), (1, .int v1)] [] m := by
  unfold X12_plain_p45b at h
  refine v_iload_n 1 1 dX12_plain_45 rfl rfl ?_
  refine v_iconst (2 : Int32) dX12_plain_46 (by decide) ?_
  refine v_icmp_ge 70 dX12_plain_47 (by decide) (fun hc => ?_) (fun hc => ?_)
  · replace h := Eq.mp (if_pos hc) h
    refine v_iconst (0 : Int32) dX12_plain_70 (by decide) ?_
    refine v_istore_n (ls' := [(1, .int _), (0, .ref _)]) 1 dX12_plain_71 rfl (Nat.le_of_ble_eq_true rfl) rfl ?_
    refine v_sub [1, 0] rfl ?_
    exact v_X12_plain_p72 h
  · replace h := Eq.mp (if_neg hc) h
    refine v_aload_n 0 0 dX12_plain_50 rfl rfl ?_
    obtain ⟨o10, h⟩ := h
    obtain ⟨b11, e12, h⟩ := h
    refine v_gR 12 45 dX12_plain_51 fg_RX12_114 o10 e12 ?_
    refine v_iload_n 1 1 dX12_plain_54 rfl rfl ?_
    refine v_iconst (0 : Int32) dX12_plain_55 (by decide) ?_
    obtain ⟨i13, h⟩ := h
    refine v_iast dX12_plain_56 i13 ?_
    replace h := bnd_e h
    refine v_aload_n 0 0 dX12_plain_57 rfl rfl ?_
    obtain ⟨b15, e16, h⟩ := h
    refine v_gR 12 51 dX12_plain_58 fg_RX12_134 o10 e16 ?_
    refine v_iload_n 1 1 dX12_plain_61 rfl rfl ?_
    refine v_iconst (-1 : Int32) dX12_plain_62 (by decide) ?_
    obtain ⟨i17, h⟩ := h
    refine v_iast dX12_plain_63 i17 ?_
    replace h := bnd_e h
    refine v_iinc (ls' := [(1, .int _), (0, .ref _)]) 1 1 dX12_plain_64 rfl (congrArg (HAdd.hAdd _) (by decide : Int32.ofInt (1) = (1 : Int32))) (Nat.le_of_ble_eq_true rfl) rfl ?_
    refine v_goto 45 dX12_plain_67 (by decide) ?_
    refine v_sub [1, 0] rfl ?_
    exact hK45 _ _ h
set_option maxHeartbeats 4000000 in
set_option maxRecDepth 100000 in
theorem v_X12_plain_p45 {G : Gl} {F : Fr} {sh : Shp} {v0 : Nat} {v1 : Int32} {Q : Int32 → Mem → Prop} {m : Mem} (h : X12_plain_p45 sh v0 Q v1 m) : V G F M_X12_plain sh 0 0 (Zi G F sh Q) 45 [(0, .ref (G.1 + v0)), (1, .int v1)] [] m := by
  obtain ⟨n, h⟩ := h
  induction n generalizing v1 m with
  | zero => exact h.elim
  | succ n ih => exact v_X12_plain_p45b (fun _ _ h => ih h) h
set_option maxHeartbeats 4000000 in
set_option maxRecDepth 100000 in
theorem c_X12_plain {l : Launch} {G : Gl} {sh : Shp} {v0 : Nat} {Q : Int32 → Mem → Prop} {m : Mem} (h : wp_X12_plain sh v0 Q m) : Cni l G yX12_plain cX12_plain 2 (Option.some FieldType.int) 10 257 sh [.ref (G.1 + v0)] m Q := by
  refine con_i (ls := [(0, .ref (G.1 + v0))]) (by decide +kernel) rfl (Nat.le_of_ble_eq_true rfl) (fun F => ?_)
  show V G F M_X12_plain sh 0 0 (Zi G F sh Q) 0 [(0, .ref (G.1 + v0))] [] m
  unfold wp_X12_plain at h
  refine v_aload_n 0 0 dX12_plain_0 rfl rfl ?_
  refine v_aload_n 0 0 dX12_plain_1 rfl rfl ?_
  obtain ⟨o1, h⟩ := h
  refine v_gI 12 1 dX12_plain_2 fg_RX12_282 o1 ?_
  refine v_pI 12 3 dX12_plain_5 fw_RX12_294 o1 ?_
  replace h := bnd_e h
  refine v_aload_n 0 0 dX12_plain_8 rfl rfl ?_
  refine v_iconst (0 : Int32) dX12_plain_9 (by decide) ?_
  refine v_pI 12 1 dX12_plain_10 fw_RX12_282 o1 ?_
  replace h := bnd_e h
  refine v_aload_n 0 0 dX12_plain_13 rfl rfl ?_
  refine v_iconst (0 : Int32) dX12_plain_14 (by decide) ?_
  refine v_pI 12 2 dX12_plain_15 fw_RX12_291 o1 ?_
  replace h := bnd_e h
  refine v_aload_n 0 0 dX12_plain_18 rfl rfl ?_
  refine v_iconst (-1 : Int32) dX12_plain_19 (by decide) ?_
  refine v_pI 12 4 dX12_plain_20 fw_RX12_305 o1 ?_
  replace h := bnd_e h
  refine v_aload_n 0 0 dX12_plain_23 rfl rfl ?_
  refine v_iconst (0 : Int32) dX12_plain_24 (by decide) ?_
  refine v_pI 12 5 dX12_plain_25 fw_RX12_285 o1 ?_
  replace h := bnd_e h
  refine v_aload_n 0 0 dX12_plain_28 rfl rfl ?_
  refine v_iconst (-1 : Int32) dX12_plain_29 (by decide) ?_
  refine v_pI 12 6 dX12_plain_30 fw_RX12_288 o1 ?_
  replace h := bnd_e h
  refine v_aload_n 0 0 dX12_plain_33 rfl rfl ?_
  refine v_iconst (0 : Int32) dX12_plain_34 (by decide) ?_
  refine v_pI 12 54 dX12_plain_35 fw_RX12_387 o1 ?_
  replace h := bnd_e h
  refine v_aload_n 0 0 dX12_plain_38 rfl rfl ?_
  refine v_iconst (0 : Int32) dX12_plain_39 (by decide) ?_
  refine v_pI 12 43 dX12_plain_40 fw_RX12_399 o1 ?_
  replace h := bnd_e h
  refine v_iconst (0 : Int32) dX12_plain_43 (by decide) ?_
  refine v_istore_n (ls' := [(1, .int _), (0, .ref _)]) 1 dX12_plain_44 rfl (Nat.le_of_ble_eq_true rfl) rfl ?_
  refine v_sub [1, 0] rfl ?_
  exact v_X12_plain_p45 h
/-! CalledRiverModel.rest -/
theorem dX12_rest_0 : decode cX12_rest 0 = .ok (.aload_n 0, 1) := by decide +kernel
theorem dX12_rest_1 : decode cX12_rest 1 = .ok (.iload_n 1, 1) := by decide +kernel
theorem dX12_rest_2 : decode cX12_rest 2 = .ok (.i2l, 1) := by decide +kernel
theorem dX12_rest_3 : decode cX12_rest 3 = .ok (.invokevirtual 557, 3) := by decide +kernel
theorem dX12_rest_6 : decode cX12_rest 6 = .ok (.ifCond .eq 10, 3) := by decide +kernel
theorem dX12_rest_9 : decode cX12_rest 9 = .ok (.aload_n 0, 1) := by decide +kernel
theorem dX12_rest_10 : decode cX12_rest 10 = .ok (.invokevirtual 509, 3) := by decide +kernel
theorem dX12_rest_13 : decode cX12_rest 13 = .ok (.ifCond .ne 5, 3) := by decide +kernel
theorem dX12_rest_16 : decode cX12_rest 16 = .ok (.iconst (-1), 1) := by decide +kernel
theorem dX12_rest_17 : decode cX12_rest 17 = .ok (.ireturn, 1) := by decide +kernel
theorem dX12_rest_18 : decode cX12_rest 18 = .ok (.aload_n 0, 1) := by decide +kernel
theorem dX12_rest_19 : decode cX12_rest 19 = .ok (.iload_n 1, 1) := by decide +kernel
theorem dX12_rest_20 : decode cX12_rest 20 = .ok (.invokevirtual 574, 3) := by decide +kernel
theorem dX12_rest_23 : decode cX12_rest 23 = .ok (.iconst (-1), 1) := by decide +kernel
theorem dX12_rest_24 : decode cX12_rest 24 = .ok (.istore_n 2, 1) := by decide +kernel
theorem dX12_rest_25 : decode cX12_rest 25 = .ok (.iconst 0, 1) := by decide +kernel
theorem dX12_rest_26 : decode cX12_rest 26 = .ok (.istore_n 3, 1) := by decide +kernel
theorem dX12_rest_27 : decode cX12_rest 27 = .ok (.iload_n 3, 1) := by decide +kernel
theorem dX12_rest_28 : decode cX12_rest 28 = .ok (.iconst 1, 1) := by decide +kernel
theorem dX12_rest_29 : decode cX12_rest 29 = .ok (.aload_n 0, 1) := by decide +kernel
theorem dX12_rest_30 : decode cX12_rest 30 = .ok (.invokevirtual 436, 3) := by decide +kernel
theorem dX12_rest_33 : decode cX12_rest 33 = .ok (.ishl, 1) := by decide +kernel
theorem dX12_rest_34 : decode cX12_rest 34 = .ok (.if_icmp .ge 35, 3) := by decide +kernel
theorem dX12_rest_37 : decode cX12_rest 37 = .ok (.iload_n 2, 1) := by decide +kernel
theorem dX12_rest_38 : decode cX12_rest 38 = .ok (.iconst (-1), 1) := by decide +kernel
theorem dX12_rest_39 : decode cX12_rest 39 = .ok (.if_icmp .eq 14, 3) := by decide +kernel
theorem dX12_rest_42 : decode cX12_rest 42 = .ok (.iload_n 3, 1) := by decide +kernel
theorem dX12_rest_43 : decode cX12_rest 43 = .ok (.invokestatic 535, 3) := by decide +kernel
theorem dX12_rest_46 : decode cX12_rest 46 = .ok (.iload_n 2, 1) := by decide +kernel
theorem dX12_rest_47 : decode cX12_rest 47 = .ok (.invokestatic 535, 3) := by decide +kernel
theorem dX12_rest_50 : decode cX12_rest 50 = .ok (.if_icmp .le 13, 3) := by decide +kernel
theorem dX12_rest_53 : decode cX12_rest 53 = .ok (.aload_n 0, 1) := by decide +kernel
theorem dX12_rest_54 : decode cX12_rest 54 = .ok (.iload_n 3, 1) := by decide +kernel
theorem dX12_rest_55 : decode cX12_rest 55 = .ok (.invokevirtual 577, 3) := by decide +kernel
theorem dX12_rest_58 : decode cX12_rest 58 = .ok (.ifCond .eq 5, 3) := by decide +kernel
theorem dX12_rest_61 : decode cX12_rest 61 = .ok (.iload_n 3, 1) := by decide +kernel
theorem dX12_rest_62 : decode cX12_rest 62 = .ok (.istore_n 2, 1) := by decide +kernel
theorem dX12_rest_63 : decode cX12_rest 63 = .ok (.iinc 3 1, 3) := by decide +kernel
theorem dX12_rest_66 : decode cX12_rest 66 = .ok (.goto (-39), 3) := by decide +kernel
theorem dX12_rest_69 : decode cX12_rest 69 = .ok (.iload_n 2, 1) := by decide +kernel
theorem dX12_rest_70 : decode cX12_rest 70 = .ok (.ireturn, 1) := by decide +kernel
def X12_rest_p63 (sh : Shp) (v0 : Nat) (v2 : Int32) (v3 : Int32) (Q : Int32 → Mem → Prop) (K27 : Int32 → Int32 → Mem → Prop) (m : Mem) : Prop :=
  K27 v2 (v3 + (1 : Int32)) m
def X12_rest_p53 (sh : Shp) (v0 : Nat) (v2 : Int32) (v3 : Int32) (Q : Int32 → Mem → Prop) (K27 : Int32 → Int32 → Mem → Prop) (m : Mem) : Prop :=
  Ob sh v0 12 ∧ wp_X12_isRest sh v0 v3 (fun r15 m16 => if r15 = 0 then (X12_rest_p63 sh v0 v2 v3 Q K27 m16) else (X12_rest_p63 sh v0 v3 v3 Q K27 m16)) m
def X12_rest_p27b (sh : Shp) (v0 : Nat) (Q : Int32 → Mem → Prop) (K27 : Int32 → Int32 → Mem → Prop) (v2 : Int32) (v3 : Int32) (m : Mem) : Prop :=
  Ob sh v0 12 ∧ wp_X12_farmMany sh v0 (fun r8 m9 => if ((1 : Int32) <<< (r8 &&& 31)) ≤ v3 then (Q v2 m9) else (if v2 = (-1 : Int32) then (X12_rest_p53 sh v0 v2 v3 Q K27 m9) else (wp_X12_bits sh v3 (fun r11 m12 => wp_X12_bits sh v2 (fun r13 m14 => if r11 ≤ r13 then (X12_rest_p63 sh v0 v2 v3 Q K27 m14) else (X12_rest_p53 sh v0 v2 v3 Q K27 m14)) m12) m9))) m
def X12_rest_p27n (sh : Shp) (v0 : Nat) (Q : Int32 → Mem → Prop) : Nat → Int32 → Int32 → Mem → Prop
  | 0 => fun _ _ _ => False
  | n + 1 => X12_rest_p27b sh v0 Q (X12_rest_p27n sh v0 Q n)
def X12_rest_p27 (sh : Shp) (v0 : Nat) (Q : Int32 → Mem → Prop) (v2 : Int32) (v3 : Int32) (m : Mem) : Prop := ∃ n, X12_rest_p27n sh v0 Q n v2 v3 m
def wp_X12_rest (sh : Shp) (v0 : Nat) (v1 : Int32) (Q : Int32 → Mem → Prop) (m : Mem) : Prop :=
  Ob sh v0 12 ∧ wp_X12_isCaller sh v0 v1.toInt64 (fun r1 m2 => if r1 = 0 then (Q (-1 : Int32) m2) else (wp_X12_hasWay sh v0 (fun r4 m5 => if r4 = 0 then (Q (-1 : Int32) m5) else (wp_X12_laysWells sh v0 v1 (fun m7 => X12_rest_p27 sh v0 Q (-1 : Int32) (0 : Int32) m7) m5)) m2)) m
abbrev M_X12_rest : Mi := (cX12_rest, 4, RX12, (Option.some FieldType.int), "rest", 10, 266, 0, 0)
set_option maxHeartbeats 4000000 in
set_option maxRecDepth 100000 in
theorem v_X12_rest_p63 {G : Gl} {F : Fr} {sh : Shp} {v0 : Nat} {v2 : Int32} {v3 : Int32} {Q : Int32 → Mem → Prop} {K27 : Int32 → Int32 → Mem → Prop} {m : Mem} (hK27 : ∀ (x2 : Int32) (x3 : Int32) (m : Mem), K27 x2 x3 m → V G F M_X12_rest sh 0 0 (Zi G F sh Q) 27 [(0, .ref (G.1 + v0)), (2, .int x2), (3, .int x3)] [] m) (h : X12_rest_p63 sh v0 v2 v3 Q K27 m) : V G F M_X12_rest sh 0 0 (Zi G F sh Q) 63 [(0, .ref (G.1 + v0)), (2, .int v2), (3, .int v3)] [] m := by
  unfold X12_rest_p63 at h
  refine v_iinc (ls' := [(3, .int _), (0, .ref _), (2, .int _)]) 3 2 dX12_rest_63 rfl (congrArg (HAdd.hAdd _) (by decide : Int32.ofInt (1) = (1 : Int32))) (Nat.le_of_ble_eq_true rfl) rfl ?_
  refine v_goto 27 dX12_rest_66 (by decide) ?_
  refine v_sub [1, 2, 0] rfl ?_
  exact hK27 _ _ _ h
set_option maxHeartbeats 4000000 in
set_option maxRecDepth 100000 in
theorem v_X12_rest_p53 {G : Gl} {F : Fr} {sh : Shp} {v0 : Nat} {v2 : Int32} {v3 : Int32} {Q : Int32 → Mem → Prop} {K27 : Int32 → Int32 → Mem → Prop} {m : Mem} (hK27 : ∀ (x2 : Int32) (x3 : Int32) (m : Mem), K27 x2 x3 m → V G F M_X12_rest sh 0 0 (Zi G F sh Q) 27 [(0, .ref (G.1 + v0)), (2, .int x2), (3, .int x3)] [] m) (h : X12_rest_p53 sh v0 v2 v3 Q K27 m) : V G F M_X12_rest sh 0 0 (Zi G F sh Q) 53 [(0, .ref (G.1 + v0)), (2, .int v2), (3, .int v3)] [] m := by
  unfold X12_rest_p53 at h
  refine v_aload_n 0 0 dX12_rest_53 rfl rfl ?_
  refine v_iload_n 3 2 dX12_rest_54 rfl rfl ?_
  obtain ⟨o17, h⟩ := h
  refine v_cVi [.int _] mv_X12_isRest ml_RX12_577 ⟨_, _, rfl⟩ o17 rfl rfl (Nat.le_of_ble_eq_true rfl) (Nat.le_of_ble_eq_true rfl) (Nat.le_of_ble_eq_true rfl) (Nat.zero_le _) (Nat.zero_le _) dX12_rest_55 (c_X12_isRest h) (fun r15 m16 h => ?_)
  refine v_if_eq 63 dX12_rest_58 (by decide) (fun hc => ?_) (fun hc => ?_)
  · replace h := Eq.mp (if_pos hc) h
    refine v_sub [0, 1, 2] rfl ?_
    exact v_X12_rest_p63 hK27 h
  · replace h := Eq.mp (if_neg hc) h
    refine v_iload_n 3 2 dX12_rest_61 rfl rfl ?_
    refine v_istore_n (ls' := [(2, .int _), (0, .ref _), (3, .int _)]) 2 dX12_rest_62 rfl (Nat.le_of_ble_eq_true rfl) rfl ?_
    refine v_sub [1, 0, 2] rfl ?_
    exact v_X12_rest_p63 hK27 h
set_option maxHeartbeats 4000000 in
set_option maxRecDepth 100000 in
theorem v_X12_rest_p27b {G : Gl} {F : Fr} {sh : Shp} {v0 : Nat} {v2 : Int32} {v3 : Int32} {Q : Int32 → Mem → Prop} {K27 : Int32 → Int32 → Mem → Prop} {m : Mem} (hK27 : ∀ (x2 : Int32) (x3 : Int32) (m : Mem), K27 x2 x3 m → V G F M_X12_rest sh 0 0 (Zi G F sh Q) 27 [(0, .ref (G.1 + v0)), (2, .int x2), (3, .int x3)] [] m) (h : X12_rest_p27b sh v0 Q K27 v2 v3 m) : V G F M_X12_rest sh 0 0 (Zi G F sh Q) 27 [(0, .ref (G.1 + v0)), (2, .int v2), (3, .int v3)] [] m := by
  unfold X12_rest_p27b at h
  refine v_iload_n 3 2 dX12_rest_27 rfl rfl ?_
  refine v_iconst (1 : Int32) dX12_rest_28 (by decide) ?_
  refine v_aload_n 0 0 dX12_rest_29 rfl rfl ?_
  obtain ⟨o10, h⟩ := h
  refine v_cVi [] mv_X12_farmMany ml_RX12_436 ⟨_, _, rfl⟩ o10 rfl rfl (Nat.le_of_ble_eq_true rfl) (Nat.le_of_ble_eq_true rfl) (Nat.le_of_ble_eq_true rfl) (Nat.zero_le _) (Nat.zero_le _) dX12_rest_30 (c_X12_farmMany h) (fun r8 m9 h => ?_)
  refine v_ishl dX12_rest_33 ?_
  refine v_icmp_ge 69 dX12_rest_34 (by decide) (fun hc => ?_) (fun hc => ?_)
  · replace h := Eq.mp (if_pos hc) h
    refine v_iload_n 2 1 dX12_rest_69 rfl rfl ?_
    exact v_iret dX12_rest_70 rfl rfl h
  · replace h := Eq.mp (if_neg hc) h
    refine v_iload_n 2 1 dX12_rest_37 rfl rfl ?_
    refine v_iconst (-1 : Int32) dX12_rest_38 (by decide) ?_
    refine v_icmp_eq 53 dX12_rest_39 (by decide) (fun hc => ?_) (fun hc => ?_)
    · replace h := Eq.mp (if_pos hc) h
      refine v_sub [0, 1, 2] rfl ?_
      exact v_X12_rest_p53 hK27 h
    · replace h := Eq.mp (if_neg hc) h
      refine v_iload_n 3 2 dX12_rest_42 rfl rfl ?_
      refine v_cSi [.int _] mv_X12_bits ml_RX12_535 rfl rfl (Nat.le_of_ble_eq_true rfl) (Nat.le_of_ble_eq_true rfl) (Nat.le_of_ble_eq_true rfl) (Nat.zero_le _) (Nat.zero_le _) dX12_rest_43 (c_X12_bits h) (fun r11 m12 h => ?_)
      refine v_iload_n 2 1 dX12_rest_46 rfl rfl ?_
      refine v_cSi [.int _] mv_X12_bits ml_RX12_535 rfl rfl (Nat.le_of_ble_eq_true rfl) (Nat.le_of_ble_eq_true rfl) (Nat.le_of_ble_eq_true rfl) (Nat.zero_le _) (Nat.zero_le _) dX12_rest_47 (c_X12_bits h) (fun r13 m14 h => ?_)
      refine v_icmp_le 63 dX12_rest_50 (by decide) (fun hc => ?_) (fun hc => ?_)
      · replace h := Eq.mp (if_pos hc) h
        refine v_sub [0, 1, 2] rfl ?_
        exact v_X12_rest_p63 hK27 h
      · replace h := Eq.mp (if_neg hc) h
        refine v_sub [0, 1, 2] rfl ?_
        exact v_X12_rest_p53 hK27 h
set_option maxHeartbeats 4000000 in
set_option maxRecDepth 100000 in
theorem v_X12_rest_p27 {G : Gl} {F : Fr} {sh : Shp} {v0 : Nat} {v2 : Int32} {v3 : Int32} {Q : Int32 → Mem → Prop} {m : Mem} (h : X12_rest_p27 sh v0 Q v2 v3 m) : V G F M_X12_rest sh 0 0 (Zi G F sh Q) 27 [(0, .ref (G.1 + v0)), (2, .int v2), (3, .int v3)] [] m := by
  obtain ⟨n, h⟩ := h
  induction n generalizing v2 v3 m with
  | zero => exact h.elim
  | succ n ih => exact v_X12_rest_p27b (fun _ _ _ h => ih h) h
set_option maxHeartbeats 4000000 in
set_option maxRecDepth 100000 in
theorem c_X12_rest {l : Launch} {G : Gl} {sh : Shp} {v0 : Nat} {v1 : Int32} {Q : Int32 → Mem → Prop} {m : Mem} (h : wp_X12_rest sh v0 v1 Q m) : Cni l G yX12_rest cX12_rest 4 (Option.some FieldType.int) 10 266 sh [.ref (G.1 + v0), .int v1] m Q := by
  refine con_i (ls := [(0, .ref (G.1 + v0)), (1, .int v1)]) (by decide +kernel) rfl (Nat.le_of_ble_eq_true rfl) (fun F => ?_)
  show V G F M_X12_rest sh 0 0 (Zi G F sh Q) 0 [(0, .ref (G.1 + v0)), (1, .int v1)] [] m
  unfold wp_X12_rest at h
  refine v_aload_n 0 0 dX12_rest_0 rfl rfl ?_
  refine v_iload_n 1 1 dX12_rest_1 rfl rfl ?_
  refine v_i2l dX12_rest_2 ?_
  obtain ⟨o3, h⟩ := h
  refine v_cVi [.long _] mv_X12_isCaller ml_RX12_557 ⟨_, _, rfl⟩ o3 rfl rfl (Nat.le_of_ble_eq_true rfl) (Nat.le_of_ble_eq_true rfl) (Nat.le_of_ble_eq_true rfl) (Nat.zero_le _) (Nat.zero_le _) dX12_rest_3 (c_X12_isCaller h) (fun r1 m2 h => ?_)
  refine v_if_eq 16 dX12_rest_6 (by decide) (fun hc => ?_) (fun hc => ?_)
  · replace h := Eq.mp (if_pos hc) h
    refine v_iconst (-1 : Int32) dX12_rest_16 (by decide) ?_
    exact v_iret dX12_rest_17 rfl rfl h
  · replace h := Eq.mp (if_neg hc) h
    refine v_aload_n 0 0 dX12_rest_9 rfl rfl ?_
    refine v_cVi [] mv_X12_hasWay ml_RX12_509 ⟨_, _, rfl⟩ o3 rfl rfl (Nat.le_of_ble_eq_true rfl) (Nat.le_of_ble_eq_true rfl) (Nat.le_of_ble_eq_true rfl) (Nat.zero_le _) (Nat.zero_le _) dX12_rest_10 (c_X12_hasWay h) (fun r4 m5 h => ?_)
    refine v_if_ne 18 dX12_rest_13 (by decide) (fun hc => ?_) (fun hc => ?_)
    · replace h := Eq.mp (if_neg hc) h
      refine v_aload_n 0 0 dX12_rest_18 rfl rfl ?_
      refine v_iload_n 1 1 dX12_rest_19 rfl rfl ?_
      refine v_cVv [.int _] mv_X12_laysWells ml_RX12_574 ⟨_, _, rfl⟩ o3 rfl rfl (Nat.le_of_ble_eq_true rfl) (Nat.le_of_ble_eq_true rfl) (Nat.le_of_ble_eq_true rfl) (Nat.zero_le _) (Nat.zero_le _) dX12_rest_20 (c_X12_laysWells h) (fun m7 h => ?_)
      refine v_iconst (-1 : Int32) dX12_rest_23 (by decide) ?_
      refine v_istore_n (ls' := [(2, .int _), (0, .ref _), (1, .int _)]) 2 dX12_rest_24 rfl (Nat.le_of_ble_eq_true rfl) rfl ?_
      refine v_iconst (0 : Int32) dX12_rest_25 (by decide) ?_
      refine v_istore_n (ls' := [(3, .int _), (2, .int _), (0, .ref _), (1, .int _)]) 3 dX12_rest_26 rfl (Nat.le_of_ble_eq_true rfl) rfl ?_
      refine v_sub [2, 1, 0] rfl ?_
      exact v_X12_rest_p27 h
    · replace h := Eq.mp (if_pos hc) h
      refine v_iconst (-1 : Int32) dX12_rest_16 (by decide) ?_
      exact v_iret dX12_rest_17 rfl rfl h
/-! CalledRiverModel.see -/
theorem dX12_see_0 : decode cX12_see 0 = .ok (.aload_n 0, 1) := by decide +kernel
theorem dX12_see_1 : decode cX12_see 1 = .ok (.getfield 282, 3) := by decide +kernel
theorem dX12_see_4 : decode cX12_see 4 = .ok (.istore_n 1, 1) := by decide +kernel
theorem dX12_see_5 : decode cX12_see 5 = .ok (.aload_n 0, 1) := by decide +kernel
theorem dX12_see_6 : decode cX12_see 6 = .ok (.iconst 0, 1) := by decide +kernel
theorem dX12_see_7 : decode cX12_see 7 = .ok (.putfield 282, 3) := by decide +kernel
theorem dX12_see_10 : decode cX12_see 10 = .ok (.aload_n 0, 1) := by decide +kernel
theorem dX12_see_11 : decode cX12_see 11 = .ok (.getfield 423, 3) := by decide +kernel
theorem dX12_see_14 : decode cX12_see 14 = .ok (.ifCond .eq 25, 3) := by decide +kernel
theorem dX12_see_17 : decode cX12_see 17 = .ok (.iload_n 1, 1) := by decide +kernel
theorem dX12_see_18 : decode cX12_see 18 = .ok (.ifCond .le 21, 3) := by decide +kernel
theorem dX12_see_21 : decode cX12_see 21 = .ok (.iload_n 1, 1) := by decide +kernel
theorem dX12_see_22 : decode cX12_see 22 = .ok (.iconst 3, 1) := by decide +kernel
theorem dX12_see_23 : decode cX12_see 23 = .ok (.irem, 1) := by decide +kernel
theorem dX12_see_24 : decode cX12_see 24 = .ok (.ifCond .ne 15, 3) := by decide +kernel
theorem dX12_see_27 : decode cX12_see 27 = .ok (.iload_n 1, 1) := by decide +kernel
theorem dX12_see_28 : decode cX12_see 28 = .ok (.iconst 3, 1) := by decide +kernel
theorem dX12_see_29 : decode cX12_see 29 = .ok (.idiv, 1) := by decide +kernel
theorem dX12_see_30 : decode cX12_see 30 = .ok (.bipush 16, 2) := by decide +kernel
theorem dX12_see_32 : decode cX12_see 32 = .ok (.if_icmp .gt 7, 3) := by decide +kernel
theorem dX12_see_35 : decode cX12_see 35 = .ok (.iconst 1, 1) := by decide +kernel
theorem dX12_see_36 : decode cX12_see 36 = .ok (.goto 4, 3) := by decide +kernel
theorem dX12_see_39 : decode cX12_see 39 = .ok (.iconst 0, 1) := by decide +kernel
theorem dX12_see_40 : decode cX12_see 40 = .ok (.istore_n 2, 1) := by decide +kernel
theorem dX12_see_41 : decode cX12_see 41 = .ok (.iconst 0, 1) := by decide +kernel
theorem dX12_see_42 : decode cX12_see 42 = .ok (.istore_n 3, 1) := by decide +kernel
theorem dX12_see_43 : decode cX12_see 43 = .ok (.iload_n 3, 1) := by decide +kernel
theorem dX12_see_44 : decode cX12_see 44 = .ok (.iload_n 1, 1) := by decide +kernel
theorem dX12_see_45 : decode cX12_see 45 = .ok (.if_icmp .ge 54, 3) := by decide +kernel
theorem dX12_see_48 : decode cX12_see 48 = .ok (.iload_n 2, 1) := by decide +kernel
theorem dX12_see_49 : decode cX12_see 49 = .ok (.ifCond .eq 50, 3) := by decide +kernel
theorem dX12_see_52 : decode cX12_see 52 = .ok (.aload_n 0, 1) := by decide +kernel
theorem dX12_see_53 : decode cX12_see 53 = .ok (.getfield 7, 3) := by decide +kernel
theorem dX12_see_56 : decode cX12_see 56 = .ok (.iload_n 3, 1) := by decide +kernel
theorem dX12_see_57 : decode cX12_see 57 = .ok (.iaload, 1) := by decide +kernel
theorem dX12_see_58 : decode cX12_see 58 = .ok (.bipush 40, 2) := by decide +kernel
theorem dX12_see_60 : decode cX12_see 60 = .ok (.if_icmp .gt 31, 3) := by decide +kernel
theorem dX12_see_63 : decode cX12_see 63 = .ok (.aload_n 0, 1) := by decide +kernel
theorem dX12_see_64 : decode cX12_see 64 = .ok (.aload_n 0, 1) := by decide +kernel
theorem dX12_see_65 : decode cX12_see 65 = .ok (.getfield 7, 3) := by decide +kernel
theorem dX12_see_68 : decode cX12_see 68 = .ok (.iload_n 3, 1) := by decide +kernel
theorem dX12_see_69 : decode cX12_see 69 = .ok (.iconst 1, 1) := by decide +kernel
theorem dX12_see_70 : decode cX12_see 70 = .ok (.iadd, 1) := by decide +kernel
theorem dX12_see_71 : decode cX12_see 71 = .ok (.iaload, 1) := by decide +kernel
theorem dX12_see_72 : decode cX12_see 72 = .ok (.aload_n 0, 1) := by decide +kernel
theorem dX12_see_73 : decode cX12_see 73 = .ok (.getfield 7, 3) := by decide +kernel
theorem dX12_see_76 : decode cX12_see 76 = .ok (.iload_n 3, 1) := by decide +kernel
theorem dX12_see_77 : decode cX12_see 77 = .ok (.iconst 2, 1) := by decide +kernel
theorem dX12_see_78 : decode cX12_see 78 = .ok (.iadd, 1) := by decide +kernel
theorem dX12_see_79 : decode cX12_see 79 = .ok (.iaload, 1) := by decide +kernel
theorem dX12_see_80 : decode cX12_see 80 = .ok (.invokevirtual 452, 3) := by decide +kernel
theorem dX12_see_83 : decode cX12_see 83 = .ok (.iconst (-1), 1) := by decide +kernel
theorem dX12_see_84 : decode cX12_see 84 = .ok (.if_icmp .eq 7, 3) := by decide +kernel
theorem dX12_see_87 : decode cX12_see 87 = .ok (.iconst 1, 1) := by decide +kernel
theorem dX12_see_88 : decode cX12_see 88 = .ok (.goto 4, 3) := by decide +kernel
theorem dX12_see_91 : decode cX12_see 91 = .ok (.iconst 0, 1) := by decide +kernel
theorem dX12_see_92 : decode cX12_see 92 = .ok (.istore_n 2, 1) := by decide +kernel
theorem dX12_see_93 : decode cX12_see 93 = .ok (.iinc 3 3, 3) := by decide +kernel
theorem dX12_see_96 : decode cX12_see 96 = .ok (.goto (-53), 3) := by decide +kernel
theorem dX12_see_99 : decode cX12_see 99 = .ok (.iload_n 2, 1) := by decide +kernel
theorem dX12_see_100 : decode cX12_see 100 = .ok (.ifCond .ne 9, 3) := by decide +kernel
theorem dX12_see_103 : decode cX12_see 103 = .ok (.aload_n 0, 1) := by decide +kernel
theorem dX12_see_104 : decode cX12_see 104 = .ok (.iconst 1, 1) := by decide +kernel
theorem dX12_see_105 : decode cX12_see 105 = .ok (.invokevirtual 580, 3) := by decide +kernel
theorem dX12_see_108 : decode cX12_see 108 = .ok (.ireturn, 1) := by decide +kernel
theorem dX12_see_109 : decode cX12_see 109 = .ok (.aload_n 0, 1) := by decide +kernel
theorem dX12_see_110 : decode cX12_see 110 = .ok (.iload_n 1, 1) := by decide +kernel
theorem dX12_see_111 : decode cX12_see 111 = .ok (.iconst 3, 1) := by decide +kernel
theorem dX12_see_112 : decode cX12_see 112 = .ok (.idiv, 1) := by decide +kernel
theorem dX12_see_113 : decode cX12_see 113 = .ok (.putfield 433, 3) := by decide +kernel
theorem dX12_see_116 : decode cX12_see 116 = .ok (.iconst 0, 1) := by decide +kernel
theorem dX12_see_117 : decode cX12_see 117 = .ok (.istore_n 3, 1) := by decide +kernel
theorem dX12_see_118 : decode cX12_see 118 = .ok (.iload_n 3, 1) := by decide +kernel
theorem dX12_see_119 : decode cX12_see 119 = .ok (.aload_n 0, 1) := by decide +kernel
theorem dX12_see_120 : decode cX12_see 120 = .ok (.getfield 433, 3) := by decide +kernel
theorem dX12_see_123 : decode cX12_see 123 = .ok (.if_icmp .ge 59, 3) := by decide +kernel
theorem dX12_see_126 : decode cX12_see 126 = .ok (.aload_n 0, 1) := by decide +kernel
theorem dX12_see_127 : decode cX12_see 127 = .ok (.getfield 176, 3) := by decide +kernel
theorem dX12_see_130 : decode cX12_see 130 = .ok (.iconst 2, 1) := by decide +kernel
theorem dX12_see_131 : decode cX12_see 131 = .ok (.iload_n 3, 1) := by decide +kernel
theorem dX12_see_132 : decode cX12_see 132 = .ok (.imul, 1) := by decide +kernel
theorem dX12_see_133 : decode cX12_see 133 = .ok (.aload_n 0, 1) := by decide +kernel
theorem dX12_see_134 : decode cX12_see 134 = .ok (.getfield 7, 3) := by decide +kernel
theorem dX12_see_137 : decode cX12_see 137 = .ok (.iconst 3, 1) := by decide +kernel
theorem dX12_see_138 : decode cX12_see 138 = .ok (.iload_n 3, 1) := by decide +kernel
theorem dX12_see_139 : decode cX12_see 139 = .ok (.imul, 1) := by decide +kernel
theorem dX12_see_140 : decode cX12_see 140 = .ok (.iaload, 1) := by decide +kernel
theorem dX12_see_141 : decode cX12_see 141 = .ok (.iastore, 1) := by decide +kernel
theorem dX12_see_142 : decode cX12_see 142 = .ok (.aload_n 0, 1) := by decide +kernel
theorem dX12_see_143 : decode cX12_see 143 = .ok (.getfield 176, 3) := by decide +kernel
theorem dX12_see_146 : decode cX12_see 146 = .ok (.iconst 2, 1) := by decide +kernel
theorem dX12_see_147 : decode cX12_see 147 = .ok (.iload_n 3, 1) := by decide +kernel
theorem dX12_see_148 : decode cX12_see 148 = .ok (.imul, 1) := by decide +kernel
theorem dX12_see_149 : decode cX12_see 149 = .ok (.iconst 1, 1) := by decide +kernel
theorem dX12_see_150 : decode cX12_see 150 = .ok (.iadd, 1) := by decide +kernel
theorem dX12_see_151 : decode cX12_see 151 = .ok (.aload_n 0, 1) := by decide +kernel
theorem dX12_see_152 : decode cX12_see 152 = .ok (.aload_n 0, 1) := by decide +kernel
theorem dX12_see_153 : decode cX12_see 153 = .ok (.getfield 7, 3) := by decide +kernel
theorem dX12_see_156 : decode cX12_see 156 = .ok (.iconst 3, 1) := by decide +kernel
theorem dX12_see_157 : decode cX12_see 157 = .ok (.iload_n 3, 1) := by decide +kernel
theorem dX12_see_158 : decode cX12_see 158 = .ok (.imul, 1) := by decide +kernel
theorem dX12_see_159 : decode cX12_see 159 = .ok (.iconst 1, 1) := by decide +kernel
theorem dX12_see_160 : decode cX12_see 160 = .ok (.iadd, 1) := by decide +kernel
theorem dX12_see_161 : decode cX12_see 161 = .ok (.iaload, 1) := by decide +kernel
theorem dX12_see_162 : decode cX12_see 162 = .ok (.aload_n 0, 1) := by decide +kernel
theorem dX12_see_163 : decode cX12_see 163 = .ok (.getfield 7, 3) := by decide +kernel
theorem dX12_see_166 : decode cX12_see 166 = .ok (.iconst 3, 1) := by decide +kernel
theorem dX12_see_167 : decode cX12_see 167 = .ok (.iload_n 3, 1) := by decide +kernel
theorem dX12_see_168 : decode cX12_see 168 = .ok (.imul, 1) := by decide +kernel
theorem dX12_see_169 : decode cX12_see 169 = .ok (.iconst 2, 1) := by decide +kernel
theorem dX12_see_170 : decode cX12_see 170 = .ok (.iadd, 1) := by decide +kernel
theorem dX12_see_171 : decode cX12_see 171 = .ok (.iaload, 1) := by decide +kernel
theorem dX12_see_172 : decode cX12_see 172 = .ok (.invokevirtual 452, 3) := by decide +kernel
theorem dX12_see_175 : decode cX12_see 175 = .ok (.iastore, 1) := by decide +kernel
theorem dX12_see_176 : decode cX12_see 176 = .ok (.iinc 3 1, 3) := by decide +kernel
theorem dX12_see_179 : decode cX12_see 179 = .ok (.goto (-61), 3) := by decide +kernel
theorem dX12_see_182 : decode cX12_see 182 = .ok (.aload_n 0, 1) := by decide +kernel
theorem dX12_see_183 : decode cX12_see 183 = .ok (.getfield 433, 3) := by decide +kernel
theorem dX12_see_186 : decode cX12_see 186 = .ok (.ireturn, 1) := by decide +kernel
def X12_see_p92 (sh : Shp) (v0 : Nat) (v1 : Int32) (v3 : Int32) (s0 : Int32) (Q : Int32 → Mem → Prop) (K43 : Int32 → Int32 → Mem → Prop) (m : Mem) : Prop :=
  K43 s0 (v3 + (3 : Int32)) m
def X12_see_p91 (sh : Shp) (v0 : Nat) (v1 : Int32) (v3 : Int32) (Q : Int32 → Mem → Prop) (K43 : Int32 → Int32 → Mem → Prop) (m : Mem) : Prop :=
  X12_see_p92 sh v0 v1 v3 (0 : Int32) Q K43 m
def X12_see_p118b (sh : Shp) (v0 : Nat) (Q : Int32 → Mem → Prop) (K118 : Int32 → Mem → Prop) (v3 : Int32) (m : Mem) : Prop :=
  Ob sh v0 12 ∧ (if (m.1 v0 74) ≤ v3 then (Q (m.1 v0 74) m) else (∃ b17 : Nat, m.2.2 v0 75 = some b17 ∧ (∃ b19 : Nat, m.2.2 v0 0 = some b19 ∧ (Ix sh b19 100 ((3 : Int32) * v3) ∧ (Ix sh b17 100 ((2 : Int32) * v3) ∧ bnd (sI m b17 ((2 : Int32) * v3).toNatClampNeg (m.1 b19 ((3 : Int32) * v3).toNatClampNeg)) (fun m23 => Ix sh b19 100 (((3 : Int32) * v3) + (1 : Int32)) ∧ (Ix sh b19 100 (((3 : Int32) * v3) + (2 : Int32)) ∧ (wp_X12_cellAt sh v0 (m23.1 b19 (((3 : Int32) * v3) + (1 : Int32)).toNatClampNeg) (m23.1 b19 (((3 : Int32) * v3) + (2 : Int32)).toNatClampNeg) (fun r26 m27 => Ix sh b17 100 (((2 : Int32) * v3) + (1 : Int32)) ∧ bnd (sI m27 b17 (((2 : Int32) * v3) + (1 : Int32)).toNatClampNeg r26) (fun m29 => K118 (v3 + (1 : Int32)) m29)) m23))))))))
def X12_see_p118n (sh : Shp) (v0 : Nat) (Q : Int32 → Mem → Prop) : Nat → Int32 → Mem → Prop
  | 0 => fun _ _ => False
  | n + 1 => X12_see_p118b sh v0 Q (X12_see_p118n sh v0 Q n)
def X12_see_p118 (sh : Shp) (v0 : Nat) (Q : Int32 → Mem → Prop) (v3 : Int32) (m : Mem) : Prop := ∃ n, X12_see_p118n sh v0 Q n v3 m
def X12_see_p99 (sh : Shp) (v0 : Nat) (v1 : Int32) (v2 : Int32) (Q : Int32 → Mem → Prop) (m : Mem) : Prop :=
  if v2 = 0 then (Ob sh v0 12 ∧ wp_X12_refuses sh v0 (1 : Int32) (fun r13 m14 => Q r13 m14) m) else (Ob sh v0 12 ∧ bnd (sI m v0 74 (v1 / (3 : Int32))) (fun m12 => X12_see_p118 sh v0 Q (0 : Int32) m12))
def X12_see_p43b (sh : Shp) (v0 : Nat) (v1 : Int32) (Q : Int32 → Mem → Prop) (K43 : Int32 → Int32 → Mem → Prop) (v2 : Int32) (v3 : Int32) (m : Mem) : Prop :=
  if v1 ≤ v3 then (X12_see_p99 sh v0 v1 v2 Q m) else (if v2 = 0 then (X12_see_p99 sh v0 v1 v2 Q m) else (Ob sh v0 12 ∧ ∃ b4 : Nat, m.2.2 v0 0 = some b4 ∧ (Ix sh b4 100 v3 ∧ (if (40 : Int32) < (m.1 b4 v3.toNatClampNeg) then (X12_see_p91 sh v0 v1 v3 Q K43 m) else (Ix sh b4 100 (v3 + (1 : Int32)) ∧ (Ix sh b4 100 (v3 + (2 : Int32)) ∧ (wp_X12_cellAt sh v0 (m.1 b4 (v3 + (1 : Int32)).toNatClampNeg) (m.1 b4 (v3 + (2 : Int32)).toNatClampNeg) (fun r9 m10 => if r9 = (-1 : Int32) then (X12_see_p91 sh v0 v1 v3 Q K43 m10) else (X12_see_p92 sh v0 v1 v3 (1 : Int32) Q K43 m10)) m)))))))
def X12_see_p43n (sh : Shp) (v0 : Nat) (v1 : Int32) (Q : Int32 → Mem → Prop) : Nat → Int32 → Int32 → Mem → Prop
  | 0 => fun _ _ _ => False
  | n + 1 => X12_see_p43b sh v0 v1 Q (X12_see_p43n sh v0 v1 Q n)
def X12_see_p43 (sh : Shp) (v0 : Nat) (v1 : Int32) (Q : Int32 → Mem → Prop) (v2 : Int32) (v3 : Int32) (m : Mem) : Prop := ∃ n, X12_see_p43n sh v0 v1 Q n v2 v3 m
def X12_see_p40 (sh : Shp) (v0 : Nat) (v1 : Int32) (s0 : Int32) (Q : Int32 → Mem → Prop) (m : Mem) : Prop :=
  X12_see_p43 sh v0 v1 Q s0 (0 : Int32) m
def X12_see_p39 (sh : Shp) (v0 : Nat) (v1 : Int32) (Q : Int32 → Mem → Prop) (m : Mem) : Prop :=
  X12_see_p40 sh v0 v1 (0 : Int32) Q m
def wp_X12_see (sh : Shp) (v0 : Nat) (Q : Int32 → Mem → Prop) (m : Mem) : Prop :=
  Ob sh v0 12 ∧ (bnd (sI m v0 1 (0 : Int32)) (fun m2 => if (m2.1 v0 56) = 0 then (X12_see_p39 sh v0 (m.1 v0 1) Q m2) else (if (m.1 v0 1) ≤ 0 then (X12_see_p39 sh v0 (m.1 v0 1) Q m2) else (if ((m.1 v0 1) - (m.1 v0 1) / (3 : Int32) * (3 : Int32)) = 0 then (if (16 : Int32) < ((m.1 v0 1) / (3 : Int32)) then (X12_see_p39 sh v0 (m.1 v0 1) Q m2) else (X12_see_p40 sh v0 (m.1 v0 1) (1 : Int32) Q m2)) else (X12_see_p39 sh v0 (m.1 v0 1) Q m2)))))
abbrev M_X12_see : Mi := (cX12_see, 4, RX12, (Option.some FieldType.int), "see", 3, 107, 0, 0)
set_option maxHeartbeats 4000000 in
set_option maxRecDepth 100000 in
theorem v_X12_see_p92 {G : Gl} {F : Fr} {sh : Shp} {v0 : Nat} {v1 : Int32} {v3 : Int32} {s0 : Int32} {Q : Int32 → Mem → Prop} {K43 : Int32 → Int32 → Mem → Prop} {m : Mem} (hK43 : ∀ (x2 : Int32) (x3 : Int32) (m : Mem), K43 x2 x3 m → V G F M_X12_see sh 0 0 (Zi G F sh Q) 43 [(0, .ref (G.1 + v0)), (1, .int v1), (2, .int x2), (3, .int x3)] [] m) (h : X12_see_p92 sh v0 v1 v3 s0 Q K43 m) : V G F M_X12_see sh 0 0 (Zi G F sh Q) 92 [(0, .ref (G.1 + v0)), (1, .int v1), (3, .int v3)] [.int s0] m := by
  unfold X12_see_p92 at h
  refine v_istore_n (ls' := [(2, .int _), (0, .ref _), (1, .int _), (3, .int _)]) 2 dX12_see_92 rfl (Nat.le_of_ble_eq_true rfl) rfl ?_
  refine v_iinc (ls' := [(3, .int _), (2, .int _), (0, .ref _), (1, .int _)]) 3 3 dX12_see_93 rfl (congrArg (HAdd.hAdd _) (by decide : Int32.ofInt (3) = (3 : Int32))) (Nat.le_of_ble_eq_true rfl) rfl ?_
  refine v_goto 43 dX12_see_96 (by decide) ?_
  refine v_sub [2, 3, 1, 0] rfl ?_
  exact hK43 _ _ _ h
set_option maxHeartbeats 4000000 in
set_option maxRecDepth 100000 in
theorem v_X12_see_p91 {G : Gl} {F : Fr} {sh : Shp} {v0 : Nat} {v1 : Int32} {v3 : Int32} {Q : Int32 → Mem → Prop} {K43 : Int32 → Int32 → Mem → Prop} {m : Mem} (hK43 : ∀ (x2 : Int32) (x3 : Int32) (m : Mem), K43 x2 x3 m → V G F M_X12_see sh 0 0 (Zi G F sh Q) 43 [(0, .ref (G.1 + v0)), (1, .int v1), (2, .int x2), (3, .int x3)] [] m) (h : X12_see_p91 sh v0 v1 v3 Q K43 m) : V G F M_X12_see sh 0 0 (Zi G F sh Q) 91 [(0, .ref (G.1 + v0)), (1, .int v1), (3, .int v3)] [] m := by
  unfold X12_see_p91 at h
  refine v_iconst (0 : Int32) dX12_see_91 (by decide) ?_
  refine v_sub [0, 1, 2] rfl ?_
  exact v_X12_see_p92 hK43 h
set_option maxHeartbeats 4000000 in
set_option maxRecDepth 100000 in
theorem v_X12_see_p118b {G : Gl} {F : Fr} {sh : Shp} {v0 : Nat} {v3 : Int32} {Q : Int32 → Mem → Prop} {K118 : Int32 → Mem → Prop} {m : Mem} (hK118 : ∀ (x3 : Int32) (m : Mem), K118 x3 m → V G F M_X12_see sh 0 0 (Zi G F sh Q) 118 [(0, .ref (G.1 + v0)), (3, .int x3)] [] m) (h : X12_see_p118b sh v0 Q K118 v3 m) : V G F M_X12_see sh 0 0 (Zi G F sh Q) 118 [(0, .ref (G.1 + v0)), (3, .int v3)] [] m := by
  unfold X12_see_p118b at h
  refine v_iload_n 3 1 dX12_see_118 rfl rfl ?_
  refine v_aload_n 0 0 dX12_see_119 rfl rfl ?_
  obtain ⟨o16, h⟩ := h
  refine v_gI 12 74 dX12_see_120 fg_RX12_433 o16 ?_
  refine v_icmp_ge 182 dX12_see_123 (by decide) (fun hc => ?_) (fun hc => ?_)
  · replace h := Eq.mp (if_pos hc) h
    refine v_aload_n 0 0 dX12_see_182 rfl rfl ?_
    refine v_gI 12 74 dX12_see_183 fg_RX12_433 o16 ?_
    exact v_iret dX12_see_186 rfl rfl h
  · replace h := Eq.mp (if_neg hc) h
    refine v_aload_n 0 0 dX12_see_126 rfl rfl ?_
    obtain ⟨b17, e18, h⟩ := h
    refine v_gR 12 75 dX12_see_127 fg_RX12_176 o16 e18 ?_
    refine v_iconst (2 : Int32) dX12_see_130 (by decide) ?_
    refine v_iload_n 3 1 dX12_see_131 rfl rfl ?_
    refine v_imul dX12_see_132 ?_
    refine v_aload_n 0 0 dX12_see_133 rfl rfl ?_
    obtain ⟨b19, e20, h⟩ := h
    refine v_gR 12 0 dX12_see_134 fg_RX12_7 o16 e20 ?_
    refine v_iconst (3 : Int32) dX12_see_137 (by decide) ?_
    refine v_iload_n 3 1 dX12_see_138 rfl rfl ?_
    refine v_imul dX12_see_139 ?_
    obtain ⟨i21, h⟩ := h
    refine v_iald dX12_see_140 i21 ?_
    obtain ⟨i22, h⟩ := h
    refine v_iast dX12_see_141 i22 ?_
    replace h := bnd_e h
    refine v_aload_n 0 0 dX12_see_142 rfl rfl ?_
    refine v_gR 12 75 dX12_see_143 fg_RX12_176 o16 e18 ?_
    refine v_iconst (2 : Int32) dX12_see_146 (by decide) ?_
    refine v_iload_n 3 1 dX12_see_147 rfl rfl ?_
    refine v_imul dX12_see_148 ?_
    refine v_iconst (1 : Int32) dX12_see_149 (by decide) ?_
    refine v_iadd dX12_see_150 ?_
    refine v_aload_n 0 0 dX12_see_151 rfl rfl ?_
    refine v_aload_n 0 0 dX12_see_152 rfl rfl ?_
    refine v_gR 12 0 dX12_see_153 fg_RX12_7 o16 e20 ?_
    refine v_iconst (3 : Int32) dX12_see_156 (by decide) ?_
    refine v_iload_n 3 1 dX12_see_157 rfl rfl ?_
    refine v_imul dX12_see_158 ?_
    refine v_iconst (1 : Int32) dX12_see_159 (by decide) ?_
    refine v_iadd dX12_see_160 ?_
    obtain ⟨i24, h⟩ := h
    refine v_iald dX12_see_161 i24 ?_
    refine v_aload_n 0 0 dX12_see_162 rfl rfl ?_
    refine v_gR 12 0 dX12_see_163 fg_RX12_7 o16 e20 ?_
    refine v_iconst (3 : Int32) dX12_see_166 (by decide) ?_
    refine v_iload_n 3 1 dX12_see_167 rfl rfl ?_
    refine v_imul dX12_see_168 ?_
    refine v_iconst (2 : Int32) dX12_see_169 (by decide) ?_
    refine v_iadd dX12_see_170 ?_
    obtain ⟨i25, h⟩ := h
    refine v_iald dX12_see_171 i25 ?_
    refine v_cVi [.int _, .int _] mv_X12_cellAt ml_RX12_452 ⟨_, _, rfl⟩ o16 rfl rfl (Nat.le_of_ble_eq_true rfl) (Nat.le_of_ble_eq_true rfl) (Nat.le_of_ble_eq_true rfl) (Nat.zero_le _) (Nat.zero_le _) dX12_see_172 (c_X12_cellAt h) (fun r26 m27 h => ?_)
    obtain ⟨i28, h⟩ := h
    refine v_iast dX12_see_175 i28 ?_
    replace h := bnd_e h
    refine v_iinc (ls' := [(3, .int _), (0, .ref _)]) 3 1 dX12_see_176 rfl (congrArg (HAdd.hAdd _) (by decide : Int32.ofInt (1) = (1 : Int32))) (Nat.le_of_ble_eq_true rfl) rfl ?_
    refine v_goto 118 dX12_see_179 (by decide) ?_
    refine v_sub [1, 0] rfl ?_
    exact hK118 _ _ h
set_option maxHeartbeats 4000000 in
set_option maxRecDepth 100000 in
theorem v_X12_see_p118 {G : Gl} {F : Fr} {sh : Shp} {v0 : Nat} {v3 : Int32} {Q : Int32 → Mem → Prop} {m : Mem} (h : X12_see_p118 sh v0 Q v3 m) : V G F M_X12_see sh 0 0 (Zi G F sh Q) 118 [(0, .ref (G.1 + v0)), (3, .int v3)] [] m := by
  obtain ⟨n, h⟩ := h
  induction n generalizing v3 m with
  | zero => exact h.elim
  | succ n ih => exact v_X12_see_p118b (fun _ _ h => ih h) h
set_option maxHeartbeats 4000000 in
set_option maxRecDepth 100000 in
theorem v_X12_see_p99 {G : Gl} {F : Fr} {sh : Shp} {v0 : Nat} {v1 : Int32} {v2 : Int32} {Q : Int32 → Mem → Prop} {m : Mem} (h : X12_see_p99 sh v0 v1 v2 Q m) : V G F M_X12_see sh 0 0 (Zi G F sh Q) 99 [(0, .ref (G.1 + v0)), (1, .int v1), (2, .int v2)] [] m := by
  unfold X12_see_p99 at h
  refine v_iload_n 2 2 dX12_see_99 rfl rfl ?_
  refine v_if_ne 109 dX12_see_100 (by decide) (fun hc => ?_) (fun hc => ?_)
  · replace h := Eq.mp (if_neg hc) h
    refine v_aload_n 0 0 dX12_see_109 rfl rfl ?_
    refine v_iload_n 1 1 dX12_see_110 rfl rfl ?_
    refine v_iconst (3 : Int32) dX12_see_111 (by decide) ?_
    refine v_idiv dX12_see_112 (by decide) ?_
    obtain ⟨o11, h⟩ := h
    refine v_pI 12 74 dX12_see_113 fw_RX12_433 o11 ?_
    replace h := bnd_e h
    refine v_iconst (0 : Int32) dX12_see_116 (by decide) ?_
    refine v_istore_n (ls' := [(3, .int _), (0, .ref _), (1, .int _), (2, .int _)]) 3 dX12_see_117 rfl (Nat.le_of_ble_eq_true rfl) rfl ?_
    refine v_sub [1, 0] rfl ?_
    exact v_X12_see_p118 h
  · replace h := Eq.mp (if_pos hc) h
    refine v_aload_n 0 0 dX12_see_103 rfl rfl ?_
    refine v_iconst (1 : Int32) dX12_see_104 (by decide) ?_
    obtain ⟨o15, h⟩ := h
    refine v_cVi [.int _] mv_X12_refuses ml_RX12_580 ⟨_, _, rfl⟩ o15 rfl rfl (Nat.le_of_ble_eq_true rfl) (Nat.le_of_ble_eq_true rfl) (Nat.le_of_ble_eq_true rfl) (Nat.zero_le _) (Nat.zero_le _) dX12_see_105 (c_X12_refuses h) (fun r13 m14 h => ?_)
    exact v_iret dX12_see_108 rfl rfl h
set_option maxHeartbeats 4000000 in
set_option maxRecDepth 100000 in
theorem v_X12_see_p43b {G : Gl} {F : Fr} {sh : Shp} {v0 : Nat} {v1 : Int32} {v2 : Int32} {v3 : Int32} {Q : Int32 → Mem → Prop} {K43 : Int32 → Int32 → Mem → Prop} {m : Mem} (hK43 : ∀ (x2 : Int32) (x3 : Int32) (m : Mem), K43 x2 x3 m → V G F M_X12_see sh 0 0 (Zi G F sh Q) 43 [(0, .ref (G.1 + v0)), (1, .int v1), (2, .int x2), (3, .int x3)] [] m) (h : X12_see_p43b sh v0 v1 Q K43 v2 v3 m) : V G F M_X12_see sh 0 0 (Zi G F sh Q) 43 [(0, .ref (G.1 + v0)), (1, .int v1), (2, .int v2), (3, .int v3)] [] m := by
  unfold X12_see_p43b at h
  refine v_iload_n 3 3 dX12_see_43 rfl rfl ?_
  refine v_iload_n 1 1 dX12_see_44 rfl rfl ?_
  refine v_icmp_ge 99 dX12_see_45 (by decide) (fun hc => ?_) (fun hc => ?_)
  · replace h := Eq.mp (if_pos hc) h
    refine v_sub [0, 1, 2] rfl ?_
    exact v_X12_see_p99 h
  · replace h := Eq.mp (if_neg hc) h
    refine v_iload_n 2 2 dX12_see_48 rfl rfl ?_
    refine v_if_eq 99 dX12_see_49 (by decide) (fun hc => ?_) (fun hc => ?_)
    · replace h := Eq.mp (if_pos hc) h
      refine v_sub [0, 1, 2] rfl ?_
      exact v_X12_see_p99 h
    · replace h := Eq.mp (if_neg hc) h
      refine v_aload_n 0 0 dX12_see_52 rfl rfl ?_
      obtain ⟨o3, h⟩ := h
      obtain ⟨b4, e5, h⟩ := h
      refine v_gR 12 0 dX12_see_53 fg_RX12_7 o3 e5 ?_
      refine v_iload_n 3 3 dX12_see_56 rfl rfl ?_
      obtain ⟨i6, h⟩ := h
      refine v_iald dX12_see_57 i6 ?_
      refine v_bipush (40 : Int32) dX12_see_58 (by decide) ?_
      refine v_icmp_gt 91 dX12_see_60 (by decide) (fun hc => ?_) (fun hc => ?_)
      · replace h := Eq.mp (if_pos hc) h
        refine v_sub [0, 1, 3] rfl ?_
        exact v_X12_see_p91 hK43 h
      · replace h := Eq.mp (if_neg hc) h
        refine v_aload_n 0 0 dX12_see_63 rfl rfl ?_
        refine v_aload_n 0 0 dX12_see_64 rfl rfl ?_
        refine v_gR 12 0 dX12_see_65 fg_RX12_7 o3 e5 ?_
        refine v_iload_n 3 3 dX12_see_68 rfl rfl ?_
        refine v_iconst (1 : Int32) dX12_see_69 (by decide) ?_
        refine v_iadd dX12_see_70 ?_
        obtain ⟨i7, h⟩ := h
        refine v_iald dX12_see_71 i7 ?_
        refine v_aload_n 0 0 dX12_see_72 rfl rfl ?_
        refine v_gR 12 0 dX12_see_73 fg_RX12_7 o3 e5 ?_
        refine v_iload_n 3 3 dX12_see_76 rfl rfl ?_
        refine v_iconst (2 : Int32) dX12_see_77 (by decide) ?_
        refine v_iadd dX12_see_78 ?_
        obtain ⟨i8, h⟩ := h
        refine v_iald dX12_see_79 i8 ?_
        refine v_cVi [.int _, .int _] mv_X12_cellAt ml_RX12_452 ⟨_, _, rfl⟩ o3 rfl rfl (Nat.le_of_ble_eq_true rfl) (Nat.le_of_ble_eq_true rfl) (Nat.le_of_ble_eq_true rfl) (Nat.zero_le _) (Nat.zero_le _) dX12_see_80 (c_X12_cellAt h) (fun r9 m10 h => ?_)
        refine v_iconst (-1 : Int32) dX12_see_83 (by decide) ?_
        refine v_icmp_eq 91 dX12_see_84 (by decide) (fun hc => ?_) (fun hc => ?_)
        · replace h := Eq.mp (if_pos hc) h
          refine v_sub [0, 1, 3] rfl ?_
          exact v_X12_see_p91 hK43 h
        · replace h := Eq.mp (if_neg hc) h
          refine v_iconst (1 : Int32) dX12_see_87 (by decide) ?_
          refine v_goto 92 dX12_see_88 (by decide) ?_
          refine v_sub [0, 1, 3] rfl ?_
          exact v_X12_see_p92 hK43 h
set_option maxHeartbeats 4000000 in
set_option maxRecDepth 100000 in
theorem v_X12_see_p43 {G : Gl} {F : Fr} {sh : Shp} {v0 : Nat} {v1 : Int32} {v2 : Int32} {v3 : Int32} {Q : Int32 → Mem → Prop} {m : Mem} (h : X12_see_p43 sh v0 v1 Q v2 v3 m) : V G F M_X12_see sh 0 0 (Zi G F sh Q) 43 [(0, .ref (G.1 + v0)), (1, .int v1), (2, .int v2), (3, .int v3)] [] m := by
  obtain ⟨n, h⟩ := h
  induction n generalizing v2 v3 m with
  | zero => exact h.elim
  | succ n ih => exact v_X12_see_p43b (fun _ _ _ h => ih h) h
set_option maxHeartbeats 4000000 in
set_option maxRecDepth 100000 in
theorem v_X12_see_p40 {G : Gl} {F : Fr} {sh : Shp} {v0 : Nat} {v1 : Int32} {s0 : Int32} {Q : Int32 → Mem → Prop} {m : Mem} (h : X12_see_p40 sh v0 v1 s0 Q m) : V G F M_X12_see sh 0 0 (Zi G F sh Q) 40 [(0, .ref (G.1 + v0)), (1, .int v1)] [.int s0] m := by
  unfold X12_see_p40 at h
  refine v_istore_n (ls' := [(2, .int _), (0, .ref _), (1, .int _)]) 2 dX12_see_40 rfl (Nat.le_of_ble_eq_true rfl) rfl ?_
  refine v_iconst (0 : Int32) dX12_see_41 (by decide) ?_
  refine v_istore_n (ls' := [(3, .int _), (2, .int _), (0, .ref _), (1, .int _)]) 3 dX12_see_42 rfl (Nat.le_of_ble_eq_true rfl) rfl ?_
  refine v_sub [2, 3, 1, 0] rfl ?_
  exact v_X12_see_p43 h
set_option maxHeartbeats 4000000 in
set_option maxRecDepth 100000 in
theorem v_X12_see_p39 {G : Gl} {F : Fr} {sh : Shp} {v0 : Nat} {v1 : Int32} {Q : Int32 → Mem → Prop} {m : Mem} (h : X12_see_p39 sh v0 v1 Q m) : V G F M_X12_see sh 0 0 (Zi G F sh Q) 39 [(0, .ref (G.1 + v0)), (1, .int v1)] [] m := by
  unfold X12_see_p39 at h
  refine v_iconst (0 : Int32) dX12_see_39 (by decide) ?_
  refine v_sub [0, 1] rfl ?_
  exact v_X12_see_p40 h
set_option maxHeartbeats 4000000 in
set_option maxRecDepth 100000 in
theorem c_X12_see {l : Launch} {G : Gl} {sh : Shp} {v0 : Nat} {Q : Int32 → Mem → Prop} {m : Mem} (h : wp_X12_see sh v0 Q m) : Cni l G yX12_see cX12_see 4 (Option.some FieldType.int) 3 107 sh [.ref (G.1 + v0)] m Q := by
  refine con_i (ls := [(0, .ref (G.1 + v0))]) (by decide +kernel) rfl (Nat.le_of_ble_eq_true rfl) (fun F => ?_)
  show V G F M_X12_see sh 0 0 (Zi G F sh Q) 0 [(0, .ref (G.1 + v0))] [] m
  unfold wp_X12_see at h
  refine v_aload_n 0 0 dX12_see_0 rfl rfl ?_
  obtain ⟨o1, h⟩ := h
  refine v_gI 12 1 dX12_see_1 fg_RX12_282 o1 ?_
  refine v_istore_n (ls' := [(1, .int _), (0, .ref _)]) 1 dX12_see_4 rfl (Nat.le_of_ble_eq_true rfl) rfl ?_
  refine v_aload_n 0 1 dX12_see_5 rfl rfl ?_
  refine v_iconst (0 : Int32) dX12_see_6 (by decide) ?_
  refine v_pI 12 1 dX12_see_7 fw_RX12_282 o1 ?_
  replace h := bnd_e h
  refine v_aload_n 0 1 dX12_see_10 rfl rfl ?_
  refine v_gI 12 56 dX12_see_11 fg_RX12_423 o1 ?_
  refine v_if_eq 39 dX12_see_14 (by decide) (fun hc => ?_) (fun hc => ?_)
  · replace h := Eq.mp (if_pos hc) h
    refine v_sub [1, 0] rfl ?_
    exact v_X12_see_p39 h
  · replace h := Eq.mp (if_neg hc) h
    refine v_iload_n 1 0 dX12_see_17 rfl rfl ?_
    refine v_if_le 39 dX12_see_18 (by decide) (fun hc => ?_) (fun hc => ?_)
    · replace h := Eq.mp (if_pos hc) h
      refine v_sub [1, 0] rfl ?_
      exact v_X12_see_p39 h
    · replace h := Eq.mp (if_neg hc) h
      refine v_iload_n 1 0 dX12_see_21 rfl rfl ?_
      refine v_iconst (3 : Int32) dX12_see_22 (by decide) ?_
      refine v_irem dX12_see_23 (by decide) ?_
      refine v_if_ne 39 dX12_see_24 (by decide) (fun hc => ?_) (fun hc => ?_)
      · replace h := Eq.mp (if_neg hc) h
        refine v_sub [1, 0] rfl ?_
        exact v_X12_see_p39 h
      · replace h := Eq.mp (if_pos hc) h
        refine v_iload_n 1 0 dX12_see_27 rfl rfl ?_
        refine v_iconst (3 : Int32) dX12_see_28 (by decide) ?_
        refine v_idiv dX12_see_29 (by decide) ?_
        refine v_bipush (16 : Int32) dX12_see_30 (by decide) ?_
        refine v_icmp_gt 39 dX12_see_32 (by decide) (fun hc => ?_) (fun hc => ?_)
        · replace h := Eq.mp (if_pos hc) h
          refine v_sub [1, 0] rfl ?_
          exact v_X12_see_p39 h
        · replace h := Eq.mp (if_neg hc) h
          refine v_iconst (1 : Int32) dX12_see_35 (by decide) ?_
          refine v_goto 40 dX12_see_36 (by decide) ?_
          refine v_sub [1, 0] rfl ?_
          exact v_X12_see_p40 h
/-! CalledRiverModel.seed -/
theorem dX12_seed_0 : decode cX12_seed 0 = .ok (.iload_n 1, 1) := by decide +kernel
theorem dX12_seed_1 : decode cX12_seed 1 = .ok (.ifCond .ge 15, 3) := by decide +kernel
theorem dX12_seed_4 : decode cX12_seed 4 = .ok (.aload_n 0, 1) := by decide +kernel
theorem dX12_seed_5 : decode cX12_seed 5 = .ok (.getfield 17, 3) := by decide +kernel
theorem dX12_seed_8 : decode cX12_seed 8 = .ok (.iconst 5, 1) := by decide +kernel
theorem dX12_seed_9 : decode cX12_seed 9 = .ok (.dup2, 1) := by decide +kernel
theorem dX12_seed_10 : decode cX12_seed 10 = .ok (.iaload, 1) := by decide +kernel
theorem dX12_seed_11 : decode cX12_seed 11 = .ok (.iconst 1, 1) := by decide +kernel
theorem dX12_seed_12 : decode cX12_seed 12 = .ok (.iadd, 1) := by decide +kernel
theorem dX12_seed_13 : decode cX12_seed 13 = .ok (.iastore, 1) := by decide +kernel
theorem dX12_seed_14 : decode cX12_seed 14 = .ok (.iconst 0, 1) := by decide +kernel
theorem dX12_seed_15 : decode cX12_seed 15 = .ok (.ireturn, 1) := by decide +kernel
theorem dX12_seed_16 : decode cX12_seed 16 = .ok (.aload_n 0, 1) := by decide +kernel
theorem dX12_seed_17 : decode cX12_seed 17 = .ok (.iload_n 1, 1) := by decide +kernel
theorem dX12_seed_18 : decode cX12_seed 18 = .ok (.i2l, 1) := by decide +kernel
theorem dX12_seed_19 : decode cX12_seed 19 = .ok (.putfield 185, 3) := by decide +kernel
theorem dX12_seed_22 : decode cX12_seed 22 = .ok (.iconst 1, 1) := by decide +kernel
theorem dX12_seed_23 : decode cX12_seed 23 = .ok (.ireturn, 1) := by decide +kernel
def wp_X12_seed (sh : Shp) (v0 : Nat) (v1 : Int32) (Q : Int32 → Mem → Prop) (m : Mem) : Prop :=
  if 0 ≤ v1 then (Ob sh v0 12 ∧ bnd (sL m v0 80 v1.toInt64) (fun m2 => Q (1 : Int32) m2)) else (Ob sh v0 12 ∧ ∃ b4 : Nat, m.2.2 v0 9 = some b4 ∧ (Ix sh b4 100 (5 : Int32) ∧ (bnd (sI m b4 (5 : Int32).toNatClampNeg ((m.1 b4 (5 : Int32).toNatClampNeg) + (1 : Int32))) (fun m7 => Q (0 : Int32) m7))))
abbrev M_X12_seed : Mi := (cX12_seed, 2, RX12, (Option.some FieldType.boolean), "seed", 1, 60, 0, 0)
set_option maxHeartbeats 4000000 in
set_option maxRecDepth 100000 in
theorem c_X12_seed {l : Launch} {G : Gl} {sh : Shp} {v0 : Nat} {v1 : Int32} {Q : Int32 → Mem → Prop} {m : Mem} (h : wp_X12_seed sh v0 v1 Q m) : Cni l G yX12_seed cX12_seed 2 (Option.some FieldType.boolean) 1 60 sh [.ref (G.1 + v0), .int v1] m Q := by
  refine con_i (ls := [(0, .ref (G.1 + v0)), (1, .int v1)]) (by decide +kernel) rfl (Nat.le_of_ble_eq_true rfl) (fun F => ?_)
  show V G F M_X12_seed sh 0 0 (Zi G F sh Q) 0 [(0, .ref (G.1 + v0)), (1, .int v1)] [] m
  unfold wp_X12_seed at h
  refine v_iload_n 1 1 dX12_seed_0 rfl rfl ?_
  refine v_if_ge 16 dX12_seed_1 (by decide) (fun hc => ?_) (fun hc => ?_)
  · replace h := Eq.mp (if_pos hc) h
    refine v_aload_n 0 0 dX12_seed_16 rfl rfl ?_
    refine v_iload_n 1 1 dX12_seed_17 rfl rfl ?_
    refine v_i2l dX12_seed_18 ?_
    obtain ⟨o1, h⟩ := h
    refine v_pL 12 80 dX12_seed_19 fw_RX12_185 o1 ?_
    replace h := bnd_e h
    refine v_iconst (1 : Int32) dX12_seed_22 (by decide) ?_
    exact v_iret dX12_seed_23 rfl (by decide) h
  · replace h := Eq.mp (if_neg hc) h
    refine v_aload_n 0 0 dX12_seed_4 rfl rfl ?_
    obtain ⟨o3, h⟩ := h
    obtain ⟨b4, e5, h⟩ := h
    refine v_gR 12 9 dX12_seed_5 fg_RX12_17 o3 e5 ?_
    refine v_iconst (5 : Int32) dX12_seed_8 (by decide) ?_
    refine v_dup2 dX12_seed_9 rfl rfl ?_
    obtain ⟨i6, h⟩ := h
    refine v_iald dX12_seed_10 i6 ?_
    refine v_iconst (1 : Int32) dX12_seed_11 (by decide) ?_
    refine v_iadd dX12_seed_12 ?_
    refine v_iast dX12_seed_13 i6 ?_
    replace h := bnd_e h
    refine v_iconst (0 : Int32) dX12_seed_14 (by decide) ?_
    exact v_iret dX12_seed_15 rfl (by decide) h
/-! CalledRiverModel.spring -/
theorem dX12_spring_0 : decode cX12_spring 0 = .ok (.aload_n 0, 1) := by decide +kernel
theorem dX12_spring_1 : decode cX12_spring 1 = .ok (.iload_n 1, 1) := by decide +kernel
theorem dX12_spring_2 : decode cX12_spring 2 = .ok (.i2l, 1) := by decide +kernel
theorem dX12_spring_3 : decode cX12_spring 3 = .ok (.invokevirtual 557, 3) := by decide +kernel
theorem dX12_spring_6 : decode cX12_spring 6 = .ok (.ifCond .eq 20, 3) := by decide +kernel
theorem dX12_spring_9 : decode cX12_spring 9 = .ok (.aload_n 0, 1) := by decide +kernel
theorem dX12_spring_10 : decode cX12_spring 10 = .ok (.invokevirtual 509, 3) := by decide +kernel
theorem dX12_spring_13 : decode cX12_spring 13 = .ok (.ifCond .eq 13, 3) := by decide +kernel
theorem dX12_spring_16 : decode cX12_spring 16 = .ok (.aload_n 0, 1) := by decide +kernel
theorem dX12_spring_17 : decode cX12_spring 17 = .ok (.iconst 1, 1) := by decide +kernel
theorem dX12_spring_18 : decode cX12_spring 18 = .ok (.iconst 1, 1) := by decide +kernel
theorem dX12_spring_19 : decode cX12_spring 19 = .ok (.iconst 1, 1) := by decide +kernel
theorem dX12_spring_20 : decode cX12_spring 20 = .ok (.invokevirtual 598, 3) := by decide +kernel
theorem dX12_spring_23 : decode cX12_spring 23 = .ok (.ifCond .ne 9, 3) := by decide +kernel
theorem dX12_spring_26 : decode cX12_spring 26 = .ok (.aload_n 0, 1) := by decide +kernel
theorem dX12_spring_27 : decode cX12_spring 27 = .ok (.iconst 2, 1) := by decide +kernel
theorem dX12_spring_28 : decode cX12_spring 28 = .ok (.invokevirtual 580, 3) := by decide +kernel
theorem dX12_spring_31 : decode cX12_spring 31 = .ok (.ireturn, 1) := by decide +kernel
theorem dX12_spring_32 : decode cX12_spring 32 = .ok (.aload_n 0, 1) := by decide +kernel
theorem dX12_spring_33 : decode cX12_spring 33 = .ok (.invokevirtual 601, 3) := by decide +kernel
theorem dX12_spring_36 : decode cX12_spring 36 = .ok (.aload_n 0, 1) := by decide +kernel
theorem dX12_spring_37 : decode cX12_spring 37 = .ok (.iload_n 1, 1) := by decide +kernel
theorem dX12_spring_38 : decode cX12_spring 38 = .ok (.invokevirtual 604, 3) := by decide +kernel
theorem dX12_spring_41 : decode cX12_spring 41 = .ok (.ireturn, 1) := by decide +kernel
def X12_spring_p26 (sh : Shp) (v0 : Nat) (Q : Int32 → Mem → Prop) (m : Mem) : Prop :=
  Ob sh v0 12 ∧ wp_X12_refuses sh v0 (2 : Int32) (fun r12 m13 => Q r12 m13) m
def wp_X12_spring (sh : Shp) (v0 : Nat) (v1 : Int32) (Q : Int32 → Mem → Prop) (m : Mem) : Prop :=
  Ob sh v0 12 ∧ wp_X12_isCaller sh v0 v1.toInt64 (fun r1 m2 => if r1 = 0 then (X12_spring_p26 sh v0 Q m2) else (wp_X12_hasWay sh v0 (fun r4 m5 => if r4 = 0 then (X12_spring_p26 sh v0 Q m5) else (wp_X12_isAhead sh v0 (1 : Int32) (1 : Int32) (1 : Int32) (fun r6 m7 => if r6 = 0 then (X12_spring_p26 sh v0 Q m7) else (wp_X12_keeps sh v0 (fun m9 => wp_X12_yearGoes sh v0 v1 (fun r10 m11 => Q r10 m11) m9) m7)) m5)) m2)) m
abbrev M_X12_spring : Mi := (cX12_spring, 2, RX12, (Option.some FieldType.int), "spring", 10, 266, 0, 0)
set_option maxHeartbeats 4000000 in
set_option maxRecDepth 100000 in
theorem v_X12_spring_p26 {G : Gl} {F : Fr} {sh : Shp} {v0 : Nat} {Q : Int32 → Mem → Prop} {m : Mem} (h : X12_spring_p26 sh v0 Q m) : V G F M_X12_spring sh 0 0 (Zi G F sh Q) 26 [(0, .ref (G.1 + v0))] [] m := by
  unfold X12_spring_p26 at h
  refine v_aload_n 0 0 dX12_spring_26 rfl rfl ?_
  refine v_iconst (2 : Int32) dX12_spring_27 (by decide) ?_
  obtain ⟨o14, h⟩ := h
  refine v_cVi [.int _] mv_X12_refuses ml_RX12_580 ⟨_, _, rfl⟩ o14 rfl rfl (Nat.le_of_ble_eq_true rfl) (Nat.le_of_ble_eq_true rfl) (Nat.le_of_ble_eq_true rfl) (Nat.zero_le _) (Nat.zero_le _) dX12_spring_28 (c_X12_refuses h) (fun r12 m13 h => ?_)
  exact v_iret dX12_spring_31 rfl rfl h
set_option maxHeartbeats 4000000 in
set_option maxRecDepth 100000 in
theorem c_X12_spring {l : Launch} {G : Gl} {sh : Shp} {v0 : Nat} {v1 : Int32} {Q : Int32 → Mem → Prop} {m : Mem} (h : wp_X12_spring sh v0 v1 Q m) : Cni l G yX12_spring cX12_spring 2 (Option.some FieldType.int) 10 266 sh [.ref (G.1 + v0), .int v1] m Q := by
  refine con_i (ls := [(0, .ref (G.1 + v0)), (1, .int v1)]) (by decide +kernel) rfl (Nat.le_of_ble_eq_true rfl) (fun F => ?_)
  show V G F M_X12_spring sh 0 0 (Zi G F sh Q) 0 [(0, .ref (G.1 + v0)), (1, .int v1)] [] m
  unfold wp_X12_spring at h
  refine v_aload_n 0 0 dX12_spring_0 rfl rfl ?_
  refine v_iload_n 1 1 dX12_spring_1 rfl rfl ?_
  refine v_i2l dX12_spring_2 ?_
  obtain ⟨o3, h⟩ := h
  refine v_cVi [.long _] mv_X12_isCaller ml_RX12_557 ⟨_, _, rfl⟩ o3 rfl rfl (Nat.le_of_ble_eq_true rfl) (Nat.le_of_ble_eq_true rfl) (Nat.le_of_ble_eq_true rfl) (Nat.zero_le _) (Nat.zero_le _) dX12_spring_3 (c_X12_isCaller h) (fun r1 m2 h => ?_)
  refine v_if_eq 26 dX12_spring_6 (by decide) (fun hc => ?_) (fun hc => ?_)
  · replace h := Eq.mp (if_pos hc) h
    refine v_sub [0] rfl ?_
    exact v_X12_spring_p26 h
  · replace h := Eq.mp (if_neg hc) h
    refine v_aload_n 0 0 dX12_spring_9 rfl rfl ?_
    refine v_cVi [] mv_X12_hasWay ml_RX12_509 ⟨_, _, rfl⟩ o3 rfl rfl (Nat.le_of_ble_eq_true rfl) (Nat.le_of_ble_eq_true rfl) (Nat.le_of_ble_eq_true rfl) (Nat.zero_le _) (Nat.zero_le _) dX12_spring_10 (c_X12_hasWay h) (fun r4 m5 h => ?_)
    refine v_if_eq 26 dX12_spring_13 (by decide) (fun hc => ?_) (fun hc => ?_)
    · replace h := Eq.mp (if_pos hc) h
      refine v_sub [0] rfl ?_
      exact v_X12_spring_p26 h
    · replace h := Eq.mp (if_neg hc) h
      refine v_aload_n 0 0 dX12_spring_16 rfl rfl ?_
      refine v_iconst (1 : Int32) dX12_spring_17 (by decide) ?_
      refine v_iconst (1 : Int32) dX12_spring_18 (by decide) ?_
      refine v_iconst (1 : Int32) dX12_spring_19 (by decide) ?_
      refine v_cVi [.int _, .int _, .int _] mv_X12_isAhead ml_RX12_598 ⟨_, _, rfl⟩ o3 rfl rfl (Nat.le_of_ble_eq_true rfl) (Nat.le_of_ble_eq_true rfl) (Nat.le_of_ble_eq_true rfl) (Nat.zero_le _) (Nat.zero_le _) dX12_spring_20 (c_X12_isAhead h) (fun r6 m7 h => ?_)
      refine v_if_ne 32 dX12_spring_23 (by decide) (fun hc => ?_) (fun hc => ?_)
      · replace h := Eq.mp (if_neg hc) h
        refine v_aload_n 0 0 dX12_spring_32 rfl rfl ?_
        refine v_cVv [] mv_X12_keeps ml_RX12_601 ⟨_, _, rfl⟩ o3 rfl rfl (Nat.le_of_ble_eq_true rfl) (Nat.le_of_ble_eq_true rfl) (Nat.le_of_ble_eq_true rfl) (Nat.zero_le _) (Nat.zero_le _) dX12_spring_33 (c_X12_keeps h) (fun m9 h => ?_)
        refine v_aload_n 0 0 dX12_spring_36 rfl rfl ?_
        refine v_iload_n 1 1 dX12_spring_37 rfl rfl ?_
        refine v_cVi [.int _] mv_X12_yearGoes ml_RX12_604 ⟨_, _, rfl⟩ o3 rfl rfl (Nat.le_of_ble_eq_true rfl) (Nat.le_of_ble_eq_true rfl) (Nat.le_of_ble_eq_true rfl) (Nat.zero_le _) (Nat.zero_le _) dX12_spring_38 (c_X12_yearGoes h) (fun r10 m11 h => ?_)
        exact v_iret dX12_spring_41 rfl rfl h
      · replace h := Eq.mp (if_pos hc) h
        refine v_sub [0] rfl ?_
        exact v_X12_spring_p26 h
/-! CalledRiverModel.status -/
theorem dX12_status_0 : decode cX12_status 0 = .ok (.iload_n 1, 1) := by decide +kernel
theorem dX12_status_1 : decode cX12_status 1 = .ok (.i2l, 1) := by decide +kernel
theorem dX12_status_2 : decode cX12_status 2 = .ok (.lconst 0, 1) := by decide +kernel
theorem dX12_status_3 : decode cX12_status 3 = .ok (.ldc2_w 550, 3) := by decide +kernel
theorem dX12_status_6 : decode cX12_status 6 = .ok (.invokestatic 328, 3) := by decide +kernel
theorem dX12_status_9 : decode cX12_status 9 = .ok (.ifCond .eq 12, 3) := by decide +kernel
theorem dX12_status_12 : decode cX12_status 12 = .ok (.aload_n 0, 1) := by decide +kernel
theorem dX12_status_13 : decode cX12_status 13 = .ok (.getfield 17, 3) := by decide +kernel
theorem dX12_status_16 : decode cX12_status 16 = .ok (.iload_n 1, 1) := by decide +kernel
theorem dX12_status_17 : decode cX12_status 17 = .ok (.iaload, 1) := by decide +kernel
theorem dX12_status_18 : decode cX12_status 18 = .ok (.goto 4, 3) := by decide +kernel
theorem dX12_status_21 : decode cX12_status 21 = .ok (.iconst (-1), 1) := by decide +kernel
theorem dX12_status_22 : decode cX12_status 22 = .ok (.ireturn, 1) := by decide +kernel
def wp_X12_status (sh : Shp) (v0 : Nat) (v1 : Int32) (Q : Int32 → Mem → Prop) (m : Mem) : Prop :=
  wp_X12_isIn sh v1.toInt64 (0 : Int64) (5 : Int64) (fun r1 m2 => if r1 = 0 then (Q (-1 : Int32) m2) else (Ob sh v0 12 ∧ ∃ b4 : Nat, m2.2.2 v0 9 = some b4 ∧ (Ix sh b4 100 v1 ∧ (Q (m2.1 b4 v1.toNatClampNeg) m2)))) m
abbrev M_X12_status : Mi := (cX12_status, 2, RX12, (Option.some FieldType.int), "status", 2, 85, 0, 0)
set_option maxHeartbeats 4000000 in
set_option maxRecDepth 100000 in
theorem c_X12_status {l : Launch} {G : Gl} {sh : Shp} {v0 : Nat} {v1 : Int32} {Q : Int32 → Mem → Prop} {m : Mem} (h : wp_X12_status sh v0 v1 Q m) : Cni l G yX12_status cX12_status 2 (Option.some FieldType.int) 2 85 sh [.ref (G.1 + v0), .int v1] m Q := by
  refine con_i (ls := [(0, .ref (G.1 + v0)), (1, .int v1)]) (by decide +kernel) rfl (Nat.le_of_ble_eq_true rfl) (fun F => ?_)
  show V G F M_X12_status sh 0 0 (Zi G F sh Q) 0 [(0, .ref (G.1 + v0)), (1, .int v1)] [] m
  unfold wp_X12_status at h
  refine v_iload_n 1 1 dX12_status_0 rfl rfl ?_
  refine v_i2l dX12_status_1 ?_
  refine v_lconst (0 : Int64) dX12_status_2 (by decide) ?_
  refine v_ldc2 (5 : Int64) dX12_status_3 cw_RX12_550 ?_
  refine v_cSi [.long _, .long _, .long _] mv_X12_isIn ml_RX12_328 rfl rfl (Nat.le_of_ble_eq_true rfl) (Nat.le_of_ble_eq_true rfl) (Nat.le_of_ble_eq_true rfl) (Nat.zero_le _) (Nat.zero_le _) dX12_status_6 (c_X12_isIn h) (fun r1 m2 h => ?_)
  refine v_if_eq 21 dX12_status_9 (by decide) (fun hc => ?_) (fun hc => ?_)
  · replace h := Eq.mp (if_pos hc) h
    refine v_iconst (-1 : Int32) dX12_status_21 (by decide) ?_
    exact v_iret dX12_status_22 rfl rfl h
  · replace h := Eq.mp (if_neg hc) h
    refine v_aload_n 0 0 dX12_status_12 rfl rfl ?_
    obtain ⟨o3, h⟩ := h
    obtain ⟨b4, e5, h⟩ := h
    refine v_gR 12 9 dX12_status_13 fg_RX12_17 o3 e5 ?_
    refine v_iload_n 1 1 dX12_status_16 rfl rfl ?_
    obtain ⟨i6, h⟩ := h
    refine v_iald dX12_status_17 i6 ?_
    refine v_goto 22 dX12_status_18 (by decide) ?_
    exact v_iret dX12_status_22 rfl rfl h
/-! CalledRiverModel.stone -/
theorem dX12_stone_0 : decode cX12_stone 0 = .ok (.aload_n 0, 1) := by decide +kernel
theorem dX12_stone_1 : decode cX12_stone 1 = .ok (.iload_n 1, 1) := by decide +kernel
theorem dX12_stone_2 : decode cX12_stone 2 = .ok (.iload_n 2, 1) := by decide +kernel
theorem dX12_stone_3 : decode cX12_stone 3 = .ok (.invokevirtual 452, 3) := by decide +kernel
theorem dX12_stone_6 : decode cX12_stone 6 = .ok (.istore 4, 2) := by decide +kernel
theorem dX12_stone_8 : decode cX12_stone 8 = .ok (.iload 4, 2) := by decide +kernel
theorem dX12_stone_10 : decode cX12_stone 10 = .ok (.iconst (-1), 1) := by decide +kernel
theorem dX12_stone_11 : decode cX12_stone 11 = .ok (.if_icmp .eq 28, 3) := by decide +kernel
theorem dX12_stone_14 : decode cX12_stone 14 = .ok (.iload_n 3, 1) := by decide +kernel
theorem dX12_stone_15 : decode cX12_stone 15 = .ok (.i2l, 1) := by decide +kernel
theorem dX12_stone_16 : decode cX12_stone 16 = .ok (.lconst 0, 1) := by decide +kernel
theorem dX12_stone_17 : decode cX12_stone 17 = .ok (.lconst 1, 1) := by decide +kernel
theorem dX12_stone_18 : decode cX12_stone 18 = .ok (.invokestatic 328, 3) := by decide +kernel
theorem dX12_stone_21 : decode cX12_stone 21 = .ok (.ifCond .eq 18, 3) := by decide +kernel
theorem dX12_stone_24 : decode cX12_stone 24 = .ok (.aload_n 0, 1) := by decide +kernel
theorem dX12_stone_25 : decode cX12_stone 25 = .ok (.getfield 143, 3) := by decide +kernel
theorem dX12_stone_28 : decode cX12_stone 28 = .ok (.iconst 2, 1) := by decide +kernel
theorem dX12_stone_29 : decode cX12_stone 29 = .ok (.iconst 3, 1) := by decide +kernel
theorem dX12_stone_30 : decode cX12_stone 30 = .ok (.iload 4, 2) := by decide +kernel
theorem dX12_stone_32 : decode cX12_stone 32 = .ok (.imul, 1) := by decide +kernel
theorem dX12_stone_33 : decode cX12_stone 33 = .ok (.iadd, 1) := by decide +kernel
theorem dX12_stone_34 : decode cX12_stone 34 = .ok (.iaload, 1) := by decide +kernel
theorem dX12_stone_35 : decode cX12_stone 35 = .ok (.iload_n 3, 1) := by decide +kernel
theorem dX12_stone_36 : decode cX12_stone 36 = .ok (.if_icmp .ne 8, 3) := by decide +kernel
theorem dX12_stone_39 : decode cX12_stone 39 = .ok (.aload_n 0, 1) := by decide +kernel
theorem dX12_stone_40 : decode cX12_stone 40 = .ok (.invokevirtual 607, 3) := by decide +kernel
theorem dX12_stone_43 : decode cX12_stone 43 = .ok (.ireturn, 1) := by decide +kernel
theorem dX12_stone_44 : decode cX12_stone 44 = .ok (.aload_n 0, 1) := by decide +kernel
theorem dX12_stone_45 : decode cX12_stone 45 = .ok (.invokevirtual 601, 3) := by decide +kernel
theorem dX12_stone_48 : decode cX12_stone 48 = .ok (.aload_n 0, 1) := by decide +kernel
theorem dX12_stone_49 : decode cX12_stone 49 = .ok (.getfield 143, 3) := by decide +kernel
theorem dX12_stone_52 : decode cX12_stone 52 = .ok (.iconst 2, 1) := by decide +kernel
theorem dX12_stone_53 : decode cX12_stone 53 = .ok (.iconst 3, 1) := by decide +kernel
theorem dX12_stone_54 : decode cX12_stone 54 = .ok (.iload 4, 2) := by decide +kernel
theorem dX12_stone_56 : decode cX12_stone 56 = .ok (.imul, 1) := by decide +kernel
theorem dX12_stone_57 : decode cX12_stone 57 = .ok (.iadd, 1) := by decide +kernel
theorem dX12_stone_58 : decode cX12_stone 58 = .ok (.iload_n 3, 1) := by decide +kernel
theorem dX12_stone_59 : decode cX12_stone 59 = .ok (.iastore, 1) := by decide +kernel
theorem dX12_stone_60 : decode cX12_stone 60 = .ok (.iconst 1, 1) := by decide +kernel
theorem dX12_stone_61 : decode cX12_stone 61 = .ok (.ireturn, 1) := by decide +kernel
def X12_stone_p39 (sh : Shp) (v0 : Nat) (Q : Int32 → Mem → Prop) (m : Mem) : Prop :=
  Ob sh v0 12 ∧ wp_X12_isRefused sh v0 (fun r15 m16 => (r15 = 0 ∨ r15 = 1) ∧ Q r15 m16) m
def wp_X12_stone (sh : Shp) (v0 : Nat) (v1 : Int32) (v2 : Int32) (v3 : Int32) (Q : Int32 → Mem → Prop) (m : Mem) : Prop :=
  Ob sh v0 12 ∧ wp_X12_cellAt sh v0 v1 v2 (fun r1 m2 => if r1 = (-1 : Int32) then (X12_stone_p39 sh v0 Q m2) else (wp_X12_isIn sh v3.toInt64 (0 : Int64) (1 : Int64) (fun r4 m5 => if r4 = 0 then (X12_stone_p39 sh v0 Q m5) else (∃ b6 : Nat, m5.2.2 v0 58 = some b6 ∧ (Ix sh b6 100 ((2 : Int32) + ((3 : Int32) * r1)) ∧ (if (m5.1 b6 ((2 : Int32) + ((3 : Int32) * r1)).toNatClampNeg) = v3 then (X12_stone_p39 sh v0 Q m5) else (wp_X12_keeps sh v0 (fun m10 => ∃ b11 : Nat, m10.2.2 v0 58 = some b11 ∧ (Ix sh b11 100 ((2 : Int32) + ((3 : Int32) * r1)) ∧ bnd (sI m10 b11 ((2 : Int32) + ((3 : Int32) * r1)).toNatClampNeg v3) (fun m14 => Q (1 : Int32) m14))) m5))))) m2)) m
abbrev M_X12_stone : Mi := (cX12_stone, 5, RX12, (Option.some FieldType.boolean), "stone", 3, 107, 0, 0)
set_option maxHeartbeats 4000000 in
set_option maxRecDepth 100000 in
theorem v_X12_stone_p39 {G : Gl} {F : Fr} {sh : Shp} {v0 : Nat} {Q : Int32 → Mem → Prop} {m : Mem} (h : X12_stone_p39 sh v0 Q m) : V G F M_X12_stone sh 0 0 (Zi G F sh Q) 39 [(0, .ref (G.1 + v0))] [] m := by
  unfold X12_stone_p39 at h
  refine v_aload_n 0 0 dX12_stone_39 rfl rfl ?_
  obtain ⟨o17, h⟩ := h
  refine v_cVi [] mv_X12_isRefused ml_RX12_607 ⟨_, _, rfl⟩ o17 rfl rfl (Nat.le_of_ble_eq_true rfl) (Nat.le_of_ble_eq_true rfl) (Nat.le_of_ble_eq_true rfl) (Nat.zero_le _) (Nat.zero_le _) dX12_stone_40 (c_X12_isRefused h) (fun r15 m16 h => ?_)
  obtain ⟨hx, h⟩ := h
  exact v_iret dX12_stone_43 rfl (nar_z hx) h
set_option maxHeartbeats 4000000 in
set_option maxRecDepth 100000 in
theorem c_X12_stone {l : Launch} {G : Gl} {sh : Shp} {v0 : Nat} {v1 : Int32} {v2 : Int32} {v3 : Int32} {Q : Int32 → Mem → Prop} {m : Mem} (h : wp_X12_stone sh v0 v1 v2 v3 Q m) : Cni l G yX12_stone cX12_stone 5 (Option.some FieldType.boolean) 3 107 sh [.ref (G.1 + v0), .int v1, .int v2, .int v3] m Q := by
  refine con_i (ls := [(0, .ref (G.1 + v0)), (1, .int v1), (2, .int v2), (3, .int v3)]) (by decide +kernel) rfl (Nat.le_of_ble_eq_true rfl) (fun F => ?_)
  show V G F M_X12_stone sh 0 0 (Zi G F sh Q) 0 [(0, .ref (G.1 + v0)), (1, .int v1), (2, .int v2), (3, .int v3)] [] m
  unfold wp_X12_stone at h
  refine v_aload_n 0 0 dX12_stone_0 rfl rfl ?_
  refine v_iload_n 1 1 dX12_stone_1 rfl rfl ?_
  refine v_iload_n 2 2 dX12_stone_2 rfl rfl ?_
  obtain ⟨o3, h⟩ := h
  refine v_cVi [.int _, .int _] mv_X12_cellAt ml_RX12_452 ⟨_, _, rfl⟩ o3 rfl rfl (Nat.le_of_ble_eq_true rfl) (Nat.le_of_ble_eq_true rfl) (Nat.le_of_ble_eq_true rfl) (Nat.zero_le _) (Nat.zero_le _) dX12_stone_3 (c_X12_cellAt h) (fun r1 m2 h => ?_)
  refine v_istore (ls' := [(4, .int _), (0, .ref _), (1, .int _), (2, .int _), (3, .int _)]) 4 dX12_stone_6 (Nat.le_of_ble_eq_true rfl) rfl ?_
  refine v_iload 4 0 dX12_stone_8 rfl ?_
  refine v_iconst (-1 : Int32) dX12_stone_10 (by decide) ?_
  refine v_icmp_eq 39 dX12_stone_11 (by decide) (fun hc => ?_) (fun hc => ?_)
  · replace h := Eq.mp (if_pos hc) h
    refine v_sub [1] rfl ?_
    exact v_X12_stone_p39 h
  · replace h := Eq.mp (if_neg hc) h
    refine v_iload_n 3 4 dX12_stone_14 rfl rfl ?_
    refine v_i2l dX12_stone_15 ?_
    refine v_lconst (0 : Int64) dX12_stone_16 (by decide) ?_
    refine v_lconst (1 : Int64) dX12_stone_17 (by decide) ?_
    refine v_cSi [.long _, .long _, .long _] mv_X12_isIn ml_RX12_328 rfl rfl (Nat.le_of_ble_eq_true rfl) (Nat.le_of_ble_eq_true rfl) (Nat.le_of_ble_eq_true rfl) (Nat.zero_le _) (Nat.zero_le _) dX12_stone_18 (c_X12_isIn h) (fun r4 m5 h => ?_)
    refine v_if_eq 39 dX12_stone_21 (by decide) (fun hc => ?_) (fun hc => ?_)
    · replace h := Eq.mp (if_pos hc) h
      refine v_sub [1] rfl ?_
      exact v_X12_stone_p39 h
    · replace h := Eq.mp (if_neg hc) h
      refine v_aload_n 0 1 dX12_stone_24 rfl rfl ?_
      obtain ⟨b6, e7, h⟩ := h
      refine v_gR 12 58 dX12_stone_25 fg_RX12_143 o3 e7 ?_
      refine v_iconst (2 : Int32) dX12_stone_28 (by decide) ?_
      refine v_iconst (3 : Int32) dX12_stone_29 (by decide) ?_
      refine v_iload 4 0 dX12_stone_30 rfl ?_
      refine v_imul dX12_stone_32 ?_
      refine v_iadd dX12_stone_33 ?_
      obtain ⟨i8, h⟩ := h
      refine v_iald dX12_stone_34 i8 ?_
      refine v_iload_n 3 4 dX12_stone_35 rfl rfl ?_
      refine v_icmp_ne 44 dX12_stone_36 (by decide) (fun hc => ?_) (fun hc => ?_)
      · replace h := Eq.mp (if_neg hc) h
        refine v_aload_n 0 1 dX12_stone_44 rfl rfl ?_
        refine v_cVv [] mv_X12_keeps ml_RX12_601 ⟨_, _, rfl⟩ o3 rfl rfl (Nat.le_of_ble_eq_true rfl) (Nat.le_of_ble_eq_true rfl) (Nat.le_of_ble_eq_true rfl) (Nat.zero_le _) (Nat.zero_le _) dX12_stone_45 (c_X12_keeps h) (fun m10 h => ?_)
        refine v_aload_n 0 1 dX12_stone_48 rfl rfl ?_
        obtain ⟨b11, e12, h⟩ := h
        refine v_gR 12 58 dX12_stone_49 fg_RX12_143 o3 e12 ?_
        refine v_iconst (2 : Int32) dX12_stone_52 (by decide) ?_
        refine v_iconst (3 : Int32) dX12_stone_53 (by decide) ?_
        refine v_iload 4 0 dX12_stone_54 rfl ?_
        refine v_imul dX12_stone_56 ?_
        refine v_iadd dX12_stone_57 ?_
        refine v_iload_n 3 4 dX12_stone_58 rfl rfl ?_
        obtain ⟨i13, h⟩ := h
        refine v_iast dX12_stone_59 i13 ?_
        replace h := bnd_e h
        refine v_iconst (1 : Int32) dX12_stone_60 (by decide) ?_
        exact v_iret dX12_stone_61 rfl (by decide) h
      · replace h := Eq.mp (if_pos hc) h
        refine v_sub [1] rfl ?_
        exact v_X12_stone_p39 h
/-! CalledRiverModel.whoCan -/
theorem dX12_whoCan_0 : decode cX12_whoCan 0 = .ok (.aload_n 0, 1) := by decide +kernel
theorem dX12_whoCan_1 : decode cX12_whoCan 1 = .ok (.invokevirtual 583, 3) := by decide +kernel
theorem dX12_whoCan_4 : decode cX12_whoCan 4 = .ok (.iconst 0, 1) := by decide +kernel
theorem dX12_whoCan_5 : decode cX12_whoCan 5 = .ok (.istore_n 1, 1) := by decide +kernel
theorem dX12_whoCan_6 : decode cX12_whoCan 6 = .ok (.iconst 0, 1) := by decide +kernel
theorem dX12_whoCan_7 : decode cX12_whoCan 7 = .ok (.istore_n 2, 1) := by decide +kernel
theorem dX12_whoCan_8 : decode cX12_whoCan 8 = .ok (.iload_n 2, 1) := by decide +kernel
theorem dX12_whoCan_9 : decode cX12_whoCan 9 = .ok (.aload_n 0, 1) := by decide +kernel
theorem dX12_whoCan_10 : decode cX12_whoCan 10 = .ok (.invokevirtual 439, 3) := by decide +kernel
theorem dX12_whoCan_13 : decode cX12_whoCan 13 = .ok (.if_icmp .ge 23, 3) := by decide +kernel
theorem dX12_whoCan_16 : decode cX12_whoCan 16 = .ok (.aload_n 0, 1) := by decide +kernel
theorem dX12_whoCan_17 : decode cX12_whoCan 17 = .ok (.iload_n 2, 1) := by decide +kernel
theorem dX12_whoCan_18 : decode cX12_whoCan 18 = .ok (.invokevirtual 586, 3) := by decide +kernel
theorem dX12_whoCan_21 : decode cX12_whoCan 21 = .ok (.ifCond .eq 9, 3) := by decide +kernel
theorem dX12_whoCan_24 : decode cX12_whoCan 24 = .ok (.iload_n 1, 1) := by decide +kernel
theorem dX12_whoCan_25 : decode cX12_whoCan 25 = .ok (.iconst 1, 1) := by decide +kernel
theorem dX12_whoCan_26 : decode cX12_whoCan 26 = .ok (.iload_n 2, 1) := by decide +kernel
theorem dX12_whoCan_27 : decode cX12_whoCan 27 = .ok (.ishl, 1) := by decide +kernel
theorem dX12_whoCan_28 : decode cX12_whoCan 28 = .ok (.ior, 1) := by decide +kernel
theorem dX12_whoCan_29 : decode cX12_whoCan 29 = .ok (.istore_n 1, 1) := by decide +kernel
theorem dX12_whoCan_30 : decode cX12_whoCan 30 = .ok (.iinc 2 1, 3) := by decide +kernel
theorem dX12_whoCan_33 : decode cX12_whoCan 33 = .ok (.goto (-25), 3) := by decide +kernel
theorem dX12_whoCan_36 : decode cX12_whoCan 36 = .ok (.iload_n 1, 1) := by decide +kernel
theorem dX12_whoCan_37 : decode cX12_whoCan 37 = .ok (.ireturn, 1) := by decide +kernel
def X12_whoCan_p30 (sh : Shp) (v0 : Nat) (v1 : Int32) (v2 : Int32) (Q : Int32 → Mem → Prop) (K8 : Int32 → Int32 → Mem → Prop) (m : Mem) : Prop :=
  K8 v1 (v2 + (1 : Int32)) m
def X12_whoCan_p8b (sh : Shp) (v0 : Nat) (Q : Int32 → Mem → Prop) (K8 : Int32 → Int32 → Mem → Prop) (v1 : Int32) (v2 : Int32) (m : Mem) : Prop :=
  Ob sh v0 12 ∧ wp_X12_callerMany sh v0 (fun r4 m5 => if r4 ≤ v2 then (Q v1 m5) else (wp_X12_isAsSeen sh v0 v2 (fun r7 m8 => if r7 = 0 then (X12_whoCan_p30 sh v0 v1 v2 Q K8 m8) else (X12_whoCan_p30 sh v0 (v1 ||| ((1 : Int32) <<< (v2 &&& 31))) v2 Q K8 m8)) m5)) m
def X12_whoCan_p8n (sh : Shp) (v0 : Nat) (Q : Int32 → Mem → Prop) : Nat → Int32 → Int32 → Mem → Prop
  | 0 => fun _ _ _ => False
  | n + 1 => X12_whoCan_p8b sh v0 Q (X12_whoCan_p8n sh v0 Q n)
def X12_whoCan_p8 (sh : Shp) (v0 : Nat) (Q : Int32 → Mem → Prop) (v1 : Int32) (v2 : Int32) (m : Mem) : Prop := ∃ n, X12_whoCan_p8n sh v0 Q n v1 v2 m
def wp_X12_whoCan (sh : Shp) (v0 : Nat) (Q : Int32 → Mem → Prop) (m : Mem) : Prop :=
  Ob sh v0 12 ∧ wp_X12_laysCells sh v0 (fun m2 => X12_whoCan_p8 sh v0 Q (0 : Int32) (0 : Int32) m2) m
abbrev M_X12_whoCan : Mi := (cX12_whoCan, 3, RX12, (Option.some FieldType.int), "whoCan", 10, 265, 0, 0)
set_option maxHeartbeats 4000000 in
set_option maxRecDepth 100000 in
theorem v_X12_whoCan_p30 {G : Gl} {F : Fr} {sh : Shp} {v0 : Nat} {v1 : Int32} {v2 : Int32} {Q : Int32 → Mem → Prop} {K8 : Int32 → Int32 → Mem → Prop} {m : Mem} (hK8 : ∀ (x1 : Int32) (x2 : Int32) (m : Mem), K8 x1 x2 m → V G F M_X12_whoCan sh 0 0 (Zi G F sh Q) 8 [(0, .ref (G.1 + v0)), (1, .int x1), (2, .int x2)] [] m) (h : X12_whoCan_p30 sh v0 v1 v2 Q K8 m) : V G F M_X12_whoCan sh 0 0 (Zi G F sh Q) 30 [(0, .ref (G.1 + v0)), (1, .int v1), (2, .int v2)] [] m := by
  unfold X12_whoCan_p30 at h
  refine v_iinc (ls' := [(2, .int _), (0, .ref _), (1, .int _)]) 2 2 dX12_whoCan_30 rfl (congrArg (HAdd.hAdd _) (by decide : Int32.ofInt (1) = (1 : Int32))) (Nat.le_of_ble_eq_true rfl) rfl ?_
  refine v_goto 8 dX12_whoCan_33 (by decide) ?_
  refine v_sub [1, 2, 0] rfl ?_
  exact hK8 _ _ _ h
set_option maxHeartbeats 4000000 in
set_option maxRecDepth 100000 in
theorem v_X12_whoCan_p8b {G : Gl} {F : Fr} {sh : Shp} {v0 : Nat} {v1 : Int32} {v2 : Int32} {Q : Int32 → Mem → Prop} {K8 : Int32 → Int32 → Mem → Prop} {m : Mem} (hK8 : ∀ (x1 : Int32) (x2 : Int32) (m : Mem), K8 x1 x2 m → V G F M_X12_whoCan sh 0 0 (Zi G F sh Q) 8 [(0, .ref (G.1 + v0)), (1, .int x1), (2, .int x2)] [] m) (h : X12_whoCan_p8b sh v0 Q K8 v1 v2 m) : V G F M_X12_whoCan sh 0 0 (Zi G F sh Q) 8 [(0, .ref (G.1 + v0)), (1, .int v1), (2, .int v2)] [] m := by
  unfold X12_whoCan_p8b at h
  refine v_iload_n 2 2 dX12_whoCan_8 rfl rfl ?_
  refine v_aload_n 0 0 dX12_whoCan_9 rfl rfl ?_
  obtain ⟨o6, h⟩ := h
  refine v_cVi [] mv_X12_callerMany ml_RX12_439 ⟨_, _, rfl⟩ o6 rfl rfl (Nat.le_of_ble_eq_true rfl) (Nat.le_of_ble_eq_true rfl) (Nat.le_of_ble_eq_true rfl) (Nat.zero_le _) (Nat.zero_le _) dX12_whoCan_10 (c_X12_callerMany h) (fun r4 m5 h => ?_)
  refine v_icmp_ge 36 dX12_whoCan_13 (by decide) (fun hc => ?_) (fun hc => ?_)
  · replace h := Eq.mp (if_pos hc) h
    refine v_iload_n 1 1 dX12_whoCan_36 rfl rfl ?_
    exact v_iret dX12_whoCan_37 rfl rfl h
  · replace h := Eq.mp (if_neg hc) h
    refine v_aload_n 0 0 dX12_whoCan_16 rfl rfl ?_
    refine v_iload_n 2 2 dX12_whoCan_17 rfl rfl ?_
    refine v_cVi [.int _] mv_X12_isAsSeen ml_RX12_586 ⟨_, _, rfl⟩ o6 rfl rfl (Nat.le_of_ble_eq_true rfl) (Nat.le_of_ble_eq_true rfl) (Nat.le_of_ble_eq_true rfl) (Nat.zero_le _) (Nat.zero_le _) dX12_whoCan_18 (c_X12_isAsSeen h) (fun r7 m8 h => ?_)
    refine v_if_eq 30 dX12_whoCan_21 (by decide) (fun hc => ?_) (fun hc => ?_)
    · replace h := Eq.mp (if_pos hc) h
      refine v_sub [0, 1, 2] rfl ?_
      exact v_X12_whoCan_p30 hK8 h
    · replace h := Eq.mp (if_neg hc) h
      refine v_iload_n 1 1 dX12_whoCan_24 rfl rfl ?_
      refine v_iconst (1 : Int32) dX12_whoCan_25 (by decide) ?_
      refine v_iload_n 2 2 dX12_whoCan_26 rfl rfl ?_
      refine v_ishl dX12_whoCan_27 ?_
      refine v_ior dX12_whoCan_28 ?_
      refine v_istore_n (ls' := [(1, .int _), (0, .ref _), (2, .int _)]) 1 dX12_whoCan_29 rfl (Nat.le_of_ble_eq_true rfl) rfl ?_
      refine v_sub [1, 0, 2] rfl ?_
      exact v_X12_whoCan_p30 hK8 h
set_option maxHeartbeats 4000000 in
set_option maxRecDepth 100000 in
theorem v_X12_whoCan_p8 {G : Gl} {F : Fr} {sh : Shp} {v0 : Nat} {v1 : Int32} {v2 : Int32} {Q : Int32 → Mem → Prop} {m : Mem} (h : X12_whoCan_p8 sh v0 Q v1 v2 m) : V G F M_X12_whoCan sh 0 0 (Zi G F sh Q) 8 [(0, .ref (G.1 + v0)), (1, .int v1), (2, .int v2)] [] m := by
  obtain ⟨n, h⟩ := h
  induction n generalizing v1 v2 m with
  | zero => exact h.elim
  | succ n ih => exact v_X12_whoCan_p8b (fun _ _ _ h => ih h) h
set_option maxHeartbeats 4000000 in
set_option maxRecDepth 100000 in
theorem c_X12_whoCan {l : Launch} {G : Gl} {sh : Shp} {v0 : Nat} {Q : Int32 → Mem → Prop} {m : Mem} (h : wp_X12_whoCan sh v0 Q m) : Cni l G yX12_whoCan cX12_whoCan 3 (Option.some FieldType.int) 10 265 sh [.ref (G.1 + v0)] m Q := by
  refine con_i (ls := [(0, .ref (G.1 + v0))]) (by decide +kernel) rfl (Nat.le_of_ble_eq_true rfl) (fun F => ?_)
  show V G F M_X12_whoCan sh 0 0 (Zi G F sh Q) 0 [(0, .ref (G.1 + v0))] [] m
  unfold wp_X12_whoCan at h
  refine v_aload_n 0 0 dX12_whoCan_0 rfl rfl ?_
  obtain ⟨o3, h⟩ := h
  refine v_cVv [] mv_X12_laysCells ml_RX12_583 ⟨_, _, rfl⟩ o3 rfl rfl (Nat.le_of_ble_eq_true rfl) (Nat.le_of_ble_eq_true rfl) (Nat.le_of_ble_eq_true rfl) (Nat.zero_le _) (Nat.zero_le _) dX12_whoCan_1 (c_X12_laysCells h) (fun m2 h => ?_)
  refine v_iconst (0 : Int32) dX12_whoCan_4 (by decide) ?_
  refine v_istore_n (ls' := [(1, .int _), (0, .ref _)]) 1 dX12_whoCan_5 rfl (Nat.le_of_ble_eq_true rfl) rfl ?_
  refine v_iconst (0 : Int32) dX12_whoCan_6 (by decide) ?_
  refine v_istore_n (ls' := [(2, .int _), (1, .int _), (0, .ref _)]) 2 dX12_whoCan_7 rfl (Nat.le_of_ble_eq_true rfl) rfl ?_
  refine v_sub [2, 1, 0] rfl ?_
  exact v_X12_whoCan_p8 h
/-! CalledRiverModel.tells -/
theorem dX12_tells_0 : decode cX12_tells 0 = .ok (.aload_n 0, 1) := by decide +kernel
theorem dX12_tells_1 : decode cX12_tells 1 = .ok (.getfield 423, 3) := by decide +kernel
theorem dX12_tells_4 : decode cX12_tells 4 = .ok (.ifCond .eq 13, 3) := by decide +kernel
theorem dX12_tells_7 : decode cX12_tells 7 = .ok (.iload_n 1, 1) := by decide +kernel
theorem dX12_tells_8 : decode cX12_tells 8 = .ok (.i2l, 1) := by decide +kernel
theorem dX12_tells_9 : decode cX12_tells 9 = .ok (.lconst 0, 1) := by decide +kernel
theorem dX12_tells_10 : decode cX12_tells 10 = .ok (.lconst 1, 1) := by decide +kernel
theorem dX12_tells_11 : decode cX12_tells 11 = .ok (.invokestatic 328, 3) := by decide +kernel
theorem dX12_tells_14 : decode cX12_tells 14 = .ok (.ifCond .ne 5, 3) := by decide +kernel
theorem dX12_tells_17 : decode cX12_tells 17 = .ok (.iconst (-1), 1) := by decide +kernel
theorem dX12_tells_18 : decode cX12_tells 18 = .ok (.ireturn, 1) := by decide +kernel
theorem dX12_tells_19 : decode cX12_tells 19 = .ok (.aload_n 0, 1) := by decide +kernel
theorem dX12_tells_20 : decode cX12_tells 20 = .ok (.invokevirtual 589, 3) := by decide +kernel
theorem dX12_tells_23 : decode cX12_tells 23 = .ok (.istore_n 2, 1) := by decide +kernel
theorem dX12_tells_24 : decode cX12_tells 24 = .ok (.iconst (-1), 1) := by decide +kernel
theorem dX12_tells_25 : decode cX12_tells 25 = .ok (.istore_n 3, 1) := by decide +kernel
theorem dX12_tells_26 : decode cX12_tells 26 = .ok (.iconst 0, 1) := by decide +kernel
theorem dX12_tells_27 : decode cX12_tells 27 = .ok (.istore 4, 2) := by decide +kernel
theorem dX12_tells_29 : decode cX12_tells 29 = .ok (.iconst 0, 1) := by decide +kernel
theorem dX12_tells_30 : decode cX12_tells 30 = .ok (.istore 5, 2) := by decide +kernel
theorem dX12_tells_32 : decode cX12_tells 32 = .ok (.iload 5, 2) := by decide +kernel
theorem dX12_tells_34 : decode cX12_tells 34 = .ok (.bipush 40, 2) := by decide +kernel
theorem dX12_tells_36 : decode cX12_tells 36 = .ok (.if_icmp .gt 44, 3) := by decide +kernel
theorem dX12_tells_39 : decode cX12_tells 39 = .ok (.iload_n 2, 1) := by decide +kernel
theorem dX12_tells_40 : decode cX12_tells 40 = .ok (.ifCond .eq 40, 3) := by decide +kernel
theorem dX12_tells_43 : decode cX12_tells 43 = .ok (.aload_n 0, 1) := by decide +kernel
theorem dX12_tells_44 : decode cX12_tells 44 = .ok (.iload_n 2, 1) := by decide +kernel
theorem dX12_tells_45 : decode cX12_tells 45 = .ok (.iload 5, 2) := by decide +kernel
theorem dX12_tells_47 : decode cX12_tells 47 = .ok (.invokevirtual 592, 3) := by decide +kernel
theorem dX12_tells_50 : decode cX12_tells 50 = .ok (.istore 6, 2) := by decide +kernel
theorem dX12_tells_52 : decode cX12_tells 52 = .ok (.iload_n 3, 1) := by decide +kernel
theorem dX12_tells_53 : decode cX12_tells 53 = .ok (.iconst (-1), 1) := by decide +kernel
theorem dX12_tells_54 : decode cX12_tells 54 = .ok (.if_icmp .eq 13, 3) := by decide +kernel
theorem dX12_tells_57 : decode cX12_tells 57 = .ok (.iload 6, 2) := by decide +kernel
theorem dX12_tells_59 : decode cX12_tells 59 = .ok (.iload 4, 2) := by decide +kernel
theorem dX12_tells_61 : decode cX12_tells 61 = .ok (.if_icmp .lt 6, 3) := by decide +kernel
theorem dX12_tells_64 : decode cX12_tells 64 = .ok (.goto 10, 3) := by decide +kernel
theorem dX12_tells_67 : decode cX12_tells 67 = .ok (.iload 5, 2) := by decide +kernel
theorem dX12_tells_69 : decode cX12_tells 69 = .ok (.istore_n 3, 1) := by decide +kernel
theorem dX12_tells_70 : decode cX12_tells 70 = .ok (.iload 6, 2) := by decide +kernel
theorem dX12_tells_72 : decode cX12_tells 72 = .ok (.istore 4, 2) := by decide +kernel
theorem dX12_tells_74 : decode cX12_tells 74 = .ok (.iinc 5 1, 3) := by decide +kernel
theorem dX12_tells_77 : decode cX12_tells 77 = .ok (.goto (-45), 3) := by decide +kernel
theorem dX12_tells_80 : decode cX12_tells 80 = .ok (.iload_n 3, 1) := by decide +kernel
theorem dX12_tells_81 : decode cX12_tells 81 = .ok (.iconst (-1), 1) := by decide +kernel
theorem dX12_tells_82 : decode cX12_tells 82 = .ok (.if_icmp .ne 7, 3) := by decide +kernel
theorem dX12_tells_85 : decode cX12_tells 85 = .ok (.iconst (-1), 1) := by decide +kernel
theorem dX12_tells_86 : decode cX12_tells 86 = .ok (.goto 13, 3) := by decide +kernel
theorem dX12_tells_89 : decode cX12_tells 89 = .ok (.iload_n 1, 1) := by decide +kernel
theorem dX12_tells_90 : decode cX12_tells 90 = .ok (.ifCond .ne 7, 3) := by decide +kernel
theorem dX12_tells_93 : decode cX12_tells 93 = .ok (.iload_n 3, 1) := by decide +kernel
theorem dX12_tells_94 : decode cX12_tells 94 = .ok (.goto 5, 3) := by decide +kernel
theorem dX12_tells_97 : decode cX12_tells 97 = .ok (.iload 4, 2) := by decide +kernel
theorem dX12_tells_99 : decode cX12_tells 99 = .ok (.ireturn, 1) := by decide +kernel
def X12_tells_p74 (sh : Shp) (v0 : Nat) (v1 : Int32) (v2 : Int32) (v3 : Int32) (v4 : Int32) (v5 : Int32) (Q : Int32 → Mem → Prop) (K32 : Int32 → Int32 → Int32 → Mem → Prop) (m : Mem) : Prop :=
  K32 v3 v4 (v5 + (1 : Int32)) m
def X12_tells_p67 (sh : Shp) (v0 : Nat) (v1 : Int32) (v2 : Int32) (v5 : Int32) (v6 : Int32) (Q : Int32 → Mem → Prop) (K32 : Int32 → Int32 → Int32 → Mem → Prop) (m : Mem) : Prop :=
  X12_tells_p74 sh v0 v1 v2 v5 v6 v5 Q K32 m
def X12_tells_p80 (sh : Shp) (v1 : Int32) (v3 : Int32) (v4 : Int32) (Q : Int32 → Mem → Prop) (m : Mem) : Prop :=
  if v3 = (-1 : Int32) then (Q (-1 : Int32) m) else (if v1 = 0 then (Q v3 m) else (Q v4 m))
def X12_tells_p32b (sh : Shp) (v0 : Nat) (v1 : Int32) (v2 : Int32) (Q : Int32 → Mem → Prop) (K32 : Int32 → Int32 → Int32 → Mem → Prop) (v3 : Int32) (v4 : Int32) (v5 : Int32) (m : Mem) : Prop :=
  if (40 : Int32) < v5 then (X12_tells_p80 sh v1 v3 v4 Q m) else (if v2 = 0 then (X12_tells_p80 sh v1 v3 v4 Q m) else (Ob sh v0 12 ∧ wp_X12_mostAlike sh v0 v2 v5 (fun r6 m7 => if v3 = (-1 : Int32) then (X12_tells_p67 sh v0 v1 v2 v5 r6 Q K32 m7) else (if r6 < v4 then (X12_tells_p67 sh v0 v1 v2 v5 r6 Q K32 m7) else (X12_tells_p74 sh v0 v1 v2 v3 v4 v5 Q K32 m7))) m))
def X12_tells_p32n (sh : Shp) (v0 : Nat) (v1 : Int32) (v2 : Int32) (Q : Int32 → Mem → Prop) : Nat → Int32 → Int32 → Int32 → Mem → Prop
  | 0 => fun _ _ _ _ => False
  | n + 1 => X12_tells_p32b sh v0 v1 v2 Q (X12_tells_p32n sh v0 v1 v2 Q n)
def X12_tells_p32 (sh : Shp) (v0 : Nat) (v1 : Int32) (v2 : Int32) (Q : Int32 → Mem → Prop) (v3 : Int32) (v4 : Int32) (v5 : Int32) (m : Mem) : Prop := ∃ n, X12_tells_p32n sh v0 v1 v2 Q n v3 v4 v5 m
def wp_X12_tells (sh : Shp) (v0 : Nat) (v1 : Int32) (Q : Int32 → Mem → Prop) (m : Mem) : Prop :=
  Ob sh v0 12 ∧ (if (m.1 v0 56) = 0 then (Q (-1 : Int32) m) else (wp_X12_isIn sh v1.toInt64 (0 : Int64) (1 : Int64) (fun r2 m3 => if r2 = 0 then (Q (-1 : Int32) m3) else (wp_X12_whoCan sh v0 (fun r4 m5 => X12_tells_p32 sh v0 v1 r4 Q (-1 : Int32) (0 : Int32) (0 : Int32) m5) m3)) m))
abbrev M_X12_tells : Mi := (cX12_tells, 7, RX12, (Option.some FieldType.int), "tells", 11, 287, 0, 0)
set_option maxHeartbeats 4000000 in
set_option maxRecDepth 100000 in
theorem v_X12_tells_p74 {G : Gl} {F : Fr} {sh : Shp} {v0 : Nat} {v1 : Int32} {v2 : Int32} {v3 : Int32} {v4 : Int32} {v5 : Int32} {Q : Int32 → Mem → Prop} {K32 : Int32 → Int32 → Int32 → Mem → Prop} {m : Mem} (hK32 : ∀ (x3 : Int32) (x4 : Int32) (x5 : Int32) (m : Mem), K32 x3 x4 x5 m → V G F M_X12_tells sh 0 0 (Zi G F sh Q) 32 [(0, .ref (G.1 + v0)), (1, .int v1), (2, .int v2), (3, .int x3), (4, .int x4), (5, .int x5)] [] m) (h : X12_tells_p74 sh v0 v1 v2 v3 v4 v5 Q K32 m) : V G F M_X12_tells sh 0 0 (Zi G F sh Q) 74 [(0, .ref (G.1 + v0)), (1, .int v1), (2, .int v2), (3, .int v3), (4, .int v4), (5, .int v5)] [] m := by
  unfold X12_tells_p74 at h
  refine v_iinc (ls' := [(5, .int _), (0, .ref _), (1, .int _), (2, .int _), (3, .int _), (4, .int _)]) 5 5 dX12_tells_74 rfl (congrArg (HAdd.hAdd _) (by decide : Int32.ofInt (1) = (1 : Int32))) (Nat.le_of_ble_eq_true rfl) rfl ?_
  refine v_goto 32 dX12_tells_77 (by decide) ?_
  refine v_sub [1, 2, 3, 4, 5, 0] rfl ?_
  exact hK32 _ _ _ _ h
set_option maxHeartbeats 4000000 in
set_option maxRecDepth 100000 in
theorem v_X12_tells_p67 {G : Gl} {F : Fr} {sh : Shp} {v0 : Nat} {v1 : Int32} {v2 : Int32} {v5 : Int32} {v6 : Int32} {Q : Int32 → Mem → Prop} {K32 : Int32 → Int32 → Int32 → Mem → Prop} {m : Mem} (hK32 : ∀ (x3 : Int32) (x4 : Int32) (x5 : Int32) (m : Mem), K32 x3 x4 x5 m → V G F M_X12_tells sh 0 0 (Zi G F sh Q) 32 [(0, .ref (G.1 + v0)), (1, .int v1), (2, .int v2), (3, .int x3), (4, .int x4), (5, .int x5)] [] m) (h : X12_tells_p67 sh v0 v1 v2 v5 v6 Q K32 m) : V G F M_X12_tells sh 0 0 (Zi G F sh Q) 67 [(0, .ref (G.1 + v0)), (1, .int v1), (2, .int v2), (5, .int v5), (6, .int v6)] [] m := by
  unfold X12_tells_p67 at h
  refine v_iload 5 3 dX12_tells_67 rfl ?_
  refine v_istore_n (ls' := [(3, .int _), (0, .ref _), (1, .int _), (2, .int _), (5, .int _), (6, .int _)]) 3 dX12_tells_69 rfl (Nat.le_of_ble_eq_true rfl) rfl ?_
  refine v_iload 6 5 dX12_tells_70 rfl ?_
  refine v_istore (ls' := [(4, .int _), (3, .int _), (0, .ref _), (1, .int _), (2, .int _), (5, .int _), (6, .int _)]) 4 dX12_tells_72 (Nat.le_of_ble_eq_true rfl) rfl ?_
  refine v_sub [2, 3, 4, 1, 0, 5] rfl ?_
  exact v_X12_tells_p74 hK32 h
set_option maxHeartbeats 4000000 in
set_option maxRecDepth 100000 in
theorem v_X12_tells_p80 {G : Gl} {F : Fr} {sh : Shp} {v1 : Int32} {v3 : Int32} {v4 : Int32} {Q : Int32 → Mem → Prop} {m : Mem} (h : X12_tells_p80 sh v1 v3 v4 Q m) : V G F M_X12_tells sh 0 0 (Zi G F sh Q) 80 [(1, .int v1), (3, .int v3), (4, .int v4)] [] m := by
  unfold X12_tells_p80 at h
  refine v_iload_n 3 1 dX12_tells_80 rfl rfl ?_
  refine v_iconst (-1 : Int32) dX12_tells_81 (by decide) ?_
  refine v_icmp_ne 89 dX12_tells_82 (by decide) (fun hc => ?_) (fun hc => ?_)
  · replace h := Eq.mp (if_neg hc) h
    refine v_iload_n 1 0 dX12_tells_89 rfl rfl ?_
    refine v_if_ne 97 dX12_tells_90 (by decide) (fun hc => ?_) (fun hc => ?_)
    · replace h := Eq.mp (if_neg hc) h
      refine v_iload 4 2 dX12_tells_97 rfl ?_
      exact v_iret dX12_tells_99 rfl rfl h
    · replace h := Eq.mp (if_pos hc) h
      refine v_iload_n 3 1 dX12_tells_93 rfl rfl ?_
      refine v_goto 99 dX12_tells_94 (by decide) ?_
      exact v_iret dX12_tells_99 rfl rfl h
  · replace h := Eq.mp (if_pos hc) h
    refine v_iconst (-1 : Int32) dX12_tells_85 (by decide) ?_
    refine v_goto 99 dX12_tells_86 (by decide) ?_
    exact v_iret dX12_tells_99 rfl rfl h
set_option maxHeartbeats 4000000 in
set_option maxRecDepth 100000 in
theorem v_X12_tells_p32b {G : Gl} {F : Fr} {sh : Shp} {v0 : Nat} {v1 : Int32} {v2 : Int32} {v3 : Int32} {v4 : Int32} {v5 : Int32} {Q : Int32 → Mem → Prop} {K32 : Int32 → Int32 → Int32 → Mem → Prop} {m : Mem} (hK32 : ∀ (x3 : Int32) (x4 : Int32) (x5 : Int32) (m : Mem), K32 x3 x4 x5 m → V G F M_X12_tells sh 0 0 (Zi G F sh Q) 32 [(0, .ref (G.1 + v0)), (1, .int v1), (2, .int v2), (3, .int x3), (4, .int x4), (5, .int x5)] [] m) (h : X12_tells_p32b sh v0 v1 v2 Q K32 v3 v4 v5 m) : V G F M_X12_tells sh 0 0 (Zi G F sh Q) 32 [(0, .ref (G.1 + v0)), (1, .int v1), (2, .int v2), (3, .int v3), (4, .int v4), (5, .int v5)] [] m := by
  unfold X12_tells_p32b at h
  refine v_iload 5 5 dX12_tells_32 rfl ?_
  refine v_bipush (40 : Int32) dX12_tells_34 (by decide) ?_
  refine v_icmp_gt 80 dX12_tells_36 (by decide) (fun hc => ?_) (fun hc => ?_)
  · replace h := Eq.mp (if_pos hc) h
    refine v_sub [1, 3, 4] rfl ?_
    exact v_X12_tells_p80 h
  · replace h := Eq.mp (if_neg hc) h
    refine v_iload_n 2 2 dX12_tells_39 rfl rfl ?_
    refine v_if_eq 80 dX12_tells_40 (by decide) (fun hc => ?_) (fun hc => ?_)
    · replace h := Eq.mp (if_pos hc) h
      refine v_sub [1, 3, 4] rfl ?_
      exact v_X12_tells_p80 h
    · replace h := Eq.mp (if_neg hc) h
      refine v_aload_n 0 0 dX12_tells_43 rfl rfl ?_
      refine v_iload_n 2 2 dX12_tells_44 rfl rfl ?_
      refine v_iload 5 5 dX12_tells_45 rfl ?_
      obtain ⟨o8, h⟩ := h
      refine v_cVi [.int _, .int _] mv_X12_mostAlike ml_RX12_592 ⟨_, _, rfl⟩ o8 rfl rfl (Nat.le_of_ble_eq_true rfl) (Nat.le_of_ble_eq_true rfl) (Nat.le_of_ble_eq_true rfl) (Nat.zero_le _) (Nat.zero_le _) dX12_tells_47 (c_X12_mostAlike h) (fun r6 m7 h => ?_)
      refine v_istore (ls' := [(6, .int _), (0, .ref _), (1, .int _), (2, .int _), (3, .int _), (4, .int _), (5, .int _)]) 6 dX12_tells_50 (Nat.le_of_ble_eq_true rfl) rfl ?_
      refine v_iload_n 3 4 dX12_tells_52 rfl rfl ?_
      refine v_iconst (-1 : Int32) dX12_tells_53 (by decide) ?_
      refine v_icmp_eq 67 dX12_tells_54 (by decide) (fun hc => ?_) (fun hc => ?_)
      · replace h := Eq.mp (if_pos hc) h
        refine v_sub [1, 2, 3, 6, 0] rfl ?_
        exact v_X12_tells_p67 hK32 h
      · replace h := Eq.mp (if_neg hc) h
        refine v_iload 6 0 dX12_tells_57 rfl ?_
        refine v_iload 4 5 dX12_tells_59 rfl ?_
        refine v_icmp_lt 67 dX12_tells_61 (by decide) (fun hc => ?_) (fun hc => ?_)
        · replace h := Eq.mp (if_pos hc) h
          refine v_sub [1, 2, 3, 6, 0] rfl ?_
          exact v_X12_tells_p67 hK32 h
        · replace h := Eq.mp (if_neg hc) h
          refine v_goto 74 dX12_tells_64 (by decide) ?_
          refine v_sub [1, 2, 3, 4, 5, 6] rfl ?_
          exact v_X12_tells_p74 hK32 h
set_option maxHeartbeats 4000000 in
set_option maxRecDepth 100000 in
theorem v_X12_tells_p32 {G : Gl} {F : Fr} {sh : Shp} {v0 : Nat} {v1 : Int32} {v2 : Int32} {v3 : Int32} {v4 : Int32} {v5 : Int32} {Q : Int32 → Mem → Prop} {m : Mem} (h : X12_tells_p32 sh v0 v1 v2 Q v3 v4 v5 m) : V G F M_X12_tells sh 0 0 (Zi G F sh Q) 32 [(0, .ref (G.1 + v0)), (1, .int v1), (2, .int v2), (3, .int v3), (4, .int v4), (5, .int v5)] [] m := by
  obtain ⟨n, h⟩ := h
  induction n generalizing v3 v4 v5 m with
  | zero => exact h.elim
  | succ n ih => exact v_X12_tells_p32b (fun _ _ _ _ h => ih h) h
set_option maxHeartbeats 4000000 in
set_option maxRecDepth 100000 in
theorem c_X12_tells {l : Launch} {G : Gl} {sh : Shp} {v0 : Nat} {v1 : Int32} {Q : Int32 → Mem → Prop} {m : Mem} (h : wp_X12_tells sh v0 v1 Q m) : Cni l G yX12_tells cX12_tells 7 (Option.some FieldType.int) 11 287 sh [.ref (G.1 + v0), .int v1] m Q := by
  refine con_i (ls := [(0, .ref (G.1 + v0)), (1, .int v1)]) (by decide +kernel) rfl (Nat.le_of_ble_eq_true rfl) (fun F => ?_)
  show V G F M_X12_tells sh 0 0 (Zi G F sh Q) 0 [(0, .ref (G.1 + v0)), (1, .int v1)] [] m
  unfold wp_X12_tells at h
  refine v_aload_n 0 0 dX12_tells_0 rfl rfl ?_
  obtain ⟨o1, h⟩ := h
  refine v_gI 12 56 dX12_tells_1 fg_RX12_423 o1 ?_
  refine v_if_eq 17 dX12_tells_4 (by decide) (fun hc => ?_) (fun hc => ?_)
  · replace h := Eq.mp (if_pos hc) h
    refine v_iconst (-1 : Int32) dX12_tells_17 (by decide) ?_
    exact v_iret dX12_tells_18 rfl rfl h
  · replace h := Eq.mp (if_neg hc) h
    refine v_iload_n 1 1 dX12_tells_7 rfl rfl ?_
    refine v_i2l dX12_tells_8 ?_
    refine v_lconst (0 : Int64) dX12_tells_9 (by decide) ?_
    refine v_lconst (1 : Int64) dX12_tells_10 (by decide) ?_
    refine v_cSi [.long _, .long _, .long _] mv_X12_isIn ml_RX12_328 rfl rfl (Nat.le_of_ble_eq_true rfl) (Nat.le_of_ble_eq_true rfl) (Nat.le_of_ble_eq_true rfl) (Nat.zero_le _) (Nat.zero_le _) dX12_tells_11 (c_X12_isIn h) (fun r2 m3 h => ?_)
    refine v_if_ne 19 dX12_tells_14 (by decide) (fun hc => ?_) (fun hc => ?_)
    · replace h := Eq.mp (if_neg hc) h
      refine v_aload_n 0 0 dX12_tells_19 rfl rfl ?_
      refine v_cVi [] mv_X12_whoCan ml_RX12_589 ⟨_, _, rfl⟩ o1 rfl rfl (Nat.le_of_ble_eq_true rfl) (Nat.le_of_ble_eq_true rfl) (Nat.le_of_ble_eq_true rfl) (Nat.zero_le _) (Nat.zero_le _) dX12_tells_20 (c_X12_whoCan h) (fun r4 m5 h => ?_)
      refine v_istore_n (ls' := [(2, .int _), (0, .ref _), (1, .int _)]) 2 dX12_tells_23 rfl (Nat.le_of_ble_eq_true rfl) rfl ?_
      refine v_iconst (-1 : Int32) dX12_tells_24 (by decide) ?_
      refine v_istore_n (ls' := [(3, .int _), (2, .int _), (0, .ref _), (1, .int _)]) 3 dX12_tells_25 rfl (Nat.le_of_ble_eq_true rfl) rfl ?_
      refine v_iconst (0 : Int32) dX12_tells_26 (by decide) ?_
      refine v_istore (ls' := [(4, .int _), (3, .int _), (2, .int _), (0, .ref _), (1, .int _)]) 4 dX12_tells_27 (Nat.le_of_ble_eq_true rfl) rfl ?_
      refine v_iconst (0 : Int32) dX12_tells_29 (by decide) ?_
      refine v_istore (ls' := [(5, .int _), (4, .int _), (3, .int _), (2, .int _), (0, .ref _), (1, .int _)]) 5 dX12_tells_30 (Nat.le_of_ble_eq_true rfl) rfl ?_
      refine v_sub [4, 5, 3, 2, 1, 0] rfl ?_
      exact v_X12_tells_p32 h
    · replace h := Eq.mp (if_pos hc) h
      refine v_iconst (-1 : Int32) dX12_tells_17 (by decide) ?_
      exact v_iret dX12_tells_18 rfl rfl h
/-! CalledRiverModel.undo -/
theorem dX12_undo_0 : decode cX12_undo 0 = .ok (.aload_n 0, 1) := by decide +kernel
theorem dX12_undo_1 : decode cX12_undo 1 = .ok (.getfield 430, 3) := by decide +kernel
theorem dX12_undo_4 : decode cX12_undo 4 = .ok (.ifCond .ne 15, 3) := by decide +kernel
theorem dX12_undo_7 : decode cX12_undo 7 = .ok (.aload_n 0, 1) := by decide +kernel
theorem dX12_undo_8 : decode cX12_undo 8 = .ok (.getfield 17, 3) := by decide +kernel
theorem dX12_undo_11 : decode cX12_undo 11 = .ok (.iconst 4, 1) := by decide +kernel
theorem dX12_undo_12 : decode cX12_undo 12 = .ok (.dup2, 1) := by decide +kernel
theorem dX12_undo_13 : decode cX12_undo 13 = .ok (.iaload, 1) := by decide +kernel
theorem dX12_undo_14 : decode cX12_undo 14 = .ok (.iconst 1, 1) := by decide +kernel
theorem dX12_undo_15 : decode cX12_undo 15 = .ok (.iadd, 1) := by decide +kernel
theorem dX12_undo_16 : decode cX12_undo 16 = .ok (.iastore, 1) := by decide +kernel
theorem dX12_undo_17 : decode cX12_undo 17 = .ok (.iconst 0, 1) := by decide +kernel
theorem dX12_undo_18 : decode cX12_undo 18 = .ok (.ireturn, 1) := by decide +kernel
theorem dX12_undo_19 : decode cX12_undo 19 = .ok (.iconst 0, 1) := by decide +kernel
theorem dX12_undo_20 : decode cX12_undo 20 = .ok (.istore_n 1, 1) := by decide +kernel
theorem dX12_undo_21 : decode cX12_undo 21 = .ok (.iload_n 1, 1) := by decide +kernel
theorem dX12_undo_22 : decode cX12_undo 22 = .ok (.sipush 236, 3) := by decide +kernel
theorem dX12_undo_25 : decode cX12_undo 25 = .ok (.if_icmp .ge 30, 3) := by decide +kernel
theorem dX12_undo_28 : decode cX12_undo 28 = .ok (.aload_n 0, 1) := by decide +kernel
theorem dX12_undo_29 : decode cX12_undo 29 = .ok (.getfield 143, 3) := by decide +kernel
theorem dX12_undo_32 : decode cX12_undo 32 = .ok (.iload_n 1, 1) := by decide +kernel
theorem dX12_undo_33 : decode cX12_undo 33 = .ok (.aload_n 0, 1) := by decide +kernel
theorem dX12_undo_34 : decode cX12_undo 34 = .ok (.getfield 182, 3) := by decide +kernel
theorem dX12_undo_37 : decode cX12_undo 37 = .ok (.sipush 236, 3) := by decide +kernel
theorem dX12_undo_40 : decode cX12_undo 40 = .ok (.aload_n 0, 1) := by decide +kernel
theorem dX12_undo_41 : decode cX12_undo 41 = .ok (.getfield 595, 3) := by decide +kernel
theorem dX12_undo_44 : decode cX12_undo 44 = .ok (.imul, 1) := by decide +kernel
theorem dX12_undo_45 : decode cX12_undo 45 = .ok (.iload_n 1, 1) := by decide +kernel
theorem dX12_undo_46 : decode cX12_undo 46 = .ok (.iadd, 1) := by decide +kernel
theorem dX12_undo_47 : decode cX12_undo 47 = .ok (.iaload, 1) := by decide +kernel
theorem dX12_undo_48 : decode cX12_undo 48 = .ok (.iastore, 1) := by decide +kernel
theorem dX12_undo_49 : decode cX12_undo 49 = .ok (.iinc 1 1, 3) := by decide +kernel
theorem dX12_undo_52 : decode cX12_undo 52 = .ok (.goto (-31), 3) := by decide +kernel
theorem dX12_undo_55 : decode cX12_undo 55 = .ok (.aload_n 0, 1) := by decide +kernel
theorem dX12_undo_56 : decode cX12_undo 56 = .ok (.aload_n 0, 1) := by decide +kernel
theorem dX12_undo_57 : decode cX12_undo 57 = .ok (.getfield 595, 3) := by decide +kernel
theorem dX12_undo_60 : decode cX12_undo 60 = .ok (.bipush 20, 2) := by decide +kernel
theorem dX12_undo_62 : decode cX12_undo 62 = .ok (.iadd, 1) := by decide +kernel
theorem dX12_undo_63 : decode cX12_undo 63 = .ok (.iconst 1, 1) := by decide +kernel
theorem dX12_undo_64 : decode cX12_undo 64 = .ok (.isub, 1) := by decide +kernel
theorem dX12_undo_65 : decode cX12_undo 65 = .ok (.bipush 20, 2) := by decide +kernel
theorem dX12_undo_67 : decode cX12_undo 67 = .ok (.irem, 1) := by decide +kernel
theorem dX12_undo_68 : decode cX12_undo 68 = .ok (.putfield 595, 3) := by decide +kernel
theorem dX12_undo_71 : decode cX12_undo 71 = .ok (.aload_n 0, 1) := by decide +kernel
theorem dX12_undo_72 : decode cX12_undo 72 = .ok (.dup, 1) := by decide +kernel
theorem dX12_undo_73 : decode cX12_undo 73 = .ok (.getfield 430, 3) := by decide +kernel
theorem dX12_undo_76 : decode cX12_undo 76 = .ok (.iconst 1, 1) := by decide +kernel
theorem dX12_undo_77 : decode cX12_undo 77 = .ok (.isub, 1) := by decide +kernel
theorem dX12_undo_78 : decode cX12_undo 78 = .ok (.putfield 430, 3) := by decide +kernel
theorem dX12_undo_81 : decode cX12_undo 81 = .ok (.iconst 1, 1) := by decide +kernel
theorem dX12_undo_82 : decode cX12_undo 82 = .ok (.ireturn, 1) := by decide +kernel
def X12_undo_p21b (sh : Shp) (v0 : Nat) (Q : Int32 → Mem → Prop) (K21 : Int32 → Mem → Prop) (v1 : Int32) (m : Mem) : Prop :=
  if (236 : Int32) ≤ v1 then (Ob sh v0 12 ∧ (bnd (sI m v0 79 ((((m.1 v0 79) + (20 : Int32)) - (1 : Int32)) - (((m.1 v0 79) + (20 : Int32)) - (1 : Int32)) / (20 : Int32) * (20 : Int32))) (fun m7 => bnd (sI m7 v0 78 ((m7.1 v0 78) - (1 : Int32))) (fun m8 => Q (1 : Int32) m8)))) else (Ob sh v0 12 ∧ ∃ b10 : Nat, m.2.2 v0 58 = some b10 ∧ (∃ b12 : Nat, m.2.2 v0 77 = some b12 ∧ (Ix sh b12 100 (((236 : Int32) * (m.1 v0 79)) + v1) ∧ (Ix sh b10 100 v1 ∧ bnd (sI m b10 v1.toNatClampNeg (m.1 b12 (((236 : Int32) * (m.1 v0 79)) + v1).toNatClampNeg)) (fun m16 => K21 (v1 + (1 : Int32)) m16)))))
def X12_undo_p21n (sh : Shp) (v0 : Nat) (Q : Int32 → Mem → Prop) : Nat → Int32 → Mem → Prop
  | 0 => fun _ _ => False
  | n + 1 => X12_undo_p21b sh v0 Q (X12_undo_p21n sh v0 Q n)
def X12_undo_p21 (sh : Shp) (v0 : Nat) (Q : Int32 → Mem → Prop) (v1 : Int32) (m : Mem) : Prop := ∃ n, X12_undo_p21n sh v0 Q n v1 m
def wp_X12_undo (sh : Shp) (v0 : Nat) (Q : Int32 → Mem → Prop) (m : Mem) : Prop :=
  Ob sh v0 12 ∧ (if (m.1 v0 78) = 0 then (∃ b2 : Nat, m.2.2 v0 9 = some b2 ∧ (Ix sh b2 100 (4 : Int32) ∧ (bnd (sI m b2 (4 : Int32).toNatClampNeg ((m.1 b2 (4 : Int32).toNatClampNeg) + (1 : Int32))) (fun m5 => Q (0 : Int32) m5)))) else (X12_undo_p21 sh v0 Q (0 : Int32) m))
abbrev M_X12_undo : Mi := (cX12_undo, 2, RX12, (Option.some FieldType.boolean), "undo", 1, 60, 0, 0)
set_option maxHeartbeats 4000000 in
set_option maxRecDepth 100000 in
theorem v_X12_undo_p21b {G : Gl} {F : Fr} {sh : Shp} {v0 : Nat} {v1 : Int32} {Q : Int32 → Mem → Prop} {K21 : Int32 → Mem → Prop} {m : Mem} (hK21 : ∀ (x1 : Int32) (m : Mem), K21 x1 m → V G F M_X12_undo sh 0 0 (Zi G F sh Q) 21 [(0, .ref (G.1 + v0)), (1, .int x1)] [] m) (h : X12_undo_p21b sh v0 Q K21 v1 m) : V G F M_X12_undo sh 0 0 (Zi G F sh Q) 21 [(0, .ref (G.1 + v0)), (1, .int v1)] [] m := by
  unfold X12_undo_p21b at h
  refine v_iload_n 1 1 dX12_undo_21 rfl rfl ?_
  refine v_sipush (236 : Int32) dX12_undo_22 (by decide) ?_
  refine v_icmp_ge 55 dX12_undo_25 (by decide) (fun hc => ?_) (fun hc => ?_)
  · replace h := Eq.mp (if_pos hc) h
    refine v_aload_n 0 0 dX12_undo_55 rfl rfl ?_
    refine v_aload_n 0 0 dX12_undo_56 rfl rfl ?_
    obtain ⟨o6, h⟩ := h
    refine v_gI 12 79 dX12_undo_57 fg_RX12_595 o6 ?_
    refine v_bipush (20 : Int32) dX12_undo_60 (by decide) ?_
    refine v_iadd dX12_undo_62 ?_
    refine v_iconst (1 : Int32) dX12_undo_63 (by decide) ?_
    refine v_isub dX12_undo_64 ?_
    refine v_bipush (20 : Int32) dX12_undo_65 (by decide) ?_
    refine v_irem dX12_undo_67 (by decide) ?_
    refine v_pI 12 79 dX12_undo_68 fw_RX12_595 o6 ?_
    replace h := bnd_e h
    refine v_aload_n 0 0 dX12_undo_71 rfl rfl ?_
    refine v_dup dX12_undo_72 rfl ?_
    refine v_gI 12 78 dX12_undo_73 fg_RX12_430 o6 ?_
    refine v_iconst (1 : Int32) dX12_undo_76 (by decide) ?_
    refine v_isub dX12_undo_77 ?_
    refine v_pI 12 78 dX12_undo_78 fw_RX12_430 o6 ?_
    replace h := bnd_e h
    refine v_iconst (1 : Int32) dX12_undo_81 (by decide) ?_
    exact v_iret dX12_undo_82 rfl (by decide) h
  · replace h := Eq.mp (if_neg hc) h
    refine v_aload_n 0 0 dX12_undo_28 rfl rfl ?_
    obtain ⟨o9, h⟩ := h
    obtain ⟨b10, e11, h⟩ := h
    refine v_gR 12 58 dX12_undo_29 fg_RX12_143 o9 e11 ?_
    refine v_iload_n 1 1 dX12_undo_32 rfl rfl ?_
    refine v_aload_n 0 0 dX12_undo_33 rfl rfl ?_
    obtain ⟨b12, e13, h⟩ := h
    refine v_gR 12 77 dX12_undo_34 fg_RX12_182 o9 e13 ?_
    refine v_sipush (236 : Int32) dX12_undo_37 (by decide) ?_
    refine v_aload_n 0 0 dX12_undo_40 rfl rfl ?_
    refine v_gI 12 79 dX12_undo_41 fg_RX12_595 o9 ?_
    refine v_imul dX12_undo_44 ?_
    refine v_iload_n 1 1 dX12_undo_45 rfl rfl ?_
    refine v_iadd dX12_undo_46 ?_
    obtain ⟨i14, h⟩ := h
    refine v_iald dX12_undo_47 i14 ?_
    obtain ⟨i15, h⟩ := h
    refine v_iast dX12_undo_48 i15 ?_
    replace h := bnd_e h
    refine v_iinc (ls' := [(1, .int _), (0, .ref _)]) 1 1 dX12_undo_49 rfl (congrArg (HAdd.hAdd _) (by decide : Int32.ofInt (1) = (1 : Int32))) (Nat.le_of_ble_eq_true rfl) rfl ?_
    refine v_goto 21 dX12_undo_52 (by decide) ?_
    refine v_sub [1, 0] rfl ?_
    exact hK21 _ _ h
set_option maxHeartbeats 4000000 in
set_option maxRecDepth 100000 in
theorem v_X12_undo_p21 {G : Gl} {F : Fr} {sh : Shp} {v0 : Nat} {v1 : Int32} {Q : Int32 → Mem → Prop} {m : Mem} (h : X12_undo_p21 sh v0 Q v1 m) : V G F M_X12_undo sh 0 0 (Zi G F sh Q) 21 [(0, .ref (G.1 + v0)), (1, .int v1)] [] m := by
  obtain ⟨n, h⟩ := h
  induction n generalizing v1 m with
  | zero => exact h.elim
  | succ n ih => exact v_X12_undo_p21b (fun _ _ h => ih h) h
set_option maxHeartbeats 4000000 in
set_option maxRecDepth 100000 in
theorem c_X12_undo {l : Launch} {G : Gl} {sh : Shp} {v0 : Nat} {Q : Int32 → Mem → Prop} {m : Mem} (h : wp_X12_undo sh v0 Q m) : Cni l G yX12_undo cX12_undo 2 (Option.some FieldType.boolean) 1 60 sh [.ref (G.1 + v0)] m Q := by
  refine con_i (ls := [(0, .ref (G.1 + v0))]) (by decide +kernel) rfl (Nat.le_of_ble_eq_true rfl) (fun F => ?_)
  show V G F M_X12_undo sh 0 0 (Zi G F sh Q) 0 [(0, .ref (G.1 + v0))] [] m
  unfold wp_X12_undo at h
  refine v_aload_n 0 0 dX12_undo_0 rfl rfl ?_
  obtain ⟨o1, h⟩ := h
  refine v_gI 12 78 dX12_undo_1 fg_RX12_430 o1 ?_
  refine v_if_ne 19 dX12_undo_4 (by decide) (fun hc => ?_) (fun hc => ?_)
  · replace h := Eq.mp (if_neg hc) h
    refine v_iconst (0 : Int32) dX12_undo_19 (by decide) ?_
    refine v_istore_n (ls' := [(1, .int _), (0, .ref _)]) 1 dX12_undo_20 rfl (Nat.le_of_ble_eq_true rfl) rfl ?_
    refine v_sub [1, 0] rfl ?_
    exact v_X12_undo_p21 h
  · replace h := Eq.mp (if_pos hc) h
    refine v_aload_n 0 0 dX12_undo_7 rfl rfl ?_
    obtain ⟨b2, e3, h⟩ := h
    refine v_gR 12 9 dX12_undo_8 fg_RX12_17 o1 e3 ?_
    refine v_iconst (4 : Int32) dX12_undo_11 (by decide) ?_
    refine v_dup2 dX12_undo_12 rfl rfl ?_
    obtain ⟨i4, h⟩ := h
    refine v_iald dX12_undo_13 i4 ?_
    refine v_iconst (1 : Int32) dX12_undo_14 (by decide) ?_
    refine v_iadd dX12_undo_15 ?_
    refine v_iast dX12_undo_16 i4 ?_
    replace h := bnd_e h
    refine v_iconst (0 : Int32) dX12_undo_17 (by decide) ?_
    exact v_iret dX12_undo_18 rfl (by decide) h
/-! CalledRiverModel.way -/
theorem dX12_way_0 : decode cX12_way 0 = .ok (.aload_n 0, 1) := by decide +kernel
theorem dX12_way_1 : decode cX12_way 1 = .ok (.iload_n 1, 1) := by decide +kernel
theorem dX12_way_2 : decode cX12_way 2 = .ok (.i2l, 1) := by decide +kernel
theorem dX12_way_3 : decode cX12_way 3 = .ok (.invokevirtual 557, 3) := by decide +kernel
theorem dX12_way_6 : decode cX12_way 6 = .ok (.ifCond .eq 13, 3) := by decide +kernel
theorem dX12_way_9 : decode cX12_way 9 = .ok (.iload_n 3, 1) := by decide +kernel
theorem dX12_way_10 : decode cX12_way 10 = .ok (.i2l, 1) := by decide +kernel
theorem dX12_way_11 : decode cX12_way 11 = .ok (.lconst 0, 1) := by decide +kernel
theorem dX12_way_12 : decode cX12_way 12 = .ok (.lconst 1, 1) := by decide +kernel
theorem dX12_way_13 : decode cX12_way 13 = .ok (.invokestatic 328, 3) := by decide +kernel
theorem dX12_way_16 : decode cX12_way 16 = .ok (.ifCond .ne 5, 3) := by decide +kernel
theorem dX12_way_19 : decode cX12_way 19 = .ok (.iconst (-1), 1) := by decide +kernel
theorem dX12_way_20 : decode cX12_way 20 = .ok (.ireturn, 1) := by decide +kernel
theorem dX12_way_21 : decode cX12_way 21 = .ok (.aload_n 0, 1) := by decide +kernel
theorem dX12_way_22 : decode cX12_way 22 = .ok (.iload_n 1, 1) := by decide +kernel
theorem dX12_way_23 : decode cX12_way 23 = .ok (.invokevirtual 521, 3) := by decide +kernel
theorem dX12_way_26 : decode cX12_way 26 = .ok (.iload_n 2, 1) := by decide +kernel
theorem dX12_way_27 : decode cX12_way 27 = .ok (.i2l, 1) := by decide +kernel
theorem dX12_way_28 : decode cX12_way 28 = .ok (.lconst 0, 1) := by decide +kernel
theorem dX12_way_29 : decode cX12_way 29 = .ok (.aload_n 0, 1) := by decide +kernel
theorem dX12_way_30 : decode cX12_way 30 = .ok (.getfield 497, 3) := by decide +kernel
theorem dX12_way_33 : decode cX12_way 33 = .ok (.iconst 1, 1) := by decide +kernel
theorem dX12_way_34 : decode cX12_way 34 = .ok (.isub, 1) := by decide +kernel
theorem dX12_way_35 : decode cX12_way 35 = .ok (.i2l, 1) := by decide +kernel
theorem dX12_way_36 : decode cX12_way 36 = .ok (.invokestatic 328, 3) := by decide +kernel
theorem dX12_way_39 : decode cX12_way 39 = .ok (.ifCond .ne 5, 3) := by decide +kernel
theorem dX12_way_42 : decode cX12_way 42 = .ok (.iconst (-1), 1) := by decide +kernel
theorem dX12_way_43 : decode cX12_way 43 = .ok (.ireturn, 1) := by decide +kernel
theorem dX12_way_44 : decode cX12_way 44 = .ok (.iload_n 3, 1) := by decide +kernel
theorem dX12_way_45 : decode cX12_way 45 = .ok (.ifCond .ne 15, 3) := by decide +kernel
theorem dX12_way_48 : decode cX12_way 48 = .ok (.aload_n 0, 1) := by decide +kernel
theorem dX12_way_49 : decode cX12_way 49 = .ok (.getfield 146, 3) := by decide +kernel
theorem dX12_way_52 : decode cX12_way 52 = .ok (.iload_n 2, 1) := by decide +kernel
theorem dX12_way_53 : decode cX12_way 53 = .ok (.iaload, 1) := by decide +kernel
theorem dX12_way_54 : decode cX12_way 54 = .ok (.bipush 6, 2) := by decide +kernel
theorem dX12_way_56 : decode cX12_way 56 = .ok (.irem, 1) := by decide +kernel
theorem dX12_way_57 : decode cX12_way 57 = .ok (.goto 12, 3) := by decide +kernel
theorem dX12_way_60 : decode cX12_way 60 = .ok (.aload_n 0, 1) := by decide +kernel
theorem dX12_way_61 : decode cX12_way 61 = .ok (.getfield 146, 3) := by decide +kernel
theorem dX12_way_64 : decode cX12_way 64 = .ok (.iload_n 2, 1) := by decide +kernel
theorem dX12_way_65 : decode cX12_way 65 = .ok (.iaload, 1) := by decide +kernel
theorem dX12_way_66 : decode cX12_way 66 = .ok (.bipush 6, 2) := by decide +kernel
theorem dX12_way_68 : decode cX12_way 68 = .ok (.idiv, 1) := by decide +kernel
theorem dX12_way_69 : decode cX12_way 69 = .ok (.ireturn, 1) := by decide +kernel
def wp_X12_way (sh : Shp) (v0 : Nat) (v1 : Int32) (v2 : Int32) (v3 : Int32) (Q : Int32 → Mem → Prop) (m : Mem) : Prop :=
  Ob sh v0 12 ∧ wp_X12_isCaller sh v0 v1.toInt64 (fun r1 m2 => if r1 = 0 then (Q (-1 : Int32) m2) else (wp_X12_isIn sh v3.toInt64 (0 : Int64) (1 : Int64) (fun r4 m5 => if r4 = 0 then (Q (-1 : Int32) m5) else (wp_X12_laysWay sh v0 v1 (fun m7 => wp_X12_isIn sh v2.toInt64 (0 : Int64) ((m7.1 v0 64) - (1 : Int32)).toInt64 (fun r8 m9 => if r8 = 0 then (Q (-1 : Int32) m9) else (if v3 = 0 then (∃ b13 : Nat, m9.2.2 v0 63 = some b13 ∧ (Ix sh b13 100 v2 ∧ (Q ((m9.1 b13 v2.toNatClampNeg) - (m9.1 b13 v2.toNatClampNeg) / (6 : Int32) * (6 : Int32)) m9))) else (∃ b10 : Nat, m9.2.2 v0 63 = some b10 ∧ (Ix sh b10 100 v2 ∧ (Q ((m9.1 b10 v2.toNatClampNeg) / (6 : Int32)) m9))))) m7) m5)) m2)) m
abbrev M_X12_way : Mi := (cX12_way, 4, RX12, (Option.some FieldType.int), "way", 9, 243, 0, 0)
set_option maxHeartbeats 4000000 in
set_option maxRecDepth 100000 in
theorem c_X12_way {l : Launch} {G : Gl} {sh : Shp} {v0 : Nat} {v1 : Int32} {v2 : Int32} {v3 : Int32} {Q : Int32 → Mem → Prop} {m : Mem} (h : wp_X12_way sh v0 v1 v2 v3 Q m) : Cni l G yX12_way cX12_way 4 (Option.some FieldType.int) 9 243 sh [.ref (G.1 + v0), .int v1, .int v2, .int v3] m Q := by
  refine con_i (ls := [(0, .ref (G.1 + v0)), (1, .int v1), (2, .int v2), (3, .int v3)]) (by decide +kernel) rfl (Nat.le_of_ble_eq_true rfl) (fun F => ?_)
  show V G F M_X12_way sh 0 0 (Zi G F sh Q) 0 [(0, .ref (G.1 + v0)), (1, .int v1), (2, .int v2), (3, .int v3)] [] m
  unfold wp_X12_way at h
  refine v_aload_n 0 0 dX12_way_0 rfl rfl ?_
  refine v_iload_n 1 1 dX12_way_1 rfl rfl ?_
  refine v_i2l dX12_way_2 ?_
  obtain ⟨o3, h⟩ := h
  refine v_cVi [.long _] mv_X12_isCaller ml_RX12_557 ⟨_, _, rfl⟩ o3 rfl rfl (Nat.le_of_ble_eq_true rfl) (Nat.le_of_ble_eq_true rfl) (Nat.le_of_ble_eq_true rfl) (Nat.zero_le _) (Nat.zero_le _) dX12_way_3 (c_X12_isCaller h) (fun r1 m2 h => ?_)
  refine v_if_eq 19 dX12_way_6 (by decide) (fun hc => ?_) (fun hc => ?_)
  · replace h := Eq.mp (if_pos hc) h
    refine v_iconst (-1 : Int32) dX12_way_19 (by decide) ?_
    exact v_iret dX12_way_20 rfl rfl h
  · replace h := Eq.mp (if_neg hc) h
    refine v_iload_n 3 3 dX12_way_9 rfl rfl ?_
    refine v_i2l dX12_way_10 ?_
    refine v_lconst (0 : Int64) dX12_way_11 (by decide) ?_
    refine v_lconst (1 : Int64) dX12_way_12 (by decide) ?_
    refine v_cSi [.long _, .long _, .long _] mv_X12_isIn ml_RX12_328 rfl rfl (Nat.le_of_ble_eq_true rfl) (Nat.le_of_ble_eq_true rfl) (Nat.le_of_ble_eq_true rfl) (Nat.zero_le _) (Nat.zero_le _) dX12_way_13 (c_X12_isIn h) (fun r4 m5 h => ?_)
    refine v_if_ne 21 dX12_way_16 (by decide) (fun hc => ?_) (fun hc => ?_)
    · replace h := Eq.mp (if_neg hc) h
      refine v_aload_n 0 0 dX12_way_21 rfl rfl ?_
      refine v_iload_n 1 1 dX12_way_22 rfl rfl ?_
      refine v_cVv [.int _] mv_X12_laysWay ml_RX12_521 ⟨_, _, rfl⟩ o3 rfl rfl (Nat.le_of_ble_eq_true rfl) (Nat.le_of_ble_eq_true rfl) (Nat.le_of_ble_eq_true rfl) (Nat.zero_le _) (Nat.zero_le _) dX12_way_23 (c_X12_laysWay h) (fun m7 h => ?_)
      refine v_iload_n 2 2 dX12_way_26 rfl rfl ?_
      refine v_i2l dX12_way_27 ?_
      refine v_lconst (0 : Int64) dX12_way_28 (by decide) ?_
      refine v_aload_n 0 0 dX12_way_29 rfl rfl ?_
      refine v_gI 12 64 dX12_way_30 fg_RX12_497 o3 ?_
      refine v_iconst (1 : Int32) dX12_way_33 (by decide) ?_
      refine v_isub dX12_way_34 ?_
      refine v_i2l dX12_way_35 ?_
      refine v_cSi [.long _, .long _, .long _] mv_X12_isIn ml_RX12_328 rfl rfl (Nat.le_of_ble_eq_true rfl) (Nat.le_of_ble_eq_true rfl) (Nat.le_of_ble_eq_true rfl) (Nat.zero_le _) (Nat.zero_le _) dX12_way_36 (c_X12_isIn h) (fun r8 m9 h => ?_)
      refine v_if_ne 44 dX12_way_39 (by decide) (fun hc => ?_) (fun hc => ?_)
      · replace h := Eq.mp (if_neg hc) h
        refine v_iload_n 3 3 dX12_way_44 rfl rfl ?_
        refine v_if_ne 60 dX12_way_45 (by decide) (fun hc => ?_) (fun hc => ?_)
        · replace h := Eq.mp (if_neg hc) h
          refine v_aload_n 0 0 dX12_way_60 rfl rfl ?_
          obtain ⟨b10, e11, h⟩ := h
          refine v_gR 12 63 dX12_way_61 fg_RX12_146 o3 e11 ?_
          refine v_iload_n 2 2 dX12_way_64 rfl rfl ?_
          obtain ⟨i12, h⟩ := h
          refine v_iald dX12_way_65 i12 ?_
          refine v_bipush (6 : Int32) dX12_way_66 (by decide) ?_
          refine v_idiv dX12_way_68 (by decide) ?_
          exact v_iret dX12_way_69 rfl rfl h
        · replace h := Eq.mp (if_pos hc) h
          refine v_aload_n 0 0 dX12_way_48 rfl rfl ?_
          obtain ⟨b13, e14, h⟩ := h
          refine v_gR 12 63 dX12_way_49 fg_RX12_146 o3 e14 ?_
          refine v_iload_n 2 2 dX12_way_52 rfl rfl ?_
          obtain ⟨i15, h⟩ := h
          refine v_iald dX12_way_53 i15 ?_
          refine v_bipush (6 : Int32) dX12_way_54 (by decide) ?_
          refine v_irem dX12_way_56 (by decide) ?_
          refine v_goto 69 dX12_way_57 (by decide) ?_
          exact v_iret dX12_way_69 rfl rfl h
      · replace h := Eq.mp (if_pos hc) h
        refine v_iconst (-1 : Int32) dX12_way_42 (by decide) ?_
        exact v_iret dX12_way_43 rfl rfl h
    · replace h := Eq.mp (if_pos hc) h
      refine v_iconst (-1 : Int32) dX12_way_19 (by decide) ?_
      exact v_iret dX12_way_20 rfl rfl h
/-! CalledRiverModel.who -/
theorem dX12_who_0 : decode cX12_who 0 = .ok (.aload_n 0, 1) := by decide +kernel
theorem dX12_who_1 : decode cX12_who 1 = .ok (.getfield 423, 3) := by decide +kernel
theorem dX12_who_4 : decode cX12_who 4 = .ok (.ifCond .eq 10, 3) := by decide +kernel
theorem dX12_who_7 : decode cX12_who 7 = .ok (.aload_n 0, 1) := by decide +kernel
theorem dX12_who_8 : decode cX12_who 8 = .ok (.invokevirtual 589, 3) := by decide +kernel
theorem dX12_who_11 : decode cX12_who 11 = .ok (.goto 4, 3) := by decide +kernel
theorem dX12_who_14 : decode cX12_who 14 = .ok (.iconst 0, 1) := by decide +kernel
theorem dX12_who_15 : decode cX12_who 15 = .ok (.ireturn, 1) := by decide +kernel
def wp_X12_who (sh : Shp) (v0 : Nat) (Q : Int32 → Mem → Prop) (m : Mem) : Prop :=
  Ob sh v0 12 ∧ (if (m.1 v0 56) = 0 then (Q (0 : Int32) m) else (wp_X12_whoCan sh v0 (fun r2 m3 => Q r2 m3) m))
abbrev M_X12_who : Mi := (cX12_who, 1, RX12, (Option.some FieldType.int), "who", 11, 287, 0, 0)
set_option maxHeartbeats 4000000 in
set_option maxRecDepth 100000 in
theorem c_X12_who {l : Launch} {G : Gl} {sh : Shp} {v0 : Nat} {Q : Int32 → Mem → Prop} {m : Mem} (h : wp_X12_who sh v0 Q m) : Cni l G yX12_who cX12_who 1 (Option.some FieldType.int) 11 287 sh [.ref (G.1 + v0)] m Q := by
  refine con_i (ls := [(0, .ref (G.1 + v0))]) (by decide +kernel) rfl (Nat.le_of_ble_eq_true rfl) (fun F => ?_)
  show V G F M_X12_who sh 0 0 (Zi G F sh Q) 0 [(0, .ref (G.1 + v0))] [] m
  unfold wp_X12_who at h
  refine v_aload_n 0 0 dX12_who_0 rfl rfl ?_
  obtain ⟨o1, h⟩ := h
  refine v_gI 12 56 dX12_who_1 fg_RX12_423 o1 ?_
  refine v_if_eq 14 dX12_who_4 (by decide) (fun hc => ?_) (fun hc => ?_)
  · replace h := Eq.mp (if_pos hc) h
    refine v_iconst (0 : Int32) dX12_who_14 (by decide) ?_
    exact v_iret dX12_who_15 rfl rfl h
  · replace h := Eq.mp (if_neg hc) h
    refine v_aload_n 0 0 dX12_who_7 rfl rfl ?_
    refine v_cVi [] mv_X12_whoCan ml_RX12_589 ⟨_, _, rfl⟩ o1 rfl rfl (Nat.le_of_ble_eq_true rfl) (Nat.le_of_ble_eq_true rfl) (Nat.le_of_ble_eq_true rfl) (Nat.zero_le _) (Nat.zero_le _) dX12_who_8 (c_X12_whoCan h) (fun r2 m3 h => ?_)
    refine v_goto 15 dX12_who_11 (by decide) ?_
    exact v_iret dX12_who_15 rfl rfl h
