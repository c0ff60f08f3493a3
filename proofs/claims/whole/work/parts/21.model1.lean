/-! CalledRiverModel.qOpens -/
theorem dX12_qOpens_0 : decode cX12_qOpens 0 = .ok (.aload_n 0, 1) := by decide +kernel
theorem dX12_qOpens_1 : decode cX12_qOpens 1 = .ok (.getfield 285, 3) := by decide +kernel
theorem dX12_qOpens_4 : decode cX12_qOpens 4 = .ok (.ifCond .eq 4, 3) := by decide +kernel
theorem dX12_qOpens_7 : decode cX12_qOpens 7 = .ok (.return_, 1) := by decide +kernel
theorem dX12_qOpens_8 : decode cX12_qOpens 8 = .ok (.aload_n 0, 1) := by decide +kernel
theorem dX12_qOpens_9 : decode cX12_qOpens 9 = .ok (.getfield 378, 3) := by decide +kernel
theorem dX12_qOpens_12 : decode cX12_qOpens 12 = .ok (.bipush 6, 2) := by decide +kernel
theorem dX12_qOpens_14 : decode cX12_qOpens 14 = .ok (.if_icmp .ne 10, 3) := by decide +kernel
theorem dX12_qOpens_17 : decode cX12_qOpens 17 = .ok (.aload_n 0, 1) := by decide +kernel
theorem dX12_qOpens_18 : decode cX12_qOpens 18 = .ok (.iconst 4, 1) := by decide +kernel
theorem dX12_qOpens_19 : decode cX12_qOpens 19 = .ok (.iload_n 2, 1) := by decide +kernel
theorem dX12_qOpens_20 : decode cX12_qOpens 20 = .ok (.invokevirtual 315, 3) := by decide +kernel
theorem dX12_qOpens_23 : decode cX12_qOpens 23 = .ok (.return_, 1) := by decide +kernel
theorem dX12_qOpens_24 : decode cX12_qOpens 24 = .ok (.aload_n 0, 1) := by decide +kernel
theorem dX12_qOpens_25 : decode cX12_qOpens 25 = .ok (.dup, 1) := by decide +kernel
theorem dX12_qOpens_26 : decode cX12_qOpens 26 = .ok (.getfield 378, 3) := by decide +kernel
theorem dX12_qOpens_29 : decode cX12_qOpens 29 = .ok (.iconst 1, 1) := by decide +kernel
theorem dX12_qOpens_30 : decode cX12_qOpens 30 = .ok (.iadd, 1) := by decide +kernel
theorem dX12_qOpens_31 : decode cX12_qOpens 31 = .ok (.putfield 378, 3) := by decide +kernel
theorem dX12_qOpens_34 : decode cX12_qOpens 34 = .ok (.aload_n 0, 1) := by decide +kernel
theorem dX12_qOpens_35 : decode cX12_qOpens 35 = .ok (.getfield 273, 3) := by decide +kernel
theorem dX12_qOpens_38 : decode cX12_qOpens 38 = .ok (.aload_n 0, 1) := by decide +kernel
theorem dX12_qOpens_39 : decode cX12_qOpens 39 = .ok (.getfield 375, 3) := by decide +kernel
theorem dX12_qOpens_42 : decode cX12_qOpens 42 = .ok (.iload_n 1, 1) := by decide +kernel
theorem dX12_qOpens_43 : decode cX12_qOpens 43 = .ok (.iastore, 1) := by decide +kernel
theorem dX12_qOpens_44 : decode cX12_qOpens 44 = .ok (.aload_n 0, 1) := by decide +kernel
theorem dX12_qOpens_45 : decode cX12_qOpens 45 = .ok (.dup, 1) := by decide +kernel
theorem dX12_qOpens_46 : decode cX12_qOpens 46 = .ok (.getfield 375, 3) := by decide +kernel
theorem dX12_qOpens_49 : decode cX12_qOpens 49 = .ok (.iconst 1, 1) := by decide +kernel
theorem dX12_qOpens_50 : decode cX12_qOpens 50 = .ok (.iadd, 1) := by decide +kernel
theorem dX12_qOpens_51 : decode cX12_qOpens 51 = .ok (.putfield 375, 3) := by decide +kernel
theorem dX12_qOpens_54 : decode cX12_qOpens 54 = .ok (.return_, 1) := by decide +kernel
def wp_X12_qOpens (sh : Shp) (v0 : Nat) (v1 : Int32) (v2 : Int32) (Q : Mem → Prop) (m : Mem) : Prop :=
  Ob sh v0 12 ∧ (if (m.1 v0 5) = 0 then (if (m.1 v0 112) = (6 : Int32) then (wp_X12_fail sh v0 (4 : Int32) v2 (fun m9 => Q m9) m) else (bnd (sI m v0 112 ((m.1 v0 112) + (1 : Int32))) (fun m2 => ∃ b3 : Nat, m2.2.2 v0 110 = some b3 ∧ (Ix sh b3 100 (m2.1 v0 111) ∧ bnd (sI m2 b3 (m2.1 v0 111).toNatClampNeg v1) (fun m6 => bnd (sI m6 v0 111 ((m6.1 v0 111) + (1 : Int32))) (fun m7 => Q m7)))))) else (Q m))
abbrev M_X12_qOpens : Mi := (cX12_qOpens, 3, RX12, (none : Option FieldType), "qOpens", 2, 82, 0, 0)
set_option maxHeartbeats 4000000 in
set_option maxRecDepth 100000 in
theorem c_X12_qOpens {l : Launch} {G : Gl} {sh : Shp} {v0 : Nat} {v1 : Int32} {v2 : Int32} {Q : Mem → Prop} {m : Mem} (h : wp_X12_qOpens sh v0 v1 v2 Q m) : Cnv l G yX12_qOpens cX12_qOpens 3 (none : Option FieldType) 2 82 sh [.ref (G.1 + v0), .int v1, .int v2] m Q := by
  refine con_v (ls := [(0, .ref (G.1 + v0)), (1, .int v1), (2, .int v2)]) (by decide +kernel) rfl (Nat.le_of_ble_eq_true rfl) (fun F => ?_)
  show V G F M_X12_qOpens sh 0 0 (Zv G F sh Q) 0 [(0, .ref (G.1 + v0)), (1, .int v1), (2, .int v2)] [] m
  unfold wp_X12_qOpens at h
  refine v_aload_n 0 0 dX12_qOpens_0 rfl rfl ?_
  obtain ⟨o1, h⟩ := h
  refine v_gI 12 5 dX12_qOpens_1 fg_RX12_285 o1 ?_
  refine v_if_eq 8 dX12_qOpens_4 (by decide) (fun hc => ?_) (fun hc => ?_)
  · replace h := Eq.mp (if_pos hc) h
    refine v_aload_n 0 0 dX12_qOpens_8 rfl rfl ?_
    refine v_gI 12 112 dX12_qOpens_9 fg_RX12_378 o1 ?_
    refine v_bipush (6 : Int32) dX12_qOpens_12 (by decide) ?_
    refine v_icmp_ne 24 dX12_qOpens_14 (by decide) (fun hc => ?_) (fun hc => ?_)
    · replace h := Eq.mp (if_neg hc) h
      refine v_aload_n 0 0 dX12_qOpens_24 rfl rfl ?_
      refine v_dup dX12_qOpens_25 rfl ?_
      refine v_gI 12 112 dX12_qOpens_26 fg_RX12_378 o1 ?_
      refine v_iconst (1 : Int32) dX12_qOpens_29 (by decide) ?_
      refine v_iadd dX12_qOpens_30 ?_
      refine v_pI 12 112 dX12_qOpens_31 fw_RX12_378 o1 ?_
      replace h := bnd_e h
      refine v_aload_n 0 0 dX12_qOpens_34 rfl rfl ?_
      obtain ⟨b3, e4, h⟩ := h
      refine v_gR 12 110 dX12_qOpens_35 fg_RX12_273 o1 e4 ?_
      refine v_aload_n 0 0 dX12_qOpens_38 rfl rfl ?_
      refine v_gI 12 111 dX12_qOpens_39 fg_RX12_375 o1 ?_
      refine v_iload_n 1 1 dX12_qOpens_42 rfl rfl ?_
      obtain ⟨i5, h⟩ := h
      refine v_iast dX12_qOpens_43 i5 ?_
      replace h := bnd_e h
      refine v_aload_n 0 0 dX12_qOpens_44 rfl rfl ?_
      refine v_dup dX12_qOpens_45 rfl ?_
      refine v_gI 12 111 dX12_qOpens_46 fg_RX12_375 o1 ?_
      refine v_iconst (1 : Int32) dX12_qOpens_49 (by decide) ?_
      refine v_iadd dX12_qOpens_50 ?_
      refine v_pI 12 111 dX12_qOpens_51 fw_RX12_375 o1 ?_
      replace h := bnd_e h
      exact v_vret dX12_qOpens_54 rfl h
    · replace h := Eq.mp (if_pos hc) h
      refine v_aload_n 0 0 dX12_qOpens_17 rfl rfl ?_
      refine v_iconst (4 : Int32) dX12_qOpens_18 (by decide) ?_
      refine v_iload_n 2 2 dX12_qOpens_19 rfl rfl ?_
      refine v_cVv [.int _, .int _] mv_X12_fail ml_RX12_315 ⟨_, _, rfl⟩ o1 rfl rfl (Nat.le_of_ble_eq_true rfl) (Nat.le_of_ble_eq_true rfl) (Nat.le_of_ble_eq_true rfl) (Nat.zero_le _) (Nat.zero_le _) dX12_qOpens_20 (c_X12_fail h) (fun m9 h => ?_)
      exact v_vret dX12_qOpens_23 rfl h
  · replace h := Eq.mp (if_neg hc) h
    exact v_vret dX12_qOpens_7 rfl h
/-! CalledRiverModel.isAllowed -/
theorem dX12_isAllowed_0 : decode cX12_isAllowed 0 = .ok (.aload_n 0, 1) := by decide +kernel
theorem dX12_isAllowed_1 : decode cX12_isAllowed 1 = .ok (.getfield 343, 3) := by decide +kernel
theorem dX12_isAllowed_4 : decode cX12_isAllowed 4 = .ok (.ifCond .ne 17, 3) := by decide +kernel
theorem dX12_isAllowed_7 : decode cX12_isAllowed 7 = .ok (.iload_n 1, 1) := by decide +kernel
theorem dX12_isAllowed_8 : decode cX12_isAllowed 8 = .ok (.bipush 8, 2) := by decide +kernel
theorem dX12_isAllowed_10 : decode cX12_isAllowed 10 = .ok (.if_icmp .ge 7, 3) := by decide +kernel
theorem dX12_isAllowed_13 : decode cX12_isAllowed 13 = .ok (.iconst 1, 1) := by decide +kernel
theorem dX12_isAllowed_14 : decode cX12_isAllowed 14 = .ok (.goto 55, 3) := by decide +kernel
theorem dX12_isAllowed_17 : decode cX12_isAllowed 17 = .ok (.iconst 0, 1) := by decide +kernel
theorem dX12_isAllowed_18 : decode cX12_isAllowed 18 = .ok (.goto 51, 3) := by decide +kernel
theorem dX12_isAllowed_21 : decode cX12_isAllowed 21 = .ok (.aload_n 0, 1) := by decide +kernel
theorem dX12_isAllowed_22 : decode cX12_isAllowed 22 = .ok (.getfield 343, 3) := by decide +kernel
theorem dX12_isAllowed_25 : decode cX12_isAllowed 25 = .ok (.iconst 1, 1) := by decide +kernel
theorem dX12_isAllowed_26 : decode cX12_isAllowed 26 = .ok (.if_icmp .ne 22, 3) := by decide +kernel
theorem dX12_isAllowed_29 : decode cX12_isAllowed 29 = .ok (.iload_n 1, 1) := by decide +kernel
theorem dX12_isAllowed_30 : decode cX12_isAllowed 30 = .ok (.iconst 3, 1) := by decide +kernel
theorem dX12_isAllowed_31 : decode cX12_isAllowed 31 = .ok (.if_icmp .lt 9, 3) := by decide +kernel
theorem dX12_isAllowed_34 : decode cX12_isAllowed 34 = .ok (.iload_n 1, 1) := by decide +kernel
theorem dX12_isAllowed_35 : decode cX12_isAllowed 35 = .ok (.bipush 8, 2) := by decide +kernel
theorem dX12_isAllowed_37 : decode cX12_isAllowed 37 = .ok (.if_icmp .ne 7, 3) := by decide +kernel
theorem dX12_isAllowed_40 : decode cX12_isAllowed 40 = .ok (.iconst 1, 1) := by decide +kernel
theorem dX12_isAllowed_41 : decode cX12_isAllowed 41 = .ok (.goto 28, 3) := by decide +kernel
theorem dX12_isAllowed_44 : decode cX12_isAllowed 44 = .ok (.iconst 0, 1) := by decide +kernel
theorem dX12_isAllowed_45 : decode cX12_isAllowed 45 = .ok (.goto 24, 3) := by decide +kernel
theorem dX12_isAllowed_48 : decode cX12_isAllowed 48 = .ok (.iload_n 1, 1) := by decide +kernel
theorem dX12_isAllowed_49 : decode cX12_isAllowed 49 = .ok (.iconst 3, 1) := by decide +kernel
theorem dX12_isAllowed_50 : decode cX12_isAllowed 50 = .ok (.if_icmp .lt 14, 3) := by decide +kernel
theorem dX12_isAllowed_53 : decode cX12_isAllowed 53 = .ok (.iload_n 1, 1) := by decide +kernel
theorem dX12_isAllowed_54 : decode cX12_isAllowed 54 = .ok (.iconst 5, 1) := by decide +kernel
theorem dX12_isAllowed_55 : decode cX12_isAllowed 55 = .ok (.if_icmp .eq 9, 3) := by decide +kernel
theorem dX12_isAllowed_58 : decode cX12_isAllowed 58 = .ok (.iload_n 1, 1) := by decide +kernel
theorem dX12_isAllowed_59 : decode cX12_isAllowed 59 = .ok (.bipush 8, 2) := by decide +kernel
theorem dX12_isAllowed_61 : decode cX12_isAllowed 61 = .ok (.if_icmp .le 7, 3) := by decide +kernel
theorem dX12_isAllowed_64 : decode cX12_isAllowed 64 = .ok (.iconst 1, 1) := by decide +kernel
theorem dX12_isAllowed_65 : decode cX12_isAllowed 65 = .ok (.goto 4, 3) := by decide +kernel
theorem dX12_isAllowed_68 : decode cX12_isAllowed 68 = .ok (.iconst 0, 1) := by decide +kernel
theorem dX12_isAllowed_69 : decode cX12_isAllowed 69 = .ok (.ireturn, 1) := by decide +kernel
def wp_X12_isAllowed (sh : Shp) (v0 : Nat) (v1 : Int32) (Q : Int32 → Mem → Prop) (m : Mem) : Prop :=
  Ob sh v0 12 ∧ (if (m.1 v0 57) = 0 then (if (8 : Int32) ≤ v1 then (Q (0 : Int32) m) else (Q (1 : Int32) m)) else (if (m.1 v0 57) = (1 : Int32) then (if v1 < (3 : Int32) then (Q (1 : Int32) m) else (if v1 = (8 : Int32) then (Q (1 : Int32) m) else (Q (0 : Int32) m))) else (if v1 < (3 : Int32) then (Q (1 : Int32) m) else (if v1 = (5 : Int32) then (Q (1 : Int32) m) else (if v1 ≤ (8 : Int32) then (Q (0 : Int32) m) else (Q (1 : Int32) m))))))
abbrev M_X12_isAllowed : Mi := (cX12_isAllowed, 2, RX12, (Option.some FieldType.boolean), "isAllowed", 1, 60, 0, 0)
set_option maxHeartbeats 4000000 in
set_option maxRecDepth 100000 in
theorem c_X12_isAllowed {l : Launch} {G : Gl} {sh : Shp} {v0 : Nat} {v1 : Int32} {Q : Int32 → Mem → Prop} {m : Mem} (h : wp_X12_isAllowed sh v0 v1 Q m) : Cni l G yX12_isAllowed cX12_isAllowed 2 (Option.some FieldType.boolean) 1 60 sh [.ref (G.1 + v0), .int v1] m Q := by
  refine con_i (ls := [(0, .ref (G.1 + v0)), (1, .int v1)]) (by decide +kernel) rfl (Nat.le_of_ble_eq_true rfl) (fun F => ?_)
  show V G F M_X12_isAllowed sh 0 0 (Zi G F sh Q) 0 [(0, .ref (G.1 + v0)), (1, .int v1)] [] m
  unfold wp_X12_isAllowed at h
  refine v_aload_n 0 0 dX12_isAllowed_0 rfl rfl ?_
  obtain ⟨o1, h⟩ := h
  refine v_gI 12 57 dX12_isAllowed_1 fg_RX12_343 o1 ?_
  refine v_if_ne 21 dX12_isAllowed_4 (by decide) (fun hc => ?_) (fun hc => ?_)
  · replace h := Eq.mp (if_neg hc) h
    refine v_aload_n 0 0 dX12_isAllowed_21 rfl rfl ?_
    refine v_gI 12 57 dX12_isAllowed_22 fg_RX12_343 o1 ?_
    refine v_iconst (1 : Int32) dX12_isAllowed_25 (by decide) ?_
    refine v_icmp_ne 48 dX12_isAllowed_26 (by decide) (fun hc => ?_) (fun hc => ?_)
    · replace h := Eq.mp (if_neg hc) h
      refine v_iload_n 1 1 dX12_isAllowed_48 rfl rfl ?_
      refine v_iconst (3 : Int32) dX12_isAllowed_49 (by decide) ?_
      refine v_icmp_lt 64 dX12_isAllowed_50 (by decide) (fun hc => ?_) (fun hc => ?_)
      · replace h := Eq.mp (if_pos hc) h
        refine v_iconst (1 : Int32) dX12_isAllowed_64 (by decide) ?_
        refine v_goto 69 dX12_isAllowed_65 (by decide) ?_
        exact v_iret dX12_isAllowed_69 rfl (by decide) h
      · replace h := Eq.mp (if_neg hc) h
        refine v_iload_n 1 1 dX12_isAllowed_53 rfl rfl ?_
        refine v_iconst (5 : Int32) dX12_isAllowed_54 (by decide) ?_
        refine v_icmp_eq 64 dX12_isAllowed_55 (by decide) (fun hc => ?_) (fun hc => ?_)
        · replace h := Eq.mp (if_pos hc) h
          refine v_iconst (1 : Int32) dX12_isAllowed_64 (by decide) ?_
          refine v_goto 69 dX12_isAllowed_65 (by decide) ?_
          exact v_iret dX12_isAllowed_69 rfl (by decide) h
        · replace h := Eq.mp (if_neg hc) h
          refine v_iload_n 1 1 dX12_isAllowed_58 rfl rfl ?_
          refine v_bipush (8 : Int32) dX12_isAllowed_59 (by decide) ?_
          refine v_icmp_le 68 dX12_isAllowed_61 (by decide) (fun hc => ?_) (fun hc => ?_)
          · replace h := Eq.mp (if_pos hc) h
            refine v_iconst (0 : Int32) dX12_isAllowed_68 (by decide) ?_
            exact v_iret dX12_isAllowed_69 rfl (by decide) h
          · replace h := Eq.mp (if_neg hc) h
            refine v_iconst (1 : Int32) dX12_isAllowed_64 (by decide) ?_
            refine v_goto 69 dX12_isAllowed_65 (by decide) ?_
            exact v_iret dX12_isAllowed_69 rfl (by decide) h
    · replace h := Eq.mp (if_pos hc) h
      refine v_iload_n 1 1 dX12_isAllowed_29 rfl rfl ?_
      refine v_iconst (3 : Int32) dX12_isAllowed_30 (by decide) ?_
      refine v_icmp_lt 40 dX12_isAllowed_31 (by decide) (fun hc => ?_) (fun hc => ?_)
      · replace h := Eq.mp (if_pos hc) h
        refine v_iconst (1 : Int32) dX12_isAllowed_40 (by decide) ?_
        refine v_goto 69 dX12_isAllowed_41 (by decide) ?_
        exact v_iret dX12_isAllowed_69 rfl (by decide) h
      · replace h := Eq.mp (if_neg hc) h
        refine v_iload_n 1 1 dX12_isAllowed_34 rfl rfl ?_
        refine v_bipush (8 : Int32) dX12_isAllowed_35 (by decide) ?_
        refine v_icmp_ne 44 dX12_isAllowed_37 (by decide) (fun hc => ?_) (fun hc => ?_)
        · replace h := Eq.mp (if_neg hc) h
          refine v_iconst (0 : Int32) dX12_isAllowed_44 (by decide) ?_
          refine v_goto 69 dX12_isAllowed_45 (by decide) ?_
          exact v_iret dX12_isAllowed_69 rfl (by decide) h
        · replace h := Eq.mp (if_pos hc) h
          refine v_iconst (1 : Int32) dX12_isAllowed_40 (by decide) ?_
          refine v_goto 69 dX12_isAllowed_41 (by decide) ?_
          exact v_iret dX12_isAllowed_69 rfl (by decide) h
  · replace h := Eq.mp (if_pos hc) h
    refine v_iload_n 1 1 dX12_isAllowed_7 rfl rfl ?_
    refine v_bipush (8 : Int32) dX12_isAllowed_8 (by decide) ?_
    refine v_icmp_ge 17 dX12_isAllowed_10 (by decide) (fun hc => ?_) (fun hc => ?_)
    · replace h := Eq.mp (if_pos hc) h
      refine v_iconst (0 : Int32) dX12_isAllowed_17 (by decide) ?_
      refine v_goto 69 dX12_isAllowed_18 (by decide) ?_
      exact v_iret dX12_isAllowed_69 rfl (by decide) h
    · replace h := Eq.mp (if_neg hc) h
      refine v_iconst (1 : Int32) dX12_isAllowed_13 (by decide) ?_
      refine v_goto 69 dX12_isAllowed_14 (by decide) ?_
      exact v_iret dX12_isAllowed_69 rfl (by decide) h
/-! CalledRiverModel.qWordHere -/
theorem dX12_qWordHere_0 : decode cX12_qWordHere 0 = .ok (.aload_n 0, 1) := by decide +kernel
theorem dX12_qWordHere_1 : decode cX12_qWordHere 1 = .ok (.aload_n 0, 1) := by decide +kernel
theorem dX12_qWordHere_2 : decode cX12_qWordHere 2 = .ok (.getfield 225, 3) := by decide +kernel
theorem dX12_qWordHere_5 : decode cX12_qWordHere 5 = .ok (.invokevirtual 308, 3) := by decide +kernel
theorem dX12_qWordHere_8 : decode cX12_qWordHere 8 = .ok (.ifCond .eq 5, 3) := by decide +kernel
theorem dX12_qWordHere_11 : decode cX12_qWordHere 11 = .ok (.iconst 0, 1) := by decide +kernel
theorem dX12_qWordHere_12 : decode cX12_qWordHere 12 = .ok (.ireturn, 1) := by decide +kernel
theorem dX12_qWordHere_13 : decode cX12_qWordHere 13 = .ok (.aload_n 0, 1) := by decide +kernel
theorem dX12_qWordHere_14 : decode cX12_qWordHere 14 = .ok (.aload_n 0, 1) := by decide +kernel
theorem dX12_qWordHere_15 : decode cX12_qWordHere 15 = .ok (.getfield 228, 3) := by decide +kernel
theorem dX12_qWordHere_18 : decode cX12_qWordHere 18 = .ok (.invokevirtual 308, 3) := by decide +kernel
theorem dX12_qWordHere_21 : decode cX12_qWordHere 21 = .ok (.ifCond .eq 5, 3) := by decide +kernel
theorem dX12_qWordHere_24 : decode cX12_qWordHere 24 = .ok (.iconst 1, 1) := by decide +kernel
theorem dX12_qWordHere_25 : decode cX12_qWordHere 25 = .ok (.ireturn, 1) := by decide +kernel
theorem dX12_qWordHere_26 : decode cX12_qWordHere 26 = .ok (.aload_n 0, 1) := by decide +kernel
theorem dX12_qWordHere_27 : decode cX12_qWordHere 27 = .ok (.aload_n 0, 1) := by decide +kernel
theorem dX12_qWordHere_28 : decode cX12_qWordHere 28 = .ok (.getfield 231, 3) := by decide +kernel
theorem dX12_qWordHere_31 : decode cX12_qWordHere 31 = .ok (.invokevirtual 308, 3) := by decide +kernel
theorem dX12_qWordHere_34 : decode cX12_qWordHere 34 = .ok (.ifCond .eq 5, 3) := by decide +kernel
theorem dX12_qWordHere_37 : decode cX12_qWordHere 37 = .ok (.iconst 2, 1) := by decide +kernel
theorem dX12_qWordHere_38 : decode cX12_qWordHere 38 = .ok (.ireturn, 1) := by decide +kernel
theorem dX12_qWordHere_39 : decode cX12_qWordHere 39 = .ok (.aload_n 0, 1) := by decide +kernel
theorem dX12_qWordHere_40 : decode cX12_qWordHere 40 = .ok (.aload_n 0, 1) := by decide +kernel
theorem dX12_qWordHere_41 : decode cX12_qWordHere 41 = .ok (.getfield 234, 3) := by decide +kernel
theorem dX12_qWordHere_44 : decode cX12_qWordHere 44 = .ok (.invokevirtual 308, 3) := by decide +kernel
theorem dX12_qWordHere_47 : decode cX12_qWordHere 47 = .ok (.ifCond .eq 5, 3) := by decide +kernel
theorem dX12_qWordHere_50 : decode cX12_qWordHere 50 = .ok (.iconst 3, 1) := by decide +kernel
theorem dX12_qWordHere_51 : decode cX12_qWordHere 51 = .ok (.ireturn, 1) := by decide +kernel
theorem dX12_qWordHere_52 : decode cX12_qWordHere 52 = .ok (.aload_n 0, 1) := by decide +kernel
theorem dX12_qWordHere_53 : decode cX12_qWordHere 53 = .ok (.aload_n 0, 1) := by decide +kernel
theorem dX12_qWordHere_54 : decode cX12_qWordHere 54 = .ok (.getfield 237, 3) := by decide +kernel
theorem dX12_qWordHere_57 : decode cX12_qWordHere 57 = .ok (.invokevirtual 308, 3) := by decide +kernel
theorem dX12_qWordHere_60 : decode cX12_qWordHere 60 = .ok (.ifCond .eq 5, 3) := by decide +kernel
theorem dX12_qWordHere_63 : decode cX12_qWordHere 63 = .ok (.iconst 4, 1) := by decide +kernel
theorem dX12_qWordHere_64 : decode cX12_qWordHere 64 = .ok (.ireturn, 1) := by decide +kernel
theorem dX12_qWordHere_65 : decode cX12_qWordHere 65 = .ok (.aload_n 0, 1) := by decide +kernel
theorem dX12_qWordHere_66 : decode cX12_qWordHere 66 = .ok (.aload_n 0, 1) := by decide +kernel
theorem dX12_qWordHere_67 : decode cX12_qWordHere 67 = .ok (.getfield 240, 3) := by decide +kernel
theorem dX12_qWordHere_70 : decode cX12_qWordHere 70 = .ok (.invokevirtual 308, 3) := by decide +kernel
theorem dX12_qWordHere_73 : decode cX12_qWordHere 73 = .ok (.ifCond .eq 5, 3) := by decide +kernel
theorem dX12_qWordHere_76 : decode cX12_qWordHere 76 = .ok (.iconst 5, 1) := by decide +kernel
theorem dX12_qWordHere_77 : decode cX12_qWordHere 77 = .ok (.ireturn, 1) := by decide +kernel
theorem dX12_qWordHere_78 : decode cX12_qWordHere 78 = .ok (.aload_n 0, 1) := by decide +kernel
theorem dX12_qWordHere_79 : decode cX12_qWordHere 79 = .ok (.aload_n 0, 1) := by decide +kernel
theorem dX12_qWordHere_80 : decode cX12_qWordHere 80 = .ok (.getfield 243, 3) := by decide +kernel
theorem dX12_qWordHere_83 : decode cX12_qWordHere 83 = .ok (.invokevirtual 308, 3) := by decide +kernel
theorem dX12_qWordHere_86 : decode cX12_qWordHere 86 = .ok (.ifCond .eq 6, 3) := by decide +kernel
theorem dX12_qWordHere_89 : decode cX12_qWordHere 89 = .ok (.bipush 6, 2) := by decide +kernel
theorem dX12_qWordHere_91 : decode cX12_qWordHere 91 = .ok (.ireturn, 1) := by decide +kernel
theorem dX12_qWordHere_92 : decode cX12_qWordHere 92 = .ok (.aload_n 0, 1) := by decide +kernel
theorem dX12_qWordHere_93 : decode cX12_qWordHere 93 = .ok (.getfield 343, 3) := by decide +kernel
theorem dX12_qWordHere_96 : decode cX12_qWordHere 96 = .ok (.iconst 2, 1) := by decide +kernel
theorem dX12_qWordHere_97 : decode cX12_qWordHere 97 = .ok (.if_icmp .ge 17, 3) := by decide +kernel
theorem dX12_qWordHere_100 : decode cX12_qWordHere 100 = .ok (.aload_n 0, 1) := by decide +kernel
theorem dX12_qWordHere_101 : decode cX12_qWordHere 101 = .ok (.aload_n 0, 1) := by decide +kernel
theorem dX12_qWordHere_102 : decode cX12_qWordHere 102 = .ok (.getfield 246, 3) := by decide +kernel
theorem dX12_qWordHere_105 : decode cX12_qWordHere 105 = .ok (.invokevirtual 308, 3) := by decide +kernel
theorem dX12_qWordHere_108 : decode cX12_qWordHere 108 = .ok (.ifCond .eq 6, 3) := by decide +kernel
theorem dX12_qWordHere_111 : decode cX12_qWordHere 111 = .ok (.bipush 7, 2) := by decide +kernel
theorem dX12_qWordHere_113 : decode cX12_qWordHere 113 = .ok (.ireturn, 1) := by decide +kernel
theorem dX12_qWordHere_114 : decode cX12_qWordHere 114 = .ok (.aload_n 0, 1) := by decide +kernel
theorem dX12_qWordHere_115 : decode cX12_qWordHere 115 = .ok (.getfield 343, 3) := by decide +kernel
theorem dX12_qWordHere_118 : decode cX12_qWordHere 118 = .ok (.iconst 2, 1) := by decide +kernel
theorem dX12_qWordHere_119 : decode cX12_qWordHere 119 = .ok (.if_icmp .ge 17, 3) := by decide +kernel
theorem dX12_qWordHere_122 : decode cX12_qWordHere 122 = .ok (.aload_n 0, 1) := by decide +kernel
theorem dX12_qWordHere_123 : decode cX12_qWordHere 123 = .ok (.aload_n 0, 1) := by decide +kernel
theorem dX12_qWordHere_124 : decode cX12_qWordHere 124 = .ok (.getfield 249, 3) := by decide +kernel
theorem dX12_qWordHere_127 : decode cX12_qWordHere 127 = .ok (.invokevirtual 308, 3) := by decide +kernel
theorem dX12_qWordHere_130 : decode cX12_qWordHere 130 = .ok (.ifCond .eq 6, 3) := by decide +kernel
theorem dX12_qWordHere_133 : decode cX12_qWordHere 133 = .ok (.bipush 8, 2) := by decide +kernel
theorem dX12_qWordHere_135 : decode cX12_qWordHere 135 = .ok (.ireturn, 1) := by decide +kernel
theorem dX12_qWordHere_136 : decode cX12_qWordHere 136 = .ok (.aload_n 0, 1) := by decide +kernel
theorem dX12_qWordHere_137 : decode cX12_qWordHere 137 = .ok (.aload_n 0, 1) := by decide +kernel
theorem dX12_qWordHere_138 : decode cX12_qWordHere 138 = .ok (.getfield 252, 3) := by decide +kernel
theorem dX12_qWordHere_141 : decode cX12_qWordHere 141 = .ok (.invokevirtual 308, 3) := by decide +kernel
theorem dX12_qWordHere_144 : decode cX12_qWordHere 144 = .ok (.ifCond .eq 6, 3) := by decide +kernel
theorem dX12_qWordHere_147 : decode cX12_qWordHere 147 = .ok (.bipush 9, 2) := by decide +kernel
theorem dX12_qWordHere_149 : decode cX12_qWordHere 149 = .ok (.ireturn, 1) := by decide +kernel
theorem dX12_qWordHere_150 : decode cX12_qWordHere 150 = .ok (.aload_n 0, 1) := by decide +kernel
theorem dX12_qWordHere_151 : decode cX12_qWordHere 151 = .ok (.aload_n 0, 1) := by decide +kernel
theorem dX12_qWordHere_152 : decode cX12_qWordHere 152 = .ok (.getfield 255, 3) := by decide +kernel
theorem dX12_qWordHere_155 : decode cX12_qWordHere 155 = .ok (.invokevirtual 308, 3) := by decide +kernel
theorem dX12_qWordHere_158 : decode cX12_qWordHere 158 = .ok (.ifCond .eq 6, 3) := by decide +kernel
theorem dX12_qWordHere_161 : decode cX12_qWordHere 161 = .ok (.bipush 10, 2) := by decide +kernel
theorem dX12_qWordHere_163 : decode cX12_qWordHere 163 = .ok (.ireturn, 1) := by decide +kernel
theorem dX12_qWordHere_164 : decode cX12_qWordHere 164 = .ok (.aload_n 0, 1) := by decide +kernel
theorem dX12_qWordHere_165 : decode cX12_qWordHere 165 = .ok (.aload_n 0, 1) := by decide +kernel
theorem dX12_qWordHere_166 : decode cX12_qWordHere 166 = .ok (.getfield 258, 3) := by decide +kernel
theorem dX12_qWordHere_169 : decode cX12_qWordHere 169 = .ok (.invokevirtual 308, 3) := by decide +kernel
theorem dX12_qWordHere_172 : decode cX12_qWordHere 172 = .ok (.ifCond .eq 6, 3) := by decide +kernel
theorem dX12_qWordHere_175 : decode cX12_qWordHere 175 = .ok (.bipush 11, 2) := by decide +kernel
theorem dX12_qWordHere_177 : decode cX12_qWordHere 177 = .ok (.ireturn, 1) := by decide +kernel
theorem dX12_qWordHere_178 : decode cX12_qWordHere 178 = .ok (.aload_n 0, 1) := by decide +kernel
theorem dX12_qWordHere_179 : decode cX12_qWordHere 179 = .ok (.aload_n 0, 1) := by decide +kernel
theorem dX12_qWordHere_180 : decode cX12_qWordHere 180 = .ok (.getfield 261, 3) := by decide +kernel
theorem dX12_qWordHere_183 : decode cX12_qWordHere 183 = .ok (.invokevirtual 308, 3) := by decide +kernel
theorem dX12_qWordHere_186 : decode cX12_qWordHere 186 = .ok (.ifCond .eq 6, 3) := by decide +kernel
theorem dX12_qWordHere_189 : decode cX12_qWordHere 189 = .ok (.bipush 12, 2) := by decide +kernel
theorem dX12_qWordHere_191 : decode cX12_qWordHere 191 = .ok (.ireturn, 1) := by decide +kernel
theorem dX12_qWordHere_192 : decode cX12_qWordHere 192 = .ok (.aload_n 0, 1) := by decide +kernel
theorem dX12_qWordHere_193 : decode cX12_qWordHere 193 = .ok (.aload_n 0, 1) := by decide +kernel
theorem dX12_qWordHere_194 : decode cX12_qWordHere 194 = .ok (.getfield 264, 3) := by decide +kernel
theorem dX12_qWordHere_197 : decode cX12_qWordHere 197 = .ok (.invokevirtual 308, 3) := by decide +kernel
theorem dX12_qWordHere_200 : decode cX12_qWordHere 200 = .ok (.ifCond .eq 6, 3) := by decide +kernel
theorem dX12_qWordHere_203 : decode cX12_qWordHere 203 = .ok (.bipush 13, 2) := by decide +kernel
theorem dX12_qWordHere_205 : decode cX12_qWordHere 205 = .ok (.ireturn, 1) := by decide +kernel
theorem dX12_qWordHere_206 : decode cX12_qWordHere 206 = .ok (.aload_n 0, 1) := by decide +kernel
theorem dX12_qWordHere_207 : decode cX12_qWordHere 207 = .ok (.aload_n 0, 1) := by decide +kernel
theorem dX12_qWordHere_208 : decode cX12_qWordHere 208 = .ok (.getfield 267, 3) := by decide +kernel
theorem dX12_qWordHere_211 : decode cX12_qWordHere 211 = .ok (.invokevirtual 308, 3) := by decide +kernel
theorem dX12_qWordHere_214 : decode cX12_qWordHere 214 = .ok (.ifCond .eq 6, 3) := by decide +kernel
theorem dX12_qWordHere_217 : decode cX12_qWordHere 217 = .ok (.bipush 14, 2) := by decide +kernel
theorem dX12_qWordHere_219 : decode cX12_qWordHere 219 = .ok (.ireturn, 1) := by decide +kernel
theorem dX12_qWordHere_220 : decode cX12_qWordHere 220 = .ok (.iconst (-1), 1) := by decide +kernel
theorem dX12_qWordHere_221 : decode cX12_qWordHere 221 = .ok (.ireturn, 1) := by decide +kernel
def X12_qWordHere_p136 (sh : Shp) (v0 : Nat) (Q : Int32 → Mem → Prop) (m : Mem) : Prop :=
  Ob sh v0 12 ∧ ∃ b40 : Nat, m.2.2 v0 102 = some b40 ∧ (wp_X12_isHere sh v0 b40 (fun r42 m43 => if r42 = 0 then (∃ b44 : Nat, m43.2.2 v0 103 = some b44 ∧ (wp_X12_isHere sh v0 b44 (fun r46 m47 => if r46 = 0 then (∃ b48 : Nat, m47.2.2 v0 104 = some b48 ∧ (wp_X12_isHere sh v0 b48 (fun r50 m51 => if r50 = 0 then (∃ b52 : Nat, m51.2.2 v0 105 = some b52 ∧ (wp_X12_isHere sh v0 b52 (fun r54 m55 => if r54 = 0 then (∃ b56 : Nat, m55.2.2 v0 106 = some b56 ∧ (wp_X12_isHere sh v0 b56 (fun r58 m59 => if r58 = 0 then (∃ b60 : Nat, m59.2.2 v0 107 = some b60 ∧ (wp_X12_isHere sh v0 b60 (fun r62 m63 => if r62 = 0 then (Q (-1 : Int32) m63) else (Q (14 : Int32) m63)) m59)) else (Q (13 : Int32) m59)) m55)) else (Q (12 : Int32) m55)) m51)) else (Q (11 : Int32) m51)) m47)) else (Q (10 : Int32) m47)) m43)) else (Q (9 : Int32) m43)) m)
def X12_qWordHere_p114 (sh : Shp) (v0 : Nat) (Q : Int32 → Mem → Prop) (m : Mem) : Prop :=
  Ob sh v0 12 ∧ (if (2 : Int32) ≤ (m.1 v0 57) then (X12_qWordHere_p136 sh v0 Q m) else (∃ b35 : Nat, m.2.2 v0 101 = some b35 ∧ (wp_X12_isHere sh v0 b35 (fun r37 m38 => if r37 = 0 then (X12_qWordHere_p136 sh v0 Q m38) else (Q (8 : Int32) m38)) m)))
def wp_X12_qWordHere (sh : Shp) (v0 : Nat) (Q : Int32 → Mem → Prop) (m : Mem) : Prop :=
  Ob sh v0 12 ∧ ∃ b2 : Nat, m.2.2 v0 93 = some b2 ∧ (wp_X12_isHere sh v0 b2 (fun r4 m5 => if r4 = 0 then (∃ b6 : Nat, m5.2.2 v0 94 = some b6 ∧ (wp_X12_isHere sh v0 b6 (fun r8 m9 => if r8 = 0 then (∃ b10 : Nat, m9.2.2 v0 95 = some b10 ∧ (wp_X12_isHere sh v0 b10 (fun r12 m13 => if r12 = 0 then (∃ b14 : Nat, m13.2.2 v0 96 = some b14 ∧ (wp_X12_isHere sh v0 b14 (fun r16 m17 => if r16 = 0 then (∃ b18 : Nat, m17.2.2 v0 97 = some b18 ∧ (wp_X12_isHere sh v0 b18 (fun r20 m21 => if r20 = 0 then (∃ b22 : Nat, m21.2.2 v0 98 = some b22 ∧ (wp_X12_isHere sh v0 b22 (fun r24 m25 => if r24 = 0 then (∃ b26 : Nat, m25.2.2 v0 99 = some b26 ∧ (wp_X12_isHere sh v0 b26 (fun r28 m29 => if r28 = 0 then (if (2 : Int32) ≤ (m29.1 v0 57) then (X12_qWordHere_p114 sh v0 Q m29) else (∃ b30 : Nat, m29.2.2 v0 100 = some b30 ∧ (wp_X12_isHere sh v0 b30 (fun r32 m33 => if r32 = 0 then (X12_qWordHere_p114 sh v0 Q m33) else (Q (7 : Int32) m33)) m29))) else (Q (6 : Int32) m29)) m25)) else (Q (5 : Int32) m25)) m21)) else (Q (4 : Int32) m21)) m17)) else (Q (3 : Int32) m17)) m13)) else (Q (2 : Int32) m13)) m9)) else (Q (1 : Int32) m9)) m5)) else (Q (0 : Int32) m5)) m)
abbrev M_X12_qWordHere : Mi := (cX12_qWordHere, 1, RX12, (Option.some FieldType.int), "qWordHere", 3, 103, 0, 0)
set_option maxHeartbeats 4000000 in
set_option maxRecDepth 100000 in
theorem v_X12_qWordHere_p136 {G : Gl} {F : Fr} {sh : Shp} {v0 : Nat} {Q : Int32 → Mem → Prop} {m : Mem} (h : X12_qWordHere_p136 sh v0 Q m) : V G F M_X12_qWordHere sh 0 0 (Zi G F sh Q) 136 [(0, .ref (G.1 + v0))] [] m := by
  unfold X12_qWordHere_p136 at h
  refine v_aload_n 0 0 dX12_qWordHere_136 rfl rfl ?_
  refine v_aload_n 0 0 dX12_qWordHere_137 rfl rfl ?_
  obtain ⟨o39, h⟩ := h
  obtain ⟨b40, e41, h⟩ := h
  refine v_gR 12 102 dX12_qWordHere_138 fg_RX12_252 o39 e41 ?_
  refine v_cVi [.ref _] mv_X12_isHere ml_RX12_308 ⟨_, _, rfl⟩ o39 rfl rfl (Nat.le_of_ble_eq_true rfl) (Nat.le_of_ble_eq_true rfl) (Nat.le_of_ble_eq_true rfl) (Nat.zero_le _) (Nat.zero_le _) dX12_qWordHere_141 (c_X12_isHere h) (fun r42 m43 h => ?_)
  refine v_if_eq 150 dX12_qWordHere_144 (by decide) (fun hc => ?_) (fun hc => ?_)
  · replace h := Eq.mp (if_pos hc) h
    refine v_aload_n 0 0 dX12_qWordHere_150 rfl rfl ?_
    refine v_aload_n 0 0 dX12_qWordHere_151 rfl rfl ?_
    obtain ⟨b44, e45, h⟩ := h
    refine v_gR 12 103 dX12_qWordHere_152 fg_RX12_255 o39 e45 ?_
    refine v_cVi [.ref _] mv_X12_isHere ml_RX12_308 ⟨_, _, rfl⟩ o39 rfl rfl (Nat.le_of_ble_eq_true rfl) (Nat.le_of_ble_eq_true rfl) (Nat.le_of_ble_eq_true rfl) (Nat.zero_le _) (Nat.zero_le _) dX12_qWordHere_155 (c_X12_isHere h) (fun r46 m47 h => ?_)
    refine v_if_eq 164 dX12_qWordHere_158 (by decide) (fun hc => ?_) (fun hc => ?_)
    · replace h := Eq.mp (if_pos hc) h
      refine v_aload_n 0 0 dX12_qWordHere_164 rfl rfl ?_
      refine v_aload_n 0 0 dX12_qWordHere_165 rfl rfl ?_
      obtain ⟨b48, e49, h⟩ := h
      refine v_gR 12 104 dX12_qWordHere_166 fg_RX12_258 o39 e49 ?_
      refine v_cVi [.ref _] mv_X12_isHere ml_RX12_308 ⟨_, _, rfl⟩ o39 rfl rfl (Nat.le_of_ble_eq_true rfl) (Nat.le_of_ble_eq_true rfl) (Nat.le_of_ble_eq_true rfl) (Nat.zero_le _) (Nat.zero_le _) dX12_qWordHere_169 (c_X12_isHere h) (fun r50 m51 h => ?_)
      refine v_if_eq 178 dX12_qWordHere_172 (by decide) (fun hc => ?_) (fun hc => ?_)
      · replace h := Eq.mp (if_pos hc) h
        refine v_aload_n 0 0 dX12_qWordHere_178 rfl rfl ?_
        refine v_aload_n 0 0 dX12_qWordHere_179 rfl rfl ?_
        obtain ⟨b52, e53, h⟩ := h
        refine v_gR 12 105 dX12_qWordHere_180 fg_RX12_261 o39 e53 ?_
        refine v_cVi [.ref _] mv_X12_isHere ml_RX12_308 ⟨_, _, rfl⟩ o39 rfl rfl (Nat.le_of_ble_eq_true rfl) (Nat.le_of_ble_eq_true rfl) (Nat.le_of_ble_eq_true rfl) (Nat.zero_le _) (Nat.zero_le _) dX12_qWordHere_183 (c_X12_isHere h) (fun r54 m55 h => ?_)
        refine v_if_eq 192 dX12_qWordHere_186 (by decide) (fun hc => ?_) (fun hc => ?_)
        · replace h := Eq.mp (if_pos hc) h
          refine v_aload_n 0 0 dX12_qWordHere_192 rfl rfl ?_
          refine v_aload_n 0 0 dX12_qWordHere_193 rfl rfl ?_
          obtain ⟨b56, e57, h⟩ := h
          refine v_gR 12 106 dX12_qWordHere_194 fg_RX12_264 o39 e57 ?_
          refine v_cVi [.ref _] mv_X12_isHere ml_RX12_308 ⟨_, _, rfl⟩ o39 rfl rfl (Nat.le_of_ble_eq_true rfl) (Nat.le_of_ble_eq_true rfl) (Nat.le_of_ble_eq_true rfl) (Nat.zero_le _) (Nat.zero_le _) dX12_qWordHere_197 (c_X12_isHere h) (fun r58 m59 h => ?_)
          refine v_if_eq 206 dX12_qWordHere_200 (by decide) (fun hc => ?_) (fun hc => ?_)
          · replace h := Eq.mp (if_pos hc) h
            refine v_aload_n 0 0 dX12_qWordHere_206 rfl rfl ?_
            refine v_aload_n 0 0 dX12_qWordHere_207 rfl rfl ?_
            obtain ⟨b60, e61, h⟩ := h
            refine v_gR 12 107 dX12_qWordHere_208 fg_RX12_267 o39 e61 ?_
            refine v_cVi [.ref _] mv_X12_isHere ml_RX12_308 ⟨_, _, rfl⟩ o39 rfl rfl (Nat.le_of_ble_eq_true rfl) (Nat.le_of_ble_eq_true rfl) (Nat.le_of_ble_eq_true rfl) (Nat.zero_le _) (Nat.zero_le _) dX12_qWordHere_211 (c_X12_isHere h) (fun r62 m63 h => ?_)
            refine v_if_eq 220 dX12_qWordHere_214 (by decide) (fun hc => ?_) (fun hc => ?_)
            · replace h := Eq.mp (if_pos hc) h
              refine v_iconst (-1 : Int32) dX12_qWordHere_220 (by decide) ?_
              exact v_iret dX12_qWordHere_221 rfl rfl h
            · replace h := Eq.mp (if_neg hc) h
              refine v_bipush (14 : Int32) dX12_qWordHere_217 (by decide) ?_
              exact v_iret dX12_qWordHere_219 rfl rfl h
          · replace h := Eq.mp (if_neg hc) h
            refine v_bipush (13 : Int32) dX12_qWordHere_203 (by decide) ?_
            exact v_iret dX12_qWordHere_205 rfl rfl h
        · replace h := Eq.mp (if_neg hc) h
          refine v_bipush (12 : Int32) dX12_qWordHere_189 (by decide) ?_
          exact v_iret dX12_qWordHere_191 rfl rfl h
      · replace h := Eq.mp (if_neg hc) h
        refine v_bipush (11 : Int32) dX12_qWordHere_175 (by decide) ?_
        exact v_iret dX12_qWordHere_177 rfl rfl h
    · replace h := Eq.mp (if_neg hc) h
      refine v_bipush (10 : Int32) dX12_qWordHere_161 (by decide) ?_
      exact v_iret dX12_qWordHere_163 rfl rfl h
  · replace h := Eq.mp (if_neg hc) h
    refine v_bipush (9 : Int32) dX12_qWordHere_147 (by decide) ?_
    exact v_iret dX12_qWordHere_149 rfl rfl h
set_option maxHeartbeats 4000000 in
set_option maxRecDepth 100000 in
theorem v_X12_qWordHere_p114 {G : Gl} {F : Fr} {sh : Shp} {v0 : Nat} {Q : Int32 → Mem → Prop} {m : Mem} (h : X12_qWordHere_p114 sh v0 Q m) : V G F M_X12_qWordHere sh 0 0 (Zi G F sh Q) 114 [(0, .ref (G.1 + v0))] [] m := by
  unfold X12_qWordHere_p114 at h
  refine v_aload_n 0 0 dX12_qWordHere_114 rfl rfl ?_
  obtain ⟨o34, h⟩ := h
  refine v_gI 12 57 dX12_qWordHere_115 fg_RX12_343 o34 ?_
  refine v_iconst (2 : Int32) dX12_qWordHere_118 (by decide) ?_
  refine v_icmp_ge 136 dX12_qWordHere_119 (by decide) (fun hc => ?_) (fun hc => ?_)
  · replace h := Eq.mp (if_pos hc) h
    refine v_sub [0] rfl ?_
    exact v_X12_qWordHere_p136 h
  · replace h := Eq.mp (if_neg hc) h
    refine v_aload_n 0 0 dX12_qWordHere_122 rfl rfl ?_
    refine v_aload_n 0 0 dX12_qWordHere_123 rfl rfl ?_
    obtain ⟨b35, e36, h⟩ := h
    refine v_gR 12 101 dX12_qWordHere_124 fg_RX12_249 o34 e36 ?_
    refine v_cVi [.ref _] mv_X12_isHere ml_RX12_308 ⟨_, _, rfl⟩ o34 rfl rfl (Nat.le_of_ble_eq_true rfl) (Nat.le_of_ble_eq_true rfl) (Nat.le_of_ble_eq_true rfl) (Nat.zero_le _) (Nat.zero_le _) dX12_qWordHere_127 (c_X12_isHere h) (fun r37 m38 h => ?_)
    refine v_if_eq 136 dX12_qWordHere_130 (by decide) (fun hc => ?_) (fun hc => ?_)
    · replace h := Eq.mp (if_pos hc) h
      refine v_sub [0] rfl ?_
      exact v_X12_qWordHere_p136 h
    · replace h := Eq.mp (if_neg hc) h
      refine v_bipush (8 : Int32) dX12_qWordHere_133 (by decide) ?_
      exact v_iret dX12_qWordHere_135 rfl rfl h
set_option maxHeartbeats 4000000 in
set_option maxRecDepth 100000 in
theorem c_X12_qWordHere {l : Launch} {G : Gl} {sh : Shp} {v0 : Nat} {Q : Int32 → Mem → Prop} {m : Mem} (h : wp_X12_qWordHere sh v0 Q m) : Cni l G yX12_qWordHere cX12_qWordHere 1 (Option.some FieldType.int) 3 103 sh [.ref (G.1 + v0)] m Q := by
  refine con_i (ls := [(0, .ref (G.1 + v0))]) (by decide +kernel) rfl (Nat.le_of_ble_eq_true rfl) (fun F => ?_)
  show V G F M_X12_qWordHere sh 0 0 (Zi G F sh Q) 0 [(0, .ref (G.1 + v0))] [] m
  unfold wp_X12_qWordHere at h
  refine v_aload_n 0 0 dX12_qWordHere_0 rfl rfl ?_
  refine v_aload_n 0 0 dX12_qWordHere_1 rfl rfl ?_
  obtain ⟨o1, h⟩ := h
  obtain ⟨b2, e3, h⟩ := h
  refine v_gR 12 93 dX12_qWordHere_2 fg_RX12_225 o1 e3 ?_
  refine v_cVi [.ref _] mv_X12_isHere ml_RX12_308 ⟨_, _, rfl⟩ o1 rfl rfl (Nat.le_of_ble_eq_true rfl) (Nat.le_of_ble_eq_true rfl) (Nat.le_of_ble_eq_true rfl) (Nat.zero_le _) (Nat.zero_le _) dX12_qWordHere_5 (c_X12_isHere h) (fun r4 m5 h => ?_)
  refine v_if_eq 13 dX12_qWordHere_8 (by decide) (fun hc => ?_) (fun hc => ?_)
  · replace h := Eq.mp (if_pos hc) h
    refine v_aload_n 0 0 dX12_qWordHere_13 rfl rfl ?_
    refine v_aload_n 0 0 dX12_qWordHere_14 rfl rfl ?_
    obtain ⟨b6, e7, h⟩ := h
    refine v_gR 12 94 dX12_qWordHere_15 fg_RX12_228 o1 e7 ?_
    refine v_cVi [.ref _] mv_X12_isHere ml_RX12_308 ⟨_, _, rfl⟩ o1 rfl rfl (Nat.le_of_ble_eq_true rfl) (Nat.le_of_ble_eq_true rfl) (Nat.le_of_ble_eq_true rfl) (Nat.zero_le _) (Nat.zero_le _) dX12_qWordHere_18 (c_X12_isHere h) (fun r8 m9 h => ?_)
    refine v_if_eq 26 dX12_qWordHere_21 (by decide) (fun hc => ?_) (fun hc => ?_)
    · replace h := Eq.mp (if_pos hc) h
      refine v_aload_n 0 0 dX12_qWordHere_26 rfl rfl ?_
      refine v_aload_n 0 0 dX12_qWordHere_27 rfl rfl ?_
      obtain ⟨b10, e11, h⟩ := h
      refine v_gR 12 95 dX12_qWordHere_28 fg_RX12_231 o1 e11 ?_
      refine v_cVi [.ref _] mv_X12_isHere ml_RX12_308 ⟨_, _, rfl⟩ o1 rfl rfl (Nat.le_of_ble_eq_true rfl) (Nat.le_of_ble_eq_true rfl) (Nat.le_of_ble_eq_true rfl) (Nat.zero_le _) (Nat.zero_le _) dX12_qWordHere_31 (c_X12_isHere h) (fun r12 m13 h => ?_)
      refine v_if_eq 39 dX12_qWordHere_34 (by decide) (fun hc => ?_) (fun hc => ?_)
      · replace h := Eq.mp (if_pos hc) h
        refine v_aload_n 0 0 dX12_qWordHere_39 rfl rfl ?_
        refine v_aload_n 0 0 dX12_qWordHere_40 rfl rfl ?_
        obtain ⟨b14, e15, h⟩ := h
        refine v_gR 12 96 dX12_qWordHere_41 fg_RX12_234 o1 e15 ?_
        refine v_cVi [.ref _] mv_X12_isHere ml_RX12_308 ⟨_, _, rfl⟩ o1 rfl rfl (Nat.le_of_ble_eq_true rfl) (Nat.le_of_ble_eq_true rfl) (Nat.le_of_ble_eq_true rfl) (Nat.zero_le _) (Nat.zero_le _) dX12_qWordHere_44 (c_X12_isHere h) (fun r16 m17 h => ?_)
        refine v_if_eq 52 dX12_qWordHere_47 (by decide) (fun hc => ?_) (fun hc => ?_)
        · replace h := Eq.mp (if_pos hc) h
          refine v_aload_n 0 0 dX12_qWordHere_52 rfl rfl ?_
          refine v_aload_n 0 0 dX12_qWordHere_53 rfl rfl ?_
          obtain ⟨b18, e19, h⟩ := h
          refine v_gR 12 97 dX12_qWordHere_54 fg_RX12_237 o1 e19 ?_
          refine v_cVi [.ref _] mv_X12_isHere ml_RX12_308 ⟨_, _, rfl⟩ o1 rfl rfl (Nat.le_of_ble_eq_true rfl) (Nat.le_of_ble_eq_true rfl) (Nat.le_of_ble_eq_true rfl) (Nat.zero_le _) (Nat.zero_le _) dX12_qWordHere_57 (c_X12_isHere h) (fun r20 m21 h => ?_)
          refine v_if_eq 65 dX12_qWordHere_60 (by decide) (fun hc => ?_) (fun hc => ?_)
          · replace h := Eq.mp (if_pos hc) h
            refine v_aload_n 0 0 dX12_qWordHere_65 rfl rfl ?_
            refine v_aload_n 0 0 dX12_qWordHere_66 rfl rfl ?_
            obtain ⟨b22, e23, h⟩ := h
            refine v_gR 12 98 dX12_qWordHere_67 fg_RX12_240 o1 e23 ?_
            refine v_cVi [.ref _] mv_X12_isHere ml_RX12_308 ⟨_, _, rfl⟩ o1 rfl rfl (Nat.le_of_ble_eq_true rfl) (Nat.le_of_ble_eq_true rfl) (Nat.le_of_ble_eq_true rfl) (Nat.zero_le _) (Nat.zero_le _) dX12_qWordHere_70 (c_X12_isHere h) (fun r24 m25 h => ?_)
            refine v_if_eq 78 dX12_qWordHere_73 (by decide) (fun hc => ?_) (fun hc => ?_)
            · replace h := Eq.mp (if_pos hc) h
              refine v_aload_n 0 0 dX12_qWordHere_78 rfl rfl ?_
              refine v_aload_n 0 0 dX12_qWordHere_79 rfl rfl ?_
              obtain ⟨b26, e27, h⟩ := h
              refine v_gR 12 99 dX12_qWordHere_80 fg_RX12_243 o1 e27 ?_
              refine v_cVi [.ref _] mv_X12_isHere ml_RX12_308 ⟨_, _, rfl⟩ o1 rfl rfl (Nat.le_of_ble_eq_true rfl) (Nat.le_of_ble_eq_true rfl) (Nat.le_of_ble_eq_true rfl) (Nat.zero_le _) (Nat.zero_le _) dX12_qWordHere_83 (c_X12_isHere h) (fun r28 m29 h => ?_)
              refine v_if_eq 92 dX12_qWordHere_86 (by decide) (fun hc => ?_) (fun hc => ?_)
              · replace h := Eq.mp (if_pos hc) h
                refine v_aload_n 0 0 dX12_qWordHere_92 rfl rfl ?_
                refine v_gI 12 57 dX12_qWordHere_93 fg_RX12_343 o1 ?_
                refine v_iconst (2 : Int32) dX12_qWordHere_96 (by decide) ?_
                refine v_icmp_ge 114 dX12_qWordHere_97 (by decide) (fun hc => ?_) (fun hc => ?_)
                · replace h := Eq.mp (if_pos hc) h
                  refine v_sub [0] rfl ?_
                  exact v_X12_qWordHere_p114 h
                · replace h := Eq.mp (if_neg hc) h
                  refine v_aload_n 0 0 dX12_qWordHere_100 rfl rfl ?_
                  refine v_aload_n 0 0 dX12_qWordHere_101 rfl rfl ?_
                  obtain ⟨b30, e31, h⟩ := h
                  refine v_gR 12 100 dX12_qWordHere_102 fg_RX12_246 o1 e31 ?_
                  refine v_cVi [.ref _] mv_X12_isHere ml_RX12_308 ⟨_, _, rfl⟩ o1 rfl rfl (Nat.le_of_ble_eq_true rfl) (Nat.le_of_ble_eq_true rfl) (Nat.le_of_ble_eq_true rfl) (Nat.zero_le _) (Nat.zero_le _) dX12_qWordHere_105 (c_X12_isHere h) (fun r32 m33 h => ?_)
                  refine v_if_eq 114 dX12_qWordHere_108 (by decide) (fun hc => ?_) (fun hc => ?_)
                  · replace h := Eq.mp (if_pos hc) h
                    refine v_sub [0] rfl ?_
                    exact v_X12_qWordHere_p114 h
                  · replace h := Eq.mp (if_neg hc) h
                    refine v_bipush (7 : Int32) dX12_qWordHere_111 (by decide) ?_
                    exact v_iret dX12_qWordHere_113 rfl rfl h
              · replace h := Eq.mp (if_neg hc) h
                refine v_bipush (6 : Int32) dX12_qWordHere_89 (by decide) ?_
                exact v_iret dX12_qWordHere_91 rfl rfl h
            · replace h := Eq.mp (if_neg hc) h
              refine v_iconst (5 : Int32) dX12_qWordHere_76 (by decide) ?_
              exact v_iret dX12_qWordHere_77 rfl rfl h
          · replace h := Eq.mp (if_neg hc) h
            refine v_iconst (4 : Int32) dX12_qWordHere_63 (by decide) ?_
            exact v_iret dX12_qWordHere_64 rfl rfl h
        · replace h := Eq.mp (if_neg hc) h
          refine v_iconst (3 : Int32) dX12_qWordHere_50 (by decide) ?_
          exact v_iret dX12_qWordHere_51 rfl rfl h
      · replace h := Eq.mp (if_neg hc) h
        refine v_iconst (2 : Int32) dX12_qWordHere_37 (by decide) ?_
        exact v_iret dX12_qWordHere_38 rfl rfl h
    · replace h := Eq.mp (if_neg hc) h
      refine v_iconst (1 : Int32) dX12_qWordHere_24 (by decide) ?_
      exact v_iret dX12_qWordHere_25 rfl rfl h
  · replace h := Eq.mp (if_neg hc) h
    refine v_iconst (0 : Int32) dX12_qWordHere_11 (by decide) ?_
    exact v_iret dX12_qWordHere_12 rfl rfl h
/-! CalledRiverModel.qWordOf -/
theorem dX12_qWordOf_0 : decode cX12_qWordOf 0 = .ok (.aload_n 0, 1) := by decide +kernel
theorem dX12_qWordOf_1 : decode cX12_qWordOf 1 = .ok (.invokevirtual 630, 3) := by decide +kernel
theorem dX12_qWordOf_4 : decode cX12_qWordOf 4 = .ok (.istore_n 3, 1) := by decide +kernel
theorem dX12_qWordOf_5 : decode cX12_qWordOf 5 = .ok (.iload_n 3, 1) := by decide +kernel
theorem dX12_qWordOf_6 : decode cX12_qWordOf 6 = .ok (.iload_n 1, 1) := by decide +kernel
theorem dX12_qWordOf_7 : decode cX12_qWordOf 7 = .ok (.if_icmp .lt 20, 3) := by decide +kernel
theorem dX12_qWordOf_10 : decode cX12_qWordOf 10 = .ok (.iload_n 3, 1) := by decide +kernel
theorem dX12_qWordOf_11 : decode cX12_qWordOf 11 = .ok (.iload_n 2, 1) := by decide +kernel
theorem dX12_qWordOf_12 : decode cX12_qWordOf 12 = .ok (.if_icmp .ge 15, 3) := by decide +kernel
theorem dX12_qWordOf_15 : decode cX12_qWordOf 15 = .ok (.aload_n 0, 1) := by decide +kernel
theorem dX12_qWordOf_16 : decode cX12_qWordOf 16 = .ok (.iload_n 3, 1) := by decide +kernel
theorem dX12_qWordOf_17 : decode cX12_qWordOf 17 = .ok (.invokevirtual 633, 3) := by decide +kernel
theorem dX12_qWordOf_20 : decode cX12_qWordOf 20 = .ok (.ifCond .eq 7, 3) := by decide +kernel
theorem dX12_qWordOf_23 : decode cX12_qWordOf 23 = .ok (.iload_n 3, 1) := by decide +kernel
theorem dX12_qWordOf_24 : decode cX12_qWordOf 24 = .ok (.goto 4, 3) := by decide +kernel
theorem dX12_qWordOf_27 : decode cX12_qWordOf 27 = .ok (.iconst (-1), 1) := by decide +kernel
theorem dX12_qWordOf_28 : decode cX12_qWordOf 28 = .ok (.ireturn, 1) := by decide +kernel
def wp_X12_qWordOf (sh : Shp) (v0 : Nat) (v1 : Int32) (v2 : Int32) (Q : Int32 → Mem → Prop) (m : Mem) : Prop :=
  Ob sh v0 12 ∧ wp_X12_qWordHere sh v0 (fun r1 m2 => if r1 < v1 then (Q (-1 : Int32) m2) else (if v2 ≤ r1 then (Q (-1 : Int32) m2) else (wp_X12_isAllowed sh v0 r1 (fun r4 m5 => if r4 = 0 then (Q (-1 : Int32) m5) else (Q r1 m5)) m2))) m
abbrev M_X12_qWordOf : Mi := (cX12_qWordOf, 4, RX12, (Option.some FieldType.int), "qWordOf", 4, 123, 0, 0)
set_option maxHeartbeats 4000000 in
set_option maxRecDepth 100000 in
theorem c_X12_qWordOf {l : Launch} {G : Gl} {sh : Shp} {v0 : Nat} {v1 : Int32} {v2 : Int32} {Q : Int32 → Mem → Prop} {m : Mem} (h : wp_X12_qWordOf sh v0 v1 v2 Q m) : Cni l G yX12_qWordOf cX12_qWordOf 4 (Option.some FieldType.int) 4 123 sh [.ref (G.1 + v0), .int v1, .int v2] m Q := by
  refine con_i (ls := [(0, .ref (G.1 + v0)), (1, .int v1), (2, .int v2)]) (by decide +kernel) rfl (Nat.le_of_ble_eq_true rfl) (fun F => ?_)
  show V G F M_X12_qWordOf sh 0 0 (Zi G F sh Q) 0 [(0, .ref (G.1 + v0)), (1, .int v1), (2, .int v2)] [] m
  unfold wp_X12_qWordOf at h
  refine v_aload_n 0 0 dX12_qWordOf_0 rfl rfl ?_
  obtain ⟨o3, h⟩ := h
  refine v_cVi [] mv_X12_qWordHere ml_RX12_630 ⟨_, _, rfl⟩ o3 rfl rfl (Nat.le_of_ble_eq_true rfl) (Nat.le_of_ble_eq_true rfl) (Nat.le_of_ble_eq_true rfl) (Nat.zero_le _) (Nat.zero_le _) dX12_qWordOf_1 (c_X12_qWordHere h) (fun r1 m2 h => ?_)
  refine v_istore_n (ls' := [(3, .int _), (0, .ref _), (1, .int _), (2, .int _)]) 3 dX12_qWordOf_4 rfl (Nat.le_of_ble_eq_true rfl) rfl ?_
  refine v_iload_n 3 0 dX12_qWordOf_5 rfl rfl ?_
  refine v_iload_n 1 2 dX12_qWordOf_6 rfl rfl ?_
  refine v_icmp_lt 27 dX12_qWordOf_7 (by decide) (fun hc => ?_) (fun hc => ?_)
  · replace h := Eq.mp (if_pos hc) h
    refine v_iconst (-1 : Int32) dX12_qWordOf_27 (by decide) ?_
    exact v_iret dX12_qWordOf_28 rfl rfl h
  · replace h := Eq.mp (if_neg hc) h
    refine v_iload_n 3 0 dX12_qWordOf_10 rfl rfl ?_
    refine v_iload_n 2 3 dX12_qWordOf_11 rfl rfl ?_
    refine v_icmp_ge 27 dX12_qWordOf_12 (by decide) (fun hc => ?_) (fun hc => ?_)
    · replace h := Eq.mp (if_pos hc) h
      refine v_iconst (-1 : Int32) dX12_qWordOf_27 (by decide) ?_
      exact v_iret dX12_qWordOf_28 rfl rfl h
    · replace h := Eq.mp (if_neg hc) h
      refine v_aload_n 0 1 dX12_qWordOf_15 rfl rfl ?_
      refine v_iload_n 3 0 dX12_qWordOf_16 rfl rfl ?_
      refine v_cVi [.int _] mv_X12_isAllowed ml_RX12_633 ⟨_, _, rfl⟩ o3 rfl rfl (Nat.le_of_ble_eq_true rfl) (Nat.le_of_ble_eq_true rfl) (Nat.le_of_ble_eq_true rfl) (Nat.zero_le _) (Nat.zero_le _) dX12_qWordOf_17 (c_X12_isAllowed h) (fun r4 m5 h => ?_)
      refine v_if_eq 27 dX12_qWordOf_20 (by decide) (fun hc => ?_) (fun hc => ?_)
      · replace h := Eq.mp (if_pos hc) h
        refine v_iconst (-1 : Int32) dX12_qWordOf_27 (by decide) ?_
        exact v_iret dX12_qWordOf_28 rfl rfl h
      · replace h := Eq.mp (if_neg hc) h
        refine v_iload_n 3 0 dX12_qWordOf_23 rfl rfl ?_
        refine v_goto 28 dX12_qWordOf_24 (by decide) ?_
        exact v_iret dX12_qWordOf_28 rfl rfl h
/-! CalledRiverModel.qPartTold -/
theorem dX12_qPartTold_0 : decode cX12_qPartTold 0 = .ok (.iconst 1, 1) := by decide +kernel
theorem dX12_qPartTold_1 : decode cX12_qPartTold 1 = .ok (.istore_n 1, 1) := by decide +kernel
theorem dX12_qPartTold_2 : decode cX12_qPartTold 2 = .ok (.iload_n 1, 1) := by decide +kernel
theorem dX12_qPartTold_3 : decode cX12_qPartTold 3 = .ok (.ifCond .eq 183, 3) := by decide +kernel
theorem dX12_qPartTold_6 : decode cX12_qPartTold 6 = .ok (.aload_n 0, 1) := by decide +kernel
theorem dX12_qPartTold_7 : decode cX12_qPartTold 7 = .ok (.getfield 285, 3) := by decide +kernel
theorem dX12_qPartTold_10 : decode cX12_qPartTold 10 = .ok (.ifCond .ne 176, 3) := by decide +kernel
theorem dX12_qPartTold_13 : decode cX12_qPartTold 13 = .ok (.aload_n 0, 1) := by decide +kernel
theorem dX12_qPartTold_14 : decode cX12_qPartTold 14 = .ok (.invokevirtual 297, 3) := by decide +kernel
theorem dX12_qPartTold_17 : decode cX12_qPartTold 17 = .ok (.istore_n 2, 1) := by decide +kernel
theorem dX12_qPartTold_18 : decode cX12_qPartTold 18 = .ok (.aload_n 0, 1) := by decide +kernel
theorem dX12_qPartTold_19 : decode cX12_qPartTold 19 = .ok (.bipush 13, 2) := by decide +kernel
theorem dX12_qPartTold_21 : decode cX12_qPartTold 21 = .ok (.bipush 15, 2) := by decide +kernel
theorem dX12_qPartTold_23 : decode cX12_qPartTold 23 = .ok (.invokevirtual 636, 3) := by decide +kernel
theorem dX12_qPartTold_26 : decode cX12_qPartTold 26 = .ok (.istore_n 3, 1) := by decide +kernel
theorem dX12_qPartTold_27 : decode cX12_qPartTold 27 = .ok (.iload_n 2, 1) := by decide +kernel
theorem dX12_qPartTold_28 : decode cX12_qPartTold 28 = .ok (.bipush 40, 2) := by decide +kernel
theorem dX12_qPartTold_30 : decode cX12_qPartTold 30 = .ok (.if_icmp .ne 26, 3) := by decide +kernel
theorem dX12_qPartTold_33 : decode cX12_qPartTold 33 = .ok (.aload_n 0, 1) := by decide +kernel
theorem dX12_qPartTold_34 : decode cX12_qPartTold 34 = .ok (.bipush 20, 2) := by decide +kernel
theorem dX12_qPartTold_36 : decode cX12_qPartTold 36 = .ok (.aload_n 0, 1) := by decide +kernel
theorem dX12_qPartTold_37 : decode cX12_qPartTold 37 = .ok (.getfield 291, 3) := by decide +kernel
theorem dX12_qPartTold_40 : decode cX12_qPartTold 40 = .ok (.invokevirtual 639, 3) := by decide +kernel
theorem dX12_qPartTold_43 : decode cX12_qPartTold 43 = .ok (.aload_n 0, 1) := by decide +kernel
theorem dX12_qPartTold_44 : decode cX12_qPartTold 44 = .ok (.dup, 1) := by decide +kernel
theorem dX12_qPartTold_45 : decode cX12_qPartTold 45 = .ok (.getfield 291, 3) := by decide +kernel
theorem dX12_qPartTold_48 : decode cX12_qPartTold 48 = .ok (.iconst 1, 1) := by decide +kernel
theorem dX12_qPartTold_49 : decode cX12_qPartTold 49 = .ok (.iadd, 1) := by decide +kernel
theorem dX12_qPartTold_50 : decode cX12_qPartTold 50 = .ok (.putfield 291, 3) := by decide +kernel
theorem dX12_qPartTold_53 : decode cX12_qPartTold 53 = .ok (.goto 130, 3) := by decide +kernel
theorem dX12_qPartTold_56 : decode cX12_qPartTold 56 = .ok (.aload_n 0, 1) := by decide +kernel
theorem dX12_qPartTold_57 : decode cX12_qPartTold 57 = .ok (.aload_n 0, 1) := by decide +kernel
theorem dX12_qPartTold_58 : decode cX12_qPartTold 58 = .ok (.getfield 219, 3) := by decide +kernel
theorem dX12_qPartTold_61 : decode cX12_qPartTold 61 = .ok (.invokevirtual 308, 3) := by decide +kernel
theorem dX12_qPartTold_64 : decode cX12_qPartTold 64 = .ok (.ifCond .ne 14, 3) := by decide +kernel
theorem dX12_qPartTold_67 : decode cX12_qPartTold 67 = .ok (.aload_n 0, 1) := by decide +kernel
theorem dX12_qPartTold_68 : decode cX12_qPartTold 68 = .ok (.aload_n 0, 1) := by decide +kernel
theorem dX12_qPartTold_69 : decode cX12_qPartTold 69 = .ok (.getfield 222, 3) := by decide +kernel
theorem dX12_qPartTold_72 : decode cX12_qPartTold 72 = .ok (.invokevirtual 308, 3) := by decide +kernel
theorem dX12_qPartTold_75 : decode cX12_qPartTold 75 = .ok (.ifCond .eq 78, 3) := by decide +kernel
theorem dX12_qPartTold_78 : decode cX12_qPartTold 78 = .ok (.aload_n 0, 1) := by decide +kernel
theorem dX12_qPartTold_79 : decode cX12_qPartTold 79 = .ok (.aload_n 0, 1) := by decide +kernel
theorem dX12_qPartTold_80 : decode cX12_qPartTold 80 = .ok (.getfield 219, 3) := by decide +kernel
theorem dX12_qPartTold_83 : decode cX12_qPartTold 83 = .ok (.invokevirtual 312, 3) := by decide +kernel
theorem dX12_qPartTold_86 : decode cX12_qPartTold 86 = .ok (.istore 4, 2) := by decide +kernel
theorem dX12_qPartTold_88 : decode cX12_qPartTold 88 = .ok (.iload 4, 2) := by decide +kernel
theorem dX12_qPartTold_90 : decode cX12_qPartTold 90 = .ok (.ifCond .ne 11, 3) := by decide +kernel
theorem dX12_qPartTold_93 : decode cX12_qPartTold 93 = .ok (.aload_n 0, 1) := by decide +kernel
theorem dX12_qPartTold_94 : decode cX12_qPartTold 94 = .ok (.aload_n 0, 1) := by decide +kernel
theorem dX12_qPartTold_95 : decode cX12_qPartTold 95 = .ok (.getfield 222, 3) := by decide +kernel
theorem dX12_qPartTold_98 : decode cX12_qPartTold 98 = .ok (.invokevirtual 350, 3) := by decide +kernel
theorem dX12_qPartTold_101 : decode cX12_qPartTold 101 = .ok (.aload_n 0, 1) := by decide +kernel
theorem dX12_qPartTold_102 : decode cX12_qPartTold 102 = .ok (.invokevirtual 297, 3) := by decide +kernel
theorem dX12_qPartTold_105 : decode cX12_qPartTold 105 = .ok (.bipush 40, 2) := by decide +kernel
theorem dX12_qPartTold_107 : decode cX12_qPartTold 107 = .ok (.if_icmp .ne 10, 3) := by decide +kernel
theorem dX12_qPartTold_110 : decode cX12_qPartTold 110 = .ok (.aload_n 0, 1) := by decide +kernel
theorem dX12_qPartTold_111 : decode cX12_qPartTold 111 = .ok (.getfield 291, 3) := by decide +kernel
theorem dX12_qPartTold_114 : decode cX12_qPartTold 114 = .ok (.goto 4, 3) := by decide +kernel
theorem dX12_qPartTold_117 : decode cX12_qPartTold 117 = .ok (.iconst (-1), 1) := by decide +kernel
theorem dX12_qPartTold_118 : decode cX12_qPartTold 118 = .ok (.istore 5, 2) := by decide +kernel
theorem dX12_qPartTold_120 : decode cX12_qPartTold 120 = .ok (.iload 5, 2) := by decide +kernel
theorem dX12_qPartTold_122 : decode cX12_qPartTold 122 = .ok (.iconst (-1), 1) := by decide +kernel
theorem dX12_qPartTold_123 : decode cX12_qPartTold 123 = .ok (.if_icmp .eq 21, 3) := by decide +kernel
theorem dX12_qPartTold_126 : decode cX12_qPartTold 126 = .ok (.aload_n 0, 1) := by decide +kernel
theorem dX12_qPartTold_127 : decode cX12_qPartTold 127 = .ok (.iload 4, 2) := by decide +kernel
theorem dX12_qPartTold_129 : decode cX12_qPartTold 129 = .ok (.ifCond .eq 8, 3) := by decide +kernel
theorem dX12_qPartTold_132 : decode cX12_qPartTold 132 = .ok (.bipush 21, 2) := by decide +kernel
theorem dX12_qPartTold_134 : decode cX12_qPartTold 134 = .ok (.goto 5, 3) := by decide +kernel
theorem dX12_qPartTold_137 : decode cX12_qPartTold 137 = .ok (.bipush 22, 2) := by decide +kernel
theorem dX12_qPartTold_139 : decode cX12_qPartTold 139 = .ok (.iload 5, 2) := by decide +kernel
theorem dX12_qPartTold_141 : decode cX12_qPartTold 141 = .ok (.invokevirtual 639, 3) := by decide +kernel
theorem dX12_qPartTold_144 : decode cX12_qPartTold 144 = .ok (.aload_n 0, 1) := by decide +kernel
theorem dX12_qPartTold_145 : decode cX12_qPartTold 145 = .ok (.bipush 40, 2) := by decide +kernel
theorem dX12_qPartTold_147 : decode cX12_qPartTold 147 = .ok (.invokevirtual 358, 3) := by decide +kernel
theorem dX12_qPartTold_150 : decode cX12_qPartTold 150 = .ok (.goto 33, 3) := by decide +kernel
theorem dX12_qPartTold_153 : decode cX12_qPartTold 153 = .ok (.iload_n 3, 1) := by decide +kernel
theorem dX12_qPartTold_154 : decode cX12_qPartTold 154 = .ok (.iconst (-1), 1) := by decide +kernel
theorem dX12_qPartTold_155 : decode cX12_qPartTold 155 = .ok (.if_icmp .eq 26, 3) := by decide +kernel
theorem dX12_qPartTold_158 : decode cX12_qPartTold 158 = .ok (.aload_n 0, 1) := by decide +kernel
theorem dX12_qPartTold_159 : decode cX12_qPartTold 159 = .ok (.bipush 60, 2) := by decide +kernel
theorem dX12_qPartTold_161 : decode cX12_qPartTold 161 = .ok (.iload_n 3, 1) := by decide +kernel
theorem dX12_qPartTold_162 : decode cX12_qPartTold 162 = .ok (.iadd, 1) := by decide +kernel
theorem dX12_qPartTold_163 : decode cX12_qPartTold 163 = .ok (.bipush 13, 2) := by decide +kernel
theorem dX12_qPartTold_165 : decode cX12_qPartTold 165 = .ok (.isub, 1) := by decide +kernel
theorem dX12_qPartTold_166 : decode cX12_qPartTold 166 = .ok (.aload_n 0, 1) := by decide +kernel
theorem dX12_qPartTold_167 : decode cX12_qPartTold 167 = .ok (.getfield 291, 3) := by decide +kernel
theorem dX12_qPartTold_170 : decode cX12_qPartTold 170 = .ok (.invokevirtual 639, 3) := by decide +kernel
theorem dX12_qPartTold_173 : decode cX12_qPartTold 173 = .ok (.aload_n 0, 1) := by decide +kernel
theorem dX12_qPartTold_174 : decode cX12_qPartTold 174 = .ok (.iload_n 3, 1) := by decide +kernel
theorem dX12_qPartTold_175 : decode cX12_qPartTold 175 = .ok (.invokevirtual 642, 3) := by decide +kernel
theorem dX12_qPartTold_178 : decode cX12_qPartTold 178 = .ok (.goto 5, 3) := by decide +kernel
theorem dX12_qPartTold_181 : decode cX12_qPartTold 181 = .ok (.iconst 0, 1) := by decide +kernel
theorem dX12_qPartTold_182 : decode cX12_qPartTold 182 = .ok (.istore_n 1, 1) := by decide +kernel
theorem dX12_qPartTold_183 : decode cX12_qPartTold 183 = .ok (.goto (-181), 3) := by decide +kernel
theorem dX12_qPartTold_186 : decode cX12_qPartTold 186 = .ok (.aload_n 0, 1) := by decide +kernel
theorem dX12_qPartTold_187 : decode cX12_qPartTold 187 = .ok (.getfield 285, 3) := by decide +kernel
theorem dX12_qPartTold_190 : decode cX12_qPartTold 190 = .ok (.ifCond .eq 4, 3) := by decide +kernel
theorem dX12_qPartTold_193 : decode cX12_qPartTold 193 = .ok (.return_, 1) := by decide +kernel
theorem dX12_qPartTold_194 : decode cX12_qPartTold 194 = .ok (.aload_n 0, 1) := by decide +kernel
theorem dX12_qPartTold_195 : decode cX12_qPartTold 195 = .ok (.iconst 0, 1) := by decide +kernel
theorem dX12_qPartTold_196 : decode cX12_qPartTold 196 = .ok (.bipush 13, 2) := by decide +kernel
theorem dX12_qPartTold_198 : decode cX12_qPartTold 198 = .ok (.invokevirtual 636, 3) := by decide +kernel
theorem dX12_qPartTold_201 : decode cX12_qPartTold 201 = .ok (.istore_n 2, 1) := by decide +kernel
theorem dX12_qPartTold_202 : decode cX12_qPartTold 202 = .ok (.iload_n 2, 1) := by decide +kernel
theorem dX12_qPartTold_203 : decode cX12_qPartTold 203 = .ok (.iconst (-1), 1) := by decide +kernel
theorem dX12_qPartTold_204 : decode cX12_qPartTold 204 = .ok (.if_icmp .eq 8, 3) := by decide +kernel
theorem dX12_qPartTold_207 : decode cX12_qPartTold 207 = .ok (.aload_n 0, 1) := by decide +kernel
theorem dX12_qPartTold_208 : decode cX12_qPartTold 208 = .ok (.iload_n 2, 1) := by decide +kernel
theorem dX12_qPartTold_209 : decode cX12_qPartTold 209 = .ok (.invokevirtual 642, 3) := by decide +kernel
theorem dX12_qPartTold_212 : decode cX12_qPartTold 212 = .ok (.aload_n 0, 1) := by decide +kernel
theorem dX12_qPartTold_213 : decode cX12_qPartTold 213 = .ok (.iload_n 2, 1) := by decide +kernel
theorem dX12_qPartTold_214 : decode cX12_qPartTold 214 = .ok (.iconst (-1), 1) := by decide +kernel
theorem dX12_qPartTold_215 : decode cX12_qPartTold 215 = .ok (.if_icmp .eq 10, 3) := by decide +kernel
theorem dX12_qPartTold_218 : decode cX12_qPartTold 218 = .ok (.bipush 40, 2) := by decide +kernel
theorem dX12_qPartTold_220 : decode cX12_qPartTold 220 = .ok (.iload_n 2, 1) := by decide +kernel
theorem dX12_qPartTold_221 : decode cX12_qPartTold 221 = .ok (.iadd, 1) := by decide +kernel
theorem dX12_qPartTold_222 : decode cX12_qPartTold 222 = .ok (.goto 15, 3) := by decide +kernel
theorem dX12_qPartTold_225 : decode cX12_qPartTold 225 = .ok (.sipush 1000, 3) := by decide +kernel
theorem dX12_qPartTold_228 : decode cX12_qPartTold 228 = .ok (.aload_n 0, 1) := by decide +kernel
theorem dX12_qPartTold_229 : decode cX12_qPartTold 229 = .ok (.iconst 0, 1) := by decide +kernel
theorem dX12_qPartTold_230 : decode cX12_qPartTold 230 = .ok (.sipush 9999, 3) := by decide +kernel
theorem dX12_qPartTold_233 : decode cX12_qPartTold 233 = .ok (.invokevirtual 354, 3) := by decide +kernel
theorem dX12_qPartTold_236 : decode cX12_qPartTold 236 = .ok (.iadd, 1) := by decide +kernel
theorem dX12_qPartTold_237 : decode cX12_qPartTold 237 = .ok (.invokevirtual 621, 3) := by decide +kernel
theorem dX12_qPartTold_240 : decode cX12_qPartTold 240 = .ok (.aload_n 0, 1) := by decide +kernel
theorem dX12_qPartTold_241 : decode cX12_qPartTold 241 = .ok (.invokevirtual 645, 3) := by decide +kernel
theorem dX12_qPartTold_244 : decode cX12_qPartTold 244 = .ok (.return_, 1) := by decide +kernel
def X12_qPartTold_p183 (sh : Shp) (v0 : Nat) (v1 : Int32) (Q : Mem → Prop) (K2 : Int32 → Mem → Prop) (m : Mem) : Prop :=
  K2 v1 m
def X12_qPartTold_p144 (sh : Shp) (v0 : Nat) (v1 : Int32) (Q : Mem → Prop) (K2 : Int32 → Mem → Prop) (m : Mem) : Prop :=
  Ob sh v0 12 ∧ wp_X12_asksSign sh v0 (40 : Int32) (fun m48 => X12_qPartTold_p183 sh v0 v1 Q K2 m48) m
def X12_qPartTold_p139 (sh : Shp) (v0 : Nat) (v1 : Int32) (v5 : Int32) (s1 : Int32) (s0 : Nat) (Q : Mem → Prop) (K2 : Int32 → Mem → Prop) (m : Mem) : Prop :=
  Ob sh s0 12 ∧ wp_X12_qOpens sh s0 s1 v5 (fun m51 => X12_qPartTold_p144 sh v0 v1 Q K2 m51) m
def X12_qPartTold_p118 (sh : Shp) (v0 : Nat) (v1 : Int32) (v4 : Int32) (s0 : Int32) (Q : Mem → Prop) (K2 : Int32 → Mem → Prop) (m : Mem) : Prop :=
  if s0 = (-1 : Int32) then (X12_qPartTold_p144 sh v0 v1 Q K2 m) else (if v4 = 0 then (X12_qPartTold_p139 sh v0 v1 s0 (22 : Int32) v0 Q K2 m) else (X12_qPartTold_p139 sh v0 v1 s0 (21 : Int32) v0 Q K2 m))
def X12_qPartTold_p101 (sh : Shp) (v0 : Nat) (v1 : Int32) (v4 : Int32) (Q : Mem → Prop) (K2 : Int32 → Mem → Prop) (m : Mem) : Prop :=
  Ob sh v0 12 ∧ wp_X12_look sh v0 (fun r38 m39 => if r38 = (40 : Int32) then (X12_qPartTold_p118 sh v0 v1 v4 (m39.1 v0 2) Q K2 m39) else (X12_qPartTold_p118 sh v0 v1 v4 (-1 : Int32) Q K2 m39)) m
def X12_qPartTold_p78 (sh : Shp) (v0 : Nat) (v1 : Int32) (Q : Mem → Prop) (K2 : Int32 → Mem → Prop) (m : Mem) : Prop :=
  Ob sh v0 12 ∧ ∃ b27 : Nat, m.2.2 v0 91 = some b27 ∧ (wp_X12_takes sh v0 b27 (fun r29 m30 => if r29 = 0 then (∃ b31 : Nat, m30.2.2 v0 92 = some b31 ∧ (wp_X12_asks sh v0 b31 (fun m34 => X12_qPartTold_p101 sh v0 v1 r29 Q K2 m34) m30)) else (X12_qPartTold_p101 sh v0 v1 r29 Q K2 m30)) m)
def X12_qPartTold_p237 (sh : Shp) (v0 : Nat) (s1 : Int32) (s0 : Nat) (Q : Mem → Prop) (m : Mem) : Prop :=
  Ob sh s0 12 ∧ wp_X12_qCode sh s0 s1 (fun m42 => Ob sh v0 12 ∧ wp_X12_qEndsPart sh v0 (fun m45 => Q m45) m42) m
def X12_qPartTold_p212 (sh : Shp) (v0 : Nat) (v2 : Int32) (Q : Mem → Prop) (m : Mem) : Prop :=
  if v2 = (-1 : Int32) then (Ob sh v0 12 ∧ wp_X12_number sh v0 (0 : Int32) (9999 : Int32) (fun r35 m36 => X12_qPartTold_p237 sh v0 ((1000 : Int32) + r35) v0 Q m36) m) else (X12_qPartTold_p237 sh v0 ((40 : Int32) + v2) v0 Q m)
def X12_qPartTold_p186 (sh : Shp) (v0 : Nat) (Q : Mem → Prop) (m : Mem) : Prop :=
  Ob sh v0 12 ∧ (if (m.1 v0 5) = 0 then (wp_X12_qWordOf sh v0 (0 : Int32) (13 : Int32) (fun r22 m23 => if r22 = (-1 : Int32) then (X12_qPartTold_p212 sh v0 r22 Q m23) else (wp_X12_qAsksWord sh v0 r22 (fun m25 => X12_qPartTold_p212 sh v0 r22 Q m25) m23)) m) else (Q m))
def X12_qPartTold_p2b (sh : Shp) (v0 : Nat) (Q : Mem → Prop) (K2 : Int32 → Mem → Prop) (v1 : Int32) (m : Mem) : Prop :=
  if v1 = 0 then (X12_qPartTold_p186 sh v0 Q m) else (Ob sh v0 12 ∧ (if (m.1 v0 5) = 0 then (wp_X12_look sh v0 (fun r2 m3 => wp_X12_qWordOf sh v0 (13 : Int32) (15 : Int32) (fun r4 m5 => if r2 = (40 : Int32) then (wp_X12_qOpens sh v0 (20 : Int32) (m5.1 v0 2) (fun m19 => bnd (sI m19 v0 2 ((m19.1 v0 2) + (1 : Int32))) (fun m20 => X12_qPartTold_p183 sh v0 v1 Q K2 m20)) m5) else (∃ b6 : Nat, m5.2.2 v0 91 = some b6 ∧ (wp_X12_isHere sh v0 b6 (fun r8 m9 => if r8 = 0 then (∃ b10 : Nat, m9.2.2 v0 92 = some b10 ∧ (wp_X12_isHere sh v0 b10 (fun r12 m13 => if r12 = 0 then (if r4 = (-1 : Int32) then (X12_qPartTold_p183 sh v0 (0 : Int32) Q K2 m13) else (wp_X12_qOpens sh v0 (((60 : Int32) + r4) - (13 : Int32)) (m13.1 v0 2) (fun m15 => wp_X12_qAsksWord sh v0 r4 (fun m17 => X12_qPartTold_p183 sh v0 v1 Q K2 m17) m15) m13)) else (X12_qPartTold_p78 sh v0 v1 Q K2 m13)) m9)) else (X12_qPartTold_p78 sh v0 v1 Q K2 m9)) m5))) m3) m) else (X12_qPartTold_p186 sh v0 Q m)))
def X12_qPartTold_p2n (sh : Shp) (v0 : Nat) (Q : Mem → Prop) : Nat → Int32 → Mem → Prop
  | 0 => fun _ _ => False
  | n + 1 => X12_qPartTold_p2b sh v0 Q (X12_qPartTold_p2n sh v0 Q n)
def X12_qPartTold_p2 (sh : Shp) (v0 : Nat) (Q : Mem → Prop) (v1 : Int32) (m : Mem) : Prop := ∃ n, X12_qPartTold_p2n sh v0 Q n v1 m
def wp_X12_qPartTold (sh : Shp) (v0 : Nat) (Q : Mem → Prop) (m : Mem) : Prop :=
  X12_qPartTold_p2 sh v0 Q (1 : Int32) m
abbrev M_X12_qPartTold : Mi := (cX12_qPartTold, 6, RX12, (none : Option FieldType), "qPartTold", 6, 166, 0, 0)
set_option maxHeartbeats 4000000 in
set_option maxRecDepth 100000 in
theorem v_X12_qPartTold_p183 {G : Gl} {F : Fr} {sh : Shp} {v0 : Nat} {v1 : Int32} {Q : Mem → Prop} {K2 : Int32 → Mem → Prop} {m : Mem} (hK2 : ∀ (x1 : Int32) (m : Mem), K2 x1 m → V G F M_X12_qPartTold sh 0 0 (Zv G F sh Q) 2 [(0, .ref (G.1 + v0)), (1, .int x1)] [] m) (h : X12_qPartTold_p183 sh v0 v1 Q K2 m) : V G F M_X12_qPartTold sh 0 0 (Zv G F sh Q) 183 [(0, .ref (G.1 + v0)), (1, .int v1)] [] m := by
  unfold X12_qPartTold_p183 at h
  refine v_goto 2 dX12_qPartTold_183 (by decide) ?_
  refine v_sub [0, 1] rfl ?_
  exact hK2 _ _ h
set_option maxHeartbeats 4000000 in
set_option maxRecDepth 100000 in
theorem v_X12_qPartTold_p144 {G : Gl} {F : Fr} {sh : Shp} {v0 : Nat} {v1 : Int32} {Q : Mem → Prop} {K2 : Int32 → Mem → Prop} {m : Mem} (hK2 : ∀ (x1 : Int32) (m : Mem), K2 x1 m → V G F M_X12_qPartTold sh 0 0 (Zv G F sh Q) 2 [(0, .ref (G.1 + v0)), (1, .int x1)] [] m) (h : X12_qPartTold_p144 sh v0 v1 Q K2 m) : V G F M_X12_qPartTold sh 0 0 (Zv G F sh Q) 144 [(0, .ref (G.1 + v0)), (1, .int v1)] [] m := by
  unfold X12_qPartTold_p144 at h
  refine v_aload_n 0 0 dX12_qPartTold_144 rfl rfl ?_
  refine v_bipush (40 : Int32) dX12_qPartTold_145 (by decide) ?_
  obtain ⟨o49, h⟩ := h
  refine v_cVv [.int _] mv_X12_asksSign ml_RX12_358 ⟨_, _, rfl⟩ o49 rfl rfl (Nat.le_of_ble_eq_true rfl) (Nat.le_of_ble_eq_true rfl) (Nat.le_of_ble_eq_true rfl) (Nat.zero_le _) (Nat.zero_le _) dX12_qPartTold_147 (c_X12_asksSign h) (fun m48 h => ?_)
  refine v_goto 183 dX12_qPartTold_150 (by decide) ?_
  refine v_sub [0, 1] rfl ?_
  exact v_X12_qPartTold_p183 hK2 h
set_option maxHeartbeats 4000000 in
set_option maxRecDepth 100000 in
theorem v_X12_qPartTold_p139 {G : Gl} {F : Fr} {sh : Shp} {v0 : Nat} {v1 : Int32} {v5 : Int32} {s0 : Nat} {s1 : Int32} {Q : Mem → Prop} {K2 : Int32 → Mem → Prop} {m : Mem} (hK2 : ∀ (x1 : Int32) (m : Mem), K2 x1 m → V G F M_X12_qPartTold sh 0 0 (Zv G F sh Q) 2 [(0, .ref (G.1 + v0)), (1, .int x1)] [] m) (h : X12_qPartTold_p139 sh v0 v1 v5 s1 s0 Q K2 m) : V G F M_X12_qPartTold sh 0 0 (Zv G F sh Q) 139 [(0, .ref (G.1 + v0)), (1, .int v1), (5, .int v5)] [.int s1, .ref (G.1 + s0)] m := by
  unfold X12_qPartTold_p139 at h
  refine v_iload 5 2 dX12_qPartTold_139 rfl ?_
  obtain ⟨o52, h⟩ := h
  refine v_cVv [.int _, .int _] mv_X12_qOpens ml_RX12_639 ⟨_, _, rfl⟩ o52 rfl rfl (Nat.le_of_ble_eq_true rfl) (Nat.le_of_ble_eq_true rfl) (Nat.le_of_ble_eq_true rfl) (Nat.zero_le _) (Nat.zero_le _) dX12_qPartTold_141 (c_X12_qOpens h) (fun m51 h => ?_)
  refine v_sub [0, 1] rfl ?_
  exact v_X12_qPartTold_p144 hK2 h
set_option maxHeartbeats 4000000 in
set_option maxRecDepth 100000 in
theorem v_X12_qPartTold_p118 {G : Gl} {F : Fr} {sh : Shp} {v0 : Nat} {v1 : Int32} {v4 : Int32} {s0 : Int32} {Q : Mem → Prop} {K2 : Int32 → Mem → Prop} {m : Mem} (hK2 : ∀ (x1 : Int32) (m : Mem), K2 x1 m → V G F M_X12_qPartTold sh 0 0 (Zv G F sh Q) 2 [(0, .ref (G.1 + v0)), (1, .int x1)] [] m) (h : X12_qPartTold_p118 sh v0 v1 v4 s0 Q K2 m) : V G F M_X12_qPartTold sh 0 0 (Zv G F sh Q) 118 [(0, .ref (G.1 + v0)), (1, .int v1), (4, .int v4)] [.int s0] m := by
  unfold X12_qPartTold_p118 at h
  refine v_istore (ls' := [(5, .int _), (0, .ref _), (1, .int _), (4, .int _)]) 5 dX12_qPartTold_118 (Nat.le_of_ble_eq_true rfl) rfl ?_
  refine v_iload 5 0 dX12_qPartTold_120 rfl ?_
  refine v_iconst (-1 : Int32) dX12_qPartTold_122 (by decide) ?_
  refine v_icmp_eq 144 dX12_qPartTold_123 (by decide) (fun hc => ?_) (fun hc => ?_)
  · replace h := Eq.mp (if_pos hc) h
    refine v_sub [1, 2] rfl ?_
    exact v_X12_qPartTold_p144 hK2 h
  · replace h := Eq.mp (if_neg hc) h
    refine v_aload_n 0 1 dX12_qPartTold_126 rfl rfl ?_
    refine v_iload 4 3 dX12_qPartTold_127 rfl ?_
    refine v_if_eq 137 dX12_qPartTold_129 (by decide) (fun hc => ?_) (fun hc => ?_)
    · replace h := Eq.mp (if_pos hc) h
      refine v_bipush (22 : Int32) dX12_qPartTold_137 (by decide) ?_
      refine v_sub [1, 2, 0] rfl ?_
      exact v_X12_qPartTold_p139 hK2 h
    · replace h := Eq.mp (if_neg hc) h
      refine v_bipush (21 : Int32) dX12_qPartTold_132 (by decide) ?_
      refine v_goto 139 dX12_qPartTold_134 (by decide) ?_
      refine v_sub [1, 2, 0] rfl ?_
      exact v_X12_qPartTold_p139 hK2 h
set_option maxHeartbeats 4000000 in
set_option maxRecDepth 100000 in
theorem v_X12_qPartTold_p101 {G : Gl} {F : Fr} {sh : Shp} {v0 : Nat} {v1 : Int32} {v4 : Int32} {Q : Mem → Prop} {K2 : Int32 → Mem → Prop} {m : Mem} (hK2 : ∀ (x1 : Int32) (m : Mem), K2 x1 m → V G F M_X12_qPartTold sh 0 0 (Zv G F sh Q) 2 [(0, .ref (G.1 + v0)), (1, .int x1)] [] m) (h : X12_qPartTold_p101 sh v0 v1 v4 Q K2 m) : V G F M_X12_qPartTold sh 0 0 (Zv G F sh Q) 101 [(0, .ref (G.1 + v0)), (1, .int v1), (4, .int v4)] [] m := by
  unfold X12_qPartTold_p101 at h
  refine v_aload_n 0 0 dX12_qPartTold_101 rfl rfl ?_
  obtain ⟨o40, h⟩ := h
  refine v_cVi [] mv_X12_look ml_RX12_297 ⟨_, _, rfl⟩ o40 rfl rfl (Nat.le_of_ble_eq_true rfl) (Nat.le_of_ble_eq_true rfl) (Nat.le_of_ble_eq_true rfl) (Nat.zero_le _) (Nat.zero_le _) dX12_qPartTold_102 (c_X12_look h) (fun r38 m39 h => ?_)
  refine v_bipush (40 : Int32) dX12_qPartTold_105 (by decide) ?_
  refine v_icmp_ne 117 dX12_qPartTold_107 (by decide) (fun hc => ?_) (fun hc => ?_)
  · replace h := Eq.mp (if_neg hc) h
    refine v_iconst (-1 : Int32) dX12_qPartTold_117 (by decide) ?_
    refine v_sub [0, 1, 2] rfl ?_
    exact v_X12_qPartTold_p118 hK2 h
  · replace h := Eq.mp (if_pos hc) h
    refine v_aload_n 0 0 dX12_qPartTold_110 rfl rfl ?_
    refine v_gI 12 2 dX12_qPartTold_111 fg_RX12_291 o40 ?_
    refine v_goto 118 dX12_qPartTold_114 (by decide) ?_
    refine v_sub [0, 1, 2] rfl ?_
    exact v_X12_qPartTold_p118 hK2 h
set_option maxHeartbeats 4000000 in
set_option maxRecDepth 100000 in
theorem v_X12_qPartTold_p78 {G : Gl} {F : Fr} {sh : Shp} {v0 : Nat} {v1 : Int32} {Q : Mem → Prop} {K2 : Int32 → Mem → Prop} {m : Mem} (hK2 : ∀ (x1 : Int32) (m : Mem), K2 x1 m → V G F M_X12_qPartTold sh 0 0 (Zv G F sh Q) 2 [(0, .ref (G.1 + v0)), (1, .int x1)] [] m) (h : X12_qPartTold_p78 sh v0 v1 Q K2 m) : V G F M_X12_qPartTold sh 0 0 (Zv G F sh Q) 78 [(0, .ref (G.1 + v0)), (1, .int v1)] [] m := by
  unfold X12_qPartTold_p78 at h
  refine v_aload_n 0 0 dX12_qPartTold_78 rfl rfl ?_
  refine v_aload_n 0 0 dX12_qPartTold_79 rfl rfl ?_
  obtain ⟨o26, h⟩ := h
  obtain ⟨b27, e28, h⟩ := h
  refine v_gR 12 91 dX12_qPartTold_80 fg_RX12_219 o26 e28 ?_
  refine v_cVi [.ref _] mv_X12_takes ml_RX12_312 ⟨_, _, rfl⟩ o26 rfl rfl (Nat.le_of_ble_eq_true rfl) (Nat.le_of_ble_eq_true rfl) (Nat.le_of_ble_eq_true rfl) (Nat.zero_le _) (Nat.zero_le _) dX12_qPartTold_83 (c_X12_takes h) (fun r29 m30 h => ?_)
  refine v_istore (ls' := [(4, .int _), (0, .ref _), (1, .int _)]) 4 dX12_qPartTold_86 (Nat.le_of_ble_eq_true rfl) rfl ?_
  refine v_iload 4 0 dX12_qPartTold_88 rfl ?_
  refine v_if_ne 101 dX12_qPartTold_90 (by decide) (fun hc => ?_) (fun hc => ?_)
  · replace h := Eq.mp (if_neg hc) h
    refine v_sub [1, 2, 0] rfl ?_
    exact v_X12_qPartTold_p101 hK2 h
  · replace h := Eq.mp (if_pos hc) h
    refine v_aload_n 0 1 dX12_qPartTold_93 rfl rfl ?_
    refine v_aload_n 0 1 dX12_qPartTold_94 rfl rfl ?_
    obtain ⟨b31, e32, h⟩ := h
    refine v_gR 12 92 dX12_qPartTold_95 fg_RX12_222 o26 e32 ?_
    refine v_cVv [.ref _] mv_X12_asks ml_RX12_350 ⟨_, _, rfl⟩ o26 rfl rfl (Nat.le_of_ble_eq_true rfl) (Nat.le_of_ble_eq_true rfl) (Nat.le_of_ble_eq_true rfl) (Nat.zero_le _) (Nat.zero_le _) dX12_qPartTold_98 (c_X12_asks h) (fun m34 h => ?_)
    refine v_sub [1, 2, 0] rfl ?_
    exact v_X12_qPartTold_p101 hK2 h
set_option maxHeartbeats 4000000 in
set_option maxRecDepth 100000 in
theorem v_X12_qPartTold_p237 {G : Gl} {F : Fr} {sh : Shp} {v0 : Nat} {s0 : Nat} {s1 : Int32} {Q : Mem → Prop} {m : Mem} (h : X12_qPartTold_p237 sh v0 s1 s0 Q m) : V G F M_X12_qPartTold sh 0 0 (Zv G F sh Q) 237 [(0, .ref (G.1 + v0))] [.int s1, .ref (G.1 + s0)] m := by
  unfold X12_qPartTold_p237 at h
  obtain ⟨o43, h⟩ := h
  refine v_cVv [.int _] mv_X12_qCode ml_RX12_621 ⟨_, _, rfl⟩ o43 rfl rfl (Nat.le_of_ble_eq_true rfl) (Nat.le_of_ble_eq_true rfl) (Nat.le_of_ble_eq_true rfl) (Nat.zero_le _) (Nat.zero_le _) dX12_qPartTold_237 (c_X12_qCode h) (fun m42 h => ?_)
  refine v_aload_n 0 0 dX12_qPartTold_240 rfl rfl ?_
  obtain ⟨o46, h⟩ := h
  refine v_cVv [] mv_X12_qEndsPart ml_RX12_645 ⟨_, _, rfl⟩ o46 rfl rfl (Nat.le_of_ble_eq_true rfl) (Nat.le_of_ble_eq_true rfl) (Nat.le_of_ble_eq_true rfl) (Nat.zero_le _) (Nat.zero_le _) dX12_qPartTold_241 (c_X12_qEndsPart h) (fun m45 h => ?_)
  exact v_vret dX12_qPartTold_244 rfl h
set_option maxHeartbeats 4000000 in
set_option maxRecDepth 100000 in
theorem v_X12_qPartTold_p212 {G : Gl} {F : Fr} {sh : Shp} {v0 : Nat} {v2 : Int32} {Q : Mem → Prop} {m : Mem} (h : X12_qPartTold_p212 sh v0 v2 Q m) : V G F M_X12_qPartTold sh 0 0 (Zv G F sh Q) 212 [(0, .ref (G.1 + v0)), (2, .int v2)] [] m := by
  unfold X12_qPartTold_p212 at h
  refine v_aload_n 0 0 dX12_qPartTold_212 rfl rfl ?_
  refine v_iload_n 2 1 dX12_qPartTold_213 rfl rfl ?_
  refine v_iconst (-1 : Int32) dX12_qPartTold_214 (by decide) ?_
  refine v_icmp_eq 225 dX12_qPartTold_215 (by decide) (fun hc => ?_) (fun hc => ?_)
  · replace h := Eq.mp (if_pos hc) h
    refine v_sipush (1000 : Int32) dX12_qPartTold_225 (by decide) ?_
    refine v_aload_n 0 0 dX12_qPartTold_228 rfl rfl ?_
    refine v_iconst (0 : Int32) dX12_qPartTold_229 (by decide) ?_
    refine v_sipush (9999 : Int32) dX12_qPartTold_230 (by decide) ?_
    obtain ⟨o37, h⟩ := h
    refine v_cVi [.int _, .int _] mv_X12_number ml_RX12_354 ⟨_, _, rfl⟩ o37 rfl rfl (Nat.le_of_ble_eq_true rfl) (Nat.le_of_ble_eq_true rfl) (Nat.le_of_ble_eq_true rfl) (Nat.zero_le _) (Nat.zero_le _) dX12_qPartTold_233 (c_X12_number h) (fun r35 m36 h => ?_)
    refine v_iadd dX12_qPartTold_236 ?_
    refine v_sub [0] rfl ?_
    exact v_X12_qPartTold_p237 h
  · replace h := Eq.mp (if_neg hc) h
    refine v_bipush (40 : Int32) dX12_qPartTold_218 (by decide) ?_
    refine v_iload_n 2 1 dX12_qPartTold_220 rfl rfl ?_
    refine v_iadd dX12_qPartTold_221 ?_
    refine v_goto 237 dX12_qPartTold_222 (by decide) ?_
    refine v_sub [0] rfl ?_
    exact v_X12_qPartTold_p237 h
set_option maxHeartbeats 4000000 in
set_option maxRecDepth 100000 in
theorem v_X12_qPartTold_p186 {G : Gl} {F : Fr} {sh : Shp} {v0 : Nat} {Q : Mem → Prop} {m : Mem} (h : X12_qPartTold_p186 sh v0 Q m) : V G F M_X12_qPartTold sh 0 0 (Zv G F sh Q) 186 [(0, .ref (G.1 + v0))] [] m := by
  unfold X12_qPartTold_p186 at h
  refine v_aload_n 0 0 dX12_qPartTold_186 rfl rfl ?_
  obtain ⟨o21, h⟩ := h
  refine v_gI 12 5 dX12_qPartTold_187 fg_RX12_285 o21 ?_
  refine v_if_eq 194 dX12_qPartTold_190 (by decide) (fun hc => ?_) (fun hc => ?_)
  · replace h := Eq.mp (if_pos hc) h
    refine v_aload_n 0 0 dX12_qPartTold_194 rfl rfl ?_
    refine v_iconst (0 : Int32) dX12_qPartTold_195 (by decide) ?_
    refine v_bipush (13 : Int32) dX12_qPartTold_196 (by decide) ?_
    refine v_cVi [.int _, .int _] mv_X12_qWordOf ml_RX12_636 ⟨_, _, rfl⟩ o21 rfl rfl (Nat.le_of_ble_eq_true rfl) (Nat.le_of_ble_eq_true rfl) (Nat.le_of_ble_eq_true rfl) (Nat.zero_le _) (Nat.zero_le _) dX12_qPartTold_198 (c_X12_qWordOf h) (fun r22 m23 h => ?_)
    refine v_istore_n (ls' := [(2, .int _), (0, .ref _)]) 2 dX12_qPartTold_201 rfl (Nat.le_of_ble_eq_true rfl) rfl ?_
    refine v_iload_n 2 0 dX12_qPartTold_202 rfl rfl ?_
    refine v_iconst (-1 : Int32) dX12_qPartTold_203 (by decide) ?_
    refine v_icmp_eq 212 dX12_qPartTold_204 (by decide) (fun hc => ?_) (fun hc => ?_)
    · replace h := Eq.mp (if_pos hc) h
      refine v_sub [1, 0] rfl ?_
      exact v_X12_qPartTold_p212 h
    · replace h := Eq.mp (if_neg hc) h
      refine v_aload_n 0 1 dX12_qPartTold_207 rfl rfl ?_
      refine v_iload_n 2 0 dX12_qPartTold_208 rfl rfl ?_
      refine v_cVv [.int _] mv_X12_qAsksWord ml_RX12_642 ⟨_, _, rfl⟩ o21 rfl rfl (Nat.le_of_ble_eq_true rfl) (Nat.le_of_ble_eq_true rfl) (Nat.le_of_ble_eq_true rfl) (Nat.zero_le _) (Nat.zero_le _) dX12_qPartTold_209 (c_X12_qAsksWord h) (fun m25 h => ?_)
      refine v_sub [1, 0] rfl ?_
      exact v_X12_qPartTold_p212 h
  · replace h := Eq.mp (if_neg hc) h
    exact v_vret dX12_qPartTold_193 rfl h
set_option maxHeartbeats 4000000 in
set_option maxRecDepth 100000 in
theorem v_X12_qPartTold_p2b {G : Gl} {F : Fr} {sh : Shp} {v0 : Nat} {v1 : Int32} {Q : Mem → Prop} {K2 : Int32 → Mem → Prop} {m : Mem} (hK2 : ∀ (x1 : Int32) (m : Mem), K2 x1 m → V G F M_X12_qPartTold sh 0 0 (Zv G F sh Q) 2 [(0, .ref (G.1 + v0)), (1, .int x1)] [] m) (h : X12_qPartTold_p2b sh v0 Q K2 v1 m) : V G F M_X12_qPartTold sh 0 0 (Zv G F sh Q) 2 [(0, .ref (G.1 + v0)), (1, .int v1)] [] m := by
  unfold X12_qPartTold_p2b at h
  refine v_iload_n 1 1 dX12_qPartTold_2 rfl rfl ?_
  refine v_if_eq 186 dX12_qPartTold_3 (by decide) (fun hc => ?_) (fun hc => ?_)
  · replace h := Eq.mp (if_pos hc) h
    refine v_sub [0] rfl ?_
    exact v_X12_qPartTold_p186 h
  · replace h := Eq.mp (if_neg hc) h
    refine v_aload_n 0 0 dX12_qPartTold_6 rfl rfl ?_
    obtain ⟨o1, h⟩ := h
    refine v_gI 12 5 dX12_qPartTold_7 fg_RX12_285 o1 ?_
    refine v_if_ne 186 dX12_qPartTold_10 (by decide) (fun hc => ?_) (fun hc => ?_)
    · replace h := Eq.mp (if_neg hc) h
      refine v_sub [0] rfl ?_
      exact v_X12_qPartTold_p186 h
    · replace h := Eq.mp (if_pos hc) h
      refine v_aload_n 0 0 dX12_qPartTold_13 rfl rfl ?_
      refine v_cVi [] mv_X12_look ml_RX12_297 ⟨_, _, rfl⟩ o1 rfl rfl (Nat.le_of_ble_eq_true rfl) (Nat.le_of_ble_eq_true rfl) (Nat.le_of_ble_eq_true rfl) (Nat.zero_le _) (Nat.zero_le _) dX12_qPartTold_14 (c_X12_look h) (fun r2 m3 h => ?_)
      refine v_istore_n (ls' := [(2, .int _), (0, .ref _), (1, .int _)]) 2 dX12_qPartTold_17 rfl (Nat.le_of_ble_eq_true rfl) rfl ?_
      refine v_aload_n 0 1 dX12_qPartTold_18 rfl rfl ?_
      refine v_bipush (13 : Int32) dX12_qPartTold_19 (by decide) ?_
      refine v_bipush (15 : Int32) dX12_qPartTold_21 (by decide) ?_
      refine v_cVi [.int _, .int _] mv_X12_qWordOf ml_RX12_636 ⟨_, _, rfl⟩ o1 rfl rfl (Nat.le_of_ble_eq_true rfl) (Nat.le_of_ble_eq_true rfl) (Nat.le_of_ble_eq_true rfl) (Nat.zero_le _) (Nat.zero_le _) dX12_qPartTold_23 (c_X12_qWordOf h) (fun r4 m5 h => ?_)
      refine v_istore_n (ls' := [(3, .int _), (2, .int _), (0, .ref _), (1, .int _)]) 3 dX12_qPartTold_26 rfl (Nat.le_of_ble_eq_true rfl) rfl ?_
      refine v_iload_n 2 1 dX12_qPartTold_27 rfl rfl ?_
      refine v_bipush (40 : Int32) dX12_qPartTold_28 (by decide) ?_
      refine v_icmp_ne 56 dX12_qPartTold_30 (by decide) (fun hc => ?_) (fun hc => ?_)
      · replace h := Eq.mp (if_neg hc) h
        refine v_aload_n 0 2 dX12_qPartTold_56 rfl rfl ?_
        refine v_aload_n 0 2 dX12_qPartTold_57 rfl rfl ?_
        obtain ⟨b6, e7, h⟩ := h
        refine v_gR 12 91 dX12_qPartTold_58 fg_RX12_219 o1 e7 ?_
        refine v_cVi [.ref _] mv_X12_isHere ml_RX12_308 ⟨_, _, rfl⟩ o1 rfl rfl (Nat.le_of_ble_eq_true rfl) (Nat.le_of_ble_eq_true rfl) (Nat.le_of_ble_eq_true rfl) (Nat.zero_le _) (Nat.zero_le _) dX12_qPartTold_61 (c_X12_isHere h) (fun r8 m9 h => ?_)
        refine v_if_ne 78 dX12_qPartTold_64 (by decide) (fun hc => ?_) (fun hc => ?_)
        · replace h := Eq.mp (if_neg hc) h
          refine v_sub [2, 3] rfl ?_
          exact v_X12_qPartTold_p78 hK2 h
        · replace h := Eq.mp (if_pos hc) h
          refine v_aload_n 0 2 dX12_qPartTold_67 rfl rfl ?_
          refine v_aload_n 0 2 dX12_qPartTold_68 rfl rfl ?_
          obtain ⟨b10, e11, h⟩ := h
          refine v_gR 12 92 dX12_qPartTold_69 fg_RX12_222 o1 e11 ?_
          refine v_cVi [.ref _] mv_X12_isHere ml_RX12_308 ⟨_, _, rfl⟩ o1 rfl rfl (Nat.le_of_ble_eq_true rfl) (Nat.le_of_ble_eq_true rfl) (Nat.le_of_ble_eq_true rfl) (Nat.zero_le _) (Nat.zero_le _) dX12_qPartTold_72 (c_X12_isHere h) (fun r12 m13 h => ?_)
          refine v_if_eq 153 dX12_qPartTold_75 (by decide) (fun hc => ?_) (fun hc => ?_)
          · replace h := Eq.mp (if_pos hc) h
            refine v_iload_n 3 0 dX12_qPartTold_153 rfl rfl ?_
            refine v_iconst (-1 : Int32) dX12_qPartTold_154 (by decide) ?_
            refine v_icmp_eq 181 dX12_qPartTold_155 (by decide) (fun hc => ?_) (fun hc => ?_)
            · replace h := Eq.mp (if_pos hc) h
              refine v_iconst (0 : Int32) dX12_qPartTold_181 (by decide) ?_
              refine v_istore_n (ls' := [(1, .int _), (3, .int _), (2, .int _), (0, .ref _)]) 1 dX12_qPartTold_182 rfl (Nat.le_of_ble_eq_true rfl) rfl ?_
              refine v_sub [3, 0] rfl ?_
              exact v_X12_qPartTold_p183 hK2 h
            · replace h := Eq.mp (if_neg hc) h
              refine v_aload_n 0 2 dX12_qPartTold_158 rfl rfl ?_
              refine v_bipush (60 : Int32) dX12_qPartTold_159 (by decide) ?_
              refine v_iload_n 3 0 dX12_qPartTold_161 rfl rfl ?_
              refine v_iadd dX12_qPartTold_162 ?_
              refine v_bipush (13 : Int32) dX12_qPartTold_163 (by decide) ?_
              refine v_isub dX12_qPartTold_165 ?_
              refine v_aload_n 0 2 dX12_qPartTold_166 rfl rfl ?_
              refine v_gI 12 2 dX12_qPartTold_167 fg_RX12_291 o1 ?_
              refine v_cVv [.int _, .int _] mv_X12_qOpens ml_RX12_639 ⟨_, _, rfl⟩ o1 rfl rfl (Nat.le_of_ble_eq_true rfl) (Nat.le_of_ble_eq_true rfl) (Nat.le_of_ble_eq_true rfl) (Nat.zero_le _) (Nat.zero_le _) dX12_qPartTold_170 (c_X12_qOpens h) (fun m15 h => ?_)
              refine v_aload_n 0 2 dX12_qPartTold_173 rfl rfl ?_
              refine v_iload_n 3 0 dX12_qPartTold_174 rfl rfl ?_
              refine v_cVv [.int _] mv_X12_qAsksWord ml_RX12_642 ⟨_, _, rfl⟩ o1 rfl rfl (Nat.le_of_ble_eq_true rfl) (Nat.le_of_ble_eq_true rfl) (Nat.le_of_ble_eq_true rfl) (Nat.zero_le _) (Nat.zero_le _) dX12_qPartTold_175 (c_X12_qAsksWord h) (fun m17 h => ?_)
              refine v_goto 183 dX12_qPartTold_178 (by decide) ?_
              refine v_sub [2, 3] rfl ?_
              exact v_X12_qPartTold_p183 hK2 h
          · replace h := Eq.mp (if_neg hc) h
            refine v_sub [2, 3] rfl ?_
            exact v_X12_qPartTold_p78 hK2 h
      · replace h := Eq.mp (if_pos hc) h
        refine v_aload_n 0 2 dX12_qPartTold_33 rfl rfl ?_
        refine v_bipush (20 : Int32) dX12_qPartTold_34 (by decide) ?_
        refine v_aload_n 0 2 dX12_qPartTold_36 rfl rfl ?_
        refine v_gI 12 2 dX12_qPartTold_37 fg_RX12_291 o1 ?_
        refine v_cVv [.int _, .int _] mv_X12_qOpens ml_RX12_639 ⟨_, _, rfl⟩ o1 rfl rfl (Nat.le_of_ble_eq_true rfl) (Nat.le_of_ble_eq_true rfl) (Nat.le_of_ble_eq_true rfl) (Nat.zero_le _) (Nat.zero_le _) dX12_qPartTold_40 (c_X12_qOpens h) (fun m19 h => ?_)
        refine v_aload_n 0 2 dX12_qPartTold_43 rfl rfl ?_
        refine v_dup dX12_qPartTold_44 rfl ?_
        refine v_gI 12 2 dX12_qPartTold_45 fg_RX12_291 o1 ?_
        refine v_iconst (1 : Int32) dX12_qPartTold_48 (by decide) ?_
        refine v_iadd dX12_qPartTold_49 ?_
        refine v_pI 12 2 dX12_qPartTold_50 fw_RX12_291 o1 ?_
        replace h := bnd_e h
        refine v_goto 183 dX12_qPartTold_53 (by decide) ?_
        refine v_sub [2, 3] rfl ?_
        exact v_X12_qPartTold_p183 hK2 h
set_option maxHeartbeats 4000000 in
set_option maxRecDepth 100000 in
theorem v_X12_qPartTold_p2 {G : Gl} {F : Fr} {sh : Shp} {v0 : Nat} {v1 : Int32} {Q : Mem → Prop} {m : Mem} (h : X12_qPartTold_p2 sh v0 Q v1 m) : V G F M_X12_qPartTold sh 0 0 (Zv G F sh Q) 2 [(0, .ref (G.1 + v0)), (1, .int v1)] [] m := by
  obtain ⟨n, h⟩ := h
  induction n generalizing v1 m with
  | zero => exact h.elim
  | succ n ih => exact v_X12_qPartTold_p2b (fun _ _ h => ih h) h
set_option maxHeartbeats 4000000 in
set_option maxRecDepth 100000 in
theorem c_X12_qPartTold {l : Launch} {G : Gl} {sh : Shp} {v0 : Nat} {Q : Mem → Prop} {m : Mem} (h : wp_X12_qPartTold sh v0 Q m) : Cnv l G yX12_qPartTold cX12_qPartTold 6 (none : Option FieldType) 6 166 sh [.ref (G.1 + v0)] m Q := by
  refine con_v (ls := [(0, .ref (G.1 + v0))]) (by decide +kernel) rfl (Nat.le_of_ble_eq_true rfl) (fun F => ?_)
  show V G F M_X12_qPartTold sh 0 0 (Zv G F sh Q) 0 [(0, .ref (G.1 + v0))] [] m
  unfold wp_X12_qPartTold at h
  refine v_iconst (1 : Int32) dX12_qPartTold_0 (by decide) ?_
  refine v_istore_n (ls' := [(1, .int _), (0, .ref _)]) 1 dX12_qPartTold_1 rfl (Nat.le_of_ble_eq_true rfl) rfl ?_
  refine v_sub [1, 0] rfl ?_
  exact v_X12_qPartTold_p2 h
/-! CalledRiverModel.qSums -/
theorem dX12_qSums_0 : decode cX12_qSums 0 = .ok (.aload_n 0, 1) := by decide +kernel
theorem dX12_qSums_1 : decode cX12_qSums 1 = .ok (.getfield 381, 3) := by decide +kernel
theorem dX12_qSums_4 : decode cX12_qSums 4 = .ok (.istore_n 1, 1) := by decide +kernel
theorem dX12_qSums_5 : decode cX12_qSums 5 = .ok (.aload_n 0, 1) := by decide +kernel
theorem dX12_qSums_6 : decode cX12_qSums 6 = .ok (.aload_n 0, 1) := by decide +kernel
theorem dX12_qSums_7 : decode cX12_qSums 7 = .ok (.getfield 375, 3) := by decide +kernel
theorem dX12_qSums_10 : decode cX12_qSums 10 = .ok (.putfield 381, 3) := by decide +kernel
theorem dX12_qSums_13 : decode cX12_qSums 13 = .ok (.iconst 1, 1) := by decide +kernel
theorem dX12_qSums_14 : decode cX12_qSums 14 = .ok (.istore_n 2, 1) := by decide +kernel
theorem dX12_qSums_15 : decode cX12_qSums 15 = .ok (.iload_n 2, 1) := by decide +kernel
theorem dX12_qSums_16 : decode cX12_qSums 16 = .ok (.ifCond .eq 37, 3) := by decide +kernel
theorem dX12_qSums_19 : decode cX12_qSums 19 = .ok (.aload_n 0, 1) := by decide +kernel
theorem dX12_qSums_20 : decode cX12_qSums 20 = .ok (.getfield 285, 3) := by decide +kernel
theorem dX12_qSums_23 : decode cX12_qSums 23 = .ok (.ifCond .ne 30, 3) := by decide +kernel
theorem dX12_qSums_26 : decode cX12_qSums 26 = .ok (.aload_n 0, 1) := by decide +kernel
theorem dX12_qSums_27 : decode cX12_qSums 27 = .ok (.invokevirtual 657, 3) := by decide +kernel
theorem dX12_qSums_30 : decode cX12_qSums 30 = .ok (.aload_n 0, 1) := by decide +kernel
theorem dX12_qSums_31 : decode cX12_qSums 31 = .ok (.getfield 285, 3) := by decide +kernel
theorem dX12_qSums_34 : decode cX12_qSums 34 = .ok (.ifCond .ne 14, 3) := by decide +kernel
theorem dX12_qSums_37 : decode cX12_qSums 37 = .ok (.aload_n 0, 1) := by decide +kernel
theorem dX12_qSums_38 : decode cX12_qSums 38 = .ok (.invokevirtual 660, 3) := by decide +kernel
theorem dX12_qSums_41 : decode cX12_qSums 41 = .ok (.ifCond .eq 7, 3) := by decide +kernel
theorem dX12_qSums_44 : decode cX12_qSums 44 = .ok (.iconst 1, 1) := by decide +kernel
theorem dX12_qSums_45 : decode cX12_qSums 45 = .ok (.goto 4, 3) := by decide +kernel
theorem dX12_qSums_48 : decode cX12_qSums 48 = .ok (.iconst 0, 1) := by decide +kernel
theorem dX12_qSums_49 : decode cX12_qSums 49 = .ok (.istore_n 2, 1) := by decide +kernel
theorem dX12_qSums_50 : decode cX12_qSums 50 = .ok (.goto (-35), 3) := by decide +kernel
theorem dX12_qSums_53 : decode cX12_qSums 53 = .ok (.aload_n 0, 1) := by decide +kernel
theorem dX12_qSums_54 : decode cX12_qSums 54 = .ok (.getfield 285, 3) := by decide +kernel
theorem dX12_qSums_57 : decode cX12_qSums 57 = .ok (.ifCond .ne 21, 3) := by decide +kernel
theorem dX12_qSums_60 : decode cX12_qSums 60 = .ok (.aload_n 0, 1) := by decide +kernel
theorem dX12_qSums_61 : decode cX12_qSums 61 = .ok (.getfield 375, 3) := by decide +kernel
theorem dX12_qSums_64 : decode cX12_qSums 64 = .ok (.aload_n 0, 1) := by decide +kernel
theorem dX12_qSums_65 : decode cX12_qSums 65 = .ok (.getfield 381, 3) := by decide +kernel
theorem dX12_qSums_68 : decode cX12_qSums 68 = .ok (.if_icmp .le 10, 3) := by decide +kernel
theorem dX12_qSums_71 : decode cX12_qSums 71 = .ok (.aload_n 0, 1) := by decide +kernel
theorem dX12_qSums_72 : decode cX12_qSums 72 = .ok (.invokevirtual 627, 3) := by decide +kernel
theorem dX12_qSums_75 : decode cX12_qSums 75 = .ok (.goto (-22), 3) := by decide +kernel
theorem dX12_qSums_78 : decode cX12_qSums 78 = .ok (.aload_n 0, 1) := by decide +kernel
theorem dX12_qSums_79 : decode cX12_qSums 79 = .ok (.iload_n 1, 1) := by decide +kernel
theorem dX12_qSums_80 : decode cX12_qSums 80 = .ok (.putfield 381, 3) := by decide +kernel
theorem dX12_qSums_83 : decode cX12_qSums 83 = .ok (.return_, 1) := by decide +kernel
def X12_qSums_p49 (sh : Shp) (v0 : Nat) (v1 : Int32) (s0 : Int32) (Q : Mem → Prop) (K15 : Int32 → Mem → Prop) (m : Mem) : Prop :=
  K15 s0 m
def X12_qSums_p48 (sh : Shp) (v0 : Nat) (v1 : Int32) (Q : Mem → Prop) (K15 : Int32 → Mem → Prop) (m : Mem) : Prop :=
  X12_qSums_p49 sh v0 v1 (0 : Int32) Q K15 m
def X12_qSums_p78 (sh : Shp) (v0 : Nat) (v1 : Int32) (Q : Mem → Prop) (m : Mem) : Prop :=
  Ob sh v0 12 ∧ bnd (sI m v0 113 v1) (fun m12 => Q m12)
def X12_qSums_p53b (sh : Shp) (v0 : Nat) (v1 : Int32) (Q : Mem → Prop) (K53 : Mem → Prop) (m : Mem) : Prop :=
  Ob sh v0 12 ∧ (if (m.1 v0 5) = 0 then (if (m.1 v0 111) ≤ (m.1 v0 113) then (X12_qSums_p78 sh v0 v1 Q m) else (wp_X12_qDrops sh v0 (fun m10 => K53 m10) m)) else (X12_qSums_p78 sh v0 v1 Q m))
def X12_qSums_p53n (sh : Shp) (v0 : Nat) (v1 : Int32) (Q : Mem → Prop) : Nat → Mem → Prop
  | 0 => fun _ => False
  | n + 1 => X12_qSums_p53b sh v0 v1 Q (X12_qSums_p53n sh v0 v1 Q n)
def X12_qSums_p53 (sh : Shp) (v0 : Nat) (v1 : Int32) (Q : Mem → Prop) (m : Mem) : Prop := ∃ n, X12_qSums_p53n sh v0 v1 Q n m
def X12_qSums_p15b (sh : Shp) (v0 : Nat) (v1 : Int32) (Q : Mem → Prop) (K15 : Int32 → Mem → Prop) (v2 : Int32) (m : Mem) : Prop :=
  if v2 = 0 then (X12_qSums_p53 sh v0 v1 Q m) else (Ob sh v0 12 ∧ (if (m.1 v0 5) = 0 then (wp_X12_qPartTold sh v0 (fun m5 => if (m5.1 v0 5) = 0 then (wp_X12_qGoesOn sh v0 (fun r6 m7 => if r6 = 0 then (X12_qSums_p48 sh v0 v1 Q K15 m7) else (X12_qSums_p49 sh v0 v1 (1 : Int32) Q K15 m7)) m5) else (X12_qSums_p48 sh v0 v1 Q K15 m5)) m) else (X12_qSums_p53 sh v0 v1 Q m)))
def X12_qSums_p15n (sh : Shp) (v0 : Nat) (v1 : Int32) (Q : Mem → Prop) : Nat → Int32 → Mem → Prop
  | 0 => fun _ _ => False
  | n + 1 => X12_qSums_p15b sh v0 v1 Q (X12_qSums_p15n sh v0 v1 Q n)
def X12_qSums_p15 (sh : Shp) (v0 : Nat) (v1 : Int32) (Q : Mem → Prop) (v2 : Int32) (m : Mem) : Prop := ∃ n, X12_qSums_p15n sh v0 v1 Q n v2 m
def wp_X12_qSums (sh : Shp) (v0 : Nat) (Q : Mem → Prop) (m : Mem) : Prop :=
  Ob sh v0 12 ∧ (bnd (sI m v0 113 (m.1 v0 111)) (fun m2 => X12_qSums_p15 sh v0 (m.1 v0 113) Q (1 : Int32) m2))
abbrev M_X12_qSums : Mi := (cX12_qSums, 3, RX12, (none : Option FieldType), "qSums", 7, 191, 0, 0)
set_option maxHeartbeats 4000000 in
set_option maxRecDepth 100000 in
theorem v_X12_qSums_p49 {G : Gl} {F : Fr} {sh : Shp} {v0 : Nat} {v1 : Int32} {s0 : Int32} {Q : Mem → Prop} {K15 : Int32 → Mem → Prop} {m : Mem} (hK15 : ∀ (x2 : Int32) (m : Mem), K15 x2 m → V G F M_X12_qSums sh 0 0 (Zv G F sh Q) 15 [(0, .ref (G.1 + v0)), (1, .int v1), (2, .int x2)] [] m) (h : X12_qSums_p49 sh v0 v1 s0 Q K15 m) : V G F M_X12_qSums sh 0 0 (Zv G F sh Q) 49 [(0, .ref (G.1 + v0)), (1, .int v1)] [.int s0] m := by
  unfold X12_qSums_p49 at h
  refine v_istore_n (ls' := [(2, .int _), (0, .ref _), (1, .int _)]) 2 dX12_qSums_49 rfl (Nat.le_of_ble_eq_true rfl) rfl ?_
  refine v_goto 15 dX12_qSums_50 (by decide) ?_
  refine v_sub [1, 2, 0] rfl ?_
  exact hK15 _ _ h
set_option maxHeartbeats 4000000 in
set_option maxRecDepth 100000 in
theorem v_X12_qSums_p48 {G : Gl} {F : Fr} {sh : Shp} {v0 : Nat} {v1 : Int32} {Q : Mem → Prop} {K15 : Int32 → Mem → Prop} {m : Mem} (hK15 : ∀ (x2 : Int32) (m : Mem), K15 x2 m → V G F M_X12_qSums sh 0 0 (Zv G F sh Q) 15 [(0, .ref (G.1 + v0)), (1, .int v1), (2, .int x2)] [] m) (h : X12_qSums_p48 sh v0 v1 Q K15 m) : V G F M_X12_qSums sh 0 0 (Zv G F sh Q) 48 [(0, .ref (G.1 + v0)), (1, .int v1)] [] m := by
  unfold X12_qSums_p48 at h
  refine v_iconst (0 : Int32) dX12_qSums_48 (by decide) ?_
  refine v_sub [0, 1] rfl ?_
  exact v_X12_qSums_p49 hK15 h
set_option maxHeartbeats 4000000 in
set_option maxRecDepth 100000 in
theorem v_X12_qSums_p78 {G : Gl} {F : Fr} {sh : Shp} {v0 : Nat} {v1 : Int32} {Q : Mem → Prop} {m : Mem} (h : X12_qSums_p78 sh v0 v1 Q m) : V G F M_X12_qSums sh 0 0 (Zv G F sh Q) 78 [(0, .ref (G.1 + v0)), (1, .int v1)] [] m := by
  unfold X12_qSums_p78 at h
  refine v_aload_n 0 0 dX12_qSums_78 rfl rfl ?_
  refine v_iload_n 1 1 dX12_qSums_79 rfl rfl ?_
  obtain ⟨o11, h⟩ := h
  refine v_pI 12 113 dX12_qSums_80 fw_RX12_381 o11 ?_
  replace h := bnd_e h
  exact v_vret dX12_qSums_83 rfl h
set_option maxHeartbeats 4000000 in
set_option maxRecDepth 100000 in
theorem v_X12_qSums_p53b {G : Gl} {F : Fr} {sh : Shp} {v0 : Nat} {v1 : Int32} {Q : Mem → Prop} {K53 : Mem → Prop} {m : Mem} (hK53 : ∀ (m : Mem), K53 m → V G F M_X12_qSums sh 0 0 (Zv G F sh Q) 53 [(0, .ref (G.1 + v0)), (1, .int v1)] [] m) (h : X12_qSums_p53b sh v0 v1 Q K53 m) : V G F M_X12_qSums sh 0 0 (Zv G F sh Q) 53 [(0, .ref (G.1 + v0)), (1, .int v1)] [] m := by
  unfold X12_qSums_p53b at h
  refine v_aload_n 0 0 dX12_qSums_53 rfl rfl ?_
  obtain ⟨o8, h⟩ := h
  refine v_gI 12 5 dX12_qSums_54 fg_RX12_285 o8 ?_
  refine v_if_ne 78 dX12_qSums_57 (by decide) (fun hc => ?_) (fun hc => ?_)
  · replace h := Eq.mp (if_neg hc) h
    refine v_sub [0, 1] rfl ?_
    exact v_X12_qSums_p78 h
  · replace h := Eq.mp (if_pos hc) h
    refine v_aload_n 0 0 dX12_qSums_60 rfl rfl ?_
    refine v_gI 12 111 dX12_qSums_61 fg_RX12_375 o8 ?_
    refine v_aload_n 0 0 dX12_qSums_64 rfl rfl ?_
    refine v_gI 12 113 dX12_qSums_65 fg_RX12_381 o8 ?_
    refine v_icmp_le 78 dX12_qSums_68 (by decide) (fun hc => ?_) (fun hc => ?_)
    · replace h := Eq.mp (if_pos hc) h
      refine v_sub [0, 1] rfl ?_
      exact v_X12_qSums_p78 h
    · replace h := Eq.mp (if_neg hc) h
      refine v_aload_n 0 0 dX12_qSums_71 rfl rfl ?_
      refine v_cVv [] mv_X12_qDrops ml_RX12_627 ⟨_, _, rfl⟩ o8 rfl rfl (Nat.le_of_ble_eq_true rfl) (Nat.le_of_ble_eq_true rfl) (Nat.le_of_ble_eq_true rfl) (Nat.zero_le _) (Nat.zero_le _) dX12_qSums_72 (c_X12_qDrops h) (fun m10 h => ?_)
      refine v_goto 53 dX12_qSums_75 (by decide) ?_
      refine v_sub [0, 1] rfl ?_
      exact hK53  _ h
set_option maxHeartbeats 4000000 in
set_option maxRecDepth 100000 in
theorem v_X12_qSums_p53 {G : Gl} {F : Fr} {sh : Shp} {v0 : Nat} {v1 : Int32} {Q : Mem → Prop} {m : Mem} (h : X12_qSums_p53 sh v0 v1 Q m) : V G F M_X12_qSums sh 0 0 (Zv G F sh Q) 53 [(0, .ref (G.1 + v0)), (1, .int v1)] [] m := by
  obtain ⟨n, h⟩ := h
  induction n generalizing  m with
  | zero => exact h.elim
  | succ n ih => exact v_X12_qSums_p53b (fun  _ h => ih h) h
set_option maxHeartbeats 4000000 in
set_option maxRecDepth 100000 in
theorem v_X12_qSums_p15b {G : Gl} {F : Fr} {sh : Shp} {v0 : Nat} {v1 : Int32} {v2 : Int32} {Q : Mem → Prop} {K15 : Int32 → Mem → Prop} {m : Mem} (hK15 : ∀ (x2 : Int32) (m : Mem), K15 x2 m → V G F M_X12_qSums sh 0 0 (Zv G F sh Q) 15 [(0, .ref (G.1 + v0)), (1, .int v1), (2, .int x2)] [] m) (h : X12_qSums_p15b sh v0 v1 Q K15 v2 m) : V G F M_X12_qSums sh 0 0 (Zv G F sh Q) 15 [(0, .ref (G.1 + v0)), (1, .int v1), (2, .int v2)] [] m := by
  unfold X12_qSums_p15b at h
  refine v_iload_n 2 2 dX12_qSums_15 rfl rfl ?_
  refine v_if_eq 53 dX12_qSums_16 (by decide) (fun hc => ?_) (fun hc => ?_)
  · replace h := Eq.mp (if_pos hc) h
    refine v_sub [0, 1] rfl ?_
    exact v_X12_qSums_p53 h
  · replace h := Eq.mp (if_neg hc) h
    refine v_aload_n 0 0 dX12_qSums_19 rfl rfl ?_
    obtain ⟨o3, h⟩ := h
    refine v_gI 12 5 dX12_qSums_20 fg_RX12_285 o3 ?_
    refine v_if_ne 53 dX12_qSums_23 (by decide) (fun hc => ?_) (fun hc => ?_)
    · replace h := Eq.mp (if_neg hc) h
      refine v_sub [0, 1] rfl ?_
      exact v_X12_qSums_p53 h
    · replace h := Eq.mp (if_pos hc) h
      refine v_aload_n 0 0 dX12_qSums_26 rfl rfl ?_
      refine v_cVv [] mv_X12_qPartTold ml_RX12_657 ⟨_, _, rfl⟩ o3 rfl rfl (Nat.le_of_ble_eq_true rfl) (Nat.le_of_ble_eq_true rfl) (Nat.le_of_ble_eq_true rfl) (Nat.zero_le _) (Nat.zero_le _) dX12_qSums_27 (c_X12_qPartTold h) (fun m5 h => ?_)
      refine v_aload_n 0 0 dX12_qSums_30 rfl rfl ?_
      refine v_gI 12 5 dX12_qSums_31 fg_RX12_285 o3 ?_
      refine v_if_ne 48 dX12_qSums_34 (by decide) (fun hc => ?_) (fun hc => ?_)
      · replace h := Eq.mp (if_neg hc) h
        refine v_sub [0, 1] rfl ?_
        exact v_X12_qSums_p48 hK15 h
      · replace h := Eq.mp (if_pos hc) h
        refine v_aload_n 0 0 dX12_qSums_37 rfl rfl ?_
        refine v_cVi [] mv_X12_qGoesOn ml_RX12_660 ⟨_, _, rfl⟩ o3 rfl rfl (Nat.le_of_ble_eq_true rfl) (Nat.le_of_ble_eq_true rfl) (Nat.le_of_ble_eq_true rfl) (Nat.zero_le _) (Nat.zero_le _) dX12_qSums_38 (c_X12_qGoesOn h) (fun r6 m7 h => ?_)
        refine v_if_eq 48 dX12_qSums_41 (by decide) (fun hc => ?_) (fun hc => ?_)
        · replace h := Eq.mp (if_pos hc) h
          refine v_sub [0, 1] rfl ?_
          exact v_X12_qSums_p48 hK15 h
        · replace h := Eq.mp (if_neg hc) h
          refine v_iconst (1 : Int32) dX12_qSums_44 (by decide) ?_
          refine v_goto 49 dX12_qSums_45 (by decide) ?_
          refine v_sub [0, 1] rfl ?_
          exact v_X12_qSums_p49 hK15 h
set_option maxHeartbeats 4000000 in
set_option maxRecDepth 100000 in
theorem v_X12_qSums_p15 {G : Gl} {F : Fr} {sh : Shp} {v0 : Nat} {v1 : Int32} {v2 : Int32} {Q : Mem → Prop} {m : Mem} (h : X12_qSums_p15 sh v0 v1 Q v2 m) : V G F M_X12_qSums sh 0 0 (Zv G F sh Q) 15 [(0, .ref (G.1 + v0)), (1, .int v1), (2, .int v2)] [] m := by
  obtain ⟨n, h⟩ := h
  induction n generalizing v2 m with
  | zero => exact h.elim
  | succ n ih => exact v_X12_qSums_p15b (fun _ _ h => ih h) h
set_option maxHeartbeats 4000000 in
set_option maxRecDepth 100000 in
theorem c_X12_qSums {l : Launch} {G : Gl} {sh : Shp} {v0 : Nat} {Q : Mem → Prop} {m : Mem} (h : wp_X12_qSums sh v0 Q m) : Cnv l G yX12_qSums cX12_qSums 3 (none : Option FieldType) 7 191 sh [.ref (G.1 + v0)] m Q := by
  refine con_v (ls := [(0, .ref (G.1 + v0))]) (by decide +kernel) rfl (Nat.le_of_ble_eq_true rfl) (fun F => ?_)
  show V G F M_X12_qSums sh 0 0 (Zv G F sh Q) 0 [(0, .ref (G.1 + v0))] [] m
  unfold wp_X12_qSums at h
  refine v_aload_n 0 0 dX12_qSums_0 rfl rfl ?_
  obtain ⟨o1, h⟩ := h
  refine v_gI 12 113 dX12_qSums_1 fg_RX12_381 o1 ?_
  refine v_istore_n (ls' := [(1, .int _), (0, .ref _)]) 1 dX12_qSums_4 rfl (Nat.le_of_ble_eq_true rfl) rfl ?_
  refine v_aload_n 0 1 dX12_qSums_5 rfl rfl ?_
  refine v_aload_n 0 1 dX12_qSums_6 rfl rfl ?_
  refine v_gI 12 111 dX12_qSums_7 fg_RX12_375 o1 ?_
  refine v_pI 12 113 dX12_qSums_10 fw_RX12_381 o1 ?_
  replace h := bnd_e h
  refine v_iconst (1 : Int32) dX12_qSums_13 (by decide) ?_
  refine v_istore_n (ls' := [(2, .int _), (1, .int _), (0, .ref _)]) 2 dX12_qSums_14 rfl (Nat.le_of_ble_eq_true rfl) rfl ?_
  refine v_sub [2, 1, 0] rfl ?_
  exact v_X12_qSums_p15 h
/-! CalledRiverModel.qTakes -/
theorem dX12_qTakes_0 : decode cX12_qTakes 0 = .ok (.iload_n 1, 1) := by decide +kernel
theorem dX12_qTakes_1 : decode cX12_qTakes 1 = .ok (.iconst 3, 1) := by decide +kernel
theorem dX12_qTakes_2 : decode cX12_qTakes 2 = .ok (.if_icmp .ge 13, 3) := by decide +kernel
theorem dX12_qTakes_5 : decode cX12_qTakes 5 = .ok (.lload_n 2, 1) := by decide +kernel
theorem dX12_qTakes_6 : decode cX12_qTakes 6 = .ok (.lconst 1, 1) := by decide +kernel
theorem dX12_qTakes_7 : decode cX12_qTakes 7 = .ok (.lcmp, 1) := by decide +kernel
theorem dX12_qTakes_8 : decode cX12_qTakes 8 = .ok (.ifCond .ne 7, 3) := by decide +kernel
theorem dX12_qTakes_11 : decode cX12_qTakes 11 = .ok (.iconst 1, 1) := by decide +kernel
theorem dX12_qTakes_12 : decode cX12_qTakes 12 = .ok (.goto 4, 3) := by decide +kernel
theorem dX12_qTakes_15 : decode cX12_qTakes 15 = .ok (.iconst 0, 1) := by decide +kernel
theorem dX12_qTakes_16 : decode cX12_qTakes 16 = .ok (.istore 5, 2) := by decide +kernel
theorem dX12_qTakes_18 : decode cX12_qTakes 18 = .ok (.iload_n 1, 1) := by decide +kernel
theorem dX12_qTakes_19 : decode cX12_qTakes 19 = .ok (.ifCond .ne 19, 3) := by decide +kernel
theorem dX12_qTakes_22 : decode cX12_qTakes 22 = .ok (.iload 5, 2) := by decide +kernel
theorem dX12_qTakes_24 : decode cX12_qTakes 24 = .ok (.ifCond .eq 14, 3) := by decide +kernel
theorem dX12_qTakes_27 : decode cX12_qTakes 27 = .ok (.aload_n 0, 1) := by decide +kernel
theorem dX12_qTakes_28 : decode cX12_qTakes 28 = .ok (.getfield 696, 3) := by decide +kernel
theorem dX12_qTakes_31 : decode cX12_qTakes 31 = .ok (.ldc2_w 690, 3) := by decide +kernel
theorem dX12_qTakes_34 : decode cX12_qTakes 34 = .ok (.lcmp, 1) := by decide +kernel
theorem dX12_qTakes_35 : decode cX12_qTakes 35 = .ok (.ifCond .eq 13, 3) := by decide +kernel
theorem dX12_qTakes_38 : decode cX12_qTakes 38 = .ok (.iload_n 1, 1) := by decide +kernel
theorem dX12_qTakes_39 : decode cX12_qTakes 39 = .ok (.iconst 1, 1) := by decide +kernel
theorem dX12_qTakes_40 : decode cX12_qTakes 40 = .ok (.if_icmp .ne 15, 3) := by decide +kernel
theorem dX12_qTakes_43 : decode cX12_qTakes 43 = .ok (.iload 5, 2) := by decide +kernel
theorem dX12_qTakes_45 : decode cX12_qTakes 45 = .ok (.ifCond .eq 10, 3) := by decide +kernel
theorem dX12_qTakes_48 : decode cX12_qTakes 48 = .ok (.aload_n 0, 1) := by decide +kernel
theorem dX12_qTakes_49 : decode cX12_qTakes 49 = .ok (.iload 4, 2) := by decide +kernel
theorem dX12_qTakes_51 : decode cX12_qTakes 51 = .ok (.i2l, 1) := by decide +kernel
theorem dX12_qTakes_52 : decode cX12_qTakes 52 = .ok (.putfield 696, 3) := by decide +kernel
theorem dX12_qTakes_55 : decode cX12_qTakes 55 = .ok (.iload_n 1, 1) := by decide +kernel
theorem dX12_qTakes_56 : decode cX12_qTakes 56 = .ok (.iconst 2, 1) := by decide +kernel
theorem dX12_qTakes_57 : decode cX12_qTakes 57 = .ok (.if_icmp .ne 18, 3) := by decide +kernel
theorem dX12_qTakes_60 : decode cX12_qTakes 60 = .ok (.iload 5, 2) := by decide +kernel
theorem dX12_qTakes_62 : decode cX12_qTakes 62 = .ok (.ifCond .eq 13, 3) := by decide +kernel
theorem dX12_qTakes_65 : decode cX12_qTakes 65 = .ok (.aload_n 0, 1) := by decide +kernel
theorem dX12_qTakes_66 : decode cX12_qTakes 66 = .ok (.dup, 1) := by decide +kernel
theorem dX12_qTakes_67 : decode cX12_qTakes 67 = .ok (.getfield 696, 3) := by decide +kernel
theorem dX12_qTakes_70 : decode cX12_qTakes 70 = .ok (.lconst 1, 1) := by decide +kernel
theorem dX12_qTakes_71 : decode cX12_qTakes 71 = .ok (.ladd, 1) := by decide +kernel
theorem dX12_qTakes_72 : decode cX12_qTakes 72 = .ok (.putfield 696, 3) := by decide +kernel
theorem dX12_qTakes_75 : decode cX12_qTakes 75 = .ok (.iload_n 1, 1) := by decide +kernel
theorem dX12_qTakes_76 : decode cX12_qTakes 76 = .ok (.iconst 3, 1) := by decide +kernel
theorem dX12_qTakes_77 : decode cX12_qTakes 77 = .ok (.if_icmp .ne 13, 3) := by decide +kernel
theorem dX12_qTakes_80 : decode cX12_qTakes 80 = .ok (.aload_n 0, 1) := by decide +kernel
theorem dX12_qTakes_81 : decode cX12_qTakes 81 = .ok (.dup, 1) := by decide +kernel
theorem dX12_qTakes_82 : decode cX12_qTakes 82 = .ok (.getfield 696, 3) := by decide +kernel
theorem dX12_qTakes_85 : decode cX12_qTakes 85 = .ok (.lload_n 2, 1) := by decide +kernel
theorem dX12_qTakes_86 : decode cX12_qTakes 86 = .ok (.ladd, 1) := by decide +kernel
theorem dX12_qTakes_87 : decode cX12_qTakes 87 = .ok (.putfield 696, 3) := by decide +kernel
theorem dX12_qTakes_90 : decode cX12_qTakes 90 = .ok (.iload_n 1, 1) := by decide +kernel
theorem dX12_qTakes_91 : decode cX12_qTakes 91 = .ok (.iconst 3, 1) := by decide +kernel
theorem dX12_qTakes_92 : decode cX12_qTakes 92 = .ok (.if_icmp .le 41, 3) := by decide +kernel
theorem dX12_qTakes_95 : decode cX12_qTakes 95 = .ok (.aload_n 0, 1) := by decide +kernel
theorem dX12_qTakes_96 : decode cX12_qTakes 96 = .ok (.getfield 699, 3) := by decide +kernel
theorem dX12_qTakes_99 : decode cX12_qTakes 99 = .ok (.ifCond .ne 29, 3) := by decide +kernel
theorem dX12_qTakes_102 : decode cX12_qTakes 102 = .ok (.iload_n 1, 1) := by decide +kernel
theorem dX12_qTakes_103 : decode cX12_qTakes 103 = .ok (.iconst 4, 1) := by decide +kernel
theorem dX12_qTakes_104 : decode cX12_qTakes 104 = .ok (.if_icmp .ne 15, 3) := by decide +kernel
theorem dX12_qTakes_107 : decode cX12_qTakes 107 = .ok (.lload_n 2, 1) := by decide +kernel
theorem dX12_qTakes_108 : decode cX12_qTakes 108 = .ok (.aload_n 0, 1) := by decide +kernel
theorem dX12_qTakes_109 : decode cX12_qTakes 109 = .ok (.getfield 696, 3) := by decide +kernel
theorem dX12_qTakes_112 : decode cX12_qTakes 112 = .ok (.lcmp, 1) := by decide +kernel
theorem dX12_qTakes_113 : decode cX12_qTakes 113 = .ok (.ifCond .le 20, 3) := by decide +kernel
theorem dX12_qTakes_116 : decode cX12_qTakes 116 = .ok (.goto 12, 3) := by decide +kernel
theorem dX12_qTakes_119 : decode cX12_qTakes 119 = .ok (.lload_n 2, 1) := by decide +kernel
theorem dX12_qTakes_120 : decode cX12_qTakes 120 = .ok (.aload_n 0, 1) := by decide +kernel
theorem dX12_qTakes_121 : decode cX12_qTakes 121 = .ok (.getfield 696, 3) := by decide +kernel
theorem dX12_qTakes_124 : decode cX12_qTakes 124 = .ok (.lcmp, 1) := by decide +kernel
theorem dX12_qTakes_125 : decode cX12_qTakes 125 = .ok (.ifCond .ge 8, 3) := by decide +kernel
theorem dX12_qTakes_128 : decode cX12_qTakes 128 = .ok (.aload_n 0, 1) := by decide +kernel
theorem dX12_qTakes_129 : decode cX12_qTakes 129 = .ok (.lload_n 2, 1) := by decide +kernel
theorem dX12_qTakes_130 : decode cX12_qTakes 130 = .ok (.putfield 696, 3) := by decide +kernel
theorem dX12_qTakes_133 : decode cX12_qTakes 133 = .ok (.aload_n 0, 1) := by decide +kernel
theorem dX12_qTakes_134 : decode cX12_qTakes 134 = .ok (.iconst 0, 1) := by decide +kernel
theorem dX12_qTakes_135 : decode cX12_qTakes 135 = .ok (.putfield 699, 3) := by decide +kernel
theorem dX12_qTakes_138 : decode cX12_qTakes 138 = .ok (.return_, 1) := by decide +kernel
def X12_qTakes_p133 (sh : Shp) (v0 : Nat) (Q : Mem → Prop) (m : Mem) : Prop :=
  Ob sh v0 12 ∧ bnd (sI m v0 117 (0 : Int32)) (fun m10 => Q m10)
def X12_qTakes_p128 (sh : Shp) (v0 : Nat) (v2 : Int64) (Q : Mem → Prop) (m : Mem) : Prop :=
  Ob sh v0 12 ∧ bnd (sL m v0 116 v2) (fun m12 => X12_qTakes_p133 sh v0 Q m12)
def X12_qTakes_p90 (sh : Shp) (v0 : Nat) (v1 : Int32) (v2 : Int64) (Q : Mem → Prop) (m : Mem) : Prop :=
  if v1 ≤ (3 : Int32) then (X12_qTakes_p133 sh v0 Q m) else (Ob sh v0 12 ∧ (if (m.1 v0 117) = 0 then (if v1 = (4 : Int32) then (if (lg_cmp v2 (m.2.1 v0 116)) ≤ 0 then (X12_qTakes_p133 sh v0 Q m) else (X12_qTakes_p128 sh v0 v2 Q m)) else (if 0 ≤ (lg_cmp v2 (m.2.1 v0 116)) then (X12_qTakes_p133 sh v0 Q m) else (X12_qTakes_p128 sh v0 v2 Q m))) else (X12_qTakes_p128 sh v0 v2 Q m)))
def X12_qTakes_p75 (sh : Shp) (v0 : Nat) (v1 : Int32) (v2 : Int64) (Q : Mem → Prop) (m : Mem) : Prop :=
  if v1 = (3 : Int32) then (Ob sh v0 12 ∧ (bnd (sL m v0 116 ((m.2.1 v0 116) + v2)) (fun m7 => X12_qTakes_p90 sh v0 v1 v2 Q m7))) else (X12_qTakes_p90 sh v0 v1 v2 Q m)
def X12_qTakes_p55 (sh : Shp) (v0 : Nat) (v1 : Int32) (v2 : Int64) (v5 : Int32) (Q : Mem → Prop) (m : Mem) : Prop :=
  if v1 = (2 : Int32) then (if v5 = 0 then (X12_qTakes_p75 sh v0 v1 v2 Q m) else (Ob sh v0 12 ∧ (bnd (sL m v0 116 ((m.2.1 v0 116) + (1 : Int64))) (fun m5 => X12_qTakes_p75 sh v0 v1 v2 Q m5)))) else (X12_qTakes_p75 sh v0 v1 v2 Q m)
def X12_qTakes_p48 (sh : Shp) (v0 : Nat) (v1 : Int32) (v2 : Int64) (v4 : Int32) (v5 : Int32) (Q : Mem → Prop) (m : Mem) : Prop :=
  Ob sh v0 12 ∧ bnd (sL m v0 116 v4.toInt64) (fun m3 => X12_qTakes_p55 sh v0 v1 v2 v5 Q m3)
def X12_qTakes_p38 (sh : Shp) (v0 : Nat) (v1 : Int32) (v2 : Int64) (v4 : Int32) (v5 : Int32) (Q : Mem → Prop) (m : Mem) : Prop :=
  if v1 = (1 : Int32) then (if v5 = 0 then (X12_qTakes_p55 sh v0 v1 v2 v5 Q m) else (X12_qTakes_p48 sh v0 v1 v2 v4 v5 Q m)) else (X12_qTakes_p55 sh v0 v1 v2 v5 Q m)
def X12_qTakes_p16 (sh : Shp) (v0 : Nat) (v1 : Int32) (v2 : Int64) (v4 : Int32) (s0 : Int32) (Q : Mem → Prop) (m : Mem) : Prop :=
  if v1 = 0 then (if s0 = 0 then (X12_qTakes_p38 sh v0 v1 v2 v4 s0 Q m) else (Ob sh v0 12 ∧ (if (lg_cmp (m.2.1 v0 116) (-1 : Int64)) = 0 then (X12_qTakes_p48 sh v0 v1 v2 v4 s0 Q m) else (X12_qTakes_p38 sh v0 v1 v2 v4 s0 Q m)))) else (X12_qTakes_p38 sh v0 v1 v2 v4 s0 Q m)
def X12_qTakes_p15 (sh : Shp) (v0 : Nat) (v1 : Int32) (v2 : Int64) (v4 : Int32) (Q : Mem → Prop) (m : Mem) : Prop :=
  X12_qTakes_p16 sh v0 v1 v2 v4 (0 : Int32) Q m
def wp_X12_qTakes (sh : Shp) (v0 : Nat) (v1 : Int32) (v2 : Int64) (v4 : Int32) (Q : Mem → Prop) (m : Mem) : Prop :=
  if (3 : Int32) ≤ v1 then (X12_qTakes_p15 sh v0 v1 v2 v4 Q m) else (if (lg_cmp v2 (1 : Int64)) = 0 then (X12_qTakes_p16 sh v0 v1 v2 v4 (1 : Int32) Q m) else (X12_qTakes_p15 sh v0 v1 v2 v4 Q m))
abbrev M_X12_qTakes : Mi := (cX12_qTakes, 6, RX12, (none : Option FieldType), "qTakes", 1, 60, 0, 0)
set_option maxHeartbeats 4000000 in
set_option maxRecDepth 100000 in
theorem v_X12_qTakes_p133 {G : Gl} {F : Fr} {sh : Shp} {v0 : Nat} {Q : Mem → Prop} {m : Mem} (h : X12_qTakes_p133 sh v0 Q m) : V G F M_X12_qTakes sh 0 0 (Zv G F sh Q) 133 [(0, .ref (G.1 + v0))] [] m := by
  unfold X12_qTakes_p133 at h
  refine v_aload_n 0 0 dX12_qTakes_133 rfl rfl ?_
  refine v_iconst (0 : Int32) dX12_qTakes_134 (by decide) ?_
  obtain ⟨o9, h⟩ := h
  refine v_pZ 12 117 dX12_qTakes_135 fw_RX12_699 o9 (by decide) ?_
  replace h := bnd_e h
  exact v_vret dX12_qTakes_138 rfl h
set_option maxHeartbeats 4000000 in
set_option maxRecDepth 100000 in
theorem v_X12_qTakes_p128 {G : Gl} {F : Fr} {sh : Shp} {v0 : Nat} {v2 : Int64} {Q : Mem → Prop} {m : Mem} (h : X12_qTakes_p128 sh v0 v2 Q m) : V G F M_X12_qTakes sh 0 0 (Zv G F sh Q) 128 [(0, .ref (G.1 + v0)), (2, .long v2)] [] m := by
  unfold X12_qTakes_p128 at h
  refine v_aload_n 0 0 dX12_qTakes_128 rfl rfl ?_
  refine v_lload_n 2 1 dX12_qTakes_129 rfl rfl ?_
  obtain ⟨o11, h⟩ := h
  refine v_pL 12 116 dX12_qTakes_130 fw_RX12_696 o11 ?_
  replace h := bnd_e h
  refine v_sub [0] rfl ?_
  exact v_X12_qTakes_p133 h
set_option maxHeartbeats 4000000 in
set_option maxRecDepth 100000 in
theorem v_X12_qTakes_p90 {G : Gl} {F : Fr} {sh : Shp} {v0 : Nat} {v1 : Int32} {v2 : Int64} {Q : Mem → Prop} {m : Mem} (h : X12_qTakes_p90 sh v0 v1 v2 Q m) : V G F M_X12_qTakes sh 0 0 (Zv G F sh Q) 90 [(0, .ref (G.1 + v0)), (1, .int v1), (2, .long v2)] [] m := by
  unfold X12_qTakes_p90 at h
  refine v_iload_n 1 1 dX12_qTakes_90 rfl rfl ?_
  refine v_iconst (3 : Int32) dX12_qTakes_91 (by decide) ?_
  refine v_icmp_le 133 dX12_qTakes_92 (by decide) (fun hc => ?_) (fun hc => ?_)
  · replace h := Eq.mp (if_pos hc) h
    refine v_sub [0] rfl ?_
    exact v_X12_qTakes_p133 h
  · replace h := Eq.mp (if_neg hc) h
    refine v_aload_n 0 0 dX12_qTakes_95 rfl rfl ?_
    obtain ⟨o8, h⟩ := h
    refine v_gI 12 117 dX12_qTakes_96 fg_RX12_699 o8 ?_
    refine v_if_ne 128 dX12_qTakes_99 (by decide) (fun hc => ?_) (fun hc => ?_)
    · replace h := Eq.mp (if_neg hc) h
      refine v_sub [0, 2] rfl ?_
      exact v_X12_qTakes_p128 h
    · replace h := Eq.mp (if_pos hc) h
      refine v_iload_n 1 1 dX12_qTakes_102 rfl rfl ?_
      refine v_iconst (4 : Int32) dX12_qTakes_103 (by decide) ?_
      refine v_icmp_ne 119 dX12_qTakes_104 (by decide) (fun hc => ?_) (fun hc => ?_)
      · replace h := Eq.mp (if_neg hc) h
        refine v_lload_n 2 2 dX12_qTakes_119 rfl rfl ?_
        refine v_aload_n 0 0 dX12_qTakes_120 rfl rfl ?_
        refine v_gL 12 116 dX12_qTakes_121 fg_RX12_696 o8 ?_
        refine v_lcmp dX12_qTakes_124 ?_
        refine v_if_ge 133 dX12_qTakes_125 (by decide) (fun hc => ?_) (fun hc => ?_)
        · replace h := Eq.mp (if_pos hc) h
          refine v_sub [0] rfl ?_
          exact v_X12_qTakes_p133 h
        · replace h := Eq.mp (if_neg hc) h
          refine v_sub [0, 2] rfl ?_
          exact v_X12_qTakes_p128 h
      · replace h := Eq.mp (if_pos hc) h
        refine v_lload_n 2 2 dX12_qTakes_107 rfl rfl ?_
        refine v_aload_n 0 0 dX12_qTakes_108 rfl rfl ?_
        refine v_gL 12 116 dX12_qTakes_109 fg_RX12_696 o8 ?_
        refine v_lcmp dX12_qTakes_112 ?_
        refine v_if_le 133 dX12_qTakes_113 (by decide) (fun hc => ?_) (fun hc => ?_)
        · replace h := Eq.mp (if_pos hc) h
          refine v_sub [0] rfl ?_
          exact v_X12_qTakes_p133 h
        · replace h := Eq.mp (if_neg hc) h
          refine v_goto 128 dX12_qTakes_116 (by decide) ?_
          refine v_sub [0, 2] rfl ?_
          exact v_X12_qTakes_p128 h
set_option maxHeartbeats 4000000 in
set_option maxRecDepth 100000 in
theorem v_X12_qTakes_p75 {G : Gl} {F : Fr} {sh : Shp} {v0 : Nat} {v1 : Int32} {v2 : Int64} {Q : Mem → Prop} {m : Mem} (h : X12_qTakes_p75 sh v0 v1 v2 Q m) : V G F M_X12_qTakes sh 0 0 (Zv G F sh Q) 75 [(0, .ref (G.1 + v0)), (1, .int v1), (2, .long v2)] [] m := by
  unfold X12_qTakes_p75 at h
  refine v_iload_n 1 1 dX12_qTakes_75 rfl rfl ?_
  refine v_iconst (3 : Int32) dX12_qTakes_76 (by decide) ?_
  refine v_icmp_ne 90 dX12_qTakes_77 (by decide) (fun hc => ?_) (fun hc => ?_)
  · replace h := Eq.mp (if_neg hc) h
    refine v_sub [0, 1, 2] rfl ?_
    exact v_X12_qTakes_p90 h
  · replace h := Eq.mp (if_pos hc) h
    refine v_aload_n 0 0 dX12_qTakes_80 rfl rfl ?_
    refine v_dup dX12_qTakes_81 rfl ?_
    obtain ⟨o6, h⟩ := h
    refine v_gL 12 116 dX12_qTakes_82 fg_RX12_696 o6 ?_
    refine v_lload_n 2 2 dX12_qTakes_85 rfl rfl ?_
    refine v_ladd dX12_qTakes_86 ?_
    refine v_pL 12 116 dX12_qTakes_87 fw_RX12_696 o6 ?_
    replace h := bnd_e h
    refine v_sub [0, 1, 2] rfl ?_
    exact v_X12_qTakes_p90 h
set_option maxHeartbeats 4000000 in
set_option maxRecDepth 100000 in
theorem v_X12_qTakes_p55 {G : Gl} {F : Fr} {sh : Shp} {v0 : Nat} {v1 : Int32} {v2 : Int64} {v5 : Int32} {Q : Mem → Prop} {m : Mem} (h : X12_qTakes_p55 sh v0 v1 v2 v5 Q m) : V G F M_X12_qTakes sh 0 0 (Zv G F sh Q) 55 [(0, .ref (G.1 + v0)), (1, .int v1), (2, .long v2), (5, .int v5)] [] m := by
  unfold X12_qTakes_p55 at h
  refine v_iload_n 1 1 dX12_qTakes_55 rfl rfl ?_
  refine v_iconst (2 : Int32) dX12_qTakes_56 (by decide) ?_
  refine v_icmp_ne 75 dX12_qTakes_57 (by decide) (fun hc => ?_) (fun hc => ?_)
  · replace h := Eq.mp (if_neg hc) h
    refine v_sub [0, 1, 2] rfl ?_
    exact v_X12_qTakes_p75 h
  · replace h := Eq.mp (if_pos hc) h
    refine v_iload 5 3 dX12_qTakes_60 rfl ?_
    refine v_if_eq 75 dX12_qTakes_62 (by decide) (fun hc => ?_) (fun hc => ?_)
    · replace h := Eq.mp (if_pos hc) h
      refine v_sub [0, 1, 2] rfl ?_
      exact v_X12_qTakes_p75 h
    · replace h := Eq.mp (if_neg hc) h
      refine v_aload_n 0 0 dX12_qTakes_65 rfl rfl ?_
      refine v_dup dX12_qTakes_66 rfl ?_
      obtain ⟨o4, h⟩ := h
      refine v_gL 12 116 dX12_qTakes_67 fg_RX12_696 o4 ?_
      refine v_lconst (1 : Int64) dX12_qTakes_70 (by decide) ?_
      refine v_ladd dX12_qTakes_71 ?_
      refine v_pL 12 116 dX12_qTakes_72 fw_RX12_696 o4 ?_
      replace h := bnd_e h
      refine v_sub [0, 1, 2] rfl ?_
      exact v_X12_qTakes_p75 h
set_option maxHeartbeats 4000000 in
set_option maxRecDepth 100000 in
theorem v_X12_qTakes_p48 {G : Gl} {F : Fr} {sh : Shp} {v0 : Nat} {v1 : Int32} {v2 : Int64} {v4 : Int32} {v5 : Int32} {Q : Mem → Prop} {m : Mem} (h : X12_qTakes_p48 sh v0 v1 v2 v4 v5 Q m) : V G F M_X12_qTakes sh 0 0 (Zv G F sh Q) 48 [(0, .ref (G.1 + v0)), (1, .int v1), (2, .long v2), (4, .int v4), (5, .int v5)] [] m := by
  unfold X12_qTakes_p48 at h
  refine v_aload_n 0 0 dX12_qTakes_48 rfl rfl ?_
  refine v_iload 4 3 dX12_qTakes_49 rfl ?_
  refine v_i2l dX12_qTakes_51 ?_
  obtain ⟨o2, h⟩ := h
  refine v_pL 12 116 dX12_qTakes_52 fw_RX12_696 o2 ?_
  replace h := bnd_e h
  refine v_sub [0, 1, 2, 4] rfl ?_
  exact v_X12_qTakes_p55 h
set_option maxHeartbeats 4000000 in
set_option maxRecDepth 100000 in
theorem v_X12_qTakes_p38 {G : Gl} {F : Fr} {sh : Shp} {v0 : Nat} {v1 : Int32} {v2 : Int64} {v4 : Int32} {v5 : Int32} {Q : Mem → Prop} {m : Mem} (h : X12_qTakes_p38 sh v0 v1 v2 v4 v5 Q m) : V G F M_X12_qTakes sh 0 0 (Zv G F sh Q) 38 [(0, .ref (G.1 + v0)), (1, .int v1), (2, .long v2), (4, .int v4), (5, .int v5)] [] m := by
  unfold X12_qTakes_p38 at h
  refine v_iload_n 1 1 dX12_qTakes_38 rfl rfl ?_
  refine v_iconst (1 : Int32) dX12_qTakes_39 (by decide) ?_
  refine v_icmp_ne 55 dX12_qTakes_40 (by decide) (fun hc => ?_) (fun hc => ?_)
  · replace h := Eq.mp (if_neg hc) h
    refine v_sub [0, 1, 2, 4] rfl ?_
    exact v_X12_qTakes_p55 h
  · replace h := Eq.mp (if_pos hc) h
    refine v_iload 5 4 dX12_qTakes_43 rfl ?_
    refine v_if_eq 55 dX12_qTakes_45 (by decide) (fun hc => ?_) (fun hc => ?_)
    · replace h := Eq.mp (if_pos hc) h
      refine v_sub [0, 1, 2, 4] rfl ?_
      exact v_X12_qTakes_p55 h
    · replace h := Eq.mp (if_neg hc) h
      refine v_sub [0, 1, 2, 3, 4] rfl ?_
      exact v_X12_qTakes_p48 h
set_option maxHeartbeats 4000000 in
set_option maxRecDepth 100000 in
theorem v_X12_qTakes_p16 {G : Gl} {F : Fr} {sh : Shp} {v0 : Nat} {v1 : Int32} {v2 : Int64} {v4 : Int32} {s0 : Int32} {Q : Mem → Prop} {m : Mem} (h : X12_qTakes_p16 sh v0 v1 v2 v4 s0 Q m) : V G F M_X12_qTakes sh 0 0 (Zv G F sh Q) 16 [(0, .ref (G.1 + v0)), (1, .int v1), (2, .long v2), (4, .int v4)] [.int s0] m := by
  unfold X12_qTakes_p16 at h
  refine v_istore (ls' := [(5, .int _), (0, .ref _), (1, .int _), (2, .long _), (4, .int _)]) 5 dX12_qTakes_16 (Nat.le_of_ble_eq_true rfl) rfl ?_
  refine v_iload_n 1 2 dX12_qTakes_18 rfl rfl ?_
  refine v_if_ne 38 dX12_qTakes_19 (by decide) (fun hc => ?_) (fun hc => ?_)
  · replace h := Eq.mp (if_neg hc) h
    refine v_sub [1, 2, 3, 4, 0] rfl ?_
    exact v_X12_qTakes_p38 h
  · replace h := Eq.mp (if_pos hc) h
    refine v_iload 5 0 dX12_qTakes_22 rfl ?_
    refine v_if_eq 38 dX12_qTakes_24 (by decide) (fun hc => ?_) (fun hc => ?_)
    · replace h := Eq.mp (if_pos hc) h
      refine v_sub [1, 2, 3, 4, 0] rfl ?_
      exact v_X12_qTakes_p38 h
    · replace h := Eq.mp (if_neg hc) h
      refine v_aload_n 0 1 dX12_qTakes_27 rfl rfl ?_
      obtain ⟨o1, h⟩ := h
      refine v_gL 12 116 dX12_qTakes_28 fg_RX12_696 o1 ?_
      refine v_ldc2 (-1 : Int64) dX12_qTakes_31 cw_RX12_690 ?_
      refine v_lcmp dX12_qTakes_34 ?_
      refine v_if_eq 48 dX12_qTakes_35 (by decide) (fun hc => ?_) (fun hc => ?_)
      · replace h := Eq.mp (if_pos hc) h
        refine v_sub [1, 2, 3, 4, 0] rfl ?_
        exact v_X12_qTakes_p48 h
      · replace h := Eq.mp (if_neg hc) h
        refine v_sub [1, 2, 3, 4, 0] rfl ?_
        exact v_X12_qTakes_p38 h
set_option maxHeartbeats 4000000 in
set_option maxRecDepth 100000 in
theorem v_X12_qTakes_p15 {G : Gl} {F : Fr} {sh : Shp} {v0 : Nat} {v1 : Int32} {v2 : Int64} {v4 : Int32} {Q : Mem → Prop} {m : Mem} (h : X12_qTakes_p15 sh v0 v1 v2 v4 Q m) : V G F M_X12_qTakes sh 0 0 (Zv G F sh Q) 15 [(0, .ref (G.1 + v0)), (1, .int v1), (2, .long v2), (4, .int v4)] [] m := by
  unfold X12_qTakes_p15 at h
  refine v_iconst (0 : Int32) dX12_qTakes_15 (by decide) ?_
  refine v_sub [0, 1, 2, 3] rfl ?_
  exact v_X12_qTakes_p16 h
set_option maxHeartbeats 4000000 in
set_option maxRecDepth 100000 in
theorem c_X12_qTakes {l : Launch} {G : Gl} {sh : Shp} {v0 : Nat} {v1 : Int32} {v2 : Int64} {v4 : Int32} {Q : Mem → Prop} {m : Mem} (h : wp_X12_qTakes sh v0 v1 v2 v4 Q m) : Cnv l G yX12_qTakes cX12_qTakes 6 (none : Option FieldType) 1 60 sh [.ref (G.1 + v0), .int v1, .long v2, .int v4] m Q := by
  refine con_v (ls := [(0, .ref (G.1 + v0)), (1, .int v1), (2, .long v2), (4, .int v4)]) (by decide +kernel) rfl (Nat.le_of_ble_eq_true rfl) (fun F => ?_)
  show V G F M_X12_qTakes sh 0 0 (Zv G F sh Q) 0 [(0, .ref (G.1 + v0)), (1, .int v1), (2, .long v2), (4, .int v4)] [] m
  unfold wp_X12_qTakes at h
  refine v_iload_n 1 1 dX12_qTakes_0 rfl rfl ?_
  refine v_iconst (3 : Int32) dX12_qTakes_1 (by decide) ?_
  refine v_icmp_ge 15 dX12_qTakes_2 (by decide) (fun hc => ?_) (fun hc => ?_)
  · replace h := Eq.mp (if_pos hc) h
    refine v_sub [0, 1, 2, 3] rfl ?_
    exact v_X12_qTakes_p15 h
  · replace h := Eq.mp (if_neg hc) h
    refine v_lload_n 2 2 dX12_qTakes_5 rfl rfl ?_
    refine v_lconst (1 : Int64) dX12_qTakes_6 (by decide) ?_
    refine v_lcmp dX12_qTakes_7 ?_
    refine v_if_ne 15 dX12_qTakes_8 (by decide) (fun hc => ?_) (fun hc => ?_)
    · replace h := Eq.mp (if_neg hc) h
      refine v_sub [0, 1, 2, 3] rfl ?_
      exact v_X12_qTakes_p15 h
    · replace h := Eq.mp (if_pos hc) h
      refine v_iconst (1 : Int32) dX12_qTakes_11 (by decide) ?_
      refine v_goto 16 dX12_qTakes_12 (by decide) ?_
      refine v_sub [0, 1, 2, 3] rfl ?_
      exact v_X12_qTakes_p16 h
/-! CalledRiverModel.qDropsNots -/
theorem dX12_qDropsNots_0 : decode cX12_qDropsNots 0 = .ok (.aload_n 0, 1) := by decide +kernel
theorem dX12_qDropsNots_1 : decode cX12_qDropsNots 1 = .ok (.getfield 285, 3) := by decide +kernel
theorem dX12_qDropsNots_4 : decode cX12_qDropsNots 4 = .ok (.ifCond .ne 29, 3) := by decide +kernel
theorem dX12_qDropsNots_7 : decode cX12_qDropsNots 7 = .ok (.aload_n 0, 1) := by decide +kernel
theorem dX12_qDropsNots_8 : decode cX12_qDropsNots 8 = .ok (.bipush 12, 2) := by decide +kernel
theorem dX12_qDropsNots_10 : decode cX12_qDropsNots 10 = .ok (.invokevirtual 654, 3) := by decide +kernel
theorem dX12_qDropsNots_13 : decode cX12_qDropsNots 13 = .ok (.ifCond .eq 20, 3) := by decide +kernel
theorem dX12_qDropsNots_16 : decode cX12_qDropsNots 16 = .ok (.aload_n 0, 1) := by decide +kernel
theorem dX12_qDropsNots_17 : decode cX12_qDropsNots 17 = .ok (.dup, 1) := by decide +kernel
theorem dX12_qDropsNots_18 : decode cX12_qDropsNots 18 = .ok (.getfield 378, 3) := by decide +kernel
theorem dX12_qDropsNots_21 : decode cX12_qDropsNots 21 = .ok (.iconst 1, 1) := by decide +kernel
theorem dX12_qDropsNots_22 : decode cX12_qDropsNots 22 = .ok (.isub, 1) := by decide +kernel
theorem dX12_qDropsNots_23 : decode cX12_qDropsNots 23 = .ok (.putfield 378, 3) := by decide +kernel
theorem dX12_qDropsNots_26 : decode cX12_qDropsNots 26 = .ok (.aload_n 0, 1) := by decide +kernel
theorem dX12_qDropsNots_27 : decode cX12_qDropsNots 27 = .ok (.invokevirtual 627, 3) := by decide +kernel
theorem dX12_qDropsNots_30 : decode cX12_qDropsNots 30 = .ok (.goto (-30), 3) := by decide +kernel
theorem dX12_qDropsNots_33 : decode cX12_qDropsNots 33 = .ok (.return_, 1) := by decide +kernel
def X12_qDropsNots_p0b (sh : Shp) (v0 : Nat) (Q : Mem → Prop) (K0 : Mem → Prop) (m : Mem) : Prop :=
  Ob sh v0 12 ∧ (if (m.1 v0 5) = 0 then (wp_X12_qIsOn sh v0 (12 : Int32) (fun r2 m3 => if r2 = 0 then (Q m3) else (bnd (sI m3 v0 112 ((m3.1 v0 112) - (1 : Int32))) (fun m4 => wp_X12_qDrops sh v0 (fun m6 => K0 m6) m4))) m) else (Q m))
def X12_qDropsNots_p0n (sh : Shp) (v0 : Nat) (Q : Mem → Prop) : Nat → Mem → Prop
  | 0 => fun _ => False
  | n + 1 => X12_qDropsNots_p0b sh v0 Q (X12_qDropsNots_p0n sh v0 Q n)
def X12_qDropsNots_p0 (sh : Shp) (v0 : Nat) (Q : Mem → Prop) (m : Mem) : Prop := ∃ n, X12_qDropsNots_p0n sh v0 Q n m
def wp_X12_qDropsNots (sh : Shp) (v0 : Nat) (Q : Mem → Prop) (m : Mem) : Prop :=
  X12_qDropsNots_p0 sh v0 Q m
abbrev M_X12_qDropsNots : Mi := (cX12_qDropsNots, 1, RX12, (none : Option FieldType), "qDropsNots", 3, 101, 0, 0)
set_option maxHeartbeats 4000000 in
set_option maxRecDepth 100000 in
theorem v_X12_qDropsNots_p0b {G : Gl} {F : Fr} {sh : Shp} {v0 : Nat} {Q : Mem → Prop} {K0 : Mem → Prop} {m : Mem} (hK0 : ∀ (m : Mem), K0 m → V G F M_X12_qDropsNots sh 0 0 (Zv G F sh Q) 0 [(0, .ref (G.1 + v0))] [] m) (h : X12_qDropsNots_p0b sh v0 Q K0 m) : V G F M_X12_qDropsNots sh 0 0 (Zv G F sh Q) 0 [(0, .ref (G.1 + v0))] [] m := by
  unfold X12_qDropsNots_p0b at h
  refine v_aload_n 0 0 dX12_qDropsNots_0 rfl rfl ?_
  obtain ⟨o1, h⟩ := h
  refine v_gI 12 5 dX12_qDropsNots_1 fg_RX12_285 o1 ?_
  refine v_if_ne 33 dX12_qDropsNots_4 (by decide) (fun hc => ?_) (fun hc => ?_)
  · replace h := Eq.mp (if_neg hc) h
    exact v_vret dX12_qDropsNots_33 rfl h
  · replace h := Eq.mp (if_pos hc) h
    refine v_aload_n 0 0 dX12_qDropsNots_7 rfl rfl ?_
    refine v_bipush (12 : Int32) dX12_qDropsNots_8 (by decide) ?_
    refine v_cVi [.int _] mv_X12_qIsOn ml_RX12_654 ⟨_, _, rfl⟩ o1 rfl rfl (Nat.le_of_ble_eq_true rfl) (Nat.le_of_ble_eq_true rfl) (Nat.le_of_ble_eq_true rfl) (Nat.zero_le _) (Nat.zero_le _) dX12_qDropsNots_10 (c_X12_qIsOn h) (fun r2 m3 h => ?_)
    refine v_if_eq 33 dX12_qDropsNots_13 (by decide) (fun hc => ?_) (fun hc => ?_)
    · replace h := Eq.mp (if_pos hc) h
      exact v_vret dX12_qDropsNots_33 rfl h
    · replace h := Eq.mp (if_neg hc) h
      refine v_aload_n 0 0 dX12_qDropsNots_16 rfl rfl ?_
      refine v_dup dX12_qDropsNots_17 rfl ?_
      refine v_gI 12 112 dX12_qDropsNots_18 fg_RX12_378 o1 ?_
      refine v_iconst (1 : Int32) dX12_qDropsNots_21 (by decide) ?_
      refine v_isub dX12_qDropsNots_22 ?_
      refine v_pI 12 112 dX12_qDropsNots_23 fw_RX12_378 o1 ?_
      replace h := bnd_e h
      refine v_aload_n 0 0 dX12_qDropsNots_26 rfl rfl ?_
      refine v_cVv [] mv_X12_qDrops ml_RX12_627 ⟨_, _, rfl⟩ o1 rfl rfl (Nat.le_of_ble_eq_true rfl) (Nat.le_of_ble_eq_true rfl) (Nat.le_of_ble_eq_true rfl) (Nat.zero_le _) (Nat.zero_le _) dX12_qDropsNots_27 (c_X12_qDrops h) (fun m6 h => ?_)
      refine v_goto 0 dX12_qDropsNots_30 (by decide) ?_
      refine v_sub [0] rfl ?_
      exact hK0  _ h
set_option maxHeartbeats 4000000 in
set_option maxRecDepth 100000 in
theorem v_X12_qDropsNots_p0 {G : Gl} {F : Fr} {sh : Shp} {v0 : Nat} {Q : Mem → Prop} {m : Mem} (h : X12_qDropsNots_p0 sh v0 Q m) : V G F M_X12_qDropsNots sh 0 0 (Zv G F sh Q) 0 [(0, .ref (G.1 + v0))] [] m := by
  obtain ⟨n, h⟩ := h
  induction n generalizing  m with
  | zero => exact h.elim
  | succ n ih => exact v_X12_qDropsNots_p0b (fun  _ h => ih h) h
set_option maxHeartbeats 4000000 in
set_option maxRecDepth 100000 in
theorem c_X12_qDropsNots {l : Launch} {G : Gl} {sh : Shp} {v0 : Nat} {Q : Mem → Prop} {m : Mem} (h : wp_X12_qDropsNots sh v0 Q m) : Cnv l G yX12_qDropsNots cX12_qDropsNots 1 (none : Option FieldType) 3 101 sh [.ref (G.1 + v0)] m Q := by
  refine con_v (ls := [(0, .ref (G.1 + v0))]) (by decide +kernel) rfl (Nat.le_of_ble_eq_true rfl) (fun F => ?_)
  show V G F M_X12_qDropsNots sh 0 0 (Zv G F sh Q) 0 [(0, .ref (G.1 + v0))] [] m
  unfold wp_X12_qDropsNots at h
  refine v_sub [0] rfl ?_
  exact v_X12_qDropsNots_p0 h
/-! CalledRiverModel.qFact -/
theorem dX12_qFact_0 : decode cX12_qFact 0 = .ok (.aload_n 0, 1) := by decide +kernel
theorem dX12_qFact_1 : decode cX12_qFact 1 = .ok (.aload_n 0, 1) := by decide +kernel
theorem dX12_qFact_2 : decode cX12_qFact 2 = .ok (.getfield 216, 3) := by decide +kernel
theorem dX12_qFact_5 : decode cX12_qFact 5 = .ok (.invokevirtual 312, 3) := by decide +kernel
theorem dX12_qFact_8 : decode cX12_qFact 8 = .ok (.ifCond .eq 10, 3) := by decide +kernel
theorem dX12_qFact_11 : decode cX12_qFact 11 = .ok (.aload_n 0, 1) := by decide +kernel
theorem dX12_qFact_12 : decode cX12_qFact 12 = .ok (.bipush 13, 2) := by decide +kernel
theorem dX12_qFact_14 : decode cX12_qFact 14 = .ok (.invokevirtual 621, 3) := by decide +kernel
theorem dX12_qFact_17 : decode cX12_qFact 17 = .ok (.return_, 1) := by decide +kernel
theorem dX12_qFact_18 : decode cX12_qFact 18 = .ok (.aload_n 0, 1) := by decide +kernel
theorem dX12_qFact_19 : decode cX12_qFact 19 = .ok (.invokevirtual 384, 3) := by decide +kernel
theorem dX12_qFact_22 : decode cX12_qFact 22 = .ok (.aload_n 0, 1) := by decide +kernel
theorem dX12_qFact_23 : decode cX12_qFact 23 = .ok (.getfield 285, 3) := by decide +kernel
theorem dX12_qFact_26 : decode cX12_qFact 26 = .ok (.ifCond .eq 4, 3) := by decide +kernel
theorem dX12_qFact_29 : decode cX12_qFact 29 = .ok (.return_, 1) := by decide +kernel
theorem dX12_qFact_30 : decode cX12_qFact 30 = .ok (.aload_n 0, 1) := by decide +kernel
theorem dX12_qFact_31 : decode cX12_qFact 31 = .ok (.invokevirtual 297, 3) := by decide +kernel
theorem dX12_qFact_34 : decode cX12_qFact 34 = .ok (.istore_n 1, 1) := by decide +kernel
theorem dX12_qFact_35 : decode cX12_qFact 35 = .ok (.iload_n 1, 1) := by decide +kernel
theorem dX12_qFact_36 : decode cX12_qFact 36 = .ok (.bipush 60, 2) := by decide +kernel
theorem dX12_qFact_38 : decode cX12_qFact 38 = .ok (.if_icmp .eq 25, 3) := by decide +kernel
theorem dX12_qFact_41 : decode cX12_qFact 41 = .ok (.iload_n 1, 1) := by decide +kernel
theorem dX12_qFact_42 : decode cX12_qFact 42 = .ok (.bipush 62, 2) := by decide +kernel
theorem dX12_qFact_44 : decode cX12_qFact 44 = .ok (.if_icmp .eq 19, 3) := by decide +kernel
theorem dX12_qFact_47 : decode cX12_qFact 47 = .ok (.iload_n 1, 1) := by decide +kernel
theorem dX12_qFact_48 : decode cX12_qFact 48 = .ok (.bipush 61, 2) := by decide +kernel
theorem dX12_qFact_50 : decode cX12_qFact 50 = .ok (.if_icmp .eq 13, 3) := by decide +kernel
theorem dX12_qFact_53 : decode cX12_qFact 53 = .ok (.aload_n 0, 1) := by decide +kernel
theorem dX12_qFact_54 : decode cX12_qFact 54 = .ok (.iconst 1, 1) := by decide +kernel
theorem dX12_qFact_55 : decode cX12_qFact 55 = .ok (.aload_n 0, 1) := by decide +kernel
theorem dX12_qFact_56 : decode cX12_qFact 56 = .ok (.getfield 291, 3) := by decide +kernel
theorem dX12_qFact_59 : decode cX12_qFact 59 = .ok (.invokevirtual 315, 3) := by decide +kernel
theorem dX12_qFact_62 : decode cX12_qFact 62 = .ok (.return_, 1) := by decide +kernel
theorem dX12_qFact_63 : decode cX12_qFact 63 = .ok (.aload_n 0, 1) := by decide +kernel
theorem dX12_qFact_64 : decode cX12_qFact 64 = .ok (.dup, 1) := by decide +kernel
theorem dX12_qFact_65 : decode cX12_qFact 65 = .ok (.getfield 291, 3) := by decide +kernel
theorem dX12_qFact_68 : decode cX12_qFact 68 = .ok (.iconst 1, 1) := by decide +kernel
theorem dX12_qFact_69 : decode cX12_qFact 69 = .ok (.iadd, 1) := by decide +kernel
theorem dX12_qFact_70 : decode cX12_qFact 70 = .ok (.putfield 291, 3) := by decide +kernel
theorem dX12_qFact_73 : decode cX12_qFact 73 = .ok (.aload_n 0, 1) := by decide +kernel
theorem dX12_qFact_74 : decode cX12_qFact 74 = .ok (.invokevirtual 384, 3) := by decide +kernel
theorem dX12_qFact_77 : decode cX12_qFact 77 = .ok (.aload_n 0, 1) := by decide +kernel
theorem dX12_qFact_78 : decode cX12_qFact 78 = .ok (.iload_n 1, 1) := by decide +kernel
theorem dX12_qFact_79 : decode cX12_qFact 79 = .ok (.bipush 60, 2) := by decide +kernel
theorem dX12_qFact_81 : decode cX12_qFact 81 = .ok (.if_icmp .ne 8, 3) := by decide +kernel
theorem dX12_qFact_84 : decode cX12_qFact 84 = .ok (.bipush 7, 2) := by decide +kernel
theorem dX12_qFact_86 : decode cX12_qFact 86 = .ok (.goto 16, 3) := by decide +kernel
theorem dX12_qFact_89 : decode cX12_qFact 89 = .ok (.iload_n 1, 1) := by decide +kernel
theorem dX12_qFact_90 : decode cX12_qFact 90 = .ok (.bipush 62, 2) := by decide +kernel
theorem dX12_qFact_92 : decode cX12_qFact 92 = .ok (.if_icmp .ne 8, 3) := by decide +kernel
theorem dX12_qFact_95 : decode cX12_qFact 95 = .ok (.bipush 8, 2) := by decide +kernel
theorem dX12_qFact_97 : decode cX12_qFact 97 = .ok (.goto 5, 3) := by decide +kernel
theorem dX12_qFact_100 : decode cX12_qFact 100 = .ok (.bipush 9, 2) := by decide +kernel
theorem dX12_qFact_102 : decode cX12_qFact 102 = .ok (.invokevirtual 621, 3) := by decide +kernel
theorem dX12_qFact_105 : decode cX12_qFact 105 = .ok (.return_, 1) := by decide +kernel
def X12_qFact_p102 (sh : Shp) (s1 : Int32) (s0 : Nat) (Q : Mem → Prop) (m : Mem) : Prop :=
  Ob sh s0 12 ∧ wp_X12_qCode sh s0 s1 (fun m19 => Q m19) m
def X12_qFact_p63 (sh : Shp) (v0 : Nat) (v1 : Int32) (Q : Mem → Prop) (m : Mem) : Prop :=
  Ob sh v0 12 ∧ (bnd (sI m v0 2 ((m.1 v0 2) + (1 : Int32))) (fun m15 => wp_X12_qSums sh v0 (fun m17 => if v1 = (60 : Int32) then (X12_qFact_p102 sh (7 : Int32) v0 Q m17) else (if v1 = (62 : Int32) then (X12_qFact_p102 sh (8 : Int32) v0 Q m17) else (X12_qFact_p102 sh (9 : Int32) v0 Q m17))) m15))
def wp_X12_qFact (sh : Shp) (v0 : Nat) (Q : Mem → Prop) (m : Mem) : Prop :=
  Ob sh v0 12 ∧ ∃ b2 : Nat, m.2.2 v0 90 = some b2 ∧ (wp_X12_takes sh v0 b2 (fun r4 m5 => if r4 = 0 then (wp_X12_qSums sh v0 (fun m7 => if (m7.1 v0 5) = 0 then (wp_X12_look sh v0 (fun r8 m9 => if r8 = (60 : Int32) then (X12_qFact_p63 sh v0 r8 Q m9) else (if r8 = (62 : Int32) then (X12_qFact_p63 sh v0 r8 Q m9) else (if r8 = (61 : Int32) then (X12_qFact_p63 sh v0 r8 Q m9) else (wp_X12_fail sh v0 (1 : Int32) (m9.1 v0 2) (fun m11 => Q m11) m9)))) m7) else (Q m7)) m5) else (wp_X12_qCode sh v0 (13 : Int32) (fun m13 => Q m13) m5)) m)
abbrev M_X12_qFact : Mi := (cX12_qFact, 2, RX12, (none : Option FieldType), "qFact", 8, 213, 0, 0)
set_option maxHeartbeats 4000000 in
set_option maxRecDepth 100000 in
theorem v_X12_qFact_p102 {G : Gl} {F : Fr} {sh : Shp} {s0 : Nat} {s1 : Int32} {Q : Mem → Prop} {m : Mem} (h : X12_qFact_p102 sh s1 s0 Q m) : V G F M_X12_qFact sh 0 0 (Zv G F sh Q) 102 [] [.int s1, .ref (G.1 + s0)] m := by
  unfold X12_qFact_p102 at h
  obtain ⟨o20, h⟩ := h
  refine v_cVv [.int _] mv_X12_qCode ml_RX12_621 ⟨_, _, rfl⟩ o20 rfl rfl (Nat.le_of_ble_eq_true rfl) (Nat.le_of_ble_eq_true rfl) (Nat.le_of_ble_eq_true rfl) (Nat.zero_le _) (Nat.zero_le _) dX12_qFact_102 (c_X12_qCode h) (fun m19 h => ?_)
  exact v_vret dX12_qFact_105 rfl h
set_option maxHeartbeats 4000000 in
set_option maxRecDepth 100000 in
theorem v_X12_qFact_p63 {G : Gl} {F : Fr} {sh : Shp} {v0 : Nat} {v1 : Int32} {Q : Mem → Prop} {m : Mem} (h : X12_qFact_p63 sh v0 v1 Q m) : V G F M_X12_qFact sh 0 0 (Zv G F sh Q) 63 [(0, .ref (G.1 + v0)), (1, .int v1)] [] m := by
  unfold X12_qFact_p63 at h
  refine v_aload_n 0 0 dX12_qFact_63 rfl rfl ?_
  refine v_dup dX12_qFact_64 rfl ?_
  obtain ⟨o14, h⟩ := h
  refine v_gI 12 2 dX12_qFact_65 fg_RX12_291 o14 ?_
  refine v_iconst (1 : Int32) dX12_qFact_68 (by decide) ?_
  refine v_iadd dX12_qFact_69 ?_
  refine v_pI 12 2 dX12_qFact_70 fw_RX12_291 o14 ?_
  replace h := bnd_e h
  refine v_aload_n 0 0 dX12_qFact_73 rfl rfl ?_
  refine v_cVv [] mv_X12_qSums ml_RX12_384 ⟨_, _, rfl⟩ o14 rfl rfl (Nat.le_of_ble_eq_true rfl) (Nat.le_of_ble_eq_true rfl) (Nat.le_of_ble_eq_true rfl) (Nat.zero_le _) (Nat.zero_le _) dX12_qFact_74 (c_X12_qSums h) (fun m17 h => ?_)
  refine v_aload_n 0 0 dX12_qFact_77 rfl rfl ?_
  refine v_iload_n 1 1 dX12_qFact_78 rfl rfl ?_
  refine v_bipush (60 : Int32) dX12_qFact_79 (by decide) ?_
  refine v_icmp_ne 89 dX12_qFact_81 (by decide) (fun hc => ?_) (fun hc => ?_)
  · replace h := Eq.mp (if_neg hc) h
    refine v_iload_n 1 1 dX12_qFact_89 rfl rfl ?_
    refine v_bipush (62 : Int32) dX12_qFact_90 (by decide) ?_
    refine v_icmp_ne 100 dX12_qFact_92 (by decide) (fun hc => ?_) (fun hc => ?_)
    · replace h := Eq.mp (if_neg hc) h
      refine v_bipush (9 : Int32) dX12_qFact_100 (by decide) ?_
      refine v_sub [] rfl ?_
      exact v_X12_qFact_p102 h
    · replace h := Eq.mp (if_pos hc) h
      refine v_bipush (8 : Int32) dX12_qFact_95 (by decide) ?_
      refine v_goto 102 dX12_qFact_97 (by decide) ?_
      refine v_sub [] rfl ?_
      exact v_X12_qFact_p102 h
  · replace h := Eq.mp (if_pos hc) h
    refine v_bipush (7 : Int32) dX12_qFact_84 (by decide) ?_
    refine v_goto 102 dX12_qFact_86 (by decide) ?_
    refine v_sub [] rfl ?_
    exact v_X12_qFact_p102 h
set_option maxHeartbeats 4000000 in
set_option maxRecDepth 100000 in
theorem c_X12_qFact {l : Launch} {G : Gl} {sh : Shp} {v0 : Nat} {Q : Mem → Prop} {m : Mem} (h : wp_X12_qFact sh v0 Q m) : Cnv l G yX12_qFact cX12_qFact 2 (none : Option FieldType) 8 213 sh [.ref (G.1 + v0)] m Q := by
  refine con_v (ls := [(0, .ref (G.1 + v0))]) (by decide +kernel) rfl (Nat.le_of_ble_eq_true rfl) (fun F => ?_)
  show V G F M_X12_qFact sh 0 0 (Zv G F sh Q) 0 [(0, .ref (G.1 + v0))] [] m
  unfold wp_X12_qFact at h
  refine v_aload_n 0 0 dX12_qFact_0 rfl rfl ?_
  refine v_aload_n 0 0 dX12_qFact_1 rfl rfl ?_
  obtain ⟨o1, h⟩ := h
  obtain ⟨b2, e3, h⟩ := h
  refine v_gR 12 90 dX12_qFact_2 fg_RX12_216 o1 e3 ?_
  refine v_cVi [.ref _] mv_X12_takes ml_RX12_312 ⟨_, _, rfl⟩ o1 rfl rfl (Nat.le_of_ble_eq_true rfl) (Nat.le_of_ble_eq_true rfl) (Nat.le_of_ble_eq_true rfl) (Nat.zero_le _) (Nat.zero_le _) dX12_qFact_5 (c_X12_takes h) (fun r4 m5 h => ?_)
  refine v_if_eq 18 dX12_qFact_8 (by decide) (fun hc => ?_) (fun hc => ?_)
  · replace h := Eq.mp (if_pos hc) h
    refine v_aload_n 0 0 dX12_qFact_18 rfl rfl ?_
    refine v_cVv [] mv_X12_qSums ml_RX12_384 ⟨_, _, rfl⟩ o1 rfl rfl (Nat.le_of_ble_eq_true rfl) (Nat.le_of_ble_eq_true rfl) (Nat.le_of_ble_eq_true rfl) (Nat.zero_le _) (Nat.zero_le _) dX12_qFact_19 (c_X12_qSums h) (fun m7 h => ?_)
    refine v_aload_n 0 0 dX12_qFact_22 rfl rfl ?_
    refine v_gI 12 5 dX12_qFact_23 fg_RX12_285 o1 ?_
    refine v_if_eq 30 dX12_qFact_26 (by decide) (fun hc => ?_) (fun hc => ?_)
    · replace h := Eq.mp (if_pos hc) h
      refine v_aload_n 0 0 dX12_qFact_30 rfl rfl ?_
      refine v_cVi [] mv_X12_look ml_RX12_297 ⟨_, _, rfl⟩ o1 rfl rfl (Nat.le_of_ble_eq_true rfl) (Nat.le_of_ble_eq_true rfl) (Nat.le_of_ble_eq_true rfl) (Nat.zero_le _) (Nat.zero_le _) dX12_qFact_31 (c_X12_look h) (fun r8 m9 h => ?_)
      refine v_istore_n (ls' := [(1, .int _), (0, .ref _)]) 1 dX12_qFact_34 rfl (Nat.le_of_ble_eq_true rfl) rfl ?_
      refine v_iload_n 1 0 dX12_qFact_35 rfl rfl ?_
      refine v_bipush (60 : Int32) dX12_qFact_36 (by decide) ?_
      refine v_icmp_eq 63 dX12_qFact_38 (by decide) (fun hc => ?_) (fun hc => ?_)
      · replace h := Eq.mp (if_pos hc) h
        refine v_sub [1, 0] rfl ?_
        exact v_X12_qFact_p63 h
      · replace h := Eq.mp (if_neg hc) h
        refine v_iload_n 1 0 dX12_qFact_41 rfl rfl ?_
        refine v_bipush (62 : Int32) dX12_qFact_42 (by decide) ?_
        refine v_icmp_eq 63 dX12_qFact_44 (by decide) (fun hc => ?_) (fun hc => ?_)
        · replace h := Eq.mp (if_pos hc) h
          refine v_sub [1, 0] rfl ?_
          exact v_X12_qFact_p63 h
        · replace h := Eq.mp (if_neg hc) h
          refine v_iload_n 1 0 dX12_qFact_47 rfl rfl ?_
          refine v_bipush (61 : Int32) dX12_qFact_48 (by decide) ?_
          refine v_icmp_eq 63 dX12_qFact_50 (by decide) (fun hc => ?_) (fun hc => ?_)
          · replace h := Eq.mp (if_pos hc) h
            refine v_sub [1, 0] rfl ?_
            exact v_X12_qFact_p63 h
          · replace h := Eq.mp (if_neg hc) h
            refine v_aload_n 0 1 dX12_qFact_53 rfl rfl ?_
            refine v_iconst (1 : Int32) dX12_qFact_54 (by decide) ?_
            refine v_aload_n 0 1 dX12_qFact_55 rfl rfl ?_
            refine v_gI 12 2 dX12_qFact_56 fg_RX12_291 o1 ?_
            refine v_cVv [.int _, .int _] mv_X12_fail ml_RX12_315 ⟨_, _, rfl⟩ o1 rfl rfl (Nat.le_of_ble_eq_true rfl) (Nat.le_of_ble_eq_true rfl) (Nat.le_of_ble_eq_true rfl) (Nat.zero_le _) (Nat.zero_le _) dX12_qFact_59 (c_X12_fail h) (fun m11 h => ?_)
            exact v_vret dX12_qFact_62 rfl h
    · replace h := Eq.mp (if_neg hc) h
      exact v_vret dX12_qFact_29 rfl h
  · replace h := Eq.mp (if_neg hc) h
    refine v_aload_n 0 0 dX12_qFact_11 rfl rfl ?_
    refine v_bipush (13 : Int32) dX12_qFact_12 (by decide) ?_
    refine v_cVv [.int _] mv_X12_qCode ml_RX12_621 ⟨_, _, rfl⟩ o1 rfl rfl (Nat.le_of_ble_eq_true rfl) (Nat.le_of_ble_eq_true rfl) (Nat.le_of_ble_eq_true rfl) (Nat.zero_le _) (Nat.zero_le _) dX12_qFact_14 (c_X12_qCode h) (fun m13 h => ?_)
    exact v_vret dX12_qFact_17 rfl h
/-! CalledRiverModel.qHasSquare -/
theorem dX12_qHasSquare_0 : decode cX12_qHasSquare 0 = .ok (.iconst 0, 1) := by decide +kernel
theorem dX12_qHasSquare_1 : decode cX12_qHasSquare 1 = .ok (.istore_n 1, 1) := by decide +kernel
theorem dX12_qHasSquare_2 : decode cX12_qHasSquare 2 = .ok (.iload_n 1, 1) := by decide +kernel
theorem dX12_qHasSquare_3 : decode cX12_qHasSquare 3 = .ok (.aload_n 0, 1) := by decide +kernel
theorem dX12_qHasSquare_4 : decode cX12_qHasSquare 4 = .ok (.getfield 375, 3) := by decide +kernel
theorem dX12_qHasSquare_7 : decode cX12_qHasSquare 7 = .ok (.if_icmp .ge 22, 3) := by decide +kernel
theorem dX12_qHasSquare_10 : decode cX12_qHasSquare 10 = .ok (.aload_n 0, 1) := by decide +kernel
theorem dX12_qHasSquare_11 : decode cX12_qHasSquare 11 = .ok (.getfield 273, 3) := by decide +kernel
theorem dX12_qHasSquare_14 : decode cX12_qHasSquare 14 = .ok (.iload_n 1, 1) := by decide +kernel
theorem dX12_qHasSquare_15 : decode cX12_qHasSquare 15 = .ok (.iaload, 1) := by decide +kernel
theorem dX12_qHasSquare_16 : decode cX12_qHasSquare 16 = .ok (.bipush 25, 2) := by decide +kernel
theorem dX12_qHasSquare_18 : decode cX12_qHasSquare 18 = .ok (.if_icmp .ne 5, 3) := by decide +kernel
theorem dX12_qHasSquare_21 : decode cX12_qHasSquare 21 = .ok (.iconst 1, 1) := by decide +kernel
theorem dX12_qHasSquare_22 : decode cX12_qHasSquare 22 = .ok (.ireturn, 1) := by decide +kernel
theorem dX12_qHasSquare_23 : decode cX12_qHasSquare 23 = .ok (.iinc 1 1, 3) := by decide +kernel
theorem dX12_qHasSquare_26 : decode cX12_qHasSquare 26 = .ok (.goto (-24), 3) := by decide +kernel
theorem dX12_qHasSquare_29 : decode cX12_qHasSquare 29 = .ok (.iconst 0, 1) := by decide +kernel
theorem dX12_qHasSquare_30 : decode cX12_qHasSquare 30 = .ok (.ireturn, 1) := by decide +kernel
def X12_qHasSquare_p2b (sh : Shp) (v0 : Nat) (Q : Int32 → Mem → Prop) (K2 : Int32 → Mem → Prop) (v1 : Int32) (m : Mem) : Prop :=
  Ob sh v0 12 ∧ (if (m.1 v0 111) ≤ v1 then (Q (0 : Int32) m) else (∃ b2 : Nat, m.2.2 v0 110 = some b2 ∧ (Ix sh b2 100 v1 ∧ (if (m.1 b2 v1.toNatClampNeg) = (25 : Int32) then (Q (1 : Int32) m) else (K2 (v1 + (1 : Int32)) m)))))
def X12_qHasSquare_p2n (sh : Shp) (v0 : Nat) (Q : Int32 → Mem → Prop) : Nat → Int32 → Mem → Prop
  | 0 => fun _ _ => False
  | n + 1 => X12_qHasSquare_p2b sh v0 Q (X12_qHasSquare_p2n sh v0 Q n)
def X12_qHasSquare_p2 (sh : Shp) (v0 : Nat) (Q : Int32 → Mem → Prop) (v1 : Int32) (m : Mem) : Prop := ∃ n, X12_qHasSquare_p2n sh v0 Q n v1 m
def wp_X12_qHasSquare (sh : Shp) (v0 : Nat) (Q : Int32 → Mem → Prop) (m : Mem) : Prop :=
  X12_qHasSquare_p2 sh v0 Q (0 : Int32) m
abbrev M_X12_qHasSquare : Mi := (cX12_qHasSquare, 2, RX12, (Option.some FieldType.boolean), "qHasSquare", 1, 60, 0, 0)
set_option maxHeartbeats 4000000 in
set_option maxRecDepth 100000 in
theorem v_X12_qHasSquare_p2b {G : Gl} {F : Fr} {sh : Shp} {v0 : Nat} {v1 : Int32} {Q : Int32 → Mem → Prop} {K2 : Int32 → Mem → Prop} {m : Mem} (hK2 : ∀ (x1 : Int32) (m : Mem), K2 x1 m → V G F M_X12_qHasSquare sh 0 0 (Zi G F sh Q) 2 [(0, .ref (G.1 + v0)), (1, .int x1)] [] m) (h : X12_qHasSquare_p2b sh v0 Q K2 v1 m) : V G F M_X12_qHasSquare sh 0 0 (Zi G F sh Q) 2 [(0, .ref (G.1 + v0)), (1, .int v1)] [] m := by
  unfold X12_qHasSquare_p2b at h
  refine v_iload_n 1 1 dX12_qHasSquare_2 rfl rfl ?_
  refine v_aload_n 0 0 dX12_qHasSquare_3 rfl rfl ?_
  obtain ⟨o1, h⟩ := h
  refine v_gI 12 111 dX12_qHasSquare_4 fg_RX12_375 o1 ?_
  refine v_icmp_ge 29 dX12_qHasSquare_7 (by decide) (fun hc => ?_) (fun hc => ?_)
  · replace h := Eq.mp (if_pos hc) h
    refine v_iconst (0 : Int32) dX12_qHasSquare_29 (by decide) ?_
    exact v_iret dX12_qHasSquare_30 rfl (by decide) h
  · replace h := Eq.mp (if_neg hc) h
    refine v_aload_n 0 0 dX12_qHasSquare_10 rfl rfl ?_
    obtain ⟨b2, e3, h⟩ := h
    refine v_gR 12 110 dX12_qHasSquare_11 fg_RX12_273 o1 e3 ?_
    refine v_iload_n 1 1 dX12_qHasSquare_14 rfl rfl ?_
    obtain ⟨i4, h⟩ := h
    refine v_iald dX12_qHasSquare_15 i4 ?_
    refine v_bipush (25 : Int32) dX12_qHasSquare_16 (by decide) ?_
    refine v_icmp_ne 23 dX12_qHasSquare_18 (by decide) (fun hc => ?_) (fun hc => ?_)
    · replace h := Eq.mp (if_neg hc) h
      refine v_iinc (ls' := [(1, .int _), (0, .ref _)]) 1 1 dX12_qHasSquare_23 rfl (congrArg (HAdd.hAdd _) (by decide : Int32.ofInt (1) = (1 : Int32))) (Nat.le_of_ble_eq_true rfl) rfl ?_
      refine v_goto 2 dX12_qHasSquare_26 (by decide) ?_
      refine v_sub [1, 0] rfl ?_
      exact hK2 _ _ h
    · replace h := Eq.mp (if_pos hc) h
      refine v_iconst (1 : Int32) dX12_qHasSquare_21 (by decide) ?_
      exact v_iret dX12_qHasSquare_22 rfl (by decide) h
set_option maxHeartbeats 4000000 in
set_option maxRecDepth 100000 in
theorem v_X12_qHasSquare_p2 {G : Gl} {F : Fr} {sh : Shp} {v0 : Nat} {v1 : Int32} {Q : Int32 → Mem → Prop} {m : Mem} (h : X12_qHasSquare_p2 sh v0 Q v1 m) : V G F M_X12_qHasSquare sh 0 0 (Zi G F sh Q) 2 [(0, .ref (G.1 + v0)), (1, .int v1)] [] m := by
  obtain ⟨n, h⟩ := h
  induction n generalizing v1 m with
  | zero => exact h.elim
  | succ n ih => exact v_X12_qHasSquare_p2b (fun _ _ h => ih h) h
set_option maxHeartbeats 4000000 in
set_option maxRecDepth 100000 in
theorem c_X12_qHasSquare {l : Launch} {G : Gl} {sh : Shp} {v0 : Nat} {Q : Int32 → Mem → Prop} {m : Mem} (h : wp_X12_qHasSquare sh v0 Q m) : Cni l G yX12_qHasSquare cX12_qHasSquare 2 (Option.some FieldType.boolean) 1 60 sh [.ref (G.1 + v0)] m Q := by
  refine con_i (ls := [(0, .ref (G.1 + v0))]) (by decide +kernel) rfl (Nat.le_of_ble_eq_true rfl) (fun F => ?_)
  show V G F M_X12_qHasSquare sh 0 0 (Zi G F sh Q) 0 [(0, .ref (G.1 + v0))] [] m
  unfold wp_X12_qHasSquare at h
  refine v_iconst (0 : Int32) dX12_qHasSquare_0 (by decide) ?_
  refine v_istore_n (ls' := [(1, .int _), (0, .ref _)]) 1 dX12_qHasSquare_1 rfl (Nat.le_of_ble_eq_true rfl) rfl ?_
  refine v_sub [1, 0] rfl ?_
  exact v_X12_qHasSquare_p2 h
/-! CalledRiverModel.qGoesOnTest -/
theorem dX12_qGoesOnTest_0 : decode cX12_qGoesOnTest 0 = .ok (.aload_n 0, 1) := by decide +kernel
theorem dX12_qGoesOnTest_1 : decode cX12_qGoesOnTest 1 = .ok (.getfield 285, 3) := by decide +kernel
theorem dX12_qGoesOnTest_4 : decode cX12_qGoesOnTest 4 = .ok (.ifCond .ne 72, 3) := by decide +kernel
theorem dX12_qGoesOnTest_7 : decode cX12_qGoesOnTest 7 = .ok (.aload_n 0, 1) := by decide +kernel
theorem dX12_qGoesOnTest_8 : decode cX12_qGoesOnTest 8 = .ok (.invokevirtual 297, 3) := by decide +kernel
theorem dX12_qGoesOnTest_11 : decode cX12_qGoesOnTest 11 = .ok (.bipush 93, 2) := by decide +kernel
theorem dX12_qGoesOnTest_13 : decode cX12_qGoesOnTest 13 = .ok (.if_icmp .ne 63, 3) := by decide +kernel
theorem dX12_qGoesOnTest_16 : decode cX12_qGoesOnTest 16 = .ok (.aload_n 0, 1) := by decide +kernel
theorem dX12_qGoesOnTest_17 : decode cX12_qGoesOnTest 17 = .ok (.invokevirtual 672, 3) := by decide +kernel
theorem dX12_qGoesOnTest_20 : decode cX12_qGoesOnTest 20 = .ok (.ifCond .eq 56, 3) := by decide +kernel
theorem dX12_qGoesOnTest_23 : decode cX12_qGoesOnTest 23 = .ok (.aload_n 0, 1) := by decide +kernel
theorem dX12_qGoesOnTest_24 : decode cX12_qGoesOnTest 24 = .ok (.dup, 1) := by decide +kernel
theorem dX12_qGoesOnTest_25 : decode cX12_qGoesOnTest 25 = .ok (.getfield 291, 3) := by decide +kernel
theorem dX12_qGoesOnTest_28 : decode cX12_qGoesOnTest 28 = .ok (.iconst 1, 1) := by decide +kernel
theorem dX12_qGoesOnTest_29 : decode cX12_qGoesOnTest 29 = .ok (.iadd, 1) := by decide +kernel
theorem dX12_qGoesOnTest_30 : decode cX12_qGoesOnTest 30 = .ok (.putfield 291, 3) := by decide +kernel
theorem dX12_qGoesOnTest_33 : decode cX12_qGoesOnTest 33 = .ok (.aload_n 0, 1) := by decide +kernel
theorem dX12_qGoesOnTest_34 : decode cX12_qGoesOnTest 34 = .ok (.bipush 25, 2) := by decide +kernel
theorem dX12_qGoesOnTest_36 : decode cX12_qGoesOnTest 36 = .ok (.invokevirtual 654, 3) := by decide +kernel
theorem dX12_qGoesOnTest_39 : decode cX12_qGoesOnTest 39 = .ok (.ifCond .ne 10, 3) := by decide +kernel
theorem dX12_qGoesOnTest_42 : decode cX12_qGoesOnTest 42 = .ok (.aload_n 0, 1) := by decide +kernel
theorem dX12_qGoesOnTest_43 : decode cX12_qGoesOnTest 43 = .ok (.invokevirtual 627, 3) := by decide +kernel
theorem dX12_qGoesOnTest_46 : decode cX12_qGoesOnTest 46 = .ok (.goto (-13), 3) := by decide +kernel
theorem dX12_qGoesOnTest_49 : decode cX12_qGoesOnTest 49 = .ok (.aload_n 0, 1) := by decide +kernel
theorem dX12_qGoesOnTest_50 : decode cX12_qGoesOnTest 50 = .ok (.dup, 1) := by decide +kernel
theorem dX12_qGoesOnTest_51 : decode cX12_qGoesOnTest 51 = .ok (.getfield 375, 3) := by decide +kernel
theorem dX12_qGoesOnTest_54 : decode cX12_qGoesOnTest 54 = .ok (.iconst 1, 1) := by decide +kernel
theorem dX12_qGoesOnTest_55 : decode cX12_qGoesOnTest 55 = .ok (.isub, 1) := by decide +kernel
theorem dX12_qGoesOnTest_56 : decode cX12_qGoesOnTest 56 = .ok (.putfield 375, 3) := by decide +kernel
theorem dX12_qGoesOnTest_59 : decode cX12_qGoesOnTest 59 = .ok (.aload_n 0, 1) := by decide +kernel
theorem dX12_qGoesOnTest_60 : decode cX12_qGoesOnTest 60 = .ok (.dup, 1) := by decide +kernel
theorem dX12_qGoesOnTest_61 : decode cX12_qGoesOnTest 61 = .ok (.getfield 378, 3) := by decide +kernel
theorem dX12_qGoesOnTest_64 : decode cX12_qGoesOnTest 64 = .ok (.iconst 1, 1) := by decide +kernel
theorem dX12_qGoesOnTest_65 : decode cX12_qGoesOnTest 65 = .ok (.isub, 1) := by decide +kernel
theorem dX12_qGoesOnTest_66 : decode cX12_qGoesOnTest 66 = .ok (.putfield 378, 3) := by decide +kernel
theorem dX12_qGoesOnTest_69 : decode cX12_qGoesOnTest 69 = .ok (.aload_n 0, 1) := by decide +kernel
theorem dX12_qGoesOnTest_70 : decode cX12_qGoesOnTest 70 = .ok (.invokevirtual 666, 3) := by decide +kernel
theorem dX12_qGoesOnTest_73 : decode cX12_qGoesOnTest 73 = .ok (.goto (-73), 3) := by decide +kernel
theorem dX12_qGoesOnTest_76 : decode cX12_qGoesOnTest 76 = .ok (.aload_n 0, 1) := by decide +kernel
theorem dX12_qGoesOnTest_77 : decode cX12_qGoesOnTest 77 = .ok (.aload_n 0, 1) := by decide +kernel
theorem dX12_qGoesOnTest_78 : decode cX12_qGoesOnTest 78 = .ok (.getfield 210, 3) := by decide +kernel
theorem dX12_qGoesOnTest_81 : decode cX12_qGoesOnTest 81 = .ok (.invokevirtual 312, 3) := by decide +kernel
theorem dX12_qGoesOnTest_84 : decode cX12_qGoesOnTest 84 = .ok (.ifCond .eq 42, 3) := by decide +kernel
theorem dX12_qGoesOnTest_87 : decode cX12_qGoesOnTest 87 = .ok (.aload_n 0, 1) := by decide +kernel
theorem dX12_qGoesOnTest_88 : decode cX12_qGoesOnTest 88 = .ok (.bipush 10, 2) := by decide +kernel
theorem dX12_qGoesOnTest_90 : decode cX12_qGoesOnTest 90 = .ok (.invokevirtual 654, 3) := by decide +kernel
theorem dX12_qGoesOnTest_93 : decode cX12_qGoesOnTest 93 = .ok (.ifCond .eq 10, 3) := by decide +kernel
theorem dX12_qGoesOnTest_96 : decode cX12_qGoesOnTest 96 = .ok (.aload_n 0, 1) := by decide +kernel
theorem dX12_qGoesOnTest_97 : decode cX12_qGoesOnTest 97 = .ok (.invokevirtual 627, 3) := by decide +kernel
theorem dX12_qGoesOnTest_100 : decode cX12_qGoesOnTest 100 = .ok (.goto (-13), 3) := by decide +kernel
theorem dX12_qGoesOnTest_103 : decode cX12_qGoesOnTest 103 = .ok (.aload_n 0, 1) := by decide +kernel
theorem dX12_qGoesOnTest_104 : decode cX12_qGoesOnTest 104 = .ok (.getfield 273, 3) := by decide +kernel
theorem dX12_qGoesOnTest_107 : decode cX12_qGoesOnTest 107 = .ok (.aload_n 0, 1) := by decide +kernel
theorem dX12_qGoesOnTest_108 : decode cX12_qGoesOnTest 108 = .ok (.getfield 375, 3) := by decide +kernel
theorem dX12_qGoesOnTest_111 : decode cX12_qGoesOnTest 111 = .ok (.bipush 10, 2) := by decide +kernel
theorem dX12_qGoesOnTest_113 : decode cX12_qGoesOnTest 113 = .ok (.iastore, 1) := by decide +kernel
theorem dX12_qGoesOnTest_114 : decode cX12_qGoesOnTest 114 = .ok (.aload_n 0, 1) := by decide +kernel
theorem dX12_qGoesOnTest_115 : decode cX12_qGoesOnTest 115 = .ok (.dup, 1) := by decide +kernel
theorem dX12_qGoesOnTest_116 : decode cX12_qGoesOnTest 116 = .ok (.getfield 375, 3) := by decide +kernel
theorem dX12_qGoesOnTest_119 : decode cX12_qGoesOnTest 119 = .ok (.iconst 1, 1) := by decide +kernel
theorem dX12_qGoesOnTest_120 : decode cX12_qGoesOnTest 120 = .ok (.iadd, 1) := by decide +kernel
theorem dX12_qGoesOnTest_121 : decode cX12_qGoesOnTest 121 = .ok (.putfield 375, 3) := by decide +kernel
theorem dX12_qGoesOnTest_124 : decode cX12_qGoesOnTest 124 = .ok (.iconst 1, 1) := by decide +kernel
theorem dX12_qGoesOnTest_125 : decode cX12_qGoesOnTest 125 = .ok (.ireturn, 1) := by decide +kernel
theorem dX12_qGoesOnTest_126 : decode cX12_qGoesOnTest 126 = .ok (.aload_n 0, 1) := by decide +kernel
theorem dX12_qGoesOnTest_127 : decode cX12_qGoesOnTest 127 = .ok (.aload_n 0, 1) := by decide +kernel
theorem dX12_qGoesOnTest_128 : decode cX12_qGoesOnTest 128 = .ok (.getfield 213, 3) := by decide +kernel
theorem dX12_qGoesOnTest_131 : decode cX12_qGoesOnTest 131 = .ok (.invokevirtual 312, 3) := by decide +kernel
theorem dX12_qGoesOnTest_134 : decode cX12_qGoesOnTest 134 = .ok (.ifCond .eq 51, 3) := by decide +kernel
theorem dX12_qGoesOnTest_137 : decode cX12_qGoesOnTest 137 = .ok (.aload_n 0, 1) := by decide +kernel
theorem dX12_qGoesOnTest_138 : decode cX12_qGoesOnTest 138 = .ok (.bipush 10, 2) := by decide +kernel
theorem dX12_qGoesOnTest_140 : decode cX12_qGoesOnTest 140 = .ok (.invokevirtual 654, 3) := by decide +kernel
theorem dX12_qGoesOnTest_143 : decode cX12_qGoesOnTest 143 = .ok (.ifCond .ne 12, 3) := by decide +kernel
theorem dX12_qGoesOnTest_146 : decode cX12_qGoesOnTest 146 = .ok (.aload_n 0, 1) := by decide +kernel
theorem dX12_qGoesOnTest_147 : decode cX12_qGoesOnTest 147 = .ok (.bipush 11, 2) := by decide +kernel
theorem dX12_qGoesOnTest_149 : decode cX12_qGoesOnTest 149 = .ok (.invokevirtual 654, 3) := by decide +kernel
theorem dX12_qGoesOnTest_152 : decode cX12_qGoesOnTest 152 = .ok (.ifCond .eq 10, 3) := by decide +kernel
theorem dX12_qGoesOnTest_155 : decode cX12_qGoesOnTest 155 = .ok (.aload_n 0, 1) := by decide +kernel
theorem dX12_qGoesOnTest_156 : decode cX12_qGoesOnTest 156 = .ok (.invokevirtual 627, 3) := by decide +kernel
theorem dX12_qGoesOnTest_159 : decode cX12_qGoesOnTest 159 = .ok (.goto (-22), 3) := by decide +kernel
theorem dX12_qGoesOnTest_162 : decode cX12_qGoesOnTest 162 = .ok (.aload_n 0, 1) := by decide +kernel
theorem dX12_qGoesOnTest_163 : decode cX12_qGoesOnTest 163 = .ok (.getfield 273, 3) := by decide +kernel
theorem dX12_qGoesOnTest_166 : decode cX12_qGoesOnTest 166 = .ok (.aload_n 0, 1) := by decide +kernel
theorem dX12_qGoesOnTest_167 : decode cX12_qGoesOnTest 167 = .ok (.getfield 375, 3) := by decide +kernel
theorem dX12_qGoesOnTest_170 : decode cX12_qGoesOnTest 170 = .ok (.bipush 11, 2) := by decide +kernel
theorem dX12_qGoesOnTest_172 : decode cX12_qGoesOnTest 172 = .ok (.iastore, 1) := by decide +kernel
theorem dX12_qGoesOnTest_173 : decode cX12_qGoesOnTest 173 = .ok (.aload_n 0, 1) := by decide +kernel
theorem dX12_qGoesOnTest_174 : decode cX12_qGoesOnTest 174 = .ok (.dup, 1) := by decide +kernel
theorem dX12_qGoesOnTest_175 : decode cX12_qGoesOnTest 175 = .ok (.getfield 375, 3) := by decide +kernel
theorem dX12_qGoesOnTest_178 : decode cX12_qGoesOnTest 178 = .ok (.iconst 1, 1) := by decide +kernel
theorem dX12_qGoesOnTest_179 : decode cX12_qGoesOnTest 179 = .ok (.iadd, 1) := by decide +kernel
theorem dX12_qGoesOnTest_180 : decode cX12_qGoesOnTest 180 = .ok (.putfield 375, 3) := by decide +kernel
theorem dX12_qGoesOnTest_183 : decode cX12_qGoesOnTest 183 = .ok (.iconst 1, 1) := by decide +kernel
theorem dX12_qGoesOnTest_184 : decode cX12_qGoesOnTest 184 = .ok (.ireturn, 1) := by decide +kernel
theorem dX12_qGoesOnTest_185 : decode cX12_qGoesOnTest 185 = .ok (.aload_n 0, 1) := by decide +kernel
theorem dX12_qGoesOnTest_186 : decode cX12_qGoesOnTest 186 = .ok (.getfield 285, 3) := by decide +kernel
theorem dX12_qGoesOnTest_189 : decode cX12_qGoesOnTest 189 = .ok (.ifCond .ne 19, 3) := by decide +kernel
theorem dX12_qGoesOnTest_192 : decode cX12_qGoesOnTest 192 = .ok (.aload_n 0, 1) := by decide +kernel
theorem dX12_qGoesOnTest_193 : decode cX12_qGoesOnTest 193 = .ok (.invokevirtual 672, 3) := by decide +kernel
theorem dX12_qGoesOnTest_196 : decode cX12_qGoesOnTest 196 = .ok (.ifCond .eq 12, 3) := by decide +kernel
theorem dX12_qGoesOnTest_199 : decode cX12_qGoesOnTest 199 = .ok (.aload_n 0, 1) := by decide +kernel
theorem dX12_qGoesOnTest_200 : decode cX12_qGoesOnTest 200 = .ok (.iconst 1, 1) := by decide +kernel
theorem dX12_qGoesOnTest_201 : decode cX12_qGoesOnTest 201 = .ok (.aload_n 0, 1) := by decide +kernel
theorem dX12_qGoesOnTest_202 : decode cX12_qGoesOnTest 202 = .ok (.getfield 291, 3) := by decide +kernel
theorem dX12_qGoesOnTest_205 : decode cX12_qGoesOnTest 205 = .ok (.invokevirtual 315, 3) := by decide +kernel
theorem dX12_qGoesOnTest_208 : decode cX12_qGoesOnTest 208 = .ok (.iconst 0, 1) := by decide +kernel
theorem dX12_qGoesOnTest_209 : decode cX12_qGoesOnTest 209 = .ok (.ireturn, 1) := by decide +kernel
def X12_qGoesOnTest_p33b (sh : Shp) (v0 : Nat) (Q : Int32 → Mem → Prop) (K0 : Mem → Prop) (K33 : Mem → Prop) (m : Mem) : Prop :=
  Ob sh v0 12 ∧ wp_X12_qIsOn sh v0 (25 : Int32) (fun r20 m21 => if r20 = 0 then (wp_X12_qDrops sh v0 (fun m28 => K33 m28) m21) else (bnd (sI m21 v0 111 ((m21.1 v0 111) - (1 : Int32))) (fun m23 => bnd (sI m23 v0 112 ((m23.1 v0 112) - (1 : Int32))) (fun m24 => wp_X12_qDropsNots sh v0 (fun m26 => K0 m26) m24)))) m
def X12_qGoesOnTest_p33n (sh : Shp) (v0 : Nat) (Q : Int32 → Mem → Prop) (K0 : Mem → Prop) : Nat → Mem → Prop
  | 0 => fun _ => False
  | n + 1 => X12_qGoesOnTest_p33b sh v0 Q K0 (X12_qGoesOnTest_p33n sh v0 Q K0 n)
def X12_qGoesOnTest_p33 (sh : Shp) (v0 : Nat) (Q : Int32 → Mem → Prop) (K0 : Mem → Prop) (m : Mem) : Prop := ∃ n, X12_qGoesOnTest_p33n sh v0 Q K0 n m
def X12_qGoesOnTest_p87b (sh : Shp) (v0 : Nat) (Q : Int32 → Mem → Prop) (K87 : Mem → Prop) (m : Mem) : Prop :=
  Ob sh v0 12 ∧ wp_X12_qIsOn sh v0 (10 : Int32) (fun r39 m40 => if r39 = 0 then (∃ b42 : Nat, m40.2.2 v0 110 = some b42 ∧ (Ix sh b42 100 (m40.1 v0 111) ∧ bnd (sI m40 b42 (m40.1 v0 111).toNatClampNeg (10 : Int32)) (fun m45 => bnd (sI m45 v0 111 ((m45.1 v0 111) + (1 : Int32))) (fun m46 => Q (1 : Int32) m46)))) else (wp_X12_qDrops sh v0 (fun m48 => K87 m48) m40)) m
def X12_qGoesOnTest_p87n (sh : Shp) (v0 : Nat) (Q : Int32 → Mem → Prop) : Nat → Mem → Prop
  | 0 => fun _ => False
  | n + 1 => X12_qGoesOnTest_p87b sh v0 Q (X12_qGoesOnTest_p87n sh v0 Q n)
def X12_qGoesOnTest_p87 (sh : Shp) (v0 : Nat) (Q : Int32 → Mem → Prop) (m : Mem) : Prop := ∃ n, X12_qGoesOnTest_p87n sh v0 Q n m
def X12_qGoesOnTest_p155 (sh : Shp) (v0 : Nat) (Q : Int32 → Mem → Prop) (K137 : Mem → Prop) (m : Mem) : Prop :=
  Ob sh v0 12 ∧ wp_X12_qDrops sh v0 (fun m50 => K137 m50) m
def X12_qGoesOnTest_p137b (sh : Shp) (v0 : Nat) (Q : Int32 → Mem → Prop) (K137 : Mem → Prop) (m : Mem) : Prop :=
  Ob sh v0 12 ∧ wp_X12_qIsOn sh v0 (10 : Int32) (fun r29 m30 => if r29 = 0 then (wp_X12_qIsOn sh v0 (11 : Int32) (fun r32 m33 => if r32 = 0 then (∃ b34 : Nat, m33.2.2 v0 110 = some b34 ∧ (Ix sh b34 100 (m33.1 v0 111) ∧ bnd (sI m33 b34 (m33.1 v0 111).toNatClampNeg (11 : Int32)) (fun m37 => bnd (sI m37 v0 111 ((m37.1 v0 111) + (1 : Int32))) (fun m38 => Q (1 : Int32) m38)))) else (X12_qGoesOnTest_p155 sh v0 Q K137 m33)) m30) else (X12_qGoesOnTest_p155 sh v0 Q K137 m30)) m
def X12_qGoesOnTest_p137n (sh : Shp) (v0 : Nat) (Q : Int32 → Mem → Prop) : Nat → Mem → Prop
  | 0 => fun _ => False
  | n + 1 => X12_qGoesOnTest_p137b sh v0 Q (X12_qGoesOnTest_p137n sh v0 Q n)
def X12_qGoesOnTest_p137 (sh : Shp) (v0 : Nat) (Q : Int32 → Mem → Prop) (m : Mem) : Prop := ∃ n, X12_qGoesOnTest_p137n sh v0 Q n m
def X12_qGoesOnTest_p76 (sh : Shp) (v0 : Nat) (Q : Int32 → Mem → Prop) (m : Mem) : Prop :=
  Ob sh v0 12 ∧ ∃ b8 : Nat, m.2.2 v0 88 = some b8 ∧ (wp_X12_takes sh v0 b8 (fun r10 m11 => if r10 = 0 then (∃ b12 : Nat, m11.2.2 v0 89 = some b12 ∧ (wp_X12_takes sh v0 b12 (fun r14 m15 => if r14 = 0 then (if (m15.1 v0 5) = 0 then (wp_X12_qHasSquare sh v0 (fun r16 m17 => if r16 = 0 then (Q (0 : Int32) m17) else (wp_X12_fail sh v0 (1 : Int32) (m17.1 v0 2) (fun m19 => Q (0 : Int32) m19) m17)) m15) else (Q (0 : Int32) m15)) else (X12_qGoesOnTest_p137 sh v0 Q m15)) m11)) else (X12_qGoesOnTest_p87 sh v0 Q m11)) m)
def X12_qGoesOnTest_p0b (sh : Shp) (v0 : Nat) (Q : Int32 → Mem → Prop) (K0 : Mem → Prop) (m : Mem) : Prop :=
  Ob sh v0 12 ∧ (if (m.1 v0 5) = 0 then (wp_X12_look sh v0 (fun r2 m3 => if r2 = (93 : Int32) then (wp_X12_qHasSquare sh v0 (fun r4 m5 => if r4 = 0 then (X12_qGoesOnTest_p76 sh v0 Q m5) else (bnd (sI m5 v0 2 ((m5.1 v0 2) + (1 : Int32))) (fun m6 => X12_qGoesOnTest_p33 sh v0 Q K0 m6))) m3) else (X12_qGoesOnTest_p76 sh v0 Q m3)) m) else (X12_qGoesOnTest_p76 sh v0 Q m))
def X12_qGoesOnTest_p0n (sh : Shp) (v0 : Nat) (Q : Int32 → Mem → Prop) : Nat → Mem → Prop
  | 0 => fun _ => False
  | n + 1 => X12_qGoesOnTest_p0b sh v0 Q (X12_qGoesOnTest_p0n sh v0 Q n)
def X12_qGoesOnTest_p0 (sh : Shp) (v0 : Nat) (Q : Int32 → Mem → Prop) (m : Mem) : Prop := ∃ n, X12_qGoesOnTest_p0n sh v0 Q n m
def wp_X12_qGoesOnTest (sh : Shp) (v0 : Nat) (Q : Int32 → Mem → Prop) (m : Mem) : Prop :=
  X12_qGoesOnTest_p0 sh v0 Q m
abbrev M_X12_qGoesOnTest : Mi := (cX12_qGoesOnTest, 1, RX12, (Option.some FieldType.boolean), "qGoesOnTest", 4, 124, 0, 0)
set_option maxHeartbeats 4000000 in
set_option maxRecDepth 100000 in
theorem v_X12_qGoesOnTest_p33b {G : Gl} {F : Fr} {sh : Shp} {v0 : Nat} {Q : Int32 → Mem → Prop} {K0 : Mem → Prop} {K33 : Mem → Prop} {m : Mem} (hK0 : ∀ (m : Mem), K0 m → V G F M_X12_qGoesOnTest sh 0 0 (Zi G F sh Q) 0 [(0, .ref (G.1 + v0))] [] m) (hK33 : ∀ (m : Mem), K33 m → V G F M_X12_qGoesOnTest sh 0 0 (Zi G F sh Q) 33 [(0, .ref (G.1 + v0))] [] m) (h : X12_qGoesOnTest_p33b sh v0 Q K0 K33 m) : V G F M_X12_qGoesOnTest sh 0 0 (Zi G F sh Q) 33 [(0, .ref (G.1 + v0))] [] m := by
  unfold X12_qGoesOnTest_p33b at h
  refine v_aload_n 0 0 dX12_qGoesOnTest_33 rfl rfl ?_
  refine v_bipush (25 : Int32) dX12_qGoesOnTest_34 (by decide) ?_
  obtain ⟨o22, h⟩ := h
  refine v_cVi [.int _] mv_X12_qIsOn ml_RX12_654 ⟨_, _, rfl⟩ o22 rfl rfl (Nat.le_of_ble_eq_true rfl) (Nat.le_of_ble_eq_true rfl) (Nat.le_of_ble_eq_true rfl) (Nat.zero_le _) (Nat.zero_le _) dX12_qGoesOnTest_36 (c_X12_qIsOn h) (fun r20 m21 h => ?_)
  refine v_if_ne 49 dX12_qGoesOnTest_39 (by decide) (fun hc => ?_) (fun hc => ?_)
  · replace h := Eq.mp (if_neg hc) h
    refine v_aload_n 0 0 dX12_qGoesOnTest_49 rfl rfl ?_
    refine v_dup dX12_qGoesOnTest_50 rfl ?_
    refine v_gI 12 111 dX12_qGoesOnTest_51 fg_RX12_375 o22 ?_
    refine v_iconst (1 : Int32) dX12_qGoesOnTest_54 (by decide) ?_
    refine v_isub dX12_qGoesOnTest_55 ?_
    refine v_pI 12 111 dX12_qGoesOnTest_56 fw_RX12_375 o22 ?_
    replace h := bnd_e h
    refine v_aload_n 0 0 dX12_qGoesOnTest_59 rfl rfl ?_
    refine v_dup dX12_qGoesOnTest_60 rfl ?_
    refine v_gI 12 112 dX12_qGoesOnTest_61 fg_RX12_378 o22 ?_
    refine v_iconst (1 : Int32) dX12_qGoesOnTest_64 (by decide) ?_
    refine v_isub dX12_qGoesOnTest_65 ?_
    refine v_pI 12 112 dX12_qGoesOnTest_66 fw_RX12_378 o22 ?_
    replace h := bnd_e h
    refine v_aload_n 0 0 dX12_qGoesOnTest_69 rfl rfl ?_
    refine v_cVv [] mv_X12_qDropsNots ml_RX12_666 ⟨_, _, rfl⟩ o22 rfl rfl (Nat.le_of_ble_eq_true rfl) (Nat.le_of_ble_eq_true rfl) (Nat.le_of_ble_eq_true rfl) (Nat.zero_le _) (Nat.zero_le _) dX12_qGoesOnTest_70 (c_X12_qDropsNots h) (fun m26 h => ?_)
    refine v_goto 0 dX12_qGoesOnTest_73 (by decide) ?_
    refine v_sub [0] rfl ?_
    exact hK0  _ h
  · replace h := Eq.mp (if_pos hc) h
    refine v_aload_n 0 0 dX12_qGoesOnTest_42 rfl rfl ?_
    refine v_cVv [] mv_X12_qDrops ml_RX12_627 ⟨_, _, rfl⟩ o22 rfl rfl (Nat.le_of_ble_eq_true rfl) (Nat.le_of_ble_eq_true rfl) (Nat.le_of_ble_eq_true rfl) (Nat.zero_le _) (Nat.zero_le _) dX12_qGoesOnTest_43 (c_X12_qDrops h) (fun m28 h => ?_)
    refine v_goto 33 dX12_qGoesOnTest_46 (by decide) ?_
    refine v_sub [0] rfl ?_
    exact hK33  _ h
set_option maxHeartbeats 4000000 in
set_option maxRecDepth 100000 in
theorem v_X12_qGoesOnTest_p33 {G : Gl} {F : Fr} {sh : Shp} {v0 : Nat} {Q : Int32 → Mem → Prop} {K0 : Mem → Prop} {m : Mem} (hK0 : ∀ (m : Mem), K0 m → V G F M_X12_qGoesOnTest sh 0 0 (Zi G F sh Q) 0 [(0, .ref (G.1 + v0))] [] m) (h : X12_qGoesOnTest_p33 sh v0 Q K0 m) : V G F M_X12_qGoesOnTest sh 0 0 (Zi G F sh Q) 33 [(0, .ref (G.1 + v0))] [] m := by
  obtain ⟨n, h⟩ := h
  induction n generalizing  m with
  | zero => exact h.elim
  | succ n ih => exact v_X12_qGoesOnTest_p33b hK0 (fun  _ h => ih h) h
set_option maxHeartbeats 4000000 in
set_option maxRecDepth 100000 in
theorem v_X12_qGoesOnTest_p87b {G : Gl} {F : Fr} {sh : Shp} {v0 : Nat} {Q : Int32 → Mem → Prop} {K87 : Mem → Prop} {m : Mem} (hK87 : ∀ (m : Mem), K87 m → V G F M_X12_qGoesOnTest sh 0 0 (Zi G F sh Q) 87 [(0, .ref (G.1 + v0))] [] m) (h : X12_qGoesOnTest_p87b sh v0 Q K87 m) : V G F M_X12_qGoesOnTest sh 0 0 (Zi G F sh Q) 87 [(0, .ref (G.1 + v0))] [] m := by
  unfold X12_qGoesOnTest_p87b at h
  refine v_aload_n 0 0 dX12_qGoesOnTest_87 rfl rfl ?_
  refine v_bipush (10 : Int32) dX12_qGoesOnTest_88 (by decide) ?_
  obtain ⟨o41, h⟩ := h
  refine v_cVi [.int _] mv_X12_qIsOn ml_RX12_654 ⟨_, _, rfl⟩ o41 rfl rfl (Nat.le_of_ble_eq_true rfl) (Nat.le_of_ble_eq_true rfl) (Nat.le_of_ble_eq_true rfl) (Nat.zero_le _) (Nat.zero_le _) dX12_qGoesOnTest_90 (c_X12_qIsOn h) (fun r39 m40 h => ?_)
  refine v_if_eq 103 dX12_qGoesOnTest_93 (by decide) (fun hc => ?_) (fun hc => ?_)
  · replace h := Eq.mp (if_pos hc) h
    refine v_aload_n 0 0 dX12_qGoesOnTest_103 rfl rfl ?_
    obtain ⟨b42, e43, h⟩ := h
    refine v_gR 12 110 dX12_qGoesOnTest_104 fg_RX12_273 o41 e43 ?_
    refine v_aload_n 0 0 dX12_qGoesOnTest_107 rfl rfl ?_
    refine v_gI 12 111 dX12_qGoesOnTest_108 fg_RX12_375 o41 ?_
    refine v_bipush (10 : Int32) dX12_qGoesOnTest_111 (by decide) ?_
    obtain ⟨i44, h⟩ := h
    refine v_iast dX12_qGoesOnTest_113 i44 ?_
    replace h := bnd_e h
    refine v_aload_n 0 0 dX12_qGoesOnTest_114 rfl rfl ?_
    refine v_dup dX12_qGoesOnTest_115 rfl ?_
    refine v_gI 12 111 dX12_qGoesOnTest_116 fg_RX12_375 o41 ?_
    refine v_iconst (1 : Int32) dX12_qGoesOnTest_119 (by decide) ?_
    refine v_iadd dX12_qGoesOnTest_120 ?_
    refine v_pI 12 111 dX12_qGoesOnTest_121 fw_RX12_375 o41 ?_
    replace h := bnd_e h
    refine v_iconst (1 : Int32) dX12_qGoesOnTest_124 (by decide) ?_
    exact v_iret dX12_qGoesOnTest_125 rfl (by decide) h
  · replace h := Eq.mp (if_neg hc) h
    refine v_aload_n 0 0 dX12_qGoesOnTest_96 rfl rfl ?_
    refine v_cVv [] mv_X12_qDrops ml_RX12_627 ⟨_, _, rfl⟩ o41 rfl rfl (Nat.le_of_ble_eq_true rfl) (Nat.le_of_ble_eq_true rfl) (Nat.le_of_ble_eq_true rfl) (Nat.zero_le _) (Nat.zero_le _) dX12_qGoesOnTest_97 (c_X12_qDrops h) (fun m48 h => ?_)
    refine v_goto 87 dX12_qGoesOnTest_100 (by decide) ?_
    refine v_sub [0] rfl ?_
    exact hK87  _ h
set_option maxHeartbeats 4000000 in
set_option maxRecDepth 100000 in
theorem v_X12_qGoesOnTest_p87 {G : Gl} {F : Fr} {sh : Shp} {v0 : Nat} {Q : Int32 → Mem → Prop} {m : Mem} (h : X12_qGoesOnTest_p87 sh v0 Q m) : V G F M_X12_qGoesOnTest sh 0 0 (Zi G F sh Q) 87 [(0, .ref (G.1 + v0))] [] m := by
  obtain ⟨n, h⟩ := h
  induction n generalizing  m with
  | zero => exact h.elim
  | succ n ih => exact v_X12_qGoesOnTest_p87b (fun  _ h => ih h) h
set_option maxHeartbeats 4000000 in
set_option maxRecDepth 100000 in
theorem v_X12_qGoesOnTest_p155 {G : Gl} {F : Fr} {sh : Shp} {v0 : Nat} {Q : Int32 → Mem → Prop} {K137 : Mem → Prop} {m : Mem} (hK137 : ∀ (m : Mem), K137 m → V G F M_X12_qGoesOnTest sh 0 0 (Zi G F sh Q) 137 [(0, .ref (G.1 + v0))] [] m) (h : X12_qGoesOnTest_p155 sh v0 Q K137 m) : V G F M_X12_qGoesOnTest sh 0 0 (Zi G F sh Q) 155 [(0, .ref (G.1 + v0))] [] m := by
  unfold X12_qGoesOnTest_p155 at h
  refine v_aload_n 0 0 dX12_qGoesOnTest_155 rfl rfl ?_
  obtain ⟨o51, h⟩ := h
  refine v_cVv [] mv_X12_qDrops ml_RX12_627 ⟨_, _, rfl⟩ o51 rfl rfl (Nat.le_of_ble_eq_true rfl) (Nat.le_of_ble_eq_true rfl) (Nat.le_of_ble_eq_true rfl) (Nat.zero_le _) (Nat.zero_le _) dX12_qGoesOnTest_156 (c_X12_qDrops h) (fun m50 h => ?_)
  refine v_goto 137 dX12_qGoesOnTest_159 (by decide) ?_
  refine v_sub [0] rfl ?_
  exact hK137  _ h
set_option maxHeartbeats 4000000 in
set_option maxRecDepth 100000 in
theorem v_X12_qGoesOnTest_p137b {G : Gl} {F : Fr} {sh : Shp} {v0 : Nat} {Q : Int32 → Mem → Prop} {K137 : Mem → Prop} {m : Mem} (hK137 : ∀ (m : Mem), K137 m → V G F M_X12_qGoesOnTest sh 0 0 (Zi G F sh Q) 137 [(0, .ref (G.1 + v0))] [] m) (h : X12_qGoesOnTest_p137b sh v0 Q K137 m) : V G F M_X12_qGoesOnTest sh 0 0 (Zi G F sh Q) 137 [(0, .ref (G.1 + v0))] [] m := by
  unfold X12_qGoesOnTest_p137b at h
  refine v_aload_n 0 0 dX12_qGoesOnTest_137 rfl rfl ?_
  refine v_bipush (10 : Int32) dX12_qGoesOnTest_138 (by decide) ?_
  obtain ⟨o31, h⟩ := h
  refine v_cVi [.int _] mv_X12_qIsOn ml_RX12_654 ⟨_, _, rfl⟩ o31 rfl rfl (Nat.le_of_ble_eq_true rfl) (Nat.le_of_ble_eq_true rfl) (Nat.le_of_ble_eq_true rfl) (Nat.zero_le _) (Nat.zero_le _) dX12_qGoesOnTest_140 (c_X12_qIsOn h) (fun r29 m30 h => ?_)
  refine v_if_ne 155 dX12_qGoesOnTest_143 (by decide) (fun hc => ?_) (fun hc => ?_)
  · replace h := Eq.mp (if_neg hc) h
    refine v_sub [0] rfl ?_
    exact v_X12_qGoesOnTest_p155 hK137 h
  · replace h := Eq.mp (if_pos hc) h
    refine v_aload_n 0 0 dX12_qGoesOnTest_146 rfl rfl ?_
    refine v_bipush (11 : Int32) dX12_qGoesOnTest_147 (by decide) ?_
    refine v_cVi [.int _] mv_X12_qIsOn ml_RX12_654 ⟨_, _, rfl⟩ o31 rfl rfl (Nat.le_of_ble_eq_true rfl) (Nat.le_of_ble_eq_true rfl) (Nat.le_of_ble_eq_true rfl) (Nat.zero_le _) (Nat.zero_le _) dX12_qGoesOnTest_149 (c_X12_qIsOn h) (fun r32 m33 h => ?_)
    refine v_if_eq 162 dX12_qGoesOnTest_152 (by decide) (fun hc => ?_) (fun hc => ?_)
    · replace h := Eq.mp (if_pos hc) h
      refine v_aload_n 0 0 dX12_qGoesOnTest_162 rfl rfl ?_
      obtain ⟨b34, e35, h⟩ := h
      refine v_gR 12 110 dX12_qGoesOnTest_163 fg_RX12_273 o31 e35 ?_
      refine v_aload_n 0 0 dX12_qGoesOnTest_166 rfl rfl ?_
      refine v_gI 12 111 dX12_qGoesOnTest_167 fg_RX12_375 o31 ?_
      refine v_bipush (11 : Int32) dX12_qGoesOnTest_170 (by decide) ?_
      obtain ⟨i36, h⟩ := h
      refine v_iast dX12_qGoesOnTest_172 i36 ?_
      replace h := bnd_e h
      refine v_aload_n 0 0 dX12_qGoesOnTest_173 rfl rfl ?_
      refine v_dup dX12_qGoesOnTest_174 rfl ?_
      refine v_gI 12 111 dX12_qGoesOnTest_175 fg_RX12_375 o31 ?_
      refine v_iconst (1 : Int32) dX12_qGoesOnTest_178 (by decide) ?_
      refine v_iadd dX12_qGoesOnTest_179 ?_
      refine v_pI 12 111 dX12_qGoesOnTest_180 fw_RX12_375 o31 ?_
      replace h := bnd_e h
      refine v_iconst (1 : Int32) dX12_qGoesOnTest_183 (by decide) ?_
      exact v_iret dX12_qGoesOnTest_184 rfl (by decide) h
    · replace h := Eq.mp (if_neg hc) h
      refine v_sub [0] rfl ?_
      exact v_X12_qGoesOnTest_p155 hK137 h
set_option maxHeartbeats 4000000 in
set_option maxRecDepth 100000 in
theorem v_X12_qGoesOnTest_p137 {G : Gl} {F : Fr} {sh : Shp} {v0 : Nat} {Q : Int32 → Mem → Prop} {m : Mem} (h : X12_qGoesOnTest_p137 sh v0 Q m) : V G F M_X12_qGoesOnTest sh 0 0 (Zi G F sh Q) 137 [(0, .ref (G.1 + v0))] [] m := by
  obtain ⟨n, h⟩ := h
  induction n generalizing  m with
  | zero => exact h.elim
  | succ n ih => exact v_X12_qGoesOnTest_p137b (fun  _ h => ih h) h
set_option maxHeartbeats 4000000 in
set_option maxRecDepth 100000 in
theorem v_X12_qGoesOnTest_p76 {G : Gl} {F : Fr} {sh : Shp} {v0 : Nat} {Q : Int32 → Mem → Prop} {m : Mem} (h : X12_qGoesOnTest_p76 sh v0 Q m) : V G F M_X12_qGoesOnTest sh 0 0 (Zi G F sh Q) 76 [(0, .ref (G.1 + v0))] [] m := by
  unfold X12_qGoesOnTest_p76 at h
  refine v_aload_n 0 0 dX12_qGoesOnTest_76 rfl rfl ?_
  refine v_aload_n 0 0 dX12_qGoesOnTest_77 rfl rfl ?_
  obtain ⟨o7, h⟩ := h
  obtain ⟨b8, e9, h⟩ := h
  refine v_gR 12 88 dX12_qGoesOnTest_78 fg_RX12_210 o7 e9 ?_
  refine v_cVi [.ref _] mv_X12_takes ml_RX12_312 ⟨_, _, rfl⟩ o7 rfl rfl (Nat.le_of_ble_eq_true rfl) (Nat.le_of_ble_eq_true rfl) (Nat.le_of_ble_eq_true rfl) (Nat.zero_le _) (Nat.zero_le _) dX12_qGoesOnTest_81 (c_X12_takes h) (fun r10 m11 h => ?_)
  refine v_if_eq 126 dX12_qGoesOnTest_84 (by decide) (fun hc => ?_) (fun hc => ?_)
  · replace h := Eq.mp (if_pos hc) h
    refine v_aload_n 0 0 dX12_qGoesOnTest_126 rfl rfl ?_
    refine v_aload_n 0 0 dX12_qGoesOnTest_127 rfl rfl ?_
    obtain ⟨b12, e13, h⟩ := h
    refine v_gR 12 89 dX12_qGoesOnTest_128 fg_RX12_213 o7 e13 ?_
    refine v_cVi [.ref _] mv_X12_takes ml_RX12_312 ⟨_, _, rfl⟩ o7 rfl rfl (Nat.le_of_ble_eq_true rfl) (Nat.le_of_ble_eq_true rfl) (Nat.le_of_ble_eq_true rfl) (Nat.zero_le _) (Nat.zero_le _) dX12_qGoesOnTest_131 (c_X12_takes h) (fun r14 m15 h => ?_)
    refine v_if_eq 185 dX12_qGoesOnTest_134 (by decide) (fun hc => ?_) (fun hc => ?_)
    · replace h := Eq.mp (if_pos hc) h
      refine v_aload_n 0 0 dX12_qGoesOnTest_185 rfl rfl ?_
      refine v_gI 12 5 dX12_qGoesOnTest_186 fg_RX12_285 o7 ?_
      refine v_if_ne 208 dX12_qGoesOnTest_189 (by decide) (fun hc => ?_) (fun hc => ?_)
      · replace h := Eq.mp (if_neg hc) h
        refine v_iconst (0 : Int32) dX12_qGoesOnTest_208 (by decide) ?_
        exact v_iret dX12_qGoesOnTest_209 rfl (by decide) h
      · replace h := Eq.mp (if_pos hc) h
        refine v_aload_n 0 0 dX12_qGoesOnTest_192 rfl rfl ?_
        refine v_cVi [] mv_X12_qHasSquare ml_RX12_672 ⟨_, _, rfl⟩ o7 rfl rfl (Nat.le_of_ble_eq_true rfl) (Nat.le_of_ble_eq_true rfl) (Nat.le_of_ble_eq_true rfl) (Nat.zero_le _) (Nat.zero_le _) dX12_qGoesOnTest_193 (c_X12_qHasSquare h) (fun r16 m17 h => ?_)
        refine v_if_eq 208 dX12_qGoesOnTest_196 (by decide) (fun hc => ?_) (fun hc => ?_)
        · replace h := Eq.mp (if_pos hc) h
          refine v_iconst (0 : Int32) dX12_qGoesOnTest_208 (by decide) ?_
          exact v_iret dX12_qGoesOnTest_209 rfl (by decide) h
        · replace h := Eq.mp (if_neg hc) h
          refine v_aload_n 0 0 dX12_qGoesOnTest_199 rfl rfl ?_
          refine v_iconst (1 : Int32) dX12_qGoesOnTest_200 (by decide) ?_
          refine v_aload_n 0 0 dX12_qGoesOnTest_201 rfl rfl ?_
          refine v_gI 12 2 dX12_qGoesOnTest_202 fg_RX12_291 o7 ?_
          refine v_cVv [.int _, .int _] mv_X12_fail ml_RX12_315 ⟨_, _, rfl⟩ o7 rfl rfl (Nat.le_of_ble_eq_true rfl) (Nat.le_of_ble_eq_true rfl) (Nat.le_of_ble_eq_true rfl) (Nat.zero_le _) (Nat.zero_le _) dX12_qGoesOnTest_205 (c_X12_fail h) (fun m19 h => ?_)
          refine v_iconst (0 : Int32) dX12_qGoesOnTest_208 (by decide) ?_
          exact v_iret dX12_qGoesOnTest_209 rfl (by decide) h
    · replace h := Eq.mp (if_neg hc) h
      refine v_sub [0] rfl ?_
      exact v_X12_qGoesOnTest_p137 h
  · replace h := Eq.mp (if_neg hc) h
    refine v_sub [0] rfl ?_
    exact v_X12_qGoesOnTest_p87 h
set_option maxHeartbeats 4000000 in
set_option maxRecDepth 100000 in
theorem v_X12_qGoesOnTest_p0b {G : Gl} {F : Fr} {sh : Shp} {v0 : Nat} {Q : Int32 → Mem → Prop} {K0 : Mem → Prop} {m : Mem} (hK0 : ∀ (m : Mem), K0 m → V G F M_X12_qGoesOnTest sh 0 0 (Zi G F sh Q) 0 [(0, .ref (G.1 + v0))] [] m) (h : X12_qGoesOnTest_p0b sh v0 Q K0 m) : V G F M_X12_qGoesOnTest sh 0 0 (Zi G F sh Q) 0 [(0, .ref (G.1 + v0))] [] m := by
  unfold X12_qGoesOnTest_p0b at h
  refine v_aload_n 0 0 dX12_qGoesOnTest_0 rfl rfl ?_
  obtain ⟨o1, h⟩ := h
  refine v_gI 12 5 dX12_qGoesOnTest_1 fg_RX12_285 o1 ?_
  refine v_if_ne 76 dX12_qGoesOnTest_4 (by decide) (fun hc => ?_) (fun hc => ?_)
  · replace h := Eq.mp (if_neg hc) h
    refine v_sub [0] rfl ?_
    exact v_X12_qGoesOnTest_p76 h
  · replace h := Eq.mp (if_pos hc) h
    refine v_aload_n 0 0 dX12_qGoesOnTest_7 rfl rfl ?_
    refine v_cVi [] mv_X12_look ml_RX12_297 ⟨_, _, rfl⟩ o1 rfl rfl (Nat.le_of_ble_eq_true rfl) (Nat.le_of_ble_eq_true rfl) (Nat.le_of_ble_eq_true rfl) (Nat.zero_le _) (Nat.zero_le _) dX12_qGoesOnTest_8 (c_X12_look h) (fun r2 m3 h => ?_)
    refine v_bipush (93 : Int32) dX12_qGoesOnTest_11 (by decide) ?_
    refine v_icmp_ne 76 dX12_qGoesOnTest_13 (by decide) (fun hc => ?_) (fun hc => ?_)
    · replace h := Eq.mp (if_neg hc) h
      refine v_sub [0] rfl ?_
      exact v_X12_qGoesOnTest_p76 h
    · replace h := Eq.mp (if_pos hc) h
      refine v_aload_n 0 0 dX12_qGoesOnTest_16 rfl rfl ?_
      refine v_cVi [] mv_X12_qHasSquare ml_RX12_672 ⟨_, _, rfl⟩ o1 rfl rfl (Nat.le_of_ble_eq_true rfl) (Nat.le_of_ble_eq_true rfl) (Nat.le_of_ble_eq_true rfl) (Nat.zero_le _) (Nat.zero_le _) dX12_qGoesOnTest_17 (c_X12_qHasSquare h) (fun r4 m5 h => ?_)
      refine v_if_eq 76 dX12_qGoesOnTest_20 (by decide) (fun hc => ?_) (fun hc => ?_)
      · replace h := Eq.mp (if_pos hc) h
        refine v_sub [0] rfl ?_
        exact v_X12_qGoesOnTest_p76 h
      · replace h := Eq.mp (if_neg hc) h
        refine v_aload_n 0 0 dX12_qGoesOnTest_23 rfl rfl ?_
        refine v_dup dX12_qGoesOnTest_24 rfl ?_
        refine v_gI 12 2 dX12_qGoesOnTest_25 fg_RX12_291 o1 ?_
        refine v_iconst (1 : Int32) dX12_qGoesOnTest_28 (by decide) ?_
        refine v_iadd dX12_qGoesOnTest_29 ?_
        refine v_pI 12 2 dX12_qGoesOnTest_30 fw_RX12_291 o1 ?_
        replace h := bnd_e h
        refine v_sub [0] rfl ?_
        exact v_X12_qGoesOnTest_p33 hK0 h
set_option maxHeartbeats 4000000 in
set_option maxRecDepth 100000 in
theorem v_X12_qGoesOnTest_p0 {G : Gl} {F : Fr} {sh : Shp} {v0 : Nat} {Q : Int32 → Mem → Prop} {m : Mem} (h : X12_qGoesOnTest_p0 sh v0 Q m) : V G F M_X12_qGoesOnTest sh 0 0 (Zi G F sh Q) 0 [(0, .ref (G.1 + v0))] [] m := by
  obtain ⟨n, h⟩ := h
  induction n generalizing  m with
  | zero => exact h.elim
  | succ n ih => exact v_X12_qGoesOnTest_p0b (fun  _ h => ih h) h
set_option maxHeartbeats 4000000 in
set_option maxRecDepth 100000 in
theorem c_X12_qGoesOnTest {l : Launch} {G : Gl} {sh : Shp} {v0 : Nat} {Q : Int32 → Mem → Prop} {m : Mem} (h : wp_X12_qGoesOnTest sh v0 Q m) : Cni l G yX12_qGoesOnTest cX12_qGoesOnTest 1 (Option.some FieldType.boolean) 4 124 sh [.ref (G.1 + v0)] m Q := by
  refine con_i (ls := [(0, .ref (G.1 + v0))]) (by decide +kernel) rfl (Nat.le_of_ble_eq_true rfl) (fun F => ?_)
  show V G F M_X12_qGoesOnTest sh 0 0 (Zi G F sh Q) 0 [(0, .ref (G.1 + v0))] [] m
  unfold wp_X12_qGoesOnTest at h
  refine v_sub [0] rfl ?_
  exact v_X12_qGoesOnTest_p0 h
/-! CalledRiverModel.qTest -/
theorem dX12_qTest_0 : decode cX12_qTest 0 = .ok (.iconst 1, 1) := by decide +kernel
theorem dX12_qTest_1 : decode cX12_qTest 1 = .ok (.istore_n 1, 1) := by decide +kernel
theorem dX12_qTest_2 : decode cX12_qTest 2 = .ok (.iload_n 1, 1) := by decide +kernel
theorem dX12_qTest_3 : decode cX12_qTest 3 = .ok (.ifCond .eq 107, 3) := by decide +kernel
theorem dX12_qTest_6 : decode cX12_qTest 6 = .ok (.aload_n 0, 1) := by decide +kernel
theorem dX12_qTest_7 : decode cX12_qTest 7 = .ok (.getfield 285, 3) := by decide +kernel
theorem dX12_qTest_10 : decode cX12_qTest 10 = .ok (.ifCond .ne 100, 3) := by decide +kernel
theorem dX12_qTest_13 : decode cX12_qTest 13 = .ok (.aload_n 0, 1) := by decide +kernel
theorem dX12_qTest_14 : decode cX12_qTest 14 = .ok (.invokevirtual 297, 3) := by decide +kernel
theorem dX12_qTest_17 : decode cX12_qTest 17 = .ok (.istore_n 2, 1) := by decide +kernel
theorem dX12_qTest_18 : decode cX12_qTest 18 = .ok (.iload_n 2, 1) := by decide +kernel
theorem dX12_qTest_19 : decode cX12_qTest 19 = .ok (.bipush 91, 2) := by decide +kernel
theorem dX12_qTest_21 : decode cX12_qTest 21 = .ok (.if_icmp .ne 26, 3) := by decide +kernel
theorem dX12_qTest_24 : decode cX12_qTest 24 = .ok (.aload_n 0, 1) := by decide +kernel
theorem dX12_qTest_25 : decode cX12_qTest 25 = .ok (.bipush 25, 2) := by decide +kernel
theorem dX12_qTest_27 : decode cX12_qTest 27 = .ok (.aload_n 0, 1) := by decide +kernel
theorem dX12_qTest_28 : decode cX12_qTest 28 = .ok (.getfield 291, 3) := by decide +kernel
theorem dX12_qTest_31 : decode cX12_qTest 31 = .ok (.invokevirtual 639, 3) := by decide +kernel
theorem dX12_qTest_34 : decode cX12_qTest 34 = .ok (.aload_n 0, 1) := by decide +kernel
theorem dX12_qTest_35 : decode cX12_qTest 35 = .ok (.dup, 1) := by decide +kernel
theorem dX12_qTest_36 : decode cX12_qTest 36 = .ok (.getfield 291, 3) := by decide +kernel
theorem dX12_qTest_39 : decode cX12_qTest 39 = .ok (.iconst 1, 1) := by decide +kernel
theorem dX12_qTest_40 : decode cX12_qTest 40 = .ok (.iadd, 1) := by decide +kernel
theorem dX12_qTest_41 : decode cX12_qTest 41 = .ok (.putfield 291, 3) := by decide +kernel
theorem dX12_qTest_44 : decode cX12_qTest 44 = .ok (.goto (-42), 3) := by decide +kernel
theorem dX12_qTest_47 : decode cX12_qTest 47 = .ok (.aload_n 0, 1) := by decide +kernel
theorem dX12_qTest_48 : decode cX12_qTest 48 = .ok (.aload_n 0, 1) := by decide +kernel
theorem dX12_qTest_49 : decode cX12_qTest 49 = .ok (.getfield 207, 3) := by decide +kernel
theorem dX12_qTest_52 : decode cX12_qTest 52 = .ok (.invokevirtual 308, 3) := by decide +kernel
theorem dX12_qTest_55 : decode cX12_qTest 55 = .ok (.ifCond .eq 24, 3) := by decide +kernel
theorem dX12_qTest_58 : decode cX12_qTest 58 = .ok (.aload_n 0, 1) := by decide +kernel
theorem dX12_qTest_59 : decode cX12_qTest 59 = .ok (.bipush 12, 2) := by decide +kernel
theorem dX12_qTest_61 : decode cX12_qTest 61 = .ok (.aload_n 0, 1) := by decide +kernel
theorem dX12_qTest_62 : decode cX12_qTest 62 = .ok (.getfield 291, 3) := by decide +kernel
theorem dX12_qTest_65 : decode cX12_qTest 65 = .ok (.invokevirtual 639, 3) := by decide +kernel
theorem dX12_qTest_68 : decode cX12_qTest 68 = .ok (.aload_n 0, 1) := by decide +kernel
theorem dX12_qTest_69 : decode cX12_qTest 69 = .ok (.aload_n 0, 1) := by decide +kernel
theorem dX12_qTest_70 : decode cX12_qTest 70 = .ok (.getfield 207, 3) := by decide +kernel
theorem dX12_qTest_73 : decode cX12_qTest 73 = .ok (.invokevirtual 350, 3) := by decide +kernel
theorem dX12_qTest_76 : decode cX12_qTest 76 = .ok (.goto (-74), 3) := by decide +kernel
theorem dX12_qTest_79 : decode cX12_qTest 79 = .ok (.aload_n 0, 1) := by decide +kernel
theorem dX12_qTest_80 : decode cX12_qTest 80 = .ok (.invokevirtual 663, 3) := by decide +kernel
theorem dX12_qTest_83 : decode cX12_qTest 83 = .ok (.aload_n 0, 1) := by decide +kernel
theorem dX12_qTest_84 : decode cX12_qTest 84 = .ok (.invokevirtual 666, 3) := by decide +kernel
theorem dX12_qTest_87 : decode cX12_qTest 87 = .ok (.aload_n 0, 1) := by decide +kernel
theorem dX12_qTest_88 : decode cX12_qTest 88 = .ok (.getfield 285, 3) := by decide +kernel
theorem dX12_qTest_91 : decode cX12_qTest 91 = .ok (.ifCond .ne 14, 3) := by decide +kernel
theorem dX12_qTest_94 : decode cX12_qTest 94 = .ok (.aload_n 0, 1) := by decide +kernel
theorem dX12_qTest_95 : decode cX12_qTest 95 = .ok (.invokevirtual 669, 3) := by decide +kernel
theorem dX12_qTest_98 : decode cX12_qTest 98 = .ok (.ifCond .eq 7, 3) := by decide +kernel
theorem dX12_qTest_101 : decode cX12_qTest 101 = .ok (.iconst 1, 1) := by decide +kernel
theorem dX12_qTest_102 : decode cX12_qTest 102 = .ok (.goto 4, 3) := by decide +kernel
theorem dX12_qTest_105 : decode cX12_qTest 105 = .ok (.iconst 0, 1) := by decide +kernel
theorem dX12_qTest_106 : decode cX12_qTest 106 = .ok (.istore_n 1, 1) := by decide +kernel
theorem dX12_qTest_107 : decode cX12_qTest 107 = .ok (.goto (-105), 3) := by decide +kernel
theorem dX12_qTest_110 : decode cX12_qTest 110 = .ok (.aload_n 0, 1) := by decide +kernel
theorem dX12_qTest_111 : decode cX12_qTest 111 = .ok (.getfield 285, 3) := by decide +kernel
theorem dX12_qTest_114 : decode cX12_qTest 114 = .ok (.ifCond .ne 17, 3) := by decide +kernel
theorem dX12_qTest_117 : decode cX12_qTest 117 = .ok (.aload_n 0, 1) := by decide +kernel
theorem dX12_qTest_118 : decode cX12_qTest 118 = .ok (.getfield 375, 3) := by decide +kernel
theorem dX12_qTest_121 : decode cX12_qTest 121 = .ok (.ifCond .le 10, 3) := by decide +kernel
theorem dX12_qTest_124 : decode cX12_qTest 124 = .ok (.aload_n 0, 1) := by decide +kernel
theorem dX12_qTest_125 : decode cX12_qTest 125 = .ok (.invokevirtual 627, 3) := by decide +kernel
theorem dX12_qTest_128 : decode cX12_qTest 128 = .ok (.goto (-18), 3) := by decide +kernel
theorem dX12_qTest_131 : decode cX12_qTest 131 = .ok (.return_, 1) := by decide +kernel
def X12_qTest_p106 (sh : Shp) (v0 : Nat) (s0 : Int32) (Q : Mem → Prop) (K2 : Int32 → Mem → Prop) (m : Mem) : Prop :=
  K2 s0 m
def X12_qTest_p105 (sh : Shp) (v0 : Nat) (Q : Mem → Prop) (K2 : Int32 → Mem → Prop) (m : Mem) : Prop :=
  X12_qTest_p106 sh v0 (0 : Int32) Q K2 m
def X12_qTest_p110b (sh : Shp) (v0 : Nat) (Q : Mem → Prop) (K110 : Mem → Prop) (m : Mem) : Prop :=
  Ob sh v0 12 ∧ (if (m.1 v0 5) = 0 then (if (m.1 v0 111) ≤ 0 then (Q m) else (wp_X12_qDrops sh v0 (fun m25 => K110 m25) m)) else (Q m))
def X12_qTest_p110n (sh : Shp) (v0 : Nat) (Q : Mem → Prop) : Nat → Mem → Prop
  | 0 => fun _ => False
  | n + 1 => X12_qTest_p110b sh v0 Q (X12_qTest_p110n sh v0 Q n)
def X12_qTest_p110 (sh : Shp) (v0 : Nat) (Q : Mem → Prop) (m : Mem) : Prop := ∃ n, X12_qTest_p110n sh v0 Q n m
def X12_qTest_p2b (sh : Shp) (v0 : Nat) (Q : Mem → Prop) (K2 : Int32 → Mem → Prop) (v1 : Int32) (m : Mem) : Prop :=
  if v1 = 0 then (X12_qTest_p110 sh v0 Q m) else (Ob sh v0 12 ∧ (if (m.1 v0 5) = 0 then (wp_X12_look sh v0 (fun r2 m3 => if r2 = (91 : Int32) then (wp_X12_qOpens sh v0 (25 : Int32) (m3.1 v0 2) (fun m21 => bnd (sI m21 v0 2 ((m21.1 v0 2) + (1 : Int32))) (fun m22 => K2 v1 m22)) m3) else (∃ b4 : Nat, m3.2.2 v0 87 = some b4 ∧ (wp_X12_isHere sh v0 b4 (fun r6 m7 => if r6 = 0 then (wp_X12_qFact sh v0 (fun m9 => wp_X12_qDropsNots sh v0 (fun m11 => if (m11.1 v0 5) = 0 then (wp_X12_qGoesOnTest sh v0 (fun r12 m13 => if r12 = 0 then (X12_qTest_p105 sh v0 Q K2 m13) else (X12_qTest_p106 sh v0 (1 : Int32) Q K2 m13)) m11) else (X12_qTest_p105 sh v0 Q K2 m11)) m9) m7) else (wp_X12_qOpens sh v0 (12 : Int32) (m7.1 v0 2) (fun m15 => ∃ b16 : Nat, m15.2.2 v0 87 = some b16 ∧ (wp_X12_asks sh v0 b16 (fun m19 => K2 v1 m19) m15)) m7)) m3))) m) else (X12_qTest_p110 sh v0 Q m)))
def X12_qTest_p2n (sh : Shp) (v0 : Nat) (Q : Mem → Prop) : Nat → Int32 → Mem → Prop
  | 0 => fun _ _ => False
  | n + 1 => X12_qTest_p2b sh v0 Q (X12_qTest_p2n sh v0 Q n)
def X12_qTest_p2 (sh : Shp) (v0 : Nat) (Q : Mem → Prop) (v1 : Int32) (m : Mem) : Prop := ∃ n, X12_qTest_p2n sh v0 Q n v1 m
def wp_X12_qTest (sh : Shp) (v0 : Nat) (Q : Mem → Prop) (m : Mem) : Prop :=
  X12_qTest_p2 sh v0 Q (1 : Int32) m
abbrev M_X12_qTest : Mi := (cX12_qTest, 3, RX12, (none : Option FieldType), "qTest", 9, 234, 0, 0)
set_option maxHeartbeats 4000000 in
set_option maxRecDepth 100000 in
theorem v_X12_qTest_p106 {G : Gl} {F : Fr} {sh : Shp} {v0 : Nat} {s0 : Int32} {Q : Mem → Prop} {K2 : Int32 → Mem → Prop} {m : Mem} (hK2 : ∀ (x1 : Int32) (m : Mem), K2 x1 m → V G F M_X12_qTest sh 0 0 (Zv G F sh Q) 2 [(0, .ref (G.1 + v0)), (1, .int x1)] [] m) (h : X12_qTest_p106 sh v0 s0 Q K2 m) : V G F M_X12_qTest sh 0 0 (Zv G F sh Q) 106 [(0, .ref (G.1 + v0))] [.int s0] m := by
  unfold X12_qTest_p106 at h
  refine v_istore_n (ls' := [(1, .int _), (0, .ref _)]) 1 dX12_qTest_106 rfl (Nat.le_of_ble_eq_true rfl) rfl ?_
  refine v_goto 2 dX12_qTest_107 (by decide) ?_
  refine v_sub [1, 0] rfl ?_
  exact hK2 _ _ h
set_option maxHeartbeats 4000000 in
set_option maxRecDepth 100000 in
theorem v_X12_qTest_p105 {G : Gl} {F : Fr} {sh : Shp} {v0 : Nat} {Q : Mem → Prop} {K2 : Int32 → Mem → Prop} {m : Mem} (hK2 : ∀ (x1 : Int32) (m : Mem), K2 x1 m → V G F M_X12_qTest sh 0 0 (Zv G F sh Q) 2 [(0, .ref (G.1 + v0)), (1, .int x1)] [] m) (h : X12_qTest_p105 sh v0 Q K2 m) : V G F M_X12_qTest sh 0 0 (Zv G F sh Q) 105 [(0, .ref (G.1 + v0))] [] m := by
  unfold X12_qTest_p105 at h
  refine v_iconst (0 : Int32) dX12_qTest_105 (by decide) ?_
  refine v_sub [0] rfl ?_
  exact v_X12_qTest_p106 hK2 h
set_option maxHeartbeats 4000000 in
set_option maxRecDepth 100000 in
theorem v_X12_qTest_p110b {G : Gl} {F : Fr} {sh : Shp} {v0 : Nat} {Q : Mem → Prop} {K110 : Mem → Prop} {m : Mem} (hK110 : ∀ (m : Mem), K110 m → V G F M_X12_qTest sh 0 0 (Zv G F sh Q) 110 [(0, .ref (G.1 + v0))] [] m) (h : X12_qTest_p110b sh v0 Q K110 m) : V G F M_X12_qTest sh 0 0 (Zv G F sh Q) 110 [(0, .ref (G.1 + v0))] [] m := by
  unfold X12_qTest_p110b at h
  refine v_aload_n 0 0 dX12_qTest_110 rfl rfl ?_
  obtain ⟨o23, h⟩ := h
  refine v_gI 12 5 dX12_qTest_111 fg_RX12_285 o23 ?_
  refine v_if_ne 131 dX12_qTest_114 (by decide) (fun hc => ?_) (fun hc => ?_)
  · replace h := Eq.mp (if_neg hc) h
    exact v_vret dX12_qTest_131 rfl h
  · replace h := Eq.mp (if_pos hc) h
    refine v_aload_n 0 0 dX12_qTest_117 rfl rfl ?_
    refine v_gI 12 111 dX12_qTest_118 fg_RX12_375 o23 ?_
    refine v_if_le 131 dX12_qTest_121 (by decide) (fun hc => ?_) (fun hc => ?_)
    · replace h := Eq.mp (if_pos hc) h
      exact v_vret dX12_qTest_131 rfl h
    · replace h := Eq.mp (if_neg hc) h
      refine v_aload_n 0 0 dX12_qTest_124 rfl rfl ?_
      refine v_cVv [] mv_X12_qDrops ml_RX12_627 ⟨_, _, rfl⟩ o23 rfl rfl (Nat.le_of_ble_eq_true rfl) (Nat.le_of_ble_eq_true rfl) (Nat.le_of_ble_eq_true rfl) (Nat.zero_le _) (Nat.zero_le _) dX12_qTest_125 (c_X12_qDrops h) (fun m25 h => ?_)
      refine v_goto 110 dX12_qTest_128 (by decide) ?_
      refine v_sub [0] rfl ?_
      exact hK110  _ h
set_option maxHeartbeats 4000000 in
set_option maxRecDepth 100000 in
theorem v_X12_qTest_p110 {G : Gl} {F : Fr} {sh : Shp} {v0 : Nat} {Q : Mem → Prop} {m : Mem} (h : X12_qTest_p110 sh v0 Q m) : V G F M_X12_qTest sh 0 0 (Zv G F sh Q) 110 [(0, .ref (G.1 + v0))] [] m := by
  obtain ⟨n, h⟩ := h
  induction n generalizing  m with
  | zero => exact h.elim
  | succ n ih => exact v_X12_qTest_p110b (fun  _ h => ih h) h
set_option maxHeartbeats 4000000 in
set_option maxRecDepth 100000 in
theorem v_X12_qTest_p2b {G : Gl} {F : Fr} {sh : Shp} {v0 : Nat} {v1 : Int32} {Q : Mem → Prop} {K2 : Int32 → Mem → Prop} {m : Mem} (hK2 : ∀ (x1 : Int32) (m : Mem), K2 x1 m → V G F M_X12_qTest sh 0 0 (Zv G F sh Q) 2 [(0, .ref (G.1 + v0)), (1, .int x1)] [] m) (h : X12_qTest_p2b sh v0 Q K2 v1 m) : V G F M_X12_qTest sh 0 0 (Zv G F sh Q) 2 [(0, .ref (G.1 + v0)), (1, .int v1)] [] m := by
  unfold X12_qTest_p2b at h
  refine v_iload_n 1 1 dX12_qTest_2 rfl rfl ?_
  refine v_if_eq 110 dX12_qTest_3 (by decide) (fun hc => ?_) (fun hc => ?_)
  · replace h := Eq.mp (if_pos hc) h
    refine v_sub [0] rfl ?_
    exact v_X12_qTest_p110 h
  · replace h := Eq.mp (if_neg hc) h
    refine v_aload_n 0 0 dX12_qTest_6 rfl rfl ?_
    obtain ⟨o1, h⟩ := h
    refine v_gI 12 5 dX12_qTest_7 fg_RX12_285 o1 ?_
    refine v_if_ne 110 dX12_qTest_10 (by decide) (fun hc => ?_) (fun hc => ?_)
    · replace h := Eq.mp (if_neg hc) h
      refine v_sub [0] rfl ?_
      exact v_X12_qTest_p110 h
    · replace h := Eq.mp (if_pos hc) h
      refine v_aload_n 0 0 dX12_qTest_13 rfl rfl ?_
      refine v_cVi [] mv_X12_look ml_RX12_297 ⟨_, _, rfl⟩ o1 rfl rfl (Nat.le_of_ble_eq_true rfl) (Nat.le_of_ble_eq_true rfl) (Nat.le_of_ble_eq_true rfl) (Nat.zero_le _) (Nat.zero_le _) dX12_qTest_14 (c_X12_look h) (fun r2 m3 h => ?_)
      refine v_istore_n (ls' := [(2, .int _), (0, .ref _), (1, .int _)]) 2 dX12_qTest_17 rfl (Nat.le_of_ble_eq_true rfl) rfl ?_
      refine v_iload_n 2 0 dX12_qTest_18 rfl rfl ?_
      refine v_bipush (91 : Int32) dX12_qTest_19 (by decide) ?_
      refine v_icmp_ne 47 dX12_qTest_21 (by decide) (fun hc => ?_) (fun hc => ?_)
      · replace h := Eq.mp (if_neg hc) h
        refine v_aload_n 0 1 dX12_qTest_47 rfl rfl ?_
        refine v_aload_n 0 1 dX12_qTest_48 rfl rfl ?_
        obtain ⟨b4, e5, h⟩ := h
        refine v_gR 12 87 dX12_qTest_49 fg_RX12_207 o1 e5 ?_
        refine v_cVi [.ref _] mv_X12_isHere ml_RX12_308 ⟨_, _, rfl⟩ o1 rfl rfl (Nat.le_of_ble_eq_true rfl) (Nat.le_of_ble_eq_true rfl) (Nat.le_of_ble_eq_true rfl) (Nat.zero_le _) (Nat.zero_le _) dX12_qTest_52 (c_X12_isHere h) (fun r6 m7 h => ?_)
        refine v_if_eq 79 dX12_qTest_55 (by decide) (fun hc => ?_) (fun hc => ?_)
        · replace h := Eq.mp (if_pos hc) h
          refine v_aload_n 0 1 dX12_qTest_79 rfl rfl ?_
          refine v_cVv [] mv_X12_qFact ml_RX12_663 ⟨_, _, rfl⟩ o1 rfl rfl (Nat.le_of_ble_eq_true rfl) (Nat.le_of_ble_eq_true rfl) (Nat.le_of_ble_eq_true rfl) (Nat.zero_le _) (Nat.zero_le _) dX12_qTest_80 (c_X12_qFact h) (fun m9 h => ?_)
          refine v_aload_n 0 1 dX12_qTest_83 rfl rfl ?_
          refine v_cVv [] mv_X12_qDropsNots ml_RX12_666 ⟨_, _, rfl⟩ o1 rfl rfl (Nat.le_of_ble_eq_true rfl) (Nat.le_of_ble_eq_true rfl) (Nat.le_of_ble_eq_true rfl) (Nat.zero_le _) (Nat.zero_le _) dX12_qTest_84 (c_X12_qDropsNots h) (fun m11 h => ?_)
          refine v_aload_n 0 1 dX12_qTest_87 rfl rfl ?_
          refine v_gI 12 5 dX12_qTest_88 fg_RX12_285 o1 ?_
          refine v_if_ne 105 dX12_qTest_91 (by decide) (fun hc => ?_) (fun hc => ?_)
          · replace h := Eq.mp (if_neg hc) h
            refine v_sub [1] rfl ?_
            exact v_X12_qTest_p105 hK2 h
          · replace h := Eq.mp (if_pos hc) h
            refine v_aload_n 0 1 dX12_qTest_94 rfl rfl ?_
            refine v_cVi [] mv_X12_qGoesOnTest ml_RX12_669 ⟨_, _, rfl⟩ o1 rfl rfl (Nat.le_of_ble_eq_true rfl) (Nat.le_of_ble_eq_true rfl) (Nat.le_of_ble_eq_true rfl) (Nat.zero_le _) (Nat.zero_le _) dX12_qTest_95 (c_X12_qGoesOnTest h) (fun r12 m13 h => ?_)
            refine v_if_eq 105 dX12_qTest_98 (by decide) (fun hc => ?_) (fun hc => ?_)
            · replace h := Eq.mp (if_pos hc) h
              refine v_sub [1] rfl ?_
              exact v_X12_qTest_p105 hK2 h
            · replace h := Eq.mp (if_neg hc) h
              refine v_iconst (1 : Int32) dX12_qTest_101 (by decide) ?_
              refine v_goto 106 dX12_qTest_102 (by decide) ?_
              refine v_sub [1] rfl ?_
              exact v_X12_qTest_p106 hK2 h
        · replace h := Eq.mp (if_neg hc) h
          refine v_aload_n 0 1 dX12_qTest_58 rfl rfl ?_
          refine v_bipush (12 : Int32) dX12_qTest_59 (by decide) ?_
          refine v_aload_n 0 1 dX12_qTest_61 rfl rfl ?_
          refine v_gI 12 2 dX12_qTest_62 fg_RX12_291 o1 ?_
          refine v_cVv [.int _, .int _] mv_X12_qOpens ml_RX12_639 ⟨_, _, rfl⟩ o1 rfl rfl (Nat.le_of_ble_eq_true rfl) (Nat.le_of_ble_eq_true rfl) (Nat.le_of_ble_eq_true rfl) (Nat.zero_le _) (Nat.zero_le _) dX12_qTest_65 (c_X12_qOpens h) (fun m15 h => ?_)
          refine v_aload_n 0 1 dX12_qTest_68 rfl rfl ?_
          refine v_aload_n 0 1 dX12_qTest_69 rfl rfl ?_
          obtain ⟨b16, e17, h⟩ := h
          refine v_gR 12 87 dX12_qTest_70 fg_RX12_207 o1 e17 ?_
          refine v_cVv [.ref _] mv_X12_asks ml_RX12_350 ⟨_, _, rfl⟩ o1 rfl rfl (Nat.le_of_ble_eq_true rfl) (Nat.le_of_ble_eq_true rfl) (Nat.le_of_ble_eq_true rfl) (Nat.zero_le _) (Nat.zero_le _) dX12_qTest_73 (c_X12_asks h) (fun m19 h => ?_)
          refine v_goto 2 dX12_qTest_76 (by decide) ?_
          refine v_sub [1, 2] rfl ?_
          exact hK2 _ _ h
      · replace h := Eq.mp (if_pos hc) h
        refine v_aload_n 0 1 dX12_qTest_24 rfl rfl ?_
        refine v_bipush (25 : Int32) dX12_qTest_25 (by decide) ?_
        refine v_aload_n 0 1 dX12_qTest_27 rfl rfl ?_
        refine v_gI 12 2 dX12_qTest_28 fg_RX12_291 o1 ?_
        refine v_cVv [.int _, .int _] mv_X12_qOpens ml_RX12_639 ⟨_, _, rfl⟩ o1 rfl rfl (Nat.le_of_ble_eq_true rfl) (Nat.le_of_ble_eq_true rfl) (Nat.le_of_ble_eq_true rfl) (Nat.zero_le _) (Nat.zero_le _) dX12_qTest_31 (c_X12_qOpens h) (fun m21 h => ?_)
        refine v_aload_n 0 1 dX12_qTest_34 rfl rfl ?_
        refine v_dup dX12_qTest_35 rfl ?_
        refine v_gI 12 2 dX12_qTest_36 fg_RX12_291 o1 ?_
        refine v_iconst (1 : Int32) dX12_qTest_39 (by decide) ?_
        refine v_iadd dX12_qTest_40 ?_
        refine v_pI 12 2 dX12_qTest_41 fw_RX12_291 o1 ?_
        replace h := bnd_e h
        refine v_goto 2 dX12_qTest_44 (by decide) ?_
        refine v_sub [1, 2] rfl ?_
        exact hK2 _ _ h
set_option maxHeartbeats 4000000 in
set_option maxRecDepth 100000 in
theorem v_X12_qTest_p2 {G : Gl} {F : Fr} {sh : Shp} {v0 : Nat} {v1 : Int32} {Q : Mem → Prop} {m : Mem} (h : X12_qTest_p2 sh v0 Q v1 m) : V G F M_X12_qTest sh 0 0 (Zv G F sh Q) 2 [(0, .ref (G.1 + v0)), (1, .int v1)] [] m := by
  obtain ⟨n, h⟩ := h
  induction n generalizing v1 m with
  | zero => exact h.elim
  | succ n ih => exact v_X12_qTest_p2b (fun _ _ h => ih h) h
set_option maxHeartbeats 4000000 in
set_option maxRecDepth 100000 in
theorem c_X12_qTest {l : Launch} {G : Gl} {sh : Shp} {v0 : Nat} {Q : Mem → Prop} {m : Mem} (h : wp_X12_qTest sh v0 Q m) : Cnv l G yX12_qTest cX12_qTest 3 (none : Option FieldType) 9 234 sh [.ref (G.1 + v0)] m Q := by
  refine con_v (ls := [(0, .ref (G.1 + v0))]) (by decide +kernel) rfl (Nat.le_of_ble_eq_true rfl) (fun F => ?_)
  show V G F M_X12_qTest sh 0 0 (Zv G F sh Q) 0 [(0, .ref (G.1 + v0))] [] m
  unfold wp_X12_qTest at h
  refine v_iconst (1 : Int32) dX12_qTest_0 (by decide) ?_
  refine v_istore_n (ls' := [(1, .int _), (0, .ref _)]) 1 dX12_qTest_1 rfl (Nat.le_of_ble_eq_true rfl) rfl ?_
  refine v_sub [1, 0] rfl ?_
  exact v_X12_qTest_p2 h
/-! CalledRiverModel.isCaller -/
theorem dX12_isCaller_0 : decode cX12_isCaller 0 = .ok (.lload_n 1, 1) := by decide +kernel
theorem dX12_isCaller_1 : decode cX12_isCaller 1 = .ok (.lconst 0, 1) := by decide +kernel
theorem dX12_isCaller_2 : decode cX12_isCaller 2 = .ok (.aload_n 0, 1) := by decide +kernel
theorem dX12_isCaller_3 : decode cX12_isCaller 3 = .ok (.invokevirtual 439, 3) := by decide +kernel
theorem dX12_isCaller_6 : decode cX12_isCaller 6 = .ok (.iconst 1, 1) := by decide +kernel
theorem dX12_isCaller_7 : decode cX12_isCaller 7 = .ok (.isub, 1) := by decide +kernel
theorem dX12_isCaller_8 : decode cX12_isCaller 8 = .ok (.i2l, 1) := by decide +kernel
theorem dX12_isCaller_9 : decode cX12_isCaller 9 = .ok (.invokestatic 328, 3) := by decide +kernel
theorem dX12_isCaller_12 : decode cX12_isCaller 12 = .ok (.ireturn, 1) := by decide +kernel
def wp_X12_isCaller (sh : Shp) (v0 : Nat) (v1 : Int64) (Q : Int32 → Mem → Prop) (m : Mem) : Prop :=
  Ob sh v0 12 ∧ wp_X12_callerMany sh v0 (fun r1 m2 => wp_X12_isIn sh v1 (0 : Int64) (r1 - (1 : Int32)).toInt64 (fun r4 m5 => (r4 = 0 ∨ r4 = 1) ∧ Q r4 m5) m2) m
abbrev M_X12_isCaller : Mi := (cX12_isCaller, 3, RX12, (Option.some FieldType.boolean), "isCaller", 2, 85, 0, 0)
set_option maxHeartbeats 4000000 in
set_option maxRecDepth 100000 in
theorem c_X12_isCaller {l : Launch} {G : Gl} {sh : Shp} {v0 : Nat} {v1 : Int64} {Q : Int32 → Mem → Prop} {m : Mem} (h : wp_X12_isCaller sh v0 v1 Q m) : Cni l G yX12_isCaller cX12_isCaller 3 (Option.some FieldType.boolean) 2 85 sh [.ref (G.1 + v0), .long v1] m Q := by
  refine con_i (ls := [(0, .ref (G.1 + v0)), (1, .long v1)]) (by decide +kernel) rfl (Nat.le_of_ble_eq_true rfl) (fun F => ?_)
  show V G F M_X12_isCaller sh 0 0 (Zi G F sh Q) 0 [(0, .ref (G.1 + v0)), (1, .long v1)] [] m
  unfold wp_X12_isCaller at h
  refine v_lload_n 1 1 dX12_isCaller_0 rfl rfl ?_
  refine v_lconst (0 : Int64) dX12_isCaller_1 (by decide) ?_
  refine v_aload_n 0 0 dX12_isCaller_2 rfl rfl ?_
  obtain ⟨o3, h⟩ := h
  refine v_cVi [] mv_X12_callerMany ml_RX12_439 ⟨_, _, rfl⟩ o3 rfl rfl (Nat.le_of_ble_eq_true rfl) (Nat.le_of_ble_eq_true rfl) (Nat.le_of_ble_eq_true rfl) (Nat.zero_le _) (Nat.zero_le _) dX12_isCaller_3 (c_X12_callerMany h) (fun r1 m2 h => ?_)
  refine v_iconst (1 : Int32) dX12_isCaller_6 (by decide) ?_
  refine v_isub dX12_isCaller_7 ?_
  refine v_i2l dX12_isCaller_8 ?_
  refine v_cSi [.long _, .long _, .long _] mv_X12_isIn ml_RX12_328 rfl rfl (Nat.le_of_ble_eq_true rfl) (Nat.le_of_ble_eq_true rfl) (Nat.le_of_ble_eq_true rfl) (Nat.zero_le _) (Nat.zero_le _) dX12_isCaller_9 (c_X12_isIn h) (fun r4 m5 h => ?_)
  obtain ⟨hx, h⟩ := h
  exact v_iret dX12_isCaller_12 rfl (nar_z hx) h
/-! CalledRiverModel.qOf -/
theorem dX12_qOf_0 : decode cX12_qOf 0 = .ok (.iload_n 1, 1) := by decide +kernel
theorem dX12_qOf_1 : decode cX12_qOf 1 = .ok (.lookupswitch 71 #[(0, 19)], 19) := by decide +kernel
theorem dX12_qOf_20 : decode cX12_qOf 20 = .ok (.aload_n 0, 1) := by decide +kernel
theorem dX12_qOf_21 : decode cX12_qOf 21 = .ok (.lload_n 2, 1) := by decide +kernel
theorem dX12_qOf_22 : decode cX12_qOf 22 = .ok (.invokevirtual 557, 3) := by decide +kernel
theorem dX12_qOf_25 : decode cX12_qOf 25 = .ok (.ifCond .eq 45, 3) := by decide +kernel
theorem dX12_qOf_28 : decode cX12_qOf 28 = .ok (.aload_n 0, 1) := by decide +kernel
theorem dX12_qOf_29 : decode cX12_qOf 29 = .ok (.getfield 152, 3) := by decide +kernel
theorem dX12_qOf_32 : decode cX12_qOf 32 = .ok (.bipush 6, 2) := by decide +kernel
theorem dX12_qOf_34 : decode cX12_qOf 34 = .ok (.lload_n 2, 1) := by decide +kernel
theorem dX12_qOf_35 : decode cX12_qOf 35 = .ok (.l2i, 1) := by decide +kernel
theorem dX12_qOf_36 : decode cX12_qOf 36 = .ok (.imul, 1) := by decide +kernel
theorem dX12_qOf_37 : decode cX12_qOf 37 = .ok (.iload 4, 2) := by decide +kernel
theorem dX12_qOf_39 : decode cX12_qOf 39 = .ok (.iadd, 1) := by decide +kernel
theorem dX12_qOf_40 : decode cX12_qOf 40 = .ok (.iaload, 1) := by decide +kernel
theorem dX12_qOf_41 : decode cX12_qOf 41 = .ok (.ifCond .lt 29, 3) := by decide +kernel
theorem dX12_qOf_44 : decode cX12_qOf 44 = .ok (.aload_n 0, 1) := by decide +kernel
theorem dX12_qOf_45 : decode cX12_qOf 45 = .ok (.getfield 152, 3) := by decide +kernel
theorem dX12_qOf_48 : decode cX12_qOf 48 = .ok (.bipush 6, 2) := by decide +kernel
theorem dX12_qOf_50 : decode cX12_qOf 50 = .ok (.lload_n 2, 1) := by decide +kernel
theorem dX12_qOf_51 : decode cX12_qOf 51 = .ok (.l2i, 1) := by decide +kernel
theorem dX12_qOf_52 : decode cX12_qOf 52 = .ok (.imul, 1) := by decide +kernel
theorem dX12_qOf_53 : decode cX12_qOf 53 = .ok (.iload 4, 2) := by decide +kernel
theorem dX12_qOf_55 : decode cX12_qOf 55 = .ok (.iadd, 1) := by decide +kernel
theorem dX12_qOf_56 : decode cX12_qOf 56 = .ok (.iaload, 1) := by decide +kernel
theorem dX12_qOf_57 : decode cX12_qOf 57 = .ok (.aload_n 0, 1) := by decide +kernel
theorem dX12_qOf_58 : decode cX12_qOf 58 = .ok (.iload 4, 2) := by decide +kernel
theorem dX12_qOf_60 : decode cX12_qOf 60 = .ok (.invokevirtual 515, 3) := by decide +kernel
theorem dX12_qOf_63 : decode cX12_qOf 63 = .ok (.if_icmp .gt 7, 3) := by decide +kernel
theorem dX12_qOf_66 : decode cX12_qOf 66 = .ok (.lconst 1, 1) := by decide +kernel
theorem dX12_qOf_67 : decode cX12_qOf 67 = .ok (.goto 4, 3) := by decide +kernel
theorem dX12_qOf_70 : decode cX12_qOf 70 = .ok (.lconst 0, 1) := by decide +kernel
theorem dX12_qOf_71 : decode cX12_qOf 71 = .ok (.lreturn, 1) := by decide +kernel
theorem dX12_qOf_72 : decode cX12_qOf 72 = .ok (.aload_n 0, 1) := by decide +kernel
theorem dX12_qOf_73 : decode cX12_qOf 73 = .ok (.lload_n 2, 1) := by decide +kernel
theorem dX12_qOf_74 : decode cX12_qOf 74 = .ok (.invokevirtual 557, 3) := by decide +kernel
theorem dX12_qOf_77 : decode cX12_qOf 77 = .ok (.ifCond .eq 20, 3) := by decide +kernel
theorem dX12_qOf_80 : decode cX12_qOf 80 = .ok (.aload_n 0, 1) := by decide +kernel
theorem dX12_qOf_81 : decode cX12_qOf 81 = .ok (.getfield 152, 3) := by decide +kernel
theorem dX12_qOf_84 : decode cX12_qOf 84 = .ok (.bipush 6, 2) := by decide +kernel
theorem dX12_qOf_86 : decode cX12_qOf 86 = .ok (.lload_n 2, 1) := by decide +kernel
theorem dX12_qOf_87 : decode cX12_qOf 87 = .ok (.l2i, 1) := by decide +kernel
theorem dX12_qOf_88 : decode cX12_qOf 88 = .ok (.imul, 1) := by decide +kernel
theorem dX12_qOf_89 : decode cX12_qOf 89 = .ok (.iload 4, 2) := by decide +kernel
theorem dX12_qOf_91 : decode cX12_qOf 91 = .ok (.iadd, 1) := by decide +kernel
theorem dX12_qOf_92 : decode cX12_qOf 92 = .ok (.iaload, 1) := by decide +kernel
theorem dX12_qOf_93 : decode cX12_qOf 93 = .ok (.i2l, 1) := by decide +kernel
theorem dX12_qOf_94 : decode cX12_qOf 94 = .ok (.goto 6, 3) := by decide +kernel
theorem dX12_qOf_97 : decode cX12_qOf 97 = .ok (.ldc2_w 690, 3) := by decide +kernel
theorem dX12_qOf_100 : decode cX12_qOf 100 = .ok (.lreturn, 1) := by decide +kernel
def wp_X12_qOf (sh : Shp) (v0 : Nat) (v1 : Int32) (v2 : Int64) (v4 : Int32) (Q : Int64 → Mem → Prop) (m : Mem) : Prop :=
  if v1 = (0 : Int32) then (Ob sh v0 12 ∧ wp_X12_isCaller sh v0 v2 (fun r1 m2 => if r1 = 0 then (Q (0 : Int64) m2) else (∃ b4 : Nat, m2.2.2 v0 66 = some b4 ∧ (Ix sh b4 100 (((6 : Int32) * v2.toInt32) + v4) ∧ (if (m2.1 b4 (((6 : Int32) * v2.toInt32) + v4).toNatClampNeg) < 0 then (Q (0 : Int64) m2) else (wp_X12_dayOf sh v0 v4 (fun r7 m8 => if r7 < (m2.1 b4 (((6 : Int32) * v2.toInt32) + v4).toNatClampNeg) then (Q (0 : Int64) m8) else (Q (1 : Int64) m8)) m2))))) m) else (Ob sh v0 12 ∧ wp_X12_isCaller sh v0 v2 (fun r9 m10 => if r9 = 0 then (Q (-1 : Int64) m10) else (∃ b12 : Nat, m10.2.2 v0 66 = some b12 ∧ (Ix sh b12 100 (((6 : Int32) * v2.toInt32) + v4) ∧ (Q (m10.1 b12 (((6 : Int32) * v2.toInt32) + v4).toNatClampNeg).toInt64 m10)))) m)
abbrev M_X12_qOf : Mi := (cX12_qOf, 5, RX12, (Option.some FieldType.long), "qOf", 3, 107, 0, 0)
set_option maxHeartbeats 4000000 in
set_option maxRecDepth 100000 in
theorem c_X12_qOf {l : Launch} {G : Gl} {sh : Shp} {v0 : Nat} {v1 : Int32} {v2 : Int64} {v4 : Int32} {Q : Int64 → Mem → Prop} {m : Mem} (h : wp_X12_qOf sh v0 v1 v2 v4 Q m) : Cnl l G yX12_qOf cX12_qOf 5 (Option.some FieldType.long) 3 107 sh [.ref (G.1 + v0), .int v1, .long v2, .int v4] m Q := by
  refine con_l (ls := [(0, .ref (G.1 + v0)), (1, .int v1), (2, .long v2), (4, .int v4)]) (by decide +kernel) rfl (Nat.le_of_ble_eq_true rfl) (fun F => ?_)
  show V G F M_X12_qOf sh 0 0 (Zl G F sh Q) 0 [(0, .ref (G.1 + v0)), (1, .int v1), (2, .long v2), (4, .int v4)] [] m
  unfold wp_X12_qOf at h
  refine v_iload_n 1 1 dX12_qOf_0 rfl rfl ?_
  by_cases hc0 : v1 = (0 : Int32)
  · replace h := Eq.mp (if_pos hc0) h
    refine v_lookK (off := 19) (0 : Int32) hc0 20 dX12_qOf_1 (by decide) (by decide) (by decide) ?_
    refine v_aload_n 0 0 dX12_qOf_20 rfl rfl ?_
    refine v_lload_n 2 2 dX12_qOf_21 rfl rfl ?_
    obtain ⟨o3, h⟩ := h
    refine v_cVi [.long _] mv_X12_isCaller ml_RX12_557 ⟨_, _, rfl⟩ o3 rfl rfl (Nat.le_of_ble_eq_true rfl) (Nat.le_of_ble_eq_true rfl) (Nat.le_of_ble_eq_true rfl) (Nat.zero_le _) (Nat.zero_le _) dX12_qOf_22 (c_X12_isCaller h) (fun r1 m2 h => ?_)
    refine v_if_eq 70 dX12_qOf_25 (by decide) (fun hc => ?_) (fun hc => ?_)
    · replace h := Eq.mp (if_pos hc) h
      refine v_lconst (0 : Int64) dX12_qOf_70 (by decide) ?_
      exact v_lret dX12_qOf_71 rfl h
    · replace h := Eq.mp (if_neg hc) h
      refine v_aload_n 0 0 dX12_qOf_28 rfl rfl ?_
      obtain ⟨b4, e5, h⟩ := h
      refine v_gR 12 66 dX12_qOf_29 fg_RX12_152 o3 e5 ?_
      refine v_bipush (6 : Int32) dX12_qOf_32 (by decide) ?_
      refine v_lload_n 2 2 dX12_qOf_34 rfl rfl ?_
      refine v_l2i dX12_qOf_35 ?_
      refine v_imul dX12_qOf_36 ?_
      refine v_iload 4 3 dX12_qOf_37 rfl ?_
      refine v_iadd dX12_qOf_39 ?_
      obtain ⟨i6, h⟩ := h
      refine v_iald dX12_qOf_40 i6 ?_
      refine v_if_lt 70 dX12_qOf_41 (by decide) (fun hc => ?_) (fun hc => ?_)
      · replace h := Eq.mp (if_pos hc) h
        refine v_lconst (0 : Int64) dX12_qOf_70 (by decide) ?_
        exact v_lret dX12_qOf_71 rfl h
      · replace h := Eq.mp (if_neg hc) h
        refine v_aload_n 0 0 dX12_qOf_44 rfl rfl ?_
        refine v_gR 12 66 dX12_qOf_45 fg_RX12_152 o3 e5 ?_
        refine v_bipush (6 : Int32) dX12_qOf_48 (by decide) ?_
        refine v_lload_n 2 2 dX12_qOf_50 rfl rfl ?_
        refine v_l2i dX12_qOf_51 ?_
        refine v_imul dX12_qOf_52 ?_
        refine v_iload 4 3 dX12_qOf_53 rfl ?_
        refine v_iadd dX12_qOf_55 ?_
        refine v_iald dX12_qOf_56 i6 ?_
        refine v_aload_n 0 0 dX12_qOf_57 rfl rfl ?_
        refine v_iload 4 3 dX12_qOf_58 rfl ?_
        refine v_cVi [.int _] mv_X12_dayOf ml_RX12_515 ⟨_, _, rfl⟩ o3 rfl rfl (Nat.le_of_ble_eq_true rfl) (Nat.le_of_ble_eq_true rfl) (Nat.le_of_ble_eq_true rfl) (Nat.zero_le _) (Nat.zero_le _) dX12_qOf_60 (c_X12_dayOf h) (fun r7 m8 h => ?_)
        refine v_icmp_gt 70 dX12_qOf_63 (by decide) (fun hc => ?_) (fun hc => ?_)
        · replace h := Eq.mp (if_pos hc) h
          refine v_lconst (0 : Int64) dX12_qOf_70 (by decide) ?_
          exact v_lret dX12_qOf_71 rfl h
        · replace h := Eq.mp (if_neg hc) h
          refine v_lconst (1 : Int64) dX12_qOf_66 (by decide) ?_
          refine v_goto 71 dX12_qOf_67 (by decide) ?_
          exact v_lret dX12_qOf_71 rfl h
  replace h := Eq.mp (if_neg hc0) h
  refine v_lookup (off := 71) 72 dX12_qOf_1 (by decide) (by rw [lv_osw hc0 (by decide)]; rfl) (by decide) ?_
  refine v_aload_n 0 0 dX12_qOf_72 rfl rfl ?_
  refine v_lload_n 2 2 dX12_qOf_73 rfl rfl ?_
  obtain ⟨o11, h⟩ := h
  refine v_cVi [.long _] mv_X12_isCaller ml_RX12_557 ⟨_, _, rfl⟩ o11 rfl rfl (Nat.le_of_ble_eq_true rfl) (Nat.le_of_ble_eq_true rfl) (Nat.le_of_ble_eq_true rfl) (Nat.zero_le _) (Nat.zero_le _) dX12_qOf_74 (c_X12_isCaller h) (fun r9 m10 h => ?_)
  refine v_if_eq 97 dX12_qOf_77 (by decide) (fun hc => ?_) (fun hc => ?_)
  · replace h := Eq.mp (if_pos hc) h
    refine v_ldc2 (-1 : Int64) dX12_qOf_97 cw_RX12_690 ?_
    exact v_lret dX12_qOf_100 rfl h
  · replace h := Eq.mp (if_neg hc) h
    refine v_aload_n 0 0 dX12_qOf_80 rfl rfl ?_
    obtain ⟨b12, e13, h⟩ := h
    refine v_gR 12 66 dX12_qOf_81 fg_RX12_152 o11 e13 ?_
    refine v_bipush (6 : Int32) dX12_qOf_84 (by decide) ?_
    refine v_lload_n 2 2 dX12_qOf_86 rfl rfl ?_
    refine v_l2i dX12_qOf_87 ?_
    refine v_imul dX12_qOf_88 ?_
    refine v_iload 4 3 dX12_qOf_89 rfl ?_
    refine v_iadd dX12_qOf_91 ?_
    obtain ⟨i14, h⟩ := h
    refine v_iald dX12_qOf_92 i14 ?_
    refine v_i2l dX12_qOf_93 ?_
    refine v_goto 100 dX12_qOf_94 (by decide) ?_
    exact v_lret dX12_qOf_100 rfl h
/-! CalledRiverModel.qTold -/
theorem dX12_qTold_0 : decode cX12_qTold 0 = .ok (.aload_n 0, 1) := by decide +kernel
theorem dX12_qTold_1 : decode cX12_qTold 1 = .ok (.iconst 0, 1) := by decide +kernel
theorem dX12_qTold_2 : decode cX12_qTold 2 = .ok (.putfield 461, 3) := by decide +kernel
theorem dX12_qTold_5 : decode cX12_qTold 5 = .ok (.iconst 0, 1) := by decide +kernel
theorem dX12_qTold_6 : decode cX12_qTold 6 = .ok (.istore_n 2, 1) := by decide +kernel
theorem dX12_qTold_7 : decode cX12_qTold 7 = .ok (.iload_n 2, 1) := by decide +kernel
theorem dX12_qTold_8 : decode cX12_qTold 8 = .ok (.aload_n 0, 1) := by decide +kernel
theorem dX12_qTold_9 : decode cX12_qTold 9 = .ok (.getfield 372, 3) := by decide +kernel
theorem dX12_qTold_12 : decode cX12_qTold 12 = .ok (.if_icmp .ge 156, 3) := by decide +kernel
theorem dX12_qTold_15 : decode cX12_qTold 15 = .ok (.aload_n 0, 1) := by decide +kernel
theorem dX12_qTold_16 : decode cX12_qTold 16 = .ok (.getfield 270, 3) := by decide +kernel
theorem dX12_qTold_19 : decode cX12_qTold 19 = .ok (.iload_n 2, 1) := by decide +kernel
theorem dX12_qTold_20 : decode cX12_qTold 20 = .ok (.iaload, 1) := by decide +kernel
theorem dX12_qTold_21 : decode cX12_qTold 21 = .ok (.istore_n 3, 1) := by decide +kernel
theorem dX12_qTold_22 : decode cX12_qTold 22 = .ok (.iload_n 3, 1) := by decide +kernel
theorem dX12_qTold_23 : decode cX12_qTold 23 = .ok (.sipush 1000, 3) := by decide +kernel
theorem dX12_qTold_26 : decode cX12_qTold 26 = .ok (.if_icmp .lt 16, 3) := by decide +kernel
theorem dX12_qTold_29 : decode cX12_qTold 29 = .ok (.aload_n 0, 1) := by decide +kernel
theorem dX12_qTold_30 : decode cX12_qTold 30 = .ok (.iload_n 3, 1) := by decide +kernel
theorem dX12_qTold_31 : decode cX12_qTold 31 = .ok (.sipush 1000, 3) := by decide +kernel
theorem dX12_qTold_34 : decode cX12_qTold 34 = .ok (.isub, 1) := by decide +kernel
theorem dX12_qTold_35 : decode cX12_qTold 35 = .ok (.i2l, 1) := by decide +kernel
theorem dX12_qTold_36 : decode cX12_qTold 36 = .ok (.invokevirtual 464, 3) := by decide +kernel
theorem dX12_qTold_39 : decode cX12_qTold 39 = .ok (.goto 123, 3) := by decide +kernel
theorem dX12_qTold_42 : decode cX12_qTold 42 = .ok (.iload_n 3, 1) := by decide +kernel
theorem dX12_qTold_43 : decode cX12_qTold 43 = .ok (.bipush 60, 2) := by decide +kernel
theorem dX12_qTold_45 : decode cX12_qTold 45 = .ok (.if_icmp .lt 40, 3) := by decide +kernel
theorem dX12_qTold_48 : decode cX12_qTold 48 = .ok (.aload_n 0, 1) := by decide +kernel
theorem dX12_qTold_49 : decode cX12_qTold 49 = .ok (.getfield 276, 3) := by decide +kernel
theorem dX12_qTold_52 : decode cX12_qTold 52 = .ok (.aload_n 0, 1) := by decide +kernel
theorem dX12_qTold_53 : decode cX12_qTold 53 = .ok (.getfield 461, 3) := by decide +kernel
theorem dX12_qTold_56 : decode cX12_qTold 56 = .ok (.iconst 1, 1) := by decide +kernel
theorem dX12_qTold_57 : decode cX12_qTold 57 = .ok (.isub, 1) := by decide +kernel
theorem dX12_qTold_58 : decode cX12_qTold 58 = .ok (.aload_n 0, 1) := by decide +kernel
theorem dX12_qTold_59 : decode cX12_qTold 59 = .ok (.iload_n 3, 1) := by decide +kernel
theorem dX12_qTold_60 : decode cX12_qTold 60 = .ok (.bipush 60, 2) := by decide +kernel
theorem dX12_qTold_62 : decode cX12_qTold 62 = .ok (.isub, 1) := by decide +kernel
theorem dX12_qTold_63 : decode cX12_qTold 63 = .ok (.aload_n 0, 1) := by decide +kernel
theorem dX12_qTold_64 : decode cX12_qTold 64 = .ok (.getfield 276, 3) := by decide +kernel
theorem dX12_qTold_67 : decode cX12_qTold 67 = .ok (.aload_n 0, 1) := by decide +kernel
theorem dX12_qTold_68 : decode cX12_qTold 68 = .ok (.getfield 461, 3) := by decide +kernel
theorem dX12_qTold_71 : decode cX12_qTold 71 = .ok (.iconst 1, 1) := by decide +kernel
theorem dX12_qTold_72 : decode cX12_qTold 72 = .ok (.isub, 1) := by decide +kernel
theorem dX12_qTold_73 : decode cX12_qTold 73 = .ok (.laload, 1) := by decide +kernel
theorem dX12_qTold_74 : decode cX12_qTold 74 = .ok (.iload_n 1, 1) := by decide +kernel
theorem dX12_qTold_75 : decode cX12_qTold 75 = .ok (.invokevirtual 692, 3) := by decide +kernel
theorem dX12_qTold_78 : decode cX12_qTold 78 = .ok (.invokestatic 679, 3) := by decide +kernel
theorem dX12_qTold_81 : decode cX12_qTold 81 = .ok (.lastore, 1) := by decide +kernel
theorem dX12_qTold_82 : decode cX12_qTold 82 = .ok (.goto 80, 3) := by decide +kernel
theorem dX12_qTold_85 : decode cX12_qTold 85 = .ok (.iload_n 3, 1) := by decide +kernel
theorem dX12_qTold_86 : decode cX12_qTold 86 = .ok (.bipush 40, 2) := by decide +kernel
theorem dX12_qTold_88 : decode cX12_qTold 88 = .ok (.if_icmp .lt 22, 3) := by decide +kernel
theorem dX12_qTold_91 : decode cX12_qTold 91 = .ok (.aload_n 0, 1) := by decide +kernel
theorem dX12_qTold_92 : decode cX12_qTold 92 = .ok (.aload_n 0, 1) := by decide +kernel
theorem dX12_qTold_93 : decode cX12_qTold 93 = .ok (.iload_n 3, 1) := by decide +kernel
theorem dX12_qTold_94 : decode cX12_qTold 94 = .ok (.bipush 40, 2) := by decide +kernel
theorem dX12_qTold_96 : decode cX12_qTold 96 = .ok (.isub, 1) := by decide +kernel
theorem dX12_qTold_97 : decode cX12_qTold 97 = .ok (.iload_n 1, 1) := by decide +kernel
theorem dX12_qTold_98 : decode cX12_qTold 98 = .ok (.invokevirtual 468, 3) := by decide +kernel
theorem dX12_qTold_101 : decode cX12_qTold 101 = .ok (.invokestatic 679, 3) := by decide +kernel
theorem dX12_qTold_104 : decode cX12_qTold 104 = .ok (.invokevirtual 464, 3) := by decide +kernel
theorem dX12_qTold_107 : decode cX12_qTold 107 = .ok (.goto 55, 3) := by decide +kernel
theorem dX12_qTold_110 : decode cX12_qTold 110 = .ok (.iload_n 3, 1) := by decide +kernel
theorem dX12_qTold_111 : decode cX12_qTold 111 = .ok (.bipush 13, 2) := by decide +kernel
theorem dX12_qTold_113 : decode cX12_qTold 113 = .ok (.if_icmp .ne 11, 3) := by decide +kernel
theorem dX12_qTold_116 : decode cX12_qTold 116 = .ok (.aload_n 0, 1) := by decide +kernel
theorem dX12_qTold_117 : decode cX12_qTold 117 = .ok (.lconst 1, 1) := by decide +kernel
theorem dX12_qTold_118 : decode cX12_qTold 118 = .ok (.invokevirtual 464, 3) := by decide +kernel
theorem dX12_qTold_121 : decode cX12_qTold 121 = .ok (.goto 41, 3) := by decide +kernel
theorem dX12_qTold_124 : decode cX12_qTold 124 = .ok (.iload_n 3, 1) := by decide +kernel
theorem dX12_qTold_125 : decode cX12_qTold 125 = .ok (.bipush 12, 2) := by decide +kernel
theorem dX12_qTold_127 : decode cX12_qTold 127 = .ok (.if_icmp .ne 30, 3) := by decide +kernel
theorem dX12_qTold_130 : decode cX12_qTold 130 = .ok (.aload_n 0, 1) := by decide +kernel
theorem dX12_qTold_131 : decode cX12_qTold 131 = .ok (.getfield 276, 3) := by decide +kernel
theorem dX12_qTold_134 : decode cX12_qTold 134 = .ok (.aload_n 0, 1) := by decide +kernel
theorem dX12_qTold_135 : decode cX12_qTold 135 = .ok (.getfield 461, 3) := by decide +kernel
theorem dX12_qTold_138 : decode cX12_qTold 138 = .ok (.iconst 1, 1) := by decide +kernel
theorem dX12_qTold_139 : decode cX12_qTold 139 = .ok (.isub, 1) := by decide +kernel
theorem dX12_qTold_140 : decode cX12_qTold 140 = .ok (.lconst 1, 1) := by decide +kernel
theorem dX12_qTold_141 : decode cX12_qTold 141 = .ok (.aload_n 0, 1) := by decide +kernel
theorem dX12_qTold_142 : decode cX12_qTold 142 = .ok (.getfield 276, 3) := by decide +kernel
theorem dX12_qTold_145 : decode cX12_qTold 145 = .ok (.aload_n 0, 1) := by decide +kernel
theorem dX12_qTold_146 : decode cX12_qTold 146 = .ok (.getfield 461, 3) := by decide +kernel
theorem dX12_qTold_149 : decode cX12_qTold 149 = .ok (.iconst 1, 1) := by decide +kernel
theorem dX12_qTold_150 : decode cX12_qTold 150 = .ok (.isub, 1) := by decide +kernel
theorem dX12_qTold_151 : decode cX12_qTold 151 = .ok (.laload, 1) := by decide +kernel
theorem dX12_qTold_152 : decode cX12_qTold 152 = .ok (.lsub, 1) := by decide +kernel
theorem dX12_qTold_153 : decode cX12_qTold 153 = .ok (.lastore, 1) := by decide +kernel
theorem dX12_qTold_154 : decode cX12_qTold 154 = .ok (.goto 8, 3) := by decide +kernel
theorem dX12_qTold_157 : decode cX12_qTold 157 = .ok (.aload_n 0, 1) := by decide +kernel
theorem dX12_qTold_158 : decode cX12_qTold 158 = .ok (.iload_n 3, 1) := by decide +kernel
theorem dX12_qTold_159 : decode cX12_qTold 159 = .ok (.invokevirtual 472, 3) := by decide +kernel
theorem dX12_qTold_162 : decode cX12_qTold 162 = .ok (.iinc 2 1, 3) := by decide +kernel
theorem dX12_qTold_165 : decode cX12_qTold 165 = .ok (.goto (-158), 3) := by decide +kernel
theorem dX12_qTold_168 : decode cX12_qTold 168 = .ok (.aload_n 0, 1) := by decide +kernel
theorem dX12_qTold_169 : decode cX12_qTold 169 = .ok (.getfield 276, 3) := by decide +kernel
theorem dX12_qTold_172 : decode cX12_qTold 172 = .ok (.iconst 0, 1) := by decide +kernel
theorem dX12_qTold_173 : decode cX12_qTold 173 = .ok (.laload, 1) := by decide +kernel
theorem dX12_qTold_174 : decode cX12_qTold 174 = .ok (.lreturn, 1) := by decide +kernel
def X12_qTold_p162 (sh : Shp) (v0 : Nat) (v1 : Int32) (v2 : Int32) (Q : Int64 → Mem → Prop) (K7 : Int32 → Mem → Prop) (m : Mem) : Prop :=
  K7 (v2 + (1 : Int32)) m
def X12_qTold_p7b (sh : Shp) (v0 : Nat) (v1 : Int32) (Q : Int64 → Mem → Prop) (K7 : Int32 → Mem → Prop) (v2 : Int32) (m : Mem) : Prop :=
  Ob sh v0 12 ∧ (if (m.1 v0 109) ≤ v2 then (∃ b4 : Nat, m.2.2 v0 114 = some b4 ∧ (Ix sh b4 103 (0 : Int32) ∧ (Q (m.2.1 b4 (0 : Int32).toNatClampNeg) m))) else (∃ b7 : Nat, m.2.2 v0 108 = some b7 ∧ (Ix sh b7 100 v2 ∧ (if (m.1 b7 v2.toNatClampNeg) < (1000 : Int32) then (if (m.1 b7 v2.toNatClampNeg) < (60 : Int32) then (if (m.1 b7 v2.toNatClampNeg) < (40 : Int32) then (if (m.1 b7 v2.toNatClampNeg) = (13 : Int32) then (wp_X12_qPuts sh v0 (1 : Int64) (fun m17 => X12_qTold_p162 sh v0 v1 v2 Q K7 m17) m) else (if (m.1 b7 v2.toNatClampNeg) = (12 : Int32) then (∃ b12 : Nat, m.2.2 v0 114 = some b12 ∧ (Ix sh b12 103 ((m.1 v0 115) - (1 : Int32)) ∧ (bnd (sL m b12 ((m.1 v0 115) - (1 : Int32)).toNatClampNeg ((1 : Int64) - (m.2.1 b12 ((m.1 v0 115) - (1 : Int32)).toNatClampNeg))) (fun m15 => X12_qTold_p162 sh v0 v1 v2 Q K7 m15)))) else (wp_X12_qJoins sh v0 (m.1 b7 v2.toNatClampNeg) (fun m11 => X12_qTold_p162 sh v0 v1 v2 Q K7 m11) m))) else (wp_X12_qPartOf sh v0 ((m.1 b7 v2.toNatClampNeg) - (40 : Int32)) v1 (fun r18 m19 => wp_X12_qClip sh r18 (fun r20 m21 => wp_X12_qPuts sh v0 r20 (fun m23 => X12_qTold_p162 sh v0 v1 v2 Q K7 m23) m21) m19) m)) else (∃ b24 : Nat, m.2.2 v0 114 = some b24 ∧ (Ix sh b24 103 ((m.1 v0 115) - (1 : Int32)) ∧ (wp_X12_qOf sh v0 ((m.1 b7 v2.toNatClampNeg) - (60 : Int32)) (m.2.1 b24 ((m.1 v0 115) - (1 : Int32)).toNatClampNeg) v1 (fun r27 m28 => wp_X12_qClip sh r27 (fun r29 m30 => bnd (sL m30 b24 ((m.1 v0 115) - (1 : Int32)).toNatClampNeg r29) (fun m31 => X12_qTold_p162 sh v0 v1 v2 Q K7 m31)) m28) m)))) else (wp_X12_qPuts sh v0 ((m.1 b7 v2.toNatClampNeg) - (1000 : Int32)).toInt64 (fun m33 => X12_qTold_p162 sh v0 v1 v2 Q K7 m33) m)))))
def X12_qTold_p7n (sh : Shp) (v0 : Nat) (v1 : Int32) (Q : Int64 → Mem → Prop) : Nat → Int32 → Mem → Prop
  | 0 => fun _ _ => False
  | n + 1 => X12_qTold_p7b sh v0 v1 Q (X12_qTold_p7n sh v0 v1 Q n)
def X12_qTold_p7 (sh : Shp) (v0 : Nat) (v1 : Int32) (Q : Int64 → Mem → Prop) (v2 : Int32) (m : Mem) : Prop := ∃ n, X12_qTold_p7n sh v0 v1 Q n v2 m
def wp_X12_qTold (sh : Shp) (v0 : Nat) (v1 : Int32) (Q : Int64 → Mem → Prop) (m : Mem) : Prop :=
  Ob sh v0 12 ∧ bnd (sI m v0 115 (0 : Int32)) (fun m2 => X12_qTold_p7 sh v0 v1 Q (0 : Int32) m2)
abbrev M_X12_qTold : Mi := (cX12_qTold, 4, RX12, (Option.some FieldType.long), "qTold", 5, 147, 0, 0)
set_option maxHeartbeats 4000000 in
set_option maxRecDepth 100000 in
theorem v_X12_qTold_p162 {G : Gl} {F : Fr} {sh : Shp} {v0 : Nat} {v1 : Int32} {v2 : Int32} {Q : Int64 → Mem → Prop} {K7 : Int32 → Mem → Prop} {m : Mem} (hK7 : ∀ (x2 : Int32) (m : Mem), K7 x2 m → V G F M_X12_qTold sh 0 0 (Zl G F sh Q) 7 [(0, .ref (G.1 + v0)), (1, .int v1), (2, .int x2)] [] m) (h : X12_qTold_p162 sh v0 v1 v2 Q K7 m) : V G F M_X12_qTold sh 0 0 (Zl G F sh Q) 162 [(0, .ref (G.1 + v0)), (1, .int v1), (2, .int v2)] [] m := by
  unfold X12_qTold_p162 at h
  refine v_iinc (ls' := [(2, .int _), (0, .ref _), (1, .int _)]) 2 2 dX12_qTold_162 rfl (congrArg (HAdd.hAdd _) (by decide : Int32.ofInt (1) = (1 : Int32))) (Nat.le_of_ble_eq_true rfl) rfl ?_
  refine v_goto 7 dX12_qTold_165 (by decide) ?_
  refine v_sub [1, 2, 0] rfl ?_
  exact hK7 _ _ h
set_option maxHeartbeats 4000000 in
set_option maxRecDepth 100000 in
theorem v_X12_qTold_p7b {G : Gl} {F : Fr} {sh : Shp} {v0 : Nat} {v1 : Int32} {v2 : Int32} {Q : Int64 → Mem → Prop} {K7 : Int32 → Mem → Prop} {m : Mem} (hK7 : ∀ (x2 : Int32) (m : Mem), K7 x2 m → V G F M_X12_qTold sh 0 0 (Zl G F sh Q) 7 [(0, .ref (G.1 + v0)), (1, .int v1), (2, .int x2)] [] m) (h : X12_qTold_p7b sh v0 v1 Q K7 v2 m) : V G F M_X12_qTold sh 0 0 (Zl G F sh Q) 7 [(0, .ref (G.1 + v0)), (1, .int v1), (2, .int v2)] [] m := by
  unfold X12_qTold_p7b at h
  refine v_iload_n 2 2 dX12_qTold_7 rfl rfl ?_
  refine v_aload_n 0 0 dX12_qTold_8 rfl rfl ?_
  obtain ⟨o3, h⟩ := h
  refine v_gI 12 109 dX12_qTold_9 fg_RX12_372 o3 ?_
  refine v_icmp_ge 168 dX12_qTold_12 (by decide) (fun hc => ?_) (fun hc => ?_)
  · replace h := Eq.mp (if_pos hc) h
    refine v_aload_n 0 0 dX12_qTold_168 rfl rfl ?_
    obtain ⟨b4, e5, h⟩ := h
    refine v_gR 12 114 dX12_qTold_169 fg_RX12_276 o3 e5 ?_
    refine v_iconst (0 : Int32) dX12_qTold_172 (by decide) ?_
    obtain ⟨i6, h⟩ := h
    refine v_lald dX12_qTold_173 i6 ?_
    exact v_lret dX12_qTold_174 rfl h
  · replace h := Eq.mp (if_neg hc) h
    refine v_aload_n 0 0 dX12_qTold_15 rfl rfl ?_
    obtain ⟨b7, e8, h⟩ := h
    refine v_gR 12 108 dX12_qTold_16 fg_RX12_270 o3 e8 ?_
    refine v_iload_n 2 2 dX12_qTold_19 rfl rfl ?_
    obtain ⟨i9, h⟩ := h
    refine v_iald dX12_qTold_20 i9 ?_
    refine v_istore_n (ls' := [(3, .int _), (0, .ref _), (1, .int _), (2, .int _)]) 3 dX12_qTold_21 rfl (Nat.le_of_ble_eq_true rfl) rfl ?_
    refine v_iload_n 3 0 dX12_qTold_22 rfl rfl ?_
    refine v_sipush (1000 : Int32) dX12_qTold_23 (by decide) ?_
    refine v_icmp_lt 42 dX12_qTold_26 (by decide) (fun hc => ?_) (fun hc => ?_)
    · replace h := Eq.mp (if_pos hc) h
      refine v_iload_n 3 0 dX12_qTold_42 rfl rfl ?_
      refine v_bipush (60 : Int32) dX12_qTold_43 (by decide) ?_
      refine v_icmp_lt 85 dX12_qTold_45 (by decide) (fun hc => ?_) (fun hc => ?_)
      · replace h := Eq.mp (if_pos hc) h
        refine v_iload_n 3 0 dX12_qTold_85 rfl rfl ?_
        refine v_bipush (40 : Int32) dX12_qTold_86 (by decide) ?_
        refine v_icmp_lt 110 dX12_qTold_88 (by decide) (fun hc => ?_) (fun hc => ?_)
        · replace h := Eq.mp (if_pos hc) h
          refine v_iload_n 3 0 dX12_qTold_110 rfl rfl ?_
          refine v_bipush (13 : Int32) dX12_qTold_111 (by decide) ?_
          refine v_icmp_ne 124 dX12_qTold_113 (by decide) (fun hc => ?_) (fun hc => ?_)
          · replace h := Eq.mp (if_neg hc) h
            refine v_iload_n 3 0 dX12_qTold_124 rfl rfl ?_
            refine v_bipush (12 : Int32) dX12_qTold_125 (by decide) ?_
            refine v_icmp_ne 157 dX12_qTold_127 (by decide) (fun hc => ?_) (fun hc => ?_)
            · replace h := Eq.mp (if_neg hc) h
              refine v_aload_n 0 1 dX12_qTold_157 rfl rfl ?_
              refine v_iload_n 3 0 dX12_qTold_158 rfl rfl ?_
              refine v_cVv [.int _] mv_X12_qJoins ml_RX12_472 ⟨_, _, rfl⟩ o3 rfl rfl (Nat.le_of_ble_eq_true rfl) (Nat.le_of_ble_eq_true rfl) (Nat.le_of_ble_eq_true rfl) (Nat.zero_le _) (Nat.zero_le _) dX12_qTold_159 (c_X12_qJoins h) (fun m11 h => ?_)
              refine v_sub [1, 2, 3] rfl ?_
              exact v_X12_qTold_p162 hK7 h
            · replace h := Eq.mp (if_pos hc) h
              refine v_aload_n 0 1 dX12_qTold_130 rfl rfl ?_
              obtain ⟨b12, e13, h⟩ := h
              refine v_gR 12 114 dX12_qTold_131 fg_RX12_276 o3 e13 ?_
              refine v_aload_n 0 1 dX12_qTold_134 rfl rfl ?_
              refine v_gI 12 115 dX12_qTold_135 fg_RX12_461 o3 ?_
              refine v_iconst (1 : Int32) dX12_qTold_138 (by decide) ?_
              refine v_isub dX12_qTold_139 ?_
              refine v_lconst (1 : Int64) dX12_qTold_140 (by decide) ?_
              refine v_aload_n 0 1 dX12_qTold_141 rfl rfl ?_
              refine v_gR 12 114 dX12_qTold_142 fg_RX12_276 o3 e13 ?_
              refine v_aload_n 0 1 dX12_qTold_145 rfl rfl ?_
              refine v_gI 12 115 dX12_qTold_146 fg_RX12_461 o3 ?_
              refine v_iconst (1 : Int32) dX12_qTold_149 (by decide) ?_
              refine v_isub dX12_qTold_150 ?_
              obtain ⟨i14, h⟩ := h
              refine v_lald dX12_qTold_151 i14 ?_
              refine v_lsub dX12_qTold_152 ?_
              refine v_last dX12_qTold_153 i14 ?_
              replace h := bnd_e h
              refine v_goto 162 dX12_qTold_154 (by decide) ?_
              refine v_sub [1, 2, 3] rfl ?_
              exact v_X12_qTold_p162 hK7 h
          · replace h := Eq.mp (if_pos hc) h
            refine v_aload_n 0 1 dX12_qTold_116 rfl rfl ?_
            refine v_lconst (1 : Int64) dX12_qTold_117 (by decide) ?_
            refine v_cVv [.long _] mv_X12_qPuts ml_RX12_464 ⟨_, _, rfl⟩ o3 rfl rfl (Nat.le_of_ble_eq_true rfl) (Nat.le_of_ble_eq_true rfl) (Nat.le_of_ble_eq_true rfl) (Nat.zero_le _) (Nat.zero_le _) dX12_qTold_118 (c_X12_qPuts h) (fun m17 h => ?_)
            refine v_goto 162 dX12_qTold_121 (by decide) ?_
            refine v_sub [1, 2, 3] rfl ?_
            exact v_X12_qTold_p162 hK7 h
        · replace h := Eq.mp (if_neg hc) h
          refine v_aload_n 0 1 dX12_qTold_91 rfl rfl ?_
          refine v_aload_n 0 1 dX12_qTold_92 rfl rfl ?_
          refine v_iload_n 3 0 dX12_qTold_93 rfl rfl ?_
          refine v_bipush (40 : Int32) dX12_qTold_94 (by decide) ?_
          refine v_isub dX12_qTold_96 ?_
          refine v_iload_n 1 2 dX12_qTold_97 rfl rfl ?_
          refine v_cVl [.int _, .int _] mv_X12_qPartOf ml_RX12_468 ⟨_, _, rfl⟩ o3 rfl rfl (Nat.le_of_ble_eq_true rfl) (Nat.le_of_ble_eq_true rfl) (Nat.le_of_ble_eq_true rfl) (Nat.zero_le _) (Nat.zero_le _) dX12_qTold_98 (c_X12_qPartOf h) (fun r18 m19 h => ?_)
          refine v_cSl [.long _] mv_X12_qClip ml_RX12_679 rfl rfl (Nat.le_of_ble_eq_true rfl) (Nat.le_of_ble_eq_true rfl) (Nat.le_of_ble_eq_true rfl) (Nat.zero_le _) (Nat.zero_le _) dX12_qTold_101 (c_X12_qClip h) (fun r20 m21 h => ?_)
          refine v_cVv [.long _] mv_X12_qPuts ml_RX12_464 ⟨_, _, rfl⟩ o3 rfl rfl (Nat.le_of_ble_eq_true rfl) (Nat.le_of_ble_eq_true rfl) (Nat.le_of_ble_eq_true rfl) (Nat.zero_le _) (Nat.zero_le _) dX12_qTold_104 (c_X12_qPuts h) (fun m23 h => ?_)
          refine v_goto 162 dX12_qTold_107 (by decide) ?_
          refine v_sub [1, 2, 3] rfl ?_
          exact v_X12_qTold_p162 hK7 h
      · replace h := Eq.mp (if_neg hc) h
        refine v_aload_n 0 1 dX12_qTold_48 rfl rfl ?_
        obtain ⟨b24, e25, h⟩ := h
        refine v_gR 12 114 dX12_qTold_49 fg_RX12_276 o3 e25 ?_
        refine v_aload_n 0 1 dX12_qTold_52 rfl rfl ?_
        refine v_gI 12 115 dX12_qTold_53 fg_RX12_461 o3 ?_
        refine v_iconst (1 : Int32) dX12_qTold_56 (by decide) ?_
        refine v_isub dX12_qTold_57 ?_
        refine v_aload_n 0 1 dX12_qTold_58 rfl rfl ?_
        refine v_iload_n 3 0 dX12_qTold_59 rfl rfl ?_
        refine v_bipush (60 : Int32) dX12_qTold_60 (by decide) ?_
        refine v_isub dX12_qTold_62 ?_
        refine v_aload_n 0 1 dX12_qTold_63 rfl rfl ?_
        refine v_gR 12 114 dX12_qTold_64 fg_RX12_276 o3 e25 ?_
        refine v_aload_n 0 1 dX12_qTold_67 rfl rfl ?_
        refine v_gI 12 115 dX12_qTold_68 fg_RX12_461 o3 ?_
        refine v_iconst (1 : Int32) dX12_qTold_71 (by decide) ?_
        refine v_isub dX12_qTold_72 ?_
        obtain ⟨i26, h⟩ := h
        refine v_lald dX12_qTold_73 i26 ?_
        refine v_iload_n 1 2 dX12_qTold_74 rfl rfl ?_
        refine v_cVl [.int _, .long _, .int _] mv_X12_qOf ml_RX12_692 ⟨_, _, rfl⟩ o3 rfl rfl (Nat.le_of_ble_eq_true rfl) (Nat.le_of_ble_eq_true rfl) (Nat.le_of_ble_eq_true rfl) (Nat.zero_le _) (Nat.zero_le _) dX12_qTold_75 (c_X12_qOf h) (fun r27 m28 h => ?_)
        refine v_cSl [.long _] mv_X12_qClip ml_RX12_679 rfl rfl (Nat.le_of_ble_eq_true rfl) (Nat.le_of_ble_eq_true rfl) (Nat.le_of_ble_eq_true rfl) (Nat.zero_le _) (Nat.zero_le _) dX12_qTold_78 (c_X12_qClip h) (fun r29 m30 h => ?_)
        refine v_last dX12_qTold_81 i26 ?_
        replace h := bnd_e h
        refine v_goto 162 dX12_qTold_82 (by decide) ?_
        refine v_sub [1, 2, 3] rfl ?_
        exact v_X12_qTold_p162 hK7 h
    · replace h := Eq.mp (if_neg hc) h
      refine v_aload_n 0 1 dX12_qTold_29 rfl rfl ?_
      refine v_iload_n 3 0 dX12_qTold_30 rfl rfl ?_
      refine v_sipush (1000 : Int32) dX12_qTold_31 (by decide) ?_
      refine v_isub dX12_qTold_34 ?_
      refine v_i2l dX12_qTold_35 ?_
      refine v_cVv [.long _] mv_X12_qPuts ml_RX12_464 ⟨_, _, rfl⟩ o3 rfl rfl (Nat.le_of_ble_eq_true rfl) (Nat.le_of_ble_eq_true rfl) (Nat.le_of_ble_eq_true rfl) (Nat.zero_le _) (Nat.zero_le _) dX12_qTold_36 (c_X12_qPuts h) (fun m33 h => ?_)
      refine v_goto 162 dX12_qTold_39 (by decide) ?_
      refine v_sub [1, 2, 3] rfl ?_
      exact v_X12_qTold_p162 hK7 h
set_option maxHeartbeats 4000000 in
set_option maxRecDepth 100000 in
theorem v_X12_qTold_p7 {G : Gl} {F : Fr} {sh : Shp} {v0 : Nat} {v1 : Int32} {v2 : Int32} {Q : Int64 → Mem → Prop} {m : Mem} (h : X12_qTold_p7 sh v0 v1 Q v2 m) : V G F M_X12_qTold sh 0 0 (Zl G F sh Q) 7 [(0, .ref (G.1 + v0)), (1, .int v1), (2, .int v2)] [] m := by
  obtain ⟨n, h⟩ := h
  induction n generalizing v2 m with
  | zero => exact h.elim
  | succ n ih => exact v_X12_qTold_p7b (fun _ _ h => ih h) h
set_option maxHeartbeats 4000000 in
set_option maxRecDepth 100000 in
theorem c_X12_qTold {l : Launch} {G : Gl} {sh : Shp} {v0 : Nat} {v1 : Int32} {Q : Int64 → Mem → Prop} {m : Mem} (h : wp_X12_qTold sh v0 v1 Q m) : Cnl l G yX12_qTold cX12_qTold 4 (Option.some FieldType.long) 5 147 sh [.ref (G.1 + v0), .int v1] m Q := by
  refine con_l (ls := [(0, .ref (G.1 + v0)), (1, .int v1)]) (by decide +kernel) rfl (Nat.le_of_ble_eq_true rfl) (fun F => ?_)
  show V G F M_X12_qTold sh 0 0 (Zl G F sh Q) 0 [(0, .ref (G.1 + v0)), (1, .int v1)] [] m
  unfold wp_X12_qTold at h
  refine v_aload_n 0 0 dX12_qTold_0 rfl rfl ?_
  refine v_iconst (0 : Int32) dX12_qTold_1 (by decide) ?_
  obtain ⟨o1, h⟩ := h
  refine v_pI 12 115 dX12_qTold_2 fw_RX12_461 o1 ?_
  replace h := bnd_e h
  refine v_iconst (0 : Int32) dX12_qTold_5 (by decide) ?_
  refine v_istore_n (ls' := [(2, .int _), (0, .ref _), (1, .int _)]) 2 dX12_qTold_6 rfl (Nat.le_of_ble_eq_true rfl) rfl ?_
  refine v_sub [1, 2, 0] rfl ?_
  exact v_X12_qTold_p7 h
/-! CalledRiverModel.ask -/
theorem dX12_ask_0 : decode cX12_ask 0 = .ok (.aload_n 0, 1) := by decide +kernel
theorem dX12_ask_1 : decode cX12_ask 1 = .ok (.getfield 423, 3) := by decide +kernel
theorem dX12_ask_4 : decode cX12_ask 4 = .ok (.ifCond .ne 12, 3) := by decide +kernel
theorem dX12_ask_7 : decode cX12_ask 7 = .ok (.aload_n 0, 1) := by decide +kernel
theorem dX12_ask_8 : decode cX12_ask 8 = .ok (.iconst 0, 1) := by decide +kernel
theorem dX12_ask_9 : decode cX12_ask 9 = .ok (.putfield 282, 3) := by decide +kernel
theorem dX12_ask_12 : decode cX12_ask 12 = .ok (.ldc2_w 702, 3) := by decide +kernel
theorem dX12_ask_15 : decode cX12_ask 15 = .ok (.lreturn, 1) := by decide +kernel
theorem dX12_ask_16 : decode cX12_ask 16 = .ok (.aload_n 0, 1) := by decide +kernel
theorem dX12_ask_17 : decode cX12_ask 17 = .ok (.aload_n 0, 1) := by decide +kernel
theorem dX12_ask_18 : decode cX12_ask 18 = .ok (.getfield 282, 3) := by decide +kernel
theorem dX12_ask_21 : decode cX12_ask 21 = .ok (.putfield 294, 3) := by decide +kernel
theorem dX12_ask_24 : decode cX12_ask 24 = .ok (.aload_n 0, 1) := by decide +kernel
theorem dX12_ask_25 : decode cX12_ask 25 = .ok (.iconst 0, 1) := by decide +kernel
theorem dX12_ask_26 : decode cX12_ask 26 = .ok (.putfield 282, 3) := by decide +kernel
theorem dX12_ask_29 : decode cX12_ask 29 = .ok (.aload_n 0, 1) := by decide +kernel
theorem dX12_ask_30 : decode cX12_ask 30 = .ok (.iconst 0, 1) := by decide +kernel
theorem dX12_ask_31 : decode cX12_ask 31 = .ok (.putfield 291, 3) := by decide +kernel
theorem dX12_ask_34 : decode cX12_ask 34 = .ok (.aload_n 0, 1) := by decide +kernel
theorem dX12_ask_35 : decode cX12_ask 35 = .ok (.iconst (-1), 1) := by decide +kernel
theorem dX12_ask_36 : decode cX12_ask 36 = .ok (.putfield 305, 3) := by decide +kernel
theorem dX12_ask_39 : decode cX12_ask 39 = .ok (.aload_n 0, 1) := by decide +kernel
theorem dX12_ask_40 : decode cX12_ask 40 = .ok (.iconst 0, 1) := by decide +kernel
theorem dX12_ask_41 : decode cX12_ask 41 = .ok (.putfield 285, 3) := by decide +kernel
theorem dX12_ask_44 : decode cX12_ask 44 = .ok (.aload_n 0, 1) := by decide +kernel
theorem dX12_ask_45 : decode cX12_ask 45 = .ok (.iconst (-1), 1) := by decide +kernel
theorem dX12_ask_46 : decode cX12_ask 46 = .ok (.putfield 288, 3) := by decide +kernel
theorem dX12_ask_49 : decode cX12_ask 49 = .ok (.aload_n 0, 1) := by decide +kernel
theorem dX12_ask_50 : decode cX12_ask 50 = .ok (.iconst 2, 1) := by decide +kernel
theorem dX12_ask_51 : decode cX12_ask 51 = .ok (.putfield 343, 3) := by decide +kernel
theorem dX12_ask_54 : decode cX12_ask 54 = .ok (.aload_n 0, 1) := by decide +kernel
theorem dX12_ask_55 : decode cX12_ask 55 = .ok (.iconst 0, 1) := by decide +kernel
theorem dX12_ask_56 : decode cX12_ask 56 = .ok (.putfield 372, 3) := by decide +kernel
theorem dX12_ask_59 : decode cX12_ask 59 = .ok (.aload_n 0, 1) := by decide +kernel
theorem dX12_ask_60 : decode cX12_ask 60 = .ok (.iconst 0, 1) := by decide +kernel
theorem dX12_ask_61 : decode cX12_ask 61 = .ok (.putfield 375, 3) := by decide +kernel
theorem dX12_ask_64 : decode cX12_ask 64 = .ok (.aload_n 0, 1) := by decide +kernel
theorem dX12_ask_65 : decode cX12_ask 65 = .ok (.iconst 0, 1) := by decide +kernel
theorem dX12_ask_66 : decode cX12_ask 66 = .ok (.putfield 378, 3) := by decide +kernel
theorem dX12_ask_69 : decode cX12_ask 69 = .ok (.aload_n 0, 1) := by decide +kernel
theorem dX12_ask_70 : decode cX12_ask 70 = .ok (.iconst 0, 1) := by decide +kernel
theorem dX12_ask_71 : decode cX12_ask 71 = .ok (.putfield 381, 3) := by decide +kernel
theorem dX12_ask_74 : decode cX12_ask 74 = .ok (.aload_n 0, 1) := by decide +kernel
theorem dX12_ask_75 : decode cX12_ask 75 = .ok (.invokevirtual 704, 3) := by decide +kernel
theorem dX12_ask_78 : decode cX12_ask 78 = .ok (.istore_n 1, 1) := by decide +kernel
theorem dX12_ask_79 : decode cX12_ask 79 = .ok (.aload_n 0, 1) := by decide +kernel
theorem dX12_ask_80 : decode cX12_ask 80 = .ok (.getfield 285, 3) := by decide +kernel
theorem dX12_ask_83 : decode cX12_ask 83 = .ok (.ifCond .ne 15, 3) := by decide +kernel
theorem dX12_ask_86 : decode cX12_ask 86 = .ok (.iload_n 1, 1) := by decide +kernel
theorem dX12_ask_87 : decode cX12_ask 87 = .ok (.iconst 3, 1) := by decide +kernel
theorem dX12_ask_88 : decode cX12_ask 88 = .ok (.if_icmp .ge 10, 3) := by decide +kernel
theorem dX12_ask_91 : decode cX12_ask 91 = .ok (.aload_n 0, 1) := by decide +kernel
theorem dX12_ask_92 : decode cX12_ask 92 = .ok (.invokevirtual 707, 3) := by decide +kernel
theorem dX12_ask_95 : decode cX12_ask 95 = .ok (.goto 14, 3) := by decide +kernel
theorem dX12_ask_98 : decode cX12_ask 98 = .ok (.aload_n 0, 1) := by decide +kernel
theorem dX12_ask_99 : decode cX12_ask 99 = .ok (.getfield 285, 3) := by decide +kernel
theorem dX12_ask_102 : decode cX12_ask 102 = .ok (.ifCond .ne 7, 3) := by decide +kernel
theorem dX12_ask_105 : decode cX12_ask 105 = .ok (.aload_n 0, 1) := by decide +kernel
theorem dX12_ask_106 : decode cX12_ask 106 = .ok (.invokevirtual 384, 3) := by decide +kernel
theorem dX12_ask_109 : decode cX12_ask 109 = .ok (.aload_n 0, 1) := by decide +kernel
theorem dX12_ask_110 : decode cX12_ask 110 = .ok (.getfield 285, 3) := by decide +kernel
theorem dX12_ask_113 : decode cX12_ask 113 = .ok (.ifCond .ne 20, 3) := by decide +kernel
theorem dX12_ask_116 : decode cX12_ask 116 = .ok (.aload_n 0, 1) := by decide +kernel
theorem dX12_ask_117 : decode cX12_ask 117 = .ok (.invokevirtual 297, 3) := by decide +kernel
theorem dX12_ask_120 : decode cX12_ask 120 = .ok (.iconst (-1), 1) := by decide +kernel
theorem dX12_ask_121 : decode cX12_ask 121 = .ok (.if_icmp .eq 12, 3) := by decide +kernel
theorem dX12_ask_124 : decode cX12_ask 124 = .ok (.aload_n 0, 1) := by decide +kernel
theorem dX12_ask_125 : decode cX12_ask 125 = .ok (.iconst 1, 1) := by decide +kernel
theorem dX12_ask_126 : decode cX12_ask 126 = .ok (.aload_n 0, 1) := by decide +kernel
theorem dX12_ask_127 : decode cX12_ask 127 = .ok (.getfield 291, 3) := by decide +kernel
theorem dX12_ask_130 : decode cX12_ask 130 = .ok (.invokevirtual 315, 3) := by decide +kernel
theorem dX12_ask_133 : decode cX12_ask 133 = .ok (.aload_n 0, 1) := by decide +kernel
theorem dX12_ask_134 : decode cX12_ask 134 = .ok (.aload_n 0, 1) := by decide +kernel
theorem dX12_ask_135 : decode cX12_ask 135 = .ok (.getfield 285, 3) := by decide +kernel
theorem dX12_ask_138 : decode cX12_ask 138 = .ok (.putfield 417, 3) := by decide +kernel
theorem dX12_ask_141 : decode cX12_ask 141 = .ok (.aload_n 0, 1) := by decide +kernel
theorem dX12_ask_142 : decode cX12_ask 142 = .ok (.aload_n 0, 1) := by decide +kernel
theorem dX12_ask_143 : decode cX12_ask 143 = .ok (.getfield 288, 3) := by decide +kernel
theorem dX12_ask_146 : decode cX12_ask 146 = .ok (.putfield 13, 3) := by decide +kernel
theorem dX12_ask_149 : decode cX12_ask 149 = .ok (.aload_n 0, 1) := by decide +kernel
theorem dX12_ask_150 : decode cX12_ask 150 = .ok (.getfield 285, 3) := by decide +kernel
theorem dX12_ask_153 : decode cX12_ask 153 = .ok (.ifCond .eq 7, 3) := by decide +kernel
theorem dX12_ask_156 : decode cX12_ask 156 = .ok (.ldc2_w 702, 3) := by decide +kernel
theorem dX12_ask_159 : decode cX12_ask 159 = .ok (.lreturn, 1) := by decide +kernel
theorem dX12_ask_160 : decode cX12_ask 160 = .ok (.aload_n 0, 1) := by decide +kernel
theorem dX12_ask_161 : decode cX12_ask 161 = .ok (.iload_n 1, 1) := by decide +kernel
theorem dX12_ask_162 : decode cX12_ask 162 = .ok (.iconst 2, 1) := by decide +kernel
theorem dX12_ask_163 : decode cX12_ask 163 = .ok (.if_icmp .ge 9, 3) := by decide +kernel
theorem dX12_ask_166 : decode cX12_ask 166 = .ok (.ldc2_w 690, 3) := by decide +kernel
theorem dX12_ask_169 : decode cX12_ask 169 = .ok (.goto 4, 3) := by decide +kernel
theorem dX12_ask_172 : decode cX12_ask 172 = .ok (.lconst 0, 1) := by decide +kernel
theorem dX12_ask_173 : decode cX12_ask 173 = .ok (.putfield 696, 3) := by decide +kernel
theorem dX12_ask_176 : decode cX12_ask 176 = .ok (.aload_n 0, 1) := by decide +kernel
theorem dX12_ask_177 : decode cX12_ask 177 = .ok (.iconst 1, 1) := by decide +kernel
theorem dX12_ask_178 : decode cX12_ask 178 = .ok (.putfield 699, 3) := by decide +kernel
theorem dX12_ask_181 : decode cX12_ask 181 = .ok (.iconst 0, 1) := by decide +kernel
theorem dX12_ask_182 : decode cX12_ask 182 = .ok (.istore_n 2, 1) := by decide +kernel
theorem dX12_ask_183 : decode cX12_ask 183 = .ok (.iload_n 2, 1) := by decide +kernel
theorem dX12_ask_184 : decode cX12_ask 184 = .ok (.aload_n 0, 1) := by decide +kernel
theorem dX12_ask_185 : decode cX12_ask 185 = .ok (.invokevirtual 439, 3) := by decide +kernel
theorem dX12_ask_188 : decode cX12_ask 188 = .ok (.if_icmp .ge 14, 3) := by decide +kernel
theorem dX12_ask_191 : decode cX12_ask 191 = .ok (.aload_n 0, 1) := by decide +kernel
theorem dX12_ask_192 : decode cX12_ask 192 = .ok (.iload_n 2, 1) := by decide +kernel
theorem dX12_ask_193 : decode cX12_ask 193 = .ok (.invokevirtual 710, 3) := by decide +kernel
theorem dX12_ask_196 : decode cX12_ask 196 = .ok (.iinc 2 1, 3) := by decide +kernel
theorem dX12_ask_199 : decode cX12_ask 199 = .ok (.goto (-16), 3) := by decide +kernel
theorem dX12_ask_202 : decode cX12_ask 202 = .ok (.aload_n 0, 1) := by decide +kernel
theorem dX12_ask_203 : decode cX12_ask 203 = .ok (.iconst 2, 1) := by decide +kernel
theorem dX12_ask_204 : decode cX12_ask 204 = .ok (.putfield 343, 3) := by decide +kernel
theorem dX12_ask_207 : decode cX12_ask 207 = .ok (.iconst 0, 1) := by decide +kernel
theorem dX12_ask_208 : decode cX12_ask 208 = .ok (.istore_n 2, 1) := by decide +kernel
theorem dX12_ask_209 : decode cX12_ask 209 = .ok (.iload_n 2, 1) := by decide +kernel
theorem dX12_ask_210 : decode cX12_ask 210 = .ok (.aload_n 0, 1) := by decide +kernel
theorem dX12_ask_211 : decode cX12_ask 211 = .ok (.invokevirtual 436, 3) := by decide +kernel
theorem dX12_ask_214 : decode cX12_ask 214 = .ok (.if_icmp .ge 20, 3) := by decide +kernel
theorem dX12_ask_217 : decode cX12_ask 217 = .ok (.aload_n 0, 1) := by decide +kernel
theorem dX12_ask_218 : decode cX12_ask 218 = .ok (.iload_n 1, 1) := by decide +kernel
theorem dX12_ask_219 : decode cX12_ask 219 = .ok (.aload_n 0, 1) := by decide +kernel
theorem dX12_ask_220 : decode cX12_ask 220 = .ok (.iload_n 2, 1) := by decide +kernel
theorem dX12_ask_221 : decode cX12_ask 221 = .ok (.invokevirtual 713, 3) := by decide +kernel
theorem dX12_ask_224 : decode cX12_ask 224 = .ok (.iload_n 2, 1) := by decide +kernel
theorem dX12_ask_225 : decode cX12_ask 225 = .ok (.invokevirtual 717, 3) := by decide +kernel
theorem dX12_ask_228 : decode cX12_ask 228 = .ok (.iinc 2 1, 3) := by decide +kernel
theorem dX12_ask_231 : decode cX12_ask 231 = .ok (.goto (-22), 3) := by decide +kernel
theorem dX12_ask_234 : decode cX12_ask 234 = .ok (.aload_n 0, 1) := by decide +kernel
theorem dX12_ask_235 : decode cX12_ask 235 = .ok (.getfield 696, 3) := by decide +kernel
theorem dX12_ask_238 : decode cX12_ask 238 = .ok (.lreturn, 1) := by decide +kernel
def X12_ask_p209b (sh : Shp) (v0 : Nat) (v1 : Int32) (Q : Int64 → Mem → Prop) (K209 : Int32 → Mem → Prop) (v2 : Int32) (m : Mem) : Prop :=
  Ob sh v0 12 ∧ wp_X12_farmMany sh v0 (fun r39 m40 => if r39 ≤ v2 then (Q (m40.2.1 v0 116) m40) else (wp_X12_qTold sh v0 v2 (fun r42 m43 => wp_X12_qTakes sh v0 v1 r42 v2 (fun m45 => K209 (v2 + (1 : Int32)) m45) m43) m40)) m
def X12_ask_p209n (sh : Shp) (v0 : Nat) (v1 : Int32) (Q : Int64 → Mem → Prop) : Nat → Int32 → Mem → Prop
  | 0 => fun _ _ => False
  | n + 1 => X12_ask_p209b sh v0 v1 Q (X12_ask_p209n sh v0 v1 Q n)
def X12_ask_p209 (sh : Shp) (v0 : Nat) (v1 : Int32) (Q : Int64 → Mem → Prop) (v2 : Int32) (m : Mem) : Prop := ∃ n, X12_ask_p209n sh v0 v1 Q n v2 m
def X12_ask_p183b (sh : Shp) (v0 : Nat) (v1 : Int32) (Q : Int64 → Mem → Prop) (K183 : Int32 → Mem → Prop) (v2 : Int32) (m : Mem) : Prop :=
  Ob sh v0 12 ∧ wp_X12_callerMany sh v0 (fun r33 m34 => if r33 ≤ v2 then (bnd (sI m34 v0 57 (2 : Int32)) (fun m36 => X12_ask_p209 sh v0 v1 Q (0 : Int32) m36)) else (wp_X12_laysSteps sh v0 v2 (fun m38 => K183 (v2 + (1 : Int32)) m38) m34)) m
def X12_ask_p183n (sh : Shp) (v0 : Nat) (v1 : Int32) (Q : Int64 → Mem → Prop) : Nat → Int32 → Mem → Prop
  | 0 => fun _ _ => False
  | n + 1 => X12_ask_p183b sh v0 v1 Q (X12_ask_p183n sh v0 v1 Q n)
def X12_ask_p183 (sh : Shp) (v0 : Nat) (v1 : Int32) (Q : Int64 → Mem → Prop) (v2 : Int32) (m : Mem) : Prop := ∃ n, X12_ask_p183n sh v0 v1 Q n v2 m
def X12_ask_p173 (sh : Shp) (v0 : Nat) (v1 : Int32) (s1 : Int64) (s0 : Nat) (Q : Int64 → Mem → Prop) (m : Mem) : Prop :=
  Ob sh s0 12 ∧ bnd (sL m s0 116 s1) (fun m30 => Ob sh v0 12 ∧ bnd (sI m30 v0 117 (1 : Int32)) (fun m32 => X12_ask_p183 sh v0 v1 Q (0 : Int32) m32))
def X12_ask_p133 (sh : Shp) (v0 : Nat) (v1 : Int32) (Q : Int64 → Mem → Prop) (m : Mem) : Prop :=
  Ob sh v0 12 ∧ (bnd (sI m v0 7 (m.1 v0 5)) (fun m27 => bnd (sI m27 v0 8 (m27.1 v0 6)) (fun m28 => if (m28.1 v0 5) = 0 then (if (2 : Int32) ≤ v1 then (X12_ask_p173 sh v0 v1 (0 : Int64) v0 Q m28) else (X12_ask_p173 sh v0 v1 (-1 : Int64) v0 Q m28)) else (Q (-1000000000000000 : Int64) m28))))
def X12_ask_p109 (sh : Shp) (v0 : Nat) (v1 : Int32) (Q : Int64 → Mem → Prop) (m : Mem) : Prop :=
  Ob sh v0 12 ∧ (if (m.1 v0 5) = 0 then (wp_X12_look sh v0 (fun r22 m23 => if r22 = (-1 : Int32) then (X12_ask_p133 sh v0 v1 Q m23) else (wp_X12_fail sh v0 (1 : Int32) (m23.1 v0 2) (fun m25 => X12_ask_p133 sh v0 v1 Q m25) m23)) m) else (X12_ask_p133 sh v0 v1 Q m))
def X12_ask_p98 (sh : Shp) (v0 : Nat) (v1 : Int32) (Q : Int64 → Mem → Prop) (m : Mem) : Prop :=
  Ob sh v0 12 ∧ (if (m.1 v0 5) = 0 then (wp_X12_qSums sh v0 (fun m20 => X12_ask_p109 sh v0 v1 Q m20) m) else (X12_ask_p109 sh v0 v1 Q m))
def wp_X12_ask (sh : Shp) (v0 : Nat) (Q : Int64 → Mem → Prop) (m : Mem) : Prop :=
  Ob sh v0 12 ∧ (if (m.1 v0 56) = 0 then (bnd (sI m v0 1 (0 : Int32)) (fun m17 => Q (-1000000000000000 : Int64) m17)) else (bnd (sI m v0 3 (m.1 v0 1)) (fun m2 => bnd (sI m2 v0 1 (0 : Int32)) (fun m3 => bnd (sI m3 v0 2 (0 : Int32)) (fun m4 => bnd (sI m4 v0 4 (-1 : Int32)) (fun m5 => bnd (sI m5 v0 5 (0 : Int32)) (fun m6 => bnd (sI m6 v0 6 (-1 : Int32)) (fun m7 => bnd (sI m7 v0 57 (2 : Int32)) (fun m8 => bnd (sI m8 v0 109 (0 : Int32)) (fun m9 => bnd (sI m9 v0 111 (0 : Int32)) (fun m10 => bnd (sI m10 v0 112 (0 : Int32)) (fun m11 => bnd (sI m11 v0 113 (0 : Int32)) (fun m12 => wp_X12_qKind sh v0 (fun r13 m14 => if (m14.1 v0 5) = 0 then (if (3 : Int32) ≤ r13 then (X12_ask_p98 sh v0 r13 Q m14) else (wp_X12_qTest sh v0 (fun m16 => X12_ask_p109 sh v0 r13 Q m16) m14)) else (X12_ask_p98 sh v0 r13 Q m14)) m12)))))))))))))
abbrev M_X12_ask : Mi := (cX12_ask, 3, RX12, (Option.some FieldType.long), "ask", 10, 265, 0, 0)
set_option maxHeartbeats 4000000 in
set_option maxRecDepth 100000 in
theorem v_X12_ask_p209b {G : Gl} {F : Fr} {sh : Shp} {v0 : Nat} {v1 : Int32} {v2 : Int32} {Q : Int64 → Mem → Prop} {K209 : Int32 → Mem → Prop} {m : Mem} (hK209 : ∀ (x2 : Int32) (m : Mem), K209 x2 m → V G F M_X12_ask sh 0 0 (Zl G F sh Q) 209 [(0, .ref (G.1 + v0)), (1, .int v1), (2, .int x2)] [] m) (h : X12_ask_p209b sh v0 v1 Q K209 v2 m) : V G F M_X12_ask sh 0 0 (Zl G F sh Q) 209 [(0, .ref (G.1 + v0)), (1, .int v1), (2, .int v2)] [] m := by
  unfold X12_ask_p209b at h
  refine v_iload_n 2 2 dX12_ask_209 rfl rfl ?_
  refine v_aload_n 0 0 dX12_ask_210 rfl rfl ?_
  obtain ⟨o41, h⟩ := h
  refine v_cVi [] mv_X12_farmMany ml_RX12_436 ⟨_, _, rfl⟩ o41 rfl rfl (Nat.le_of_ble_eq_true rfl) (Nat.le_of_ble_eq_true rfl) (Nat.le_of_ble_eq_true rfl) (Nat.zero_le _) (Nat.zero_le _) dX12_ask_211 (c_X12_farmMany h) (fun r39 m40 h => ?_)
  refine v_icmp_ge 234 dX12_ask_214 (by decide) (fun hc => ?_) (fun hc => ?_)
  · replace h := Eq.mp (if_pos hc) h
    refine v_aload_n 0 0 dX12_ask_234 rfl rfl ?_
    refine v_gL 12 116 dX12_ask_235 fg_RX12_696 o41 ?_
    exact v_lret dX12_ask_238 rfl h
  · replace h := Eq.mp (if_neg hc) h
    refine v_aload_n 0 0 dX12_ask_217 rfl rfl ?_
    refine v_iload_n 1 1 dX12_ask_218 rfl rfl ?_
    refine v_aload_n 0 0 dX12_ask_219 rfl rfl ?_
    refine v_iload_n 2 2 dX12_ask_220 rfl rfl ?_
    refine v_cVl [.int _] mv_X12_qTold ml_RX12_713 ⟨_, _, rfl⟩ o41 rfl rfl (Nat.le_of_ble_eq_true rfl) (Nat.le_of_ble_eq_true rfl) (Nat.le_of_ble_eq_true rfl) (Nat.zero_le _) (Nat.zero_le _) dX12_ask_221 (c_X12_qTold h) (fun r42 m43 h => ?_)
    refine v_iload_n 2 2 dX12_ask_224 rfl rfl ?_
    refine v_cVv [.int _, .long _, .int _] mv_X12_qTakes ml_RX12_717 ⟨_, _, rfl⟩ o41 rfl rfl (Nat.le_of_ble_eq_true rfl) (Nat.le_of_ble_eq_true rfl) (Nat.le_of_ble_eq_true rfl) (Nat.zero_le _) (Nat.zero_le _) dX12_ask_225 (c_X12_qTakes h) (fun m45 h => ?_)
    refine v_iinc (ls' := [(2, .int _), (0, .ref _), (1, .int _)]) 2 2 dX12_ask_228 rfl (congrArg (HAdd.hAdd _) (by decide : Int32.ofInt (1) = (1 : Int32))) (Nat.le_of_ble_eq_true rfl) rfl ?_
    refine v_goto 209 dX12_ask_231 (by decide) ?_
    refine v_sub [1, 2, 0] rfl ?_
    exact hK209 _ _ h
set_option maxHeartbeats 4000000 in
set_option maxRecDepth 100000 in
theorem v_X12_ask_p209 {G : Gl} {F : Fr} {sh : Shp} {v0 : Nat} {v1 : Int32} {v2 : Int32} {Q : Int64 → Mem → Prop} {m : Mem} (h : X12_ask_p209 sh v0 v1 Q v2 m) : V G F M_X12_ask sh 0 0 (Zl G F sh Q) 209 [(0, .ref (G.1 + v0)), (1, .int v1), (2, .int v2)] [] m := by
  obtain ⟨n, h⟩ := h
  induction n generalizing v2 m with
  | zero => exact h.elim
  | succ n ih => exact v_X12_ask_p209b (fun _ _ h => ih h) h
set_option maxHeartbeats 4000000 in
set_option maxRecDepth 100000 in
theorem v_X12_ask_p183b {G : Gl} {F : Fr} {sh : Shp} {v0 : Nat} {v1 : Int32} {v2 : Int32} {Q : Int64 → Mem → Prop} {K183 : Int32 → Mem → Prop} {m : Mem} (hK183 : ∀ (x2 : Int32) (m : Mem), K183 x2 m → V G F M_X12_ask sh 0 0 (Zl G F sh Q) 183 [(0, .ref (G.1 + v0)), (1, .int v1), (2, .int x2)] [] m) (h : X12_ask_p183b sh v0 v1 Q K183 v2 m) : V G F M_X12_ask sh 0 0 (Zl G F sh Q) 183 [(0, .ref (G.1 + v0)), (1, .int v1), (2, .int v2)] [] m := by
  unfold X12_ask_p183b at h
  refine v_iload_n 2 2 dX12_ask_183 rfl rfl ?_
  refine v_aload_n 0 0 dX12_ask_184 rfl rfl ?_
  obtain ⟨o35, h⟩ := h
  refine v_cVi [] mv_X12_callerMany ml_RX12_439 ⟨_, _, rfl⟩ o35 rfl rfl (Nat.le_of_ble_eq_true rfl) (Nat.le_of_ble_eq_true rfl) (Nat.le_of_ble_eq_true rfl) (Nat.zero_le _) (Nat.zero_le _) dX12_ask_185 (c_X12_callerMany h) (fun r33 m34 h => ?_)
  refine v_icmp_ge 202 dX12_ask_188 (by decide) (fun hc => ?_) (fun hc => ?_)
  · replace h := Eq.mp (if_pos hc) h
    refine v_aload_n 0 0 dX12_ask_202 rfl rfl ?_
    refine v_iconst (2 : Int32) dX12_ask_203 (by decide) ?_
    refine v_pI 12 57 dX12_ask_204 fw_RX12_343 o35 ?_
    replace h := bnd_e h
    refine v_iconst (0 : Int32) dX12_ask_207 (by decide) ?_
    refine v_istore_n (ls' := [(2, .int _), (0, .ref _), (1, .int _)]) 2 dX12_ask_208 rfl (Nat.le_of_ble_eq_true rfl) rfl ?_
    refine v_sub [1, 2, 0] rfl ?_
    exact v_X12_ask_p209 h
  · replace h := Eq.mp (if_neg hc) h
    refine v_aload_n 0 0 dX12_ask_191 rfl rfl ?_
    refine v_iload_n 2 2 dX12_ask_192 rfl rfl ?_
    refine v_cVv [.int _] mv_X12_laysSteps ml_RX12_710 ⟨_, _, rfl⟩ o35 rfl rfl (Nat.le_of_ble_eq_true rfl) (Nat.le_of_ble_eq_true rfl) (Nat.le_of_ble_eq_true rfl) (Nat.zero_le _) (Nat.zero_le _) dX12_ask_193 (c_X12_laysSteps h) (fun m38 h => ?_)
    refine v_iinc (ls' := [(2, .int _), (0, .ref _), (1, .int _)]) 2 2 dX12_ask_196 rfl (congrArg (HAdd.hAdd _) (by decide : Int32.ofInt (1) = (1 : Int32))) (Nat.le_of_ble_eq_true rfl) rfl ?_
    refine v_goto 183 dX12_ask_199 (by decide) ?_
    refine v_sub [1, 2, 0] rfl ?_
    exact hK183 _ _ h
set_option maxHeartbeats 4000000 in
set_option maxRecDepth 100000 in
theorem v_X12_ask_p183 {G : Gl} {F : Fr} {sh : Shp} {v0 : Nat} {v1 : Int32} {v2 : Int32} {Q : Int64 → Mem → Prop} {m : Mem} (h : X12_ask_p183 sh v0 v1 Q v2 m) : V G F M_X12_ask sh 0 0 (Zl G F sh Q) 183 [(0, .ref (G.1 + v0)), (1, .int v1), (2, .int v2)] [] m := by
  obtain ⟨n, h⟩ := h
  induction n generalizing v2 m with
  | zero => exact h.elim
  | succ n ih => exact v_X12_ask_p183b (fun _ _ h => ih h) h
set_option maxHeartbeats 4000000 in
set_option maxRecDepth 100000 in
theorem v_X12_ask_p173 {G : Gl} {F : Fr} {sh : Shp} {v0 : Nat} {v1 : Int32} {s0 : Nat} {s1 : Int64} {Q : Int64 → Mem → Prop} {m : Mem} (h : X12_ask_p173 sh v0 v1 s1 s0 Q m) : V G F M_X12_ask sh 0 0 (Zl G F sh Q) 173 [(0, .ref (G.1 + v0)), (1, .int v1)] [.long s1, .ref (G.1 + s0)] m := by
  unfold X12_ask_p173 at h
  obtain ⟨o29, h⟩ := h
  refine v_pL 12 116 dX12_ask_173 fw_RX12_696 o29 ?_
  replace h := bnd_e h
  refine v_aload_n 0 0 dX12_ask_176 rfl rfl ?_
  refine v_iconst (1 : Int32) dX12_ask_177 (by decide) ?_
  obtain ⟨o31, h⟩ := h
  refine v_pZ 12 117 dX12_ask_178 fw_RX12_699 o31 (by decide) ?_
  replace h := bnd_e h
  refine v_iconst (0 : Int32) dX12_ask_181 (by decide) ?_
  refine v_istore_n (ls' := [(2, .int _), (0, .ref _), (1, .int _)]) 2 dX12_ask_182 rfl (Nat.le_of_ble_eq_true rfl) rfl ?_
  refine v_sub [1, 2, 0] rfl ?_
  exact v_X12_ask_p183 h
set_option maxHeartbeats 4000000 in
set_option maxRecDepth 100000 in
theorem v_X12_ask_p133 {G : Gl} {F : Fr} {sh : Shp} {v0 : Nat} {v1 : Int32} {Q : Int64 → Mem → Prop} {m : Mem} (h : X12_ask_p133 sh v0 v1 Q m) : V G F M_X12_ask sh 0 0 (Zl G F sh Q) 133 [(0, .ref (G.1 + v0)), (1, .int v1)] [] m := by
  unfold X12_ask_p133 at h
  refine v_aload_n 0 0 dX12_ask_133 rfl rfl ?_
  refine v_aload_n 0 0 dX12_ask_134 rfl rfl ?_
  obtain ⟨o26, h⟩ := h
  refine v_gI 12 5 dX12_ask_135 fg_RX12_285 o26 ?_
  refine v_pI 12 7 dX12_ask_138 fw_RX12_417 o26 ?_
  replace h := bnd_e h
  refine v_aload_n 0 0 dX12_ask_141 rfl rfl ?_
  refine v_aload_n 0 0 dX12_ask_142 rfl rfl ?_
  refine v_gI 12 6 dX12_ask_143 fg_RX12_288 o26 ?_
  refine v_pI 12 8 dX12_ask_146 fw_RX12_13 o26 ?_
  replace h := bnd_e h
  refine v_aload_n 0 0 dX12_ask_149 rfl rfl ?_
  refine v_gI 12 5 dX12_ask_150 fg_RX12_285 o26 ?_
  refine v_if_eq 160 dX12_ask_153 (by decide) (fun hc => ?_) (fun hc => ?_)
  · replace h := Eq.mp (if_pos hc) h
    refine v_aload_n 0 0 dX12_ask_160 rfl rfl ?_
    refine v_iload_n 1 1 dX12_ask_161 rfl rfl ?_
    refine v_iconst (2 : Int32) dX12_ask_162 (by decide) ?_
    refine v_icmp_ge 172 dX12_ask_163 (by decide) (fun hc => ?_) (fun hc => ?_)
    · replace h := Eq.mp (if_pos hc) h
      refine v_lconst (0 : Int64) dX12_ask_172 (by decide) ?_
      refine v_sub [0, 1] rfl ?_
      exact v_X12_ask_p173 h
    · replace h := Eq.mp (if_neg hc) h
      refine v_ldc2 (-1 : Int64) dX12_ask_166 cw_RX12_690 ?_
      refine v_goto 173 dX12_ask_169 (by decide) ?_
      refine v_sub [0, 1] rfl ?_
      exact v_X12_ask_p173 h
  · replace h := Eq.mp (if_neg hc) h
    refine v_ldc2 (-1000000000000000 : Int64) dX12_ask_156 cw_RX12_702 ?_
    exact v_lret dX12_ask_159 rfl h
set_option maxHeartbeats 4000000 in
set_option maxRecDepth 100000 in
theorem v_X12_ask_p109 {G : Gl} {F : Fr} {sh : Shp} {v0 : Nat} {v1 : Int32} {Q : Int64 → Mem → Prop} {m : Mem} (h : X12_ask_p109 sh v0 v1 Q m) : V G F M_X12_ask sh 0 0 (Zl G F sh Q) 109 [(0, .ref (G.1 + v0)), (1, .int v1)] [] m := by
  unfold X12_ask_p109 at h
  refine v_aload_n 0 0 dX12_ask_109 rfl rfl ?_
  obtain ⟨o21, h⟩ := h
  refine v_gI 12 5 dX12_ask_110 fg_RX12_285 o21 ?_
  refine v_if_ne 133 dX12_ask_113 (by decide) (fun hc => ?_) (fun hc => ?_)
  · replace h := Eq.mp (if_neg hc) h
    refine v_sub [0, 1] rfl ?_
    exact v_X12_ask_p133 h
  · replace h := Eq.mp (if_pos hc) h
    refine v_aload_n 0 0 dX12_ask_116 rfl rfl ?_
    refine v_cVi [] mv_X12_look ml_RX12_297 ⟨_, _, rfl⟩ o21 rfl rfl (Nat.le_of_ble_eq_true rfl) (Nat.le_of_ble_eq_true rfl) (Nat.le_of_ble_eq_true rfl) (Nat.zero_le _) (Nat.zero_le _) dX12_ask_117 (c_X12_look h) (fun r22 m23 h => ?_)
    refine v_iconst (-1 : Int32) dX12_ask_120 (by decide) ?_
    refine v_icmp_eq 133 dX12_ask_121 (by decide) (fun hc => ?_) (fun hc => ?_)
    · replace h := Eq.mp (if_pos hc) h
      refine v_sub [0, 1] rfl ?_
      exact v_X12_ask_p133 h
    · replace h := Eq.mp (if_neg hc) h
      refine v_aload_n 0 0 dX12_ask_124 rfl rfl ?_
      refine v_iconst (1 : Int32) dX12_ask_125 (by decide) ?_
      refine v_aload_n 0 0 dX12_ask_126 rfl rfl ?_
      refine v_gI 12 2 dX12_ask_127 fg_RX12_291 o21 ?_
      refine v_cVv [.int _, .int _] mv_X12_fail ml_RX12_315 ⟨_, _, rfl⟩ o21 rfl rfl (Nat.le_of_ble_eq_true rfl) (Nat.le_of_ble_eq_true rfl) (Nat.le_of_ble_eq_true rfl) (Nat.zero_le _) (Nat.zero_le _) dX12_ask_130 (c_X12_fail h) (fun m25 h => ?_)
      refine v_sub [0, 1] rfl ?_
      exact v_X12_ask_p133 h
set_option maxHeartbeats 4000000 in
set_option maxRecDepth 100000 in
theorem v_X12_ask_p98 {G : Gl} {F : Fr} {sh : Shp} {v0 : Nat} {v1 : Int32} {Q : Int64 → Mem → Prop} {m : Mem} (h : X12_ask_p98 sh v0 v1 Q m) : V G F M_X12_ask sh 0 0 (Zl G F sh Q) 98 [(0, .ref (G.1 + v0)), (1, .int v1)] [] m := by
  unfold X12_ask_p98 at h
  refine v_aload_n 0 0 dX12_ask_98 rfl rfl ?_
  obtain ⟨o18, h⟩ := h
  refine v_gI 12 5 dX12_ask_99 fg_RX12_285 o18 ?_
  refine v_if_ne 109 dX12_ask_102 (by decide) (fun hc => ?_) (fun hc => ?_)
  · replace h := Eq.mp (if_neg hc) h
    refine v_sub [0, 1] rfl ?_
    exact v_X12_ask_p109 h
  · replace h := Eq.mp (if_pos hc) h
    refine v_aload_n 0 0 dX12_ask_105 rfl rfl ?_
    refine v_cVv [] mv_X12_qSums ml_RX12_384 ⟨_, _, rfl⟩ o18 rfl rfl (Nat.le_of_ble_eq_true rfl) (Nat.le_of_ble_eq_true rfl) (Nat.le_of_ble_eq_true rfl) (Nat.zero_le _) (Nat.zero_le _) dX12_ask_106 (c_X12_qSums h) (fun m20 h => ?_)
    refine v_sub [0, 1] rfl ?_
    exact v_X12_ask_p109 h
set_option maxHeartbeats 4000000 in
set_option maxRecDepth 100000 in
theorem c_X12_ask {l : Launch} {G : Gl} {sh : Shp} {v0 : Nat} {Q : Int64 → Mem → Prop} {m : Mem} (h : wp_X12_ask sh v0 Q m) : Cnl l G yX12_ask cX12_ask 3 (Option.some FieldType.long) 10 265 sh [.ref (G.1 + v0)] m Q := by
  refine con_l (ls := [(0, .ref (G.1 + v0))]) (by decide +kernel) rfl (Nat.le_of_ble_eq_true rfl) (fun F => ?_)
  show V G F M_X12_ask sh 0 0 (Zl G F sh Q) 0 [(0, .ref (G.1 + v0))] [] m
  unfold wp_X12_ask at h
  refine v_aload_n 0 0 dX12_ask_0 rfl rfl ?_
  obtain ⟨o1, h⟩ := h
  refine v_gI 12 56 dX12_ask_1 fg_RX12_423 o1 ?_
  refine v_if_ne 16 dX12_ask_4 (by decide) (fun hc => ?_) (fun hc => ?_)
  · replace h := Eq.mp (if_neg hc) h
    refine v_aload_n 0 0 dX12_ask_16 rfl rfl ?_
    refine v_aload_n 0 0 dX12_ask_17 rfl rfl ?_
    refine v_gI 12 1 dX12_ask_18 fg_RX12_282 o1 ?_
    refine v_pI 12 3 dX12_ask_21 fw_RX12_294 o1 ?_
    replace h := bnd_e h
    refine v_aload_n 0 0 dX12_ask_24 rfl rfl ?_
    refine v_iconst (0 : Int32) dX12_ask_25 (by decide) ?_
    refine v_pI 12 1 dX12_ask_26 fw_RX12_282 o1 ?_
    replace h := bnd_e h
    refine v_aload_n 0 0 dX12_ask_29 rfl rfl ?_
    refine v_iconst (0 : Int32) dX12_ask_30 (by decide) ?_
    refine v_pI 12 2 dX12_ask_31 fw_RX12_291 o1 ?_
    replace h := bnd_e h
    refine v_aload_n 0 0 dX12_ask_34 rfl rfl ?_
    refine v_iconst (-1 : Int32) dX12_ask_35 (by decide) ?_
    refine v_pI 12 4 dX12_ask_36 fw_RX12_305 o1 ?_
    replace h := bnd_e h
    refine v_aload_n 0 0 dX12_ask_39 rfl rfl ?_
    refine v_iconst (0 : Int32) dX12_ask_40 (by decide) ?_
    refine v_pI 12 5 dX12_ask_41 fw_RX12_285 o1 ?_
    replace h := bnd_e h
    refine v_aload_n 0 0 dX12_ask_44 rfl rfl ?_
    refine v_iconst (-1 : Int32) dX12_ask_45 (by decide) ?_
    refine v_pI 12 6 dX12_ask_46 fw_RX12_288 o1 ?_
    replace h := bnd_e h
    refine v_aload_n 0 0 dX12_ask_49 rfl rfl ?_
    refine v_iconst (2 : Int32) dX12_ask_50 (by decide) ?_
    refine v_pI 12 57 dX12_ask_51 fw_RX12_343 o1 ?_
    replace h := bnd_e h
    refine v_aload_n 0 0 dX12_ask_54 rfl rfl ?_
    refine v_iconst (0 : Int32) dX12_ask_55 (by decide) ?_
    refine v_pI 12 109 dX12_ask_56 fw_RX12_372 o1 ?_
    replace h := bnd_e h
    refine v_aload_n 0 0 dX12_ask_59 rfl rfl ?_
    refine v_iconst (0 : Int32) dX12_ask_60 (by decide) ?_
    refine v_pI 12 111 dX12_ask_61 fw_RX12_375 o1 ?_
    replace h := bnd_e h
    refine v_aload_n 0 0 dX12_ask_64 rfl rfl ?_
    refine v_iconst (0 : Int32) dX12_ask_65 (by decide) ?_
    refine v_pI 12 112 dX12_ask_66 fw_RX12_378 o1 ?_
    replace h := bnd_e h
    refine v_aload_n 0 0 dX12_ask_69 rfl rfl ?_
    refine v_iconst (0 : Int32) dX12_ask_70 (by decide) ?_
    refine v_pI 12 113 dX12_ask_71 fw_RX12_381 o1 ?_
    replace h := bnd_e h
    refine v_aload_n 0 0 dX12_ask_74 rfl rfl ?_
    refine v_cVi [] mv_X12_qKind ml_RX12_704 ⟨_, _, rfl⟩ o1 rfl rfl (Nat.le_of_ble_eq_true rfl) (Nat.le_of_ble_eq_true rfl) (Nat.le_of_ble_eq_true rfl) (Nat.zero_le _) (Nat.zero_le _) dX12_ask_75 (c_X12_qKind h) (fun r13 m14 h => ?_)
    refine v_istore_n (ls' := [(1, .int _), (0, .ref _)]) 1 dX12_ask_78 rfl (Nat.le_of_ble_eq_true rfl) rfl ?_
    refine v_aload_n 0 1 dX12_ask_79 rfl rfl ?_
    refine v_gI 12 5 dX12_ask_80 fg_RX12_285 o1 ?_
    refine v_if_ne 98 dX12_ask_83 (by decide) (fun hc => ?_) (fun hc => ?_)
    · replace h := Eq.mp (if_neg hc) h
      refine v_sub [1, 0] rfl ?_
      exact v_X12_ask_p98 h
    · replace h := Eq.mp (if_pos hc) h
      refine v_iload_n 1 0 dX12_ask_86 rfl rfl ?_
      refine v_iconst (3 : Int32) dX12_ask_87 (by decide) ?_
      refine v_icmp_ge 98 dX12_ask_88 (by decide) (fun hc => ?_) (fun hc => ?_)
      · replace h := Eq.mp (if_pos hc) h
        refine v_sub [1, 0] rfl ?_
        exact v_X12_ask_p98 h
      · replace h := Eq.mp (if_neg hc) h
        refine v_aload_n 0 1 dX12_ask_91 rfl rfl ?_
        refine v_cVv [] mv_X12_qTest ml_RX12_707 ⟨_, _, rfl⟩ o1 rfl rfl (Nat.le_of_ble_eq_true rfl) (Nat.le_of_ble_eq_true rfl) (Nat.le_of_ble_eq_true rfl) (Nat.zero_le _) (Nat.zero_le _) dX12_ask_92 (c_X12_qTest h) (fun m16 h => ?_)
        refine v_goto 109 dX12_ask_95 (by decide) ?_
        refine v_sub [1, 0] rfl ?_
        exact v_X12_ask_p109 h
  · replace h := Eq.mp (if_pos hc) h
    refine v_aload_n 0 0 dX12_ask_7 rfl rfl ?_
    refine v_iconst (0 : Int32) dX12_ask_8 (by decide) ?_
    refine v_pI 12 1 dX12_ask_9 fw_RX12_282 o1 ?_
    replace h := bnd_e h
    refine v_ldc2 (-1000000000000000 : Int64) dX12_ask_12 cw_RX12_702 ?_
    exact v_lret dX12_ask_15 rfl h
/-! CalledRiverModel.isFarm -/
theorem dX12_isFarm_0 : decode cX12_isFarm 0 = .ok (.iload_n 1, 1) := by decide +kernel
theorem dX12_isFarm_1 : decode cX12_isFarm 1 = .ok (.i2l, 1) := by decide +kernel
theorem dX12_isFarm_2 : decode cX12_isFarm 2 = .ok (.lconst 0, 1) := by decide +kernel
theorem dX12_isFarm_3 : decode cX12_isFarm 3 = .ok (.aload_n 0, 1) := by decide +kernel
theorem dX12_isFarm_4 : decode cX12_isFarm 4 = .ok (.invokevirtual 436, 3) := by decide +kernel
theorem dX12_isFarm_7 : decode cX12_isFarm 7 = .ok (.iconst 1, 1) := by decide +kernel
theorem dX12_isFarm_8 : decode cX12_isFarm 8 = .ok (.isub, 1) := by decide +kernel
theorem dX12_isFarm_9 : decode cX12_isFarm 9 = .ok (.i2l, 1) := by decide +kernel
theorem dX12_isFarm_10 : decode cX12_isFarm 10 = .ok (.invokestatic 328, 3) := by decide +kernel
theorem dX12_isFarm_13 : decode cX12_isFarm 13 = .ok (.ireturn, 1) := by decide +kernel
def wp_X12_isFarm (sh : Shp) (v0 : Nat) (v1 : Int32) (Q : Int32 → Mem → Prop) (m : Mem) : Prop :=
  Ob sh v0 12 ∧ wp_X12_farmMany sh v0 (fun r1 m2 => wp_X12_isIn sh v1.toInt64 (0 : Int64) (r1 - (1 : Int32)).toInt64 (fun r4 m5 => (r4 = 0 ∨ r4 = 1) ∧ Q r4 m5) m2) m
abbrev M_X12_isFarm : Mi := (cX12_isFarm, 2, RX12, (Option.some FieldType.boolean), "isFarm", 2, 85, 0, 0)
set_option maxHeartbeats 4000000 in
set_option maxRecDepth 100000 in
theorem c_X12_isFarm {l : Launch} {G : Gl} {sh : Shp} {v0 : Nat} {v1 : Int32} {Q : Int32 → Mem → Prop} {m : Mem} (h : wp_X12_isFarm sh v0 v1 Q m) : Cni l G yX12_isFarm cX12_isFarm 2 (Option.some FieldType.boolean) 2 85 sh [.ref (G.1 + v0), .int v1] m Q := by
  refine con_i (ls := [(0, .ref (G.1 + v0)), (1, .int v1)]) (by decide +kernel) rfl (Nat.le_of_ble_eq_true rfl) (fun F => ?_)
  show V G F M_X12_isFarm sh 0 0 (Zi G F sh Q) 0 [(0, .ref (G.1 + v0)), (1, .int v1)] [] m
  unfold wp_X12_isFarm at h
  refine v_iload_n 1 1 dX12_isFarm_0 rfl rfl ?_
  refine v_i2l dX12_isFarm_1 ?_
  refine v_lconst (0 : Int64) dX12_isFarm_2 (by decide) ?_
  refine v_aload_n 0 0 dX12_isFarm_3 rfl rfl ?_
  obtain ⟨o3, h⟩ := h
  refine v_cVi [] mv_X12_farmMany ml_RX12_436 ⟨_, _, rfl⟩ o3 rfl rfl (Nat.le_of_ble_eq_true rfl) (Nat.le_of_ble_eq_true rfl) (Nat.le_of_ble_eq_true rfl) (Nat.zero_le _) (Nat.zero_le _) dX12_isFarm_4 (c_X12_farmMany h) (fun r1 m2 h => ?_)
  refine v_iconst (1 : Int32) dX12_isFarm_7 (by decide) ?_
  refine v_isub dX12_isFarm_8 ?_
  refine v_i2l dX12_isFarm_9 ?_
  refine v_cSi [.long _, .long _, .long _] mv_X12_isIn ml_RX12_328 rfl rfl (Nat.le_of_ble_eq_true rfl) (Nat.le_of_ble_eq_true rfl) (Nat.le_of_ble_eq_true rfl) (Nat.zero_le _) (Nat.zero_le _) dX12_isFarm_10 (c_X12_isIn h) (fun r4 m5 h => ?_)
  obtain ⟨hx, h⟩ := h
  exact v_iret dX12_isFarm_13 rfl (nar_z hx) h
/-! CalledRiverModel.isRefused -/
theorem dX12_isRefused_0 : decode cX12_isRefused 0 = .ok (.aload_n 0, 1) := by decide +kernel
theorem dX12_isRefused_1 : decode cX12_isRefused 1 = .ok (.getfield 17, 3) := by decide +kernel
theorem dX12_isRefused_4 : decode cX12_isRefused 4 = .ok (.iconst 3, 1) := by decide +kernel
theorem dX12_isRefused_5 : decode cX12_isRefused 5 = .ok (.dup2, 1) := by decide +kernel
theorem dX12_isRefused_6 : decode cX12_isRefused 6 = .ok (.iaload, 1) := by decide +kernel
theorem dX12_isRefused_7 : decode cX12_isRefused 7 = .ok (.iconst 1, 1) := by decide +kernel
theorem dX12_isRefused_8 : decode cX12_isRefused 8 = .ok (.iadd, 1) := by decide +kernel
theorem dX12_isRefused_9 : decode cX12_isRefused 9 = .ok (.iastore, 1) := by decide +kernel
theorem dX12_isRefused_10 : decode cX12_isRefused 10 = .ok (.iconst 0, 1) := by decide +kernel
theorem dX12_isRefused_11 : decode cX12_isRefused 11 = .ok (.ireturn, 1) := by decide +kernel
def wp_X12_isRefused (sh : Shp) (v0 : Nat) (Q : Int32 → Mem → Prop) (m : Mem) : Prop :=
  Ob sh v0 12 ∧ ∃ b2 : Nat, m.2.2 v0 9 = some b2 ∧ (Ix sh b2 100 (3 : Int32) ∧ (bnd (sI m b2 (3 : Int32).toNatClampNeg ((m.1 b2 (3 : Int32).toNatClampNeg) + (1 : Int32))) (fun m5 => Q (0 : Int32) m5)))
abbrev M_X12_isRefused : Mi := (cX12_isRefused, 1, RX12, (Option.some FieldType.boolean), "isRefused", 1, 60, 0, 0)
set_option maxHeartbeats 4000000 in
set_option maxRecDepth 100000 in
theorem c_X12_isRefused {l : Launch} {G : Gl} {sh : Shp} {v0 : Nat} {Q : Int32 → Mem → Prop} {m : Mem} (h : wp_X12_isRefused sh v0 Q m) : Cni l G yX12_isRefused cX12_isRefused 1 (Option.some FieldType.boolean) 1 60 sh [.ref (G.1 + v0)] m Q := by
  refine con_i (ls := [(0, .ref (G.1 + v0))]) (by decide +kernel) rfl (Nat.le_of_ble_eq_true rfl) (fun F => ?_)
  show V G F M_X12_isRefused sh 0 0 (Zi G F sh Q) 0 [(0, .ref (G.1 + v0))] [] m
  unfold wp_X12_isRefused at h
  refine v_aload_n 0 0 dX12_isRefused_0 rfl rfl ?_
  obtain ⟨o1, h⟩ := h
  obtain ⟨b2, e3, h⟩ := h
  refine v_gR 12 9 dX12_isRefused_1 fg_RX12_17 o1 e3 ?_
  refine v_iconst (3 : Int32) dX12_isRefused_4 (by decide) ?_
  refine v_dup2 dX12_isRefused_5 rfl rfl ?_
  obtain ⟨i4, h⟩ := h
  refine v_iald dX12_isRefused_6 i4 ?_
  refine v_iconst (1 : Int32) dX12_isRefused_7 (by decide) ?_
  refine v_iadd dX12_isRefused_8 ?_
  refine v_iast dX12_isRefused_9 i4 ?_
  replace h := bnd_e h
  refine v_iconst (0 : Int32) dX12_isRefused_10 (by decide) ?_
  exact v_iret dX12_isRefused_11 rfl (by decide) h
/-! CalledRiverModel.keeps -/
theorem dX12_keeps_0 : decode cX12_keeps 0 = .ok (.aload_n 0, 1) := by decide +kernel
theorem dX12_keeps_1 : decode cX12_keeps 1 = .ok (.aload_n 0, 1) := by decide +kernel
theorem dX12_keeps_2 : decode cX12_keeps 2 = .ok (.getfield 595, 3) := by decide +kernel
theorem dX12_keeps_5 : decode cX12_keeps 5 = .ok (.iconst 1, 1) := by decide +kernel
theorem dX12_keeps_6 : decode cX12_keeps 6 = .ok (.iadd, 1) := by decide +kernel
theorem dX12_keeps_7 : decode cX12_keeps 7 = .ok (.bipush 20, 2) := by decide +kernel
theorem dX12_keeps_9 : decode cX12_keeps 9 = .ok (.irem, 1) := by decide +kernel
theorem dX12_keeps_10 : decode cX12_keeps 10 = .ok (.putfield 595, 3) := by decide +kernel
theorem dX12_keeps_13 : decode cX12_keeps 13 = .ok (.iconst 0, 1) := by decide +kernel
theorem dX12_keeps_14 : decode cX12_keeps 14 = .ok (.istore_n 1, 1) := by decide +kernel
theorem dX12_keeps_15 : decode cX12_keeps 15 = .ok (.iload_n 1, 1) := by decide +kernel
theorem dX12_keeps_16 : decode cX12_keeps 16 = .ok (.sipush 236, 3) := by decide +kernel
theorem dX12_keeps_19 : decode cX12_keeps 19 = .ok (.if_icmp .ge 30, 3) := by decide +kernel
theorem dX12_keeps_22 : decode cX12_keeps 22 = .ok (.aload_n 0, 1) := by decide +kernel
theorem dX12_keeps_23 : decode cX12_keeps 23 = .ok (.getfield 182, 3) := by decide +kernel
theorem dX12_keeps_26 : decode cX12_keeps 26 = .ok (.sipush 236, 3) := by decide +kernel
theorem dX12_keeps_29 : decode cX12_keeps 29 = .ok (.aload_n 0, 1) := by decide +kernel
theorem dX12_keeps_30 : decode cX12_keeps 30 = .ok (.getfield 595, 3) := by decide +kernel
theorem dX12_keeps_33 : decode cX12_keeps 33 = .ok (.imul, 1) := by decide +kernel
theorem dX12_keeps_34 : decode cX12_keeps 34 = .ok (.iload_n 1, 1) := by decide +kernel
theorem dX12_keeps_35 : decode cX12_keeps 35 = .ok (.iadd, 1) := by decide +kernel
theorem dX12_keeps_36 : decode cX12_keeps 36 = .ok (.aload_n 0, 1) := by decide +kernel
theorem dX12_keeps_37 : decode cX12_keeps 37 = .ok (.getfield 143, 3) := by decide +kernel
theorem dX12_keeps_40 : decode cX12_keeps 40 = .ok (.iload_n 1, 1) := by decide +kernel
theorem dX12_keeps_41 : decode cX12_keeps 41 = .ok (.iaload, 1) := by decide +kernel
theorem dX12_keeps_42 : decode cX12_keeps 42 = .ok (.iastore, 1) := by decide +kernel
theorem dX12_keeps_43 : decode cX12_keeps 43 = .ok (.iinc 1 1, 3) := by decide +kernel
theorem dX12_keeps_46 : decode cX12_keeps 46 = .ok (.goto (-31), 3) := by decide +kernel
theorem dX12_keeps_49 : decode cX12_keeps 49 = .ok (.aload_n 0, 1) := by decide +kernel
theorem dX12_keeps_50 : decode cX12_keeps 50 = .ok (.getfield 430, 3) := by decide +kernel
theorem dX12_keeps_53 : decode cX12_keeps 53 = .ok (.bipush 20, 2) := by decide +kernel
theorem dX12_keeps_55 : decode cX12_keeps 55 = .ok (.if_icmp .ge 13, 3) := by decide +kernel
theorem dX12_keeps_58 : decode cX12_keeps 58 = .ok (.aload_n 0, 1) := by decide +kernel
theorem dX12_keeps_59 : decode cX12_keeps 59 = .ok (.dup, 1) := by decide +kernel
theorem dX12_keeps_60 : decode cX12_keeps 60 = .ok (.getfield 430, 3) := by decide +kernel
theorem dX12_keeps_63 : decode cX12_keeps 63 = .ok (.iconst 1, 1) := by decide +kernel
theorem dX12_keeps_64 : decode cX12_keeps 64 = .ok (.iadd, 1) := by decide +kernel
theorem dX12_keeps_65 : decode cX12_keeps 65 = .ok (.putfield 430, 3) := by decide +kernel
theorem dX12_keeps_68 : decode cX12_keeps 68 = .ok (.return_, 1) := by decide +kernel
def X12_keeps_p15b (sh : Shp) (v0 : Nat) (Q : Mem → Prop) (K15 : Int32 → Mem → Prop) (v1 : Int32) (m : Mem) : Prop :=
  if (236 : Int32) ≤ v1 then (Ob sh v0 12 ∧ (if (20 : Int32) ≤ (m.1 v0 78) then (Q m) else (bnd (sI m v0 78 ((m.1 v0 78) + (1 : Int32))) (fun m4 => Q m4)))) else (Ob sh v0 12 ∧ ∃ b6 : Nat, m.2.2 v0 77 = some b6 ∧ (∃ b8 : Nat, m.2.2 v0 58 = some b8 ∧ (Ix sh b8 100 v1 ∧ (Ix sh b6 100 (((236 : Int32) * (m.1 v0 79)) + v1) ∧ bnd (sI m b6 (((236 : Int32) * (m.1 v0 79)) + v1).toNatClampNeg (m.1 b8 v1.toNatClampNeg)) (fun m12 => K15 (v1 + (1 : Int32)) m12)))))
def X12_keeps_p15n (sh : Shp) (v0 : Nat) (Q : Mem → Prop) : Nat → Int32 → Mem → Prop
  | 0 => fun _ _ => False
  | n + 1 => X12_keeps_p15b sh v0 Q (X12_keeps_p15n sh v0 Q n)
def X12_keeps_p15 (sh : Shp) (v0 : Nat) (Q : Mem → Prop) (v1 : Int32) (m : Mem) : Prop := ∃ n, X12_keeps_p15n sh v0 Q n v1 m
def wp_X12_keeps (sh : Shp) (v0 : Nat) (Q : Mem → Prop) (m : Mem) : Prop :=
  Ob sh v0 12 ∧ (bnd (sI m v0 79 (((m.1 v0 79) + (1 : Int32)) - ((m.1 v0 79) + (1 : Int32)) / (20 : Int32) * (20 : Int32))) (fun m2 => X12_keeps_p15 sh v0 Q (0 : Int32) m2))
abbrev M_X12_keeps : Mi := (cX12_keeps, 2, RX12, (none : Option FieldType), "keeps", 1, 60, 0, 0)
set_option maxHeartbeats 4000000 in
set_option maxRecDepth 100000 in
theorem v_X12_keeps_p15b {G : Gl} {F : Fr} {sh : Shp} {v0 : Nat} {v1 : Int32} {Q : Mem → Prop} {K15 : Int32 → Mem → Prop} {m : Mem} (hK15 : ∀ (x1 : Int32) (m : Mem), K15 x1 m → V G F M_X12_keeps sh 0 0 (Zv G F sh Q) 15 [(0, .ref (G.1 + v0)), (1, .int x1)] [] m) (h : X12_keeps_p15b sh v0 Q K15 v1 m) : V G F M_X12_keeps sh 0 0 (Zv G F sh Q) 15 [(0, .ref (G.1 + v0)), (1, .int v1)] [] m := by
  unfold X12_keeps_p15b at h
  refine v_iload_n 1 1 dX12_keeps_15 rfl rfl ?_
  refine v_sipush (236 : Int32) dX12_keeps_16 (by decide) ?_
  refine v_icmp_ge 49 dX12_keeps_19 (by decide) (fun hc => ?_) (fun hc => ?_)
  · replace h := Eq.mp (if_pos hc) h
    refine v_aload_n 0 0 dX12_keeps_49 rfl rfl ?_
    obtain ⟨o3, h⟩ := h
    refine v_gI 12 78 dX12_keeps_50 fg_RX12_430 o3 ?_
    refine v_bipush (20 : Int32) dX12_keeps_53 (by decide) ?_
    refine v_icmp_ge 68 dX12_keeps_55 (by decide) (fun hc => ?_) (fun hc => ?_)
    · replace h := Eq.mp (if_pos hc) h
      exact v_vret dX12_keeps_68 rfl h
    · replace h := Eq.mp (if_neg hc) h
      refine v_aload_n 0 0 dX12_keeps_58 rfl rfl ?_
      refine v_dup dX12_keeps_59 rfl ?_
      refine v_gI 12 78 dX12_keeps_60 fg_RX12_430 o3 ?_
      refine v_iconst (1 : Int32) dX12_keeps_63 (by decide) ?_
      refine v_iadd dX12_keeps_64 ?_
      refine v_pI 12 78 dX12_keeps_65 fw_RX12_430 o3 ?_
      replace h := bnd_e h
      exact v_vret dX12_keeps_68 rfl h
  · replace h := Eq.mp (if_neg hc) h
    refine v_aload_n 0 0 dX12_keeps_22 rfl rfl ?_
    obtain ⟨o5, h⟩ := h
    obtain ⟨b6, e7, h⟩ := h
    refine v_gR 12 77 dX12_keeps_23 fg_RX12_182 o5 e7 ?_
    refine v_sipush (236 : Int32) dX12_keeps_26 (by decide) ?_
    refine v_aload_n 0 0 dX12_keeps_29 rfl rfl ?_
    refine v_gI 12 79 dX12_keeps_30 fg_RX12_595 o5 ?_
    refine v_imul dX12_keeps_33 ?_
    refine v_iload_n 1 1 dX12_keeps_34 rfl rfl ?_
    refine v_iadd dX12_keeps_35 ?_
    refine v_aload_n 0 0 dX12_keeps_36 rfl rfl ?_
    obtain ⟨b8, e9, h⟩ := h
    refine v_gR 12 58 dX12_keeps_37 fg_RX12_143 o5 e9 ?_
    refine v_iload_n 1 1 dX12_keeps_40 rfl rfl ?_
    obtain ⟨i10, h⟩ := h
    refine v_iald dX12_keeps_41 i10 ?_
    obtain ⟨i11, h⟩ := h
    refine v_iast dX12_keeps_42 i11 ?_
    replace h := bnd_e h
    refine v_iinc (ls' := [(1, .int _), (0, .ref _)]) 1 1 dX12_keeps_43 rfl (congrArg (HAdd.hAdd _) (by decide : Int32.ofInt (1) = (1 : Int32))) (Nat.le_of_ble_eq_true rfl) rfl ?_
    refine v_goto 15 dX12_keeps_46 (by decide) ?_
    refine v_sub [1, 0] rfl ?_
    exact hK15 _ _ h
set_option maxHeartbeats 4000000 in
set_option maxRecDepth 100000 in
theorem v_X12_keeps_p15 {G : Gl} {F : Fr} {sh : Shp} {v0 : Nat} {v1 : Int32} {Q : Mem → Prop} {m : Mem} (h : X12_keeps_p15 sh v0 Q v1 m) : V G F M_X12_keeps sh 0 0 (Zv G F sh Q) 15 [(0, .ref (G.1 + v0)), (1, .int v1)] [] m := by
  obtain ⟨n, h⟩ := h
  induction n generalizing v1 m with
  | zero => exact h.elim
  | succ n ih => exact v_X12_keeps_p15b (fun _ _ h => ih h) h
set_option maxHeartbeats 4000000 in
set_option maxRecDepth 100000 in
theorem c_X12_keeps {l : Launch} {G : Gl} {sh : Shp} {v0 : Nat} {Q : Mem → Prop} {m : Mem} (h : wp_X12_keeps sh v0 Q m) : Cnv l G yX12_keeps cX12_keeps 2 (none : Option FieldType) 1 60 sh [.ref (G.1 + v0)] m Q := by
  refine con_v (ls := [(0, .ref (G.1 + v0))]) (by decide +kernel) rfl (Nat.le_of_ble_eq_true rfl) (fun F => ?_)
  show V G F M_X12_keeps sh 0 0 (Zv G F sh Q) 0 [(0, .ref (G.1 + v0))] [] m
  unfold wp_X12_keeps at h
  refine v_aload_n 0 0 dX12_keeps_0 rfl rfl ?_
  refine v_aload_n 0 0 dX12_keeps_1 rfl rfl ?_
  obtain ⟨o1, h⟩ := h
  refine v_gI 12 79 dX12_keeps_2 fg_RX12_595 o1 ?_
  refine v_iconst (1 : Int32) dX12_keeps_5 (by decide) ?_
  refine v_iadd dX12_keeps_6 ?_
  refine v_bipush (20 : Int32) dX12_keeps_7 (by decide) ?_
  refine v_irem dX12_keeps_9 (by decide) ?_
  refine v_pI 12 79 dX12_keeps_10 fw_RX12_595 o1 ?_
  replace h := bnd_e h
  refine v_iconst (0 : Int32) dX12_keeps_13 (by decide) ?_
  refine v_istore_n (ls' := [(1, .int _), (0, .ref _)]) 1 dX12_keeps_14 rfl (Nat.le_of_ble_eq_true rfl) rfl ?_
  refine v_sub [1, 0] rfl ?_
  exact v_X12_keeps_p15 h
/-! CalledRiverModel.bake -/
theorem dX12_bake_0 : decode cX12_bake 0 = .ok (.aload_n 0, 1) := by decide +kernel
theorem dX12_bake_1 : decode cX12_bake 1 = .ok (.iload_n 1, 1) := by decide +kernel
theorem dX12_bake_2 : decode cX12_bake 2 = .ok (.invokevirtual 554, 3) := by decide +kernel
theorem dX12_bake_5 : decode cX12_bake 5 = .ok (.ifCond .eq 24, 3) := by decide +kernel
theorem dX12_bake_8 : decode cX12_bake 8 = .ok (.iload_n 2, 1) := by decide +kernel
theorem dX12_bake_9 : decode cX12_bake 9 = .ok (.i2l, 1) := by decide +kernel
theorem dX12_bake_10 : decode cX12_bake 10 = .ok (.lconst 0, 1) := by decide +kernel
theorem dX12_bake_11 : decode cX12_bake 11 = .ok (.ldc2_w 527, 3) := by decide +kernel
theorem dX12_bake_14 : decode cX12_bake 14 = .ok (.invokestatic 328, 3) := by decide +kernel
theorem dX12_bake_17 : decode cX12_bake 17 = .ok (.ifCond .eq 12, 3) := by decide +kernel
theorem dX12_bake_20 : decode cX12_bake 20 = .ok (.aload_n 0, 1) := by decide +kernel
theorem dX12_bake_21 : decode cX12_bake 21 = .ok (.iload_n 1, 1) := by decide +kernel
theorem dX12_bake_22 : decode cX12_bake 22 = .ok (.invokevirtual 449, 3) := by decide +kernel
theorem dX12_bake_25 : decode cX12_bake 25 = .ok (.iload_n 2, 1) := by decide +kernel
theorem dX12_bake_26 : decode cX12_bake 26 = .ok (.if_icmp .ne 8, 3) := by decide +kernel
theorem dX12_bake_29 : decode cX12_bake 29 = .ok (.aload_n 0, 1) := by decide +kernel
theorem dX12_bake_30 : decode cX12_bake 30 = .ok (.invokevirtual 607, 3) := by decide +kernel
theorem dX12_bake_33 : decode cX12_bake 33 = .ok (.ireturn, 1) := by decide +kernel
theorem dX12_bake_34 : decode cX12_bake 34 = .ok (.aload_n 0, 1) := by decide +kernel
theorem dX12_bake_35 : decode cX12_bake 35 = .ok (.invokevirtual 601, 3) := by decide +kernel
theorem dX12_bake_38 : decode cX12_bake 38 = .ok (.aload_n 0, 1) := by decide +kernel
theorem dX12_bake_39 : decode cX12_bake 39 = .ok (.getfield 143, 3) := by decide +kernel
theorem dX12_bake_42 : decode cX12_bake 42 = .ok (.bipush 109, 2) := by decide +kernel
theorem dX12_bake_44 : decode cX12_bake 44 = .ok (.iload_n 1, 1) := by decide +kernel
theorem dX12_bake_45 : decode cX12_bake 45 = .ok (.iadd, 1) := by decide +kernel
theorem dX12_bake_46 : decode cX12_bake 46 = .ok (.iload_n 2, 1) := by decide +kernel
theorem dX12_bake_47 : decode cX12_bake 47 = .ok (.iastore, 1) := by decide +kernel
theorem dX12_bake_48 : decode cX12_bake 48 = .ok (.iconst 1, 1) := by decide +kernel
theorem dX12_bake_49 : decode cX12_bake 49 = .ok (.ireturn, 1) := by decide +kernel
def X12_bake_p29 (sh : Shp) (v0 : Nat) (Q : Int32 → Mem → Prop) (m : Mem) : Prop :=
  Ob sh v0 12 ∧ wp_X12_isRefused sh v0 (fun r14 m15 => (r14 = 0 ∨ r14 = 1) ∧ Q r14 m15) m
def wp_X12_bake (sh : Shp) (v0 : Nat) (v1 : Int32) (v2 : Int32) (Q : Int32 → Mem → Prop) (m : Mem) : Prop :=
  Ob sh v0 12 ∧ wp_X12_isFarm sh v0 v1 (fun r1 m2 => if r1 = 0 then (X12_bake_p29 sh v0 Q m2) else (wp_X12_isIn sh v2.toInt64 (0 : Int64) (9 : Int64) (fun r4 m5 => if r4 = 0 then (X12_bake_p29 sh v0 Q m5) else (wp_X12_pieOf sh v0 v1 (fun r6 m7 => if r6 = v2 then (X12_bake_p29 sh v0 Q m7) else (wp_X12_keeps sh v0 (fun m9 => ∃ b10 : Nat, m9.2.2 v0 58 = some b10 ∧ (Ix sh b10 100 ((109 : Int32) + v1) ∧ bnd (sI m9 b10 ((109 : Int32) + v1).toNatClampNeg v2) (fun m13 => Q (1 : Int32) m13))) m7)) m5)) m2)) m
abbrev M_X12_bake : Mi := (cX12_bake, 3, RX12, (Option.some FieldType.boolean), "bake", 3, 106, 0, 0)
set_option maxHeartbeats 4000000 in
set_option maxRecDepth 100000 in
theorem v_X12_bake_p29 {G : Gl} {F : Fr} {sh : Shp} {v0 : Nat} {Q : Int32 → Mem → Prop} {m : Mem} (h : X12_bake_p29 sh v0 Q m) : V G F M_X12_bake sh 0 0 (Zi G F sh Q) 29 [(0, .ref (G.1 + v0))] [] m := by
  unfold X12_bake_p29 at h
  refine v_aload_n 0 0 dX12_bake_29 rfl rfl ?_
  obtain ⟨o16, h⟩ := h
  refine v_cVi [] mv_X12_isRefused ml_RX12_607 ⟨_, _, rfl⟩ o16 rfl rfl (Nat.le_of_ble_eq_true rfl) (Nat.le_of_ble_eq_true rfl) (Nat.le_of_ble_eq_true rfl) (Nat.zero_le _) (Nat.zero_le _) dX12_bake_30 (c_X12_isRefused h) (fun r14 m15 h => ?_)
  obtain ⟨hx, h⟩ := h
  exact v_iret dX12_bake_33 rfl (nar_z hx) h
set_option maxHeartbeats 4000000 in
set_option maxRecDepth 100000 in
theorem c_X12_bake {l : Launch} {G : Gl} {sh : Shp} {v0 : Nat} {v1 : Int32} {v2 : Int32} {Q : Int32 → Mem → Prop} {m : Mem} (h : wp_X12_bake sh v0 v1 v2 Q m) : Cni l G yX12_bake cX12_bake 3 (Option.some FieldType.boolean) 3 106 sh [.ref (G.1 + v0), .int v1, .int v2] m Q := by
  refine con_i (ls := [(0, .ref (G.1 + v0)), (1, .int v1), (2, .int v2)]) (by decide +kernel) rfl (Nat.le_of_ble_eq_true rfl) (fun F => ?_)
  show V G F M_X12_bake sh 0 0 (Zi G F sh Q) 0 [(0, .ref (G.1 + v0)), (1, .int v1), (2, .int v2)] [] m
  unfold wp_X12_bake at h
  refine v_aload_n 0 0 dX12_bake_0 rfl rfl ?_
  refine v_iload_n 1 1 dX12_bake_1 rfl rfl ?_
  obtain ⟨o3, h⟩ := h
  refine v_cVi [.int _] mv_X12_isFarm ml_RX12_554 ⟨_, _, rfl⟩ o3 rfl rfl (Nat.le_of_ble_eq_true rfl) (Nat.le_of_ble_eq_true rfl) (Nat.le_of_ble_eq_true rfl) (Nat.zero_le _) (Nat.zero_le _) dX12_bake_2 (c_X12_isFarm h) (fun r1 m2 h => ?_)
  refine v_if_eq 29 dX12_bake_5 (by decide) (fun hc => ?_) (fun hc => ?_)
  · replace h := Eq.mp (if_pos hc) h
    refine v_sub [0] rfl ?_
    exact v_X12_bake_p29 h
  · replace h := Eq.mp (if_neg hc) h
    refine v_iload_n 2 2 dX12_bake_8 rfl rfl ?_
    refine v_i2l dX12_bake_9 ?_
    refine v_lconst (0 : Int64) dX12_bake_10 (by decide) ?_
    refine v_ldc2 (9 : Int64) dX12_bake_11 cw_RX12_527 ?_
    refine v_cSi [.long _, .long _, .long _] mv_X12_isIn ml_RX12_328 rfl rfl (Nat.le_of_ble_eq_true rfl) (Nat.le_of_ble_eq_true rfl) (Nat.le_of_ble_eq_true rfl) (Nat.zero_le _) (Nat.zero_le _) dX12_bake_14 (c_X12_isIn h) (fun r4 m5 h => ?_)
    refine v_if_eq 29 dX12_bake_17 (by decide) (fun hc => ?_) (fun hc => ?_)
    · replace h := Eq.mp (if_pos hc) h
      refine v_sub [0] rfl ?_
      exact v_X12_bake_p29 h
    · replace h := Eq.mp (if_neg hc) h
      refine v_aload_n 0 0 dX12_bake_20 rfl rfl ?_
      refine v_iload_n 1 1 dX12_bake_21 rfl rfl ?_
      refine v_cVi [.int _] mv_X12_pieOf ml_RX12_449 ⟨_, _, rfl⟩ o3 rfl rfl (Nat.le_of_ble_eq_true rfl) (Nat.le_of_ble_eq_true rfl) (Nat.le_of_ble_eq_true rfl) (Nat.zero_le _) (Nat.zero_le _) dX12_bake_22 (c_X12_pieOf h) (fun r6 m7 h => ?_)
      refine v_iload_n 2 2 dX12_bake_25 rfl rfl ?_
      refine v_icmp_ne 34 dX12_bake_26 (by decide) (fun hc => ?_) (fun hc => ?_)
      · replace h := Eq.mp (if_neg hc) h
        refine v_aload_n 0 0 dX12_bake_34 rfl rfl ?_
        refine v_cVv [] mv_X12_keeps ml_RX12_601 ⟨_, _, rfl⟩ o3 rfl rfl (Nat.le_of_ble_eq_true rfl) (Nat.le_of_ble_eq_true rfl) (Nat.le_of_ble_eq_true rfl) (Nat.zero_le _) (Nat.zero_le _) dX12_bake_35 (c_X12_keeps h) (fun m9 h => ?_)
        refine v_aload_n 0 0 dX12_bake_38 rfl rfl ?_
        obtain ⟨b10, e11, h⟩ := h
        refine v_gR 12 58 dX12_bake_39 fg_RX12_143 o3 e11 ?_
        refine v_bipush (109 : Int32) dX12_bake_42 (by decide) ?_
        refine v_iload_n 1 1 dX12_bake_44 rfl rfl ?_
        refine v_iadd dX12_bake_45 ?_
        refine v_iload_n 2 2 dX12_bake_46 rfl rfl ?_
        obtain ⟨i12, h⟩ := h
        refine v_iast dX12_bake_47 i12 ?_
        replace h := bnd_e h
        refine v_iconst (1 : Int32) dX12_bake_48 (by decide) ?_
        exact v_iret dX12_bake_49 rfl (by decide) h
      · replace h := Eq.mp (if_pos hc) h
        refine v_sub [0] rfl ?_
        exact v_X12_bake_p29 h
/-! CalledRiverModel.isWatered -/
theorem dX12_isWatered_0 : decode cX12_isWatered 0 = .ok (.aload_n 0, 1) := by decide +kernel
theorem dX12_isWatered_1 : decode cX12_isWatered 1 = .ok (.getfield 149, 3) := by decide +kernel
theorem dX12_isWatered_4 : decode cX12_isWatered 4 = .ok (.aload_n 0, 1) := by decide +kernel
theorem dX12_isWatered_5 : decode cX12_isWatered 5 = .ok (.iload_n 1, 1) := by decide +kernel
theorem dX12_isWatered_6 : decode cX12_isWatered 6 = .ok (.invokevirtual 442, 3) := by decide +kernel
theorem dX12_isWatered_9 : decode cX12_isWatered 9 = .ok (.iaload, 1) := by decide +kernel
theorem dX12_isWatered_10 : decode cX12_isWatered 10 = .ok (.istore_n 2, 1) := by decide +kernel
theorem dX12_isWatered_11 : decode cX12_isWatered 11 = .ok (.iload_n 2, 1) := by decide +kernel
theorem dX12_isWatered_12 : decode cX12_isWatered 12 = .ok (.iconst (-1), 1) := by decide +kernel
theorem dX12_isWatered_13 : decode cX12_isWatered 13 = .ok (.if_icmp .eq 16, 3) := by decide +kernel
theorem dX12_isWatered_16 : decode cX12_isWatered 16 = .ok (.iload_n 2, 1) := by decide +kernel
theorem dX12_isWatered_17 : decode cX12_isWatered 17 = .ok (.aload_n 0, 1) := by decide +kernel
theorem dX12_isWatered_18 : decode cX12_isWatered 18 = .ok (.iload_n 1, 1) := by decide +kernel
theorem dX12_isWatered_19 : decode cX12_isWatered 19 = .ok (.invokevirtual 515, 3) := by decide +kernel
theorem dX12_isWatered_22 : decode cX12_isWatered 22 = .ok (.if_icmp .gt 7, 3) := by decide +kernel
theorem dX12_isWatered_25 : decode cX12_isWatered 25 = .ok (.iconst 1, 1) := by decide +kernel
theorem dX12_isWatered_26 : decode cX12_isWatered 26 = .ok (.goto 4, 3) := by decide +kernel
theorem dX12_isWatered_29 : decode cX12_isWatered 29 = .ok (.iconst 0, 1) := by decide +kernel
theorem dX12_isWatered_30 : decode cX12_isWatered 30 = .ok (.ireturn, 1) := by decide +kernel
def wp_X12_isWatered (sh : Shp) (v0 : Nat) (v1 : Int32) (Q : Int32 → Mem → Prop) (m : Mem) : Prop :=
  Ob sh v0 12 ∧ ∃ b2 : Nat, m.2.2 v0 65 = some b2 ∧ (wp_X12_cellOf sh v0 v1 (fun r4 m5 => Ix sh b2 100 r4 ∧ (if (m5.1 b2 r4.toNatClampNeg) = (-1 : Int32) then (Q (0 : Int32) m5) else (wp_X12_dayOf sh v0 v1 (fun r7 m8 => if r7 < (m5.1 b2 r4.toNatClampNeg) then (Q (0 : Int32) m8) else (Q (1 : Int32) m8)) m5))) m)
abbrev M_X12_isWatered : Mi := (cX12_isWatered, 3, RX12, (Option.some FieldType.boolean), "isWatered", 2, 81, 0, 0)
set_option maxHeartbeats 4000000 in
set_option maxRecDepth 100000 in
theorem c_X12_isWatered {l : Launch} {G : Gl} {sh : Shp} {v0 : Nat} {v1 : Int32} {Q : Int32 → Mem → Prop} {m : Mem} (h : wp_X12_isWatered sh v0 v1 Q m) : Cni l G yX12_isWatered cX12_isWatered 3 (Option.some FieldType.boolean) 2 81 sh [.ref (G.1 + v0), .int v1] m Q := by
  refine con_i (ls := [(0, .ref (G.1 + v0)), (1, .int v1)]) (by decide +kernel) rfl (Nat.le_of_ble_eq_true rfl) (fun F => ?_)
  show V G F M_X12_isWatered sh 0 0 (Zi G F sh Q) 0 [(0, .ref (G.1 + v0)), (1, .int v1)] [] m
  unfold wp_X12_isWatered at h
  refine v_aload_n 0 0 dX12_isWatered_0 rfl rfl ?_
  obtain ⟨o1, h⟩ := h
  obtain ⟨b2, e3, h⟩ := h
  refine v_gR 12 65 dX12_isWatered_1 fg_RX12_149 o1 e3 ?_
  refine v_aload_n 0 0 dX12_isWatered_4 rfl rfl ?_
  refine v_iload_n 1 1 dX12_isWatered_5 rfl rfl ?_
  refine v_cVi [.int _] mv_X12_cellOf ml_RX12_442 ⟨_, _, rfl⟩ o1 rfl rfl (Nat.le_of_ble_eq_true rfl) (Nat.le_of_ble_eq_true rfl) (Nat.le_of_ble_eq_true rfl) (Nat.zero_le _) (Nat.zero_le _) dX12_isWatered_6 (c_X12_cellOf h) (fun r4 m5 h => ?_)
  obtain ⟨i6, h⟩ := h
  refine v_iald dX12_isWatered_9 i6 ?_
  refine v_istore_n (ls' := [(2, .int _), (0, .ref _), (1, .int _)]) 2 dX12_isWatered_10 rfl (Nat.le_of_ble_eq_true rfl) rfl ?_
  refine v_iload_n 2 0 dX12_isWatered_11 rfl rfl ?_
  refine v_iconst (-1 : Int32) dX12_isWatered_12 (by decide) ?_
  refine v_icmp_eq 29 dX12_isWatered_13 (by decide) (fun hc => ?_) (fun hc => ?_)
  · replace h := Eq.mp (if_pos hc) h
    refine v_iconst (0 : Int32) dX12_isWatered_29 (by decide) ?_
    exact v_iret dX12_isWatered_30 rfl (by decide) h
  · replace h := Eq.mp (if_neg hc) h
    refine v_iload_n 2 0 dX12_isWatered_16 rfl rfl ?_
    refine v_aload_n 0 1 dX12_isWatered_17 rfl rfl ?_
    refine v_iload_n 1 2 dX12_isWatered_18 rfl rfl ?_
    refine v_cVi [.int _] mv_X12_dayOf ml_RX12_515 ⟨_, _, rfl⟩ o1 rfl rfl (Nat.le_of_ble_eq_true rfl) (Nat.le_of_ble_eq_true rfl) (Nat.le_of_ble_eq_true rfl) (Nat.zero_le _) (Nat.zero_le _) dX12_isWatered_19 (c_X12_dayOf h) (fun r7 m8 h => ?_)
    refine v_icmp_gt 29 dX12_isWatered_22 (by decide) (fun hc => ?_) (fun hc => ?_)
    · replace h := Eq.mp (if_pos hc) h
      refine v_iconst (0 : Int32) dX12_isWatered_29 (by decide) ?_
      exact v_iret dX12_isWatered_30 rfl (by decide) h
    · replace h := Eq.mp (if_neg hc) h
      refine v_iconst (1 : Int32) dX12_isWatered_25 (by decide) ?_
      refine v_goto 30 dX12_isWatered_26 (by decide) ?_
      exact v_iret dX12_isWatered_30 rfl (by decide) h
/-! CalledRiverModel.bakedBy -/
theorem dX12_bakedBy_0 : decode cX12_bakedBy 0 = .ok (.aload_n 0, 1) := by decide +kernel
theorem dX12_bakedBy_1 : decode cX12_bakedBy 1 = .ok (.getfield 134, 3) := by decide +kernel
theorem dX12_bakedBy_4 : decode cX12_bakedBy 4 = .ok (.iconst 3, 1) := by decide +kernel
theorem dX12_bakedBy_5 : decode cX12_bakedBy 5 = .ok (.iaload, 1) := by decide +kernel
theorem dX12_bakedBy_6 : decode cX12_bakedBy 6 = .ok (.iconst (-1), 1) := by decide +kernel
theorem dX12_bakedBy_7 : decode cX12_bakedBy 7 = .ok (.if_icmp .ne 9, 3) := by decide +kernel
theorem dX12_bakedBy_10 : decode cX12_bakedBy 10 = .ok (.aload_n 0, 1) := by decide +kernel
theorem dX12_bakedBy_11 : decode cX12_bakedBy 11 = .ok (.iload_n 1, 1) := by decide +kernel
theorem dX12_bakedBy_12 : decode cX12_bakedBy 12 = .ok (.invokevirtual 449, 3) := by decide +kernel
theorem dX12_bakedBy_15 : decode cX12_bakedBy 15 = .ok (.ireturn, 1) := by decide +kernel
theorem dX12_bakedBy_16 : decode cX12_bakedBy 16 = .ok (.aload_n 0, 1) := by decide +kernel
theorem dX12_bakedBy_17 : decode cX12_bakedBy 17 = .ok (.aload_n 0, 1) := by decide +kernel
theorem dX12_bakedBy_18 : decode cX12_bakedBy 18 = .ok (.iload_n 1, 1) := by decide +kernel
theorem dX12_bakedBy_19 : decode cX12_bakedBy 19 = .ok (.invokevirtual 518, 3) := by decide +kernel
theorem dX12_bakedBy_22 : decode cX12_bakedBy 22 = .ok (.ifCond .eq 7, 3) := by decide +kernel
theorem dX12_bakedBy_25 : decode cX12_bakedBy 25 = .ok (.iconst 1, 1) := by decide +kernel
theorem dX12_bakedBy_26 : decode cX12_bakedBy 26 = .ok (.goto 4, 3) := by decide +kernel
theorem dX12_bakedBy_29 : decode cX12_bakedBy 29 = .ok (.iconst 0, 1) := by decide +kernel
theorem dX12_bakedBy_30 : decode cX12_bakedBy 30 = .ok (.putfield 524, 3) := by decide +kernel
theorem dX12_bakedBy_33 : decode cX12_bakedBy 33 = .ok (.aload_n 0, 1) := by decide +kernel
theorem dX12_bakedBy_34 : decode cX12_bakedBy 34 = .ok (.iconst 1, 1) := by decide +kernel
theorem dX12_bakedBy_35 : decode cX12_bakedBy 35 = .ok (.iload_n 1, 1) := by decide +kernel
theorem dX12_bakedBy_36 : decode cX12_bakedBy 36 = .ok (.invokevirtual 481, 3) := by decide +kernel
theorem dX12_bakedBy_39 : decode cX12_bakedBy 39 = .ok (.lstore_n 2, 1) := by decide +kernel
theorem dX12_bakedBy_40 : decode cX12_bakedBy 40 = .ok (.lload_n 2, 1) := by decide +kernel
theorem dX12_bakedBy_41 : decode cX12_bakedBy 41 = .ok (.lconst 0, 1) := by decide +kernel
theorem dX12_bakedBy_42 : decode cX12_bakedBy 42 = .ok (.lcmp, 1) := by decide +kernel
theorem dX12_bakedBy_43 : decode cX12_bakedBy 43 = .ok (.ifCond .ge 7, 3) := by decide +kernel
theorem dX12_bakedBy_46 : decode cX12_bakedBy 46 = .ok (.iconst 0, 1) := by decide +kernel
theorem dX12_bakedBy_47 : decode cX12_bakedBy 47 = .ok (.goto 18, 3) := by decide +kernel
theorem dX12_bakedBy_50 : decode cX12_bakedBy 50 = .ok (.lload_n 2, 1) := by decide +kernel
theorem dX12_bakedBy_51 : decode cX12_bakedBy 51 = .ok (.ldc2_w 527, 3) := by decide +kernel
theorem dX12_bakedBy_54 : decode cX12_bakedBy 54 = .ok (.lcmp, 1) := by decide +kernel
theorem dX12_bakedBy_55 : decode cX12_bakedBy 55 = .ok (.ifCond .le 8, 3) := by decide +kernel
theorem dX12_bakedBy_58 : decode cX12_bakedBy 58 = .ok (.bipush 9, 2) := by decide +kernel
theorem dX12_bakedBy_60 : decode cX12_bakedBy 60 = .ok (.goto 5, 3) := by decide +kernel
theorem dX12_bakedBy_63 : decode cX12_bakedBy 63 = .ok (.lload_n 2, 1) := by decide +kernel
theorem dX12_bakedBy_64 : decode cX12_bakedBy 64 = .ok (.l2i, 1) := by decide +kernel
theorem dX12_bakedBy_65 : decode cX12_bakedBy 65 = .ok (.ireturn, 1) := by decide +kernel
def X12_bakedBy_p30 (sh : Shp) (v0 : Nat) (v1 : Int32) (s1 : Int32) (s0 : Nat) (Q : Int32 → Mem → Prop) (m : Mem) : Prop :=
  Ob sh s0 12 ∧ bnd (sI m s0 62 s1) (fun m10 => Ob sh v0 12 ∧ wp_X12_codesTell sh v0 (1 : Int32) v1 (fun r11 m12 => if 0 ≤ (lg_cmp r11 (0 : Int64)) then (if (lg_cmp r11 (9 : Int64)) ≤ 0 then (Q r11.toInt32 m12) else (Q (9 : Int32) m12)) else (Q (0 : Int32) m12)) m10)
def wp_X12_bakedBy (sh : Shp) (v0 : Nat) (v1 : Int32) (Q : Int32 → Mem → Prop) (m : Mem) : Prop :=
  Ob sh v0 12 ∧ ∃ b2 : Nat, m.2.2 v0 51 = some b2 ∧ (Ix sh b2 100 (3 : Int32) ∧ (if (m.1 b2 (3 : Int32).toNatClampNeg) = (-1 : Int32) then (wp_X12_pieOf sh v0 v1 (fun r7 m8 => Q r7 m8) m) else (wp_X12_isWatered sh v0 v1 (fun r5 m6 => if r5 = 0 then (X12_bakedBy_p30 sh v0 v1 (0 : Int32) v0 Q m6) else (X12_bakedBy_p30 sh v0 v1 (1 : Int32) v0 Q m6)) m)))
abbrev M_X12_bakedBy : Mi := (cX12_bakedBy, 4, RX12, (Option.some FieldType.int), "bakedBy", 6, 171, 0, 0)
set_option maxHeartbeats 4000000 in
set_option maxRecDepth 100000 in
theorem v_X12_bakedBy_p30 {G : Gl} {F : Fr} {sh : Shp} {v0 : Nat} {v1 : Int32} {s0 : Nat} {s1 : Int32} {Q : Int32 → Mem → Prop} {m : Mem} (h : X12_bakedBy_p30 sh v0 v1 s1 s0 Q m) : V G F M_X12_bakedBy sh 0 0 (Zi G F sh Q) 30 [(0, .ref (G.1 + v0)), (1, .int v1)] [.int s1, .ref (G.1 + s0)] m := by
  unfold X12_bakedBy_p30 at h
  obtain ⟨o9, h⟩ := h
  refine v_pI 12 62 dX12_bakedBy_30 fw_RX12_524 o9 ?_
  replace h := bnd_e h
  refine v_aload_n 0 0 dX12_bakedBy_33 rfl rfl ?_
  refine v_iconst (1 : Int32) dX12_bakedBy_34 (by decide) ?_
  refine v_iload_n 1 1 dX12_bakedBy_35 rfl rfl ?_
  obtain ⟨o13, h⟩ := h
  refine v_cVl [.int _, .int _] mv_X12_codesTell ml_RX12_481 ⟨_, _, rfl⟩ o13 rfl rfl (Nat.le_of_ble_eq_true rfl) (Nat.le_of_ble_eq_true rfl) (Nat.le_of_ble_eq_true rfl) (Nat.zero_le _) (Nat.zero_le _) dX12_bakedBy_36 (c_X12_codesTell h) (fun r11 m12 h => ?_)
  refine v_lstore_n (ls' := [(2, .long _), (0, .ref _), (1, .int _)]) 2 dX12_bakedBy_39 rfl (Nat.le_of_ble_eq_true rfl) rfl ?_
  refine v_lload_n 2 0 dX12_bakedBy_40 rfl rfl ?_
  refine v_lconst (0 : Int64) dX12_bakedBy_41 (by decide) ?_
  refine v_lcmp dX12_bakedBy_42 ?_
  refine v_if_ge 50 dX12_bakedBy_43 (by decide) (fun hc => ?_) (fun hc => ?_)
  · replace h := Eq.mp (if_pos hc) h
    refine v_lload_n 2 0 dX12_bakedBy_50 rfl rfl ?_
    refine v_ldc2 (9 : Int64) dX12_bakedBy_51 cw_RX12_527 ?_
    refine v_lcmp dX12_bakedBy_54 ?_
    refine v_if_le 63 dX12_bakedBy_55 (by decide) (fun hc => ?_) (fun hc => ?_)
    · replace h := Eq.mp (if_pos hc) h
      refine v_lload_n 2 0 dX12_bakedBy_63 rfl rfl ?_
      refine v_l2i dX12_bakedBy_64 ?_
      exact v_iret dX12_bakedBy_65 rfl rfl h
    · replace h := Eq.mp (if_neg hc) h
      refine v_bipush (9 : Int32) dX12_bakedBy_58 (by decide) ?_
      refine v_goto 65 dX12_bakedBy_60 (by decide) ?_
      exact v_iret dX12_bakedBy_65 rfl rfl h
  · replace h := Eq.mp (if_neg hc) h
    refine v_iconst (0 : Int32) dX12_bakedBy_46 (by decide) ?_
    refine v_goto 65 dX12_bakedBy_47 (by decide) ?_
    exact v_iret dX12_bakedBy_65 rfl rfl h
set_option maxHeartbeats 4000000 in
set_option maxRecDepth 100000 in
theorem c_X12_bakedBy {l : Launch} {G : Gl} {sh : Shp} {v0 : Nat} {v1 : Int32} {Q : Int32 → Mem → Prop} {m : Mem} (h : wp_X12_bakedBy sh v0 v1 Q m) : Cni l G yX12_bakedBy cX12_bakedBy 4 (Option.some FieldType.int) 6 171 sh [.ref (G.1 + v0), .int v1] m Q := by
  refine con_i (ls := [(0, .ref (G.1 + v0)), (1, .int v1)]) (by decide +kernel) rfl (Nat.le_of_ble_eq_true rfl) (fun F => ?_)
  show V G F M_X12_bakedBy sh 0 0 (Zi G F sh Q) 0 [(0, .ref (G.1 + v0)), (1, .int v1)] [] m
  unfold wp_X12_bakedBy at h
  refine v_aload_n 0 0 dX12_bakedBy_0 rfl rfl ?_
  obtain ⟨o1, h⟩ := h
  obtain ⟨b2, e3, h⟩ := h
  refine v_gR 12 51 dX12_bakedBy_1 fg_RX12_134 o1 e3 ?_
  refine v_iconst (3 : Int32) dX12_bakedBy_4 (by decide) ?_
  obtain ⟨i4, h⟩ := h
  refine v_iald dX12_bakedBy_5 i4 ?_
  refine v_iconst (-1 : Int32) dX12_bakedBy_6 (by decide) ?_
  refine v_icmp_ne 16 dX12_bakedBy_7 (by decide) (fun hc => ?_) (fun hc => ?_)
  · replace h := Eq.mp (if_neg hc) h
    refine v_aload_n 0 0 dX12_bakedBy_16 rfl rfl ?_
    refine v_aload_n 0 0 dX12_bakedBy_17 rfl rfl ?_
    refine v_iload_n 1 1 dX12_bakedBy_18 rfl rfl ?_
    refine v_cVi [.int _] mv_X12_isWatered ml_RX12_518 ⟨_, _, rfl⟩ o1 rfl rfl (Nat.le_of_ble_eq_true rfl) (Nat.le_of_ble_eq_true rfl) (Nat.le_of_ble_eq_true rfl) (Nat.zero_le _) (Nat.zero_le _) dX12_bakedBy_19 (c_X12_isWatered h) (fun r5 m6 h => ?_)
    refine v_if_eq 29 dX12_bakedBy_22 (by decide) (fun hc => ?_) (fun hc => ?_)
    · replace h := Eq.mp (if_pos hc) h
      refine v_iconst (0 : Int32) dX12_bakedBy_29 (by decide) ?_
      refine v_sub [0, 1] rfl ?_
      exact v_X12_bakedBy_p30 h
    · replace h := Eq.mp (if_neg hc) h
      refine v_iconst (1 : Int32) dX12_bakedBy_25 (by decide) ?_
      refine v_goto 30 dX12_bakedBy_26 (by decide) ?_
      refine v_sub [0, 1] rfl ?_
      exact v_X12_bakedBy_p30 h
  · replace h := Eq.mp (if_pos hc) h
    refine v_aload_n 0 0 dX12_bakedBy_10 rfl rfl ?_
    refine v_iload_n 1 1 dX12_bakedBy_11 rfl rfl ?_
    refine v_cVi [.int _] mv_X12_pieOf ml_RX12_449 ⟨_, _, rfl⟩ o1 rfl rfl (Nat.le_of_ble_eq_true rfl) (Nat.le_of_ble_eq_true rfl) (Nat.le_of_ble_eq_true rfl) (Nat.zero_le _) (Nat.zero_le _) dX12_bakedBy_12 (c_X12_pieOf h) (fun r7 m8 h => ?_)
    exact v_iret dX12_bakedBy_15 rfl rfl h
/-! CalledRiverModel.bits -/
theorem dX12_bits_0 : decode cX12_bits 0 = .ok (.iconst 0, 1) := by decide +kernel
theorem dX12_bits_1 : decode cX12_bits 1 = .ok (.istore_n 1, 1) := by decide +kernel
theorem dX12_bits_2 : decode cX12_bits 2 = .ok (.iload_n 0, 1) := by decide +kernel
theorem dX12_bits_3 : decode cX12_bits 3 = .ok (.istore_n 2, 1) := by decide +kernel
theorem dX12_bits_4 : decode cX12_bits 4 = .ok (.iload_n 2, 1) := by decide +kernel
theorem dX12_bits_5 : decode cX12_bits 5 = .ok (.ifCond .eq 15, 3) := by decide +kernel
theorem dX12_bits_8 : decode cX12_bits 8 = .ok (.iinc 1 1, 3) := by decide +kernel
theorem dX12_bits_11 : decode cX12_bits 11 = .ok (.iload_n 2, 1) := by decide +kernel
theorem dX12_bits_12 : decode cX12_bits 12 = .ok (.iload_n 2, 1) := by decide +kernel
theorem dX12_bits_13 : decode cX12_bits 13 = .ok (.iconst 1, 1) := by decide +kernel
theorem dX12_bits_14 : decode cX12_bits 14 = .ok (.isub, 1) := by decide +kernel
theorem dX12_bits_15 : decode cX12_bits 15 = .ok (.iand, 1) := by decide +kernel
theorem dX12_bits_16 : decode cX12_bits 16 = .ok (.istore_n 2, 1) := by decide +kernel
theorem dX12_bits_17 : decode cX12_bits 17 = .ok (.goto (-13), 3) := by decide +kernel
theorem dX12_bits_20 : decode cX12_bits 20 = .ok (.iload_n 1, 1) := by decide +kernel
theorem dX12_bits_21 : decode cX12_bits 21 = .ok (.ireturn, 1) := by decide +kernel
def X12_bits_p4b (sh : Shp) (Q : Int32 → Mem → Prop) (K4 : Int32 → Int32 → Mem → Prop) (v1 : Int32) (v2 : Int32) (m : Mem) : Prop :=
  if v2 = 0 then (Q v1 m) else (K4 (v1 + (1 : Int32)) (v2 &&& (v2 - (1 : Int32))) m)
def X12_bits_p4n (sh : Shp) (Q : Int32 → Mem → Prop) : Nat → Int32 → Int32 → Mem → Prop
  | 0 => fun _ _ _ => False
  | n + 1 => X12_bits_p4b sh Q (X12_bits_p4n sh Q n)
def X12_bits_p4 (sh : Shp) (Q : Int32 → Mem → Prop) (v1 : Int32) (v2 : Int32) (m : Mem) : Prop := ∃ n, X12_bits_p4n sh Q n v1 v2 m
def wp_X12_bits (sh : Shp) (v0 : Int32) (Q : Int32 → Mem → Prop) (m : Mem) : Prop :=
  X12_bits_p4 sh Q (0 : Int32) v0 m
abbrev M_X12_bits : Mi := (cX12_bits, 3, RX12, (Option.some FieldType.int), "bits", 1, 60, 0, 0)
set_option maxHeartbeats 4000000 in
set_option maxRecDepth 100000 in
theorem v_X12_bits_p4b {G : Gl} {F : Fr} {sh : Shp} {v1 : Int32} {v2 : Int32} {Q : Int32 → Mem → Prop} {K4 : Int32 → Int32 → Mem → Prop} {m : Mem} (hK4 : ∀ (x1 : Int32) (x2 : Int32) (m : Mem), K4 x1 x2 m → V G F M_X12_bits sh 0 0 (Zi G F sh Q) 4 [(1, .int x1), (2, .int x2)] [] m) (h : X12_bits_p4b sh Q K4 v1 v2 m) : V G F M_X12_bits sh 0 0 (Zi G F sh Q) 4 [(1, .int v1), (2, .int v2)] [] m := by
  unfold X12_bits_p4b at h
  refine v_iload_n 2 1 dX12_bits_4 rfl rfl ?_
  refine v_if_eq 20 dX12_bits_5 (by decide) (fun hc => ?_) (fun hc => ?_)
  · replace h := Eq.mp (if_pos hc) h
    refine v_iload_n 1 0 dX12_bits_20 rfl rfl ?_
    exact v_iret dX12_bits_21 rfl rfl h
  · replace h := Eq.mp (if_neg hc) h
    refine v_iinc (ls' := [(1, .int _), (2, .int _)]) 1 0 dX12_bits_8 rfl (congrArg (HAdd.hAdd _) (by decide : Int32.ofInt (1) = (1 : Int32))) (Nat.le_of_ble_eq_true rfl) rfl ?_
    refine v_iload_n 2 1 dX12_bits_11 rfl rfl ?_
    refine v_iload_n 2 1 dX12_bits_12 rfl rfl ?_
    refine v_iconst (1 : Int32) dX12_bits_13 (by decide) ?_
    refine v_isub dX12_bits_14 ?_
    refine v_iand dX12_bits_15 ?_
    refine v_istore_n (ls' := [(2, .int _), (1, .int _)]) 2 dX12_bits_16 rfl (Nat.le_of_ble_eq_true rfl) rfl ?_
    refine v_goto 4 dX12_bits_17 (by decide) ?_
    refine v_sub [1, 0] rfl ?_
    exact hK4 _ _ _ h
set_option maxHeartbeats 4000000 in
set_option maxRecDepth 100000 in
theorem v_X12_bits_p4 {G : Gl} {F : Fr} {sh : Shp} {v1 : Int32} {v2 : Int32} {Q : Int32 → Mem → Prop} {m : Mem} (h : X12_bits_p4 sh Q v1 v2 m) : V G F M_X12_bits sh 0 0 (Zi G F sh Q) 4 [(1, .int v1), (2, .int v2)] [] m := by
  obtain ⟨n, h⟩ := h
  induction n generalizing v1 v2 m with
  | zero => exact h.elim
  | succ n ih => exact v_X12_bits_p4b (fun _ _ _ h => ih h) h
set_option maxHeartbeats 4000000 in
set_option maxRecDepth 100000 in
theorem c_X12_bits {l : Launch} {G : Gl} {sh : Shp} {v0 : Int32} {Q : Int32 → Mem → Prop} {m : Mem} (h : wp_X12_bits sh v0 Q m) : Cni l G yX12_bits cX12_bits 3 (Option.some FieldType.int) 1 60 sh [.int v0] m Q := by
  refine con_i (ls := [(0, .int v0)]) (by decide +kernel) rfl (Nat.le_of_ble_eq_true rfl) (fun F => ?_)
  show V G F M_X12_bits sh 0 0 (Zi G F sh Q) 0 [(0, .int v0)] [] m
  unfold wp_X12_bits at h
  refine v_iconst (0 : Int32) dX12_bits_0 (by decide) ?_
  refine v_istore_n (ls' := [(1, .int _), (0, .int _)]) 1 dX12_bits_1 rfl (Nat.le_of_ble_eq_true rfl) rfl ?_
  refine v_iload_n 0 1 dX12_bits_2 rfl rfl ?_
  refine v_istore_n (ls' := [(2, .int _), (1, .int _), (0, .int _)]) 2 dX12_bits_3 rfl (Nat.le_of_ble_eq_true rfl) rfl ?_
  refine v_sub [1, 0] rfl ?_
  exact v_X12_bits_p4 h
/-! CalledRiverModel.wateredSet -/
theorem dX12_wateredSet_0 : decode cX12_wateredSet 0 = .ok (.iconst 0, 1) := by decide +kernel
theorem dX12_wateredSet_1 : decode cX12_wateredSet 1 = .ok (.istore_n 1, 1) := by decide +kernel
theorem dX12_wateredSet_2 : decode cX12_wateredSet 2 = .ok (.iconst 0, 1) := by decide +kernel
theorem dX12_wateredSet_3 : decode cX12_wateredSet 3 = .ok (.istore_n 2, 1) := by decide +kernel
theorem dX12_wateredSet_4 : decode cX12_wateredSet 4 = .ok (.iload_n 2, 1) := by decide +kernel
theorem dX12_wateredSet_5 : decode cX12_wateredSet 5 = .ok (.aload_n 0, 1) := by decide +kernel
theorem dX12_wateredSet_6 : decode cX12_wateredSet 6 = .ok (.invokevirtual 436, 3) := by decide +kernel
theorem dX12_wateredSet_9 : decode cX12_wateredSet 9 = .ok (.if_icmp .ge 23, 3) := by decide +kernel
theorem dX12_wateredSet_12 : decode cX12_wateredSet 12 = .ok (.aload_n 0, 1) := by decide +kernel
theorem dX12_wateredSet_13 : decode cX12_wateredSet 13 = .ok (.iload_n 2, 1) := by decide +kernel
theorem dX12_wateredSet_14 : decode cX12_wateredSet 14 = .ok (.invokevirtual 518, 3) := by decide +kernel
theorem dX12_wateredSet_17 : decode cX12_wateredSet 17 = .ok (.ifCond .eq 9, 3) := by decide +kernel
theorem dX12_wateredSet_20 : decode cX12_wateredSet 20 = .ok (.iload_n 1, 1) := by decide +kernel
theorem dX12_wateredSet_21 : decode cX12_wateredSet 21 = .ok (.iconst 1, 1) := by decide +kernel
theorem dX12_wateredSet_22 : decode cX12_wateredSet 22 = .ok (.iload_n 2, 1) := by decide +kernel
theorem dX12_wateredSet_23 : decode cX12_wateredSet 23 = .ok (.ishl, 1) := by decide +kernel
theorem dX12_wateredSet_24 : decode cX12_wateredSet 24 = .ok (.ior, 1) := by decide +kernel
theorem dX12_wateredSet_25 : decode cX12_wateredSet 25 = .ok (.istore_n 1, 1) := by decide +kernel
theorem dX12_wateredSet_26 : decode cX12_wateredSet 26 = .ok (.iinc 2 1, 3) := by decide +kernel
theorem dX12_wateredSet_29 : decode cX12_wateredSet 29 = .ok (.goto (-25), 3) := by decide +kernel
theorem dX12_wateredSet_32 : decode cX12_wateredSet 32 = .ok (.iload_n 1, 1) := by decide +kernel
theorem dX12_wateredSet_33 : decode cX12_wateredSet 33 = .ok (.ireturn, 1) := by decide +kernel
def X12_wateredSet_p26 (sh : Shp) (v0 : Nat) (v1 : Int32) (v2 : Int32) (Q : Int32 → Mem → Prop) (K4 : Int32 → Int32 → Mem → Prop) (m : Mem) : Prop :=
  K4 v1 (v2 + (1 : Int32)) m
def X12_wateredSet_p4b (sh : Shp) (v0 : Nat) (Q : Int32 → Mem → Prop) (K4 : Int32 → Int32 → Mem → Prop) (v1 : Int32) (v2 : Int32) (m : Mem) : Prop :=
  Ob sh v0 12 ∧ wp_X12_farmMany sh v0 (fun r1 m2 => if r1 ≤ v2 then (Q v1 m2) else (wp_X12_isWatered sh v0 v2 (fun r4 m5 => if r4 = 0 then (X12_wateredSet_p26 sh v0 v1 v2 Q K4 m5) else (X12_wateredSet_p26 sh v0 (v1 ||| ((1 : Int32) <<< (v2 &&& 31))) v2 Q K4 m5)) m2)) m
def X12_wateredSet_p4n (sh : Shp) (v0 : Nat) (Q : Int32 → Mem → Prop) : Nat → Int32 → Int32 → Mem → Prop
  | 0 => fun _ _ _ => False
  | n + 1 => X12_wateredSet_p4b sh v0 Q (X12_wateredSet_p4n sh v0 Q n)
def X12_wateredSet_p4 (sh : Shp) (v0 : Nat) (Q : Int32 → Mem → Prop) (v1 : Int32) (v2 : Int32) (m : Mem) : Prop := ∃ n, X12_wateredSet_p4n sh v0 Q n v1 v2 m
def wp_X12_wateredSet (sh : Shp) (v0 : Nat) (Q : Int32 → Mem → Prop) (m : Mem) : Prop :=
  X12_wateredSet_p4 sh v0 Q (0 : Int32) (0 : Int32) m
abbrev M_X12_wateredSet : Mi := (cX12_wateredSet, 3, RX12, (Option.some FieldType.int), "wateredSet", 3, 103, 0, 0)
set_option maxHeartbeats 4000000 in
set_option maxRecDepth 100000 in
theorem v_X12_wateredSet_p26 {G : Gl} {F : Fr} {sh : Shp} {v0 : Nat} {v1 : Int32} {v2 : Int32} {Q : Int32 → Mem → Prop} {K4 : Int32 → Int32 → Mem → Prop} {m : Mem} (hK4 : ∀ (x1 : Int32) (x2 : Int32) (m : Mem), K4 x1 x2 m → V G F M_X12_wateredSet sh 0 0 (Zi G F sh Q) 4 [(0, .ref (G.1 + v0)), (1, .int x1), (2, .int x2)] [] m) (h : X12_wateredSet_p26 sh v0 v1 v2 Q K4 m) : V G F M_X12_wateredSet sh 0 0 (Zi G F sh Q) 26 [(0, .ref (G.1 + v0)), (1, .int v1), (2, .int v2)] [] m := by
  unfold X12_wateredSet_p26 at h
  refine v_iinc (ls' := [(2, .int _), (0, .ref _), (1, .int _)]) 2 2 dX12_wateredSet_26 rfl (congrArg (HAdd.hAdd _) (by decide : Int32.ofInt (1) = (1 : Int32))) (Nat.le_of_ble_eq_true rfl) rfl ?_
  refine v_goto 4 dX12_wateredSet_29 (by decide) ?_
  refine v_sub [1, 2, 0] rfl ?_
  exact hK4 _ _ _ h
set_option maxHeartbeats 4000000 in
set_option maxRecDepth 100000 in
theorem v_X12_wateredSet_p4b {G : Gl} {F : Fr} {sh : Shp} {v0 : Nat} {v1 : Int32} {v2 : Int32} {Q : Int32 → Mem → Prop} {K4 : Int32 → Int32 → Mem → Prop} {m : Mem} (hK4 : ∀ (x1 : Int32) (x2 : Int32) (m : Mem), K4 x1 x2 m → V G F M_X12_wateredSet sh 0 0 (Zi G F sh Q) 4 [(0, .ref (G.1 + v0)), (1, .int x1), (2, .int x2)] [] m) (h : X12_wateredSet_p4b sh v0 Q K4 v1 v2 m) : V G F M_X12_wateredSet sh 0 0 (Zi G F sh Q) 4 [(0, .ref (G.1 + v0)), (1, .int v1), (2, .int v2)] [] m := by
  unfold X12_wateredSet_p4b at h
  refine v_iload_n 2 2 dX12_wateredSet_4 rfl rfl ?_
  refine v_aload_n 0 0 dX12_wateredSet_5 rfl rfl ?_
  obtain ⟨o3, h⟩ := h
  refine v_cVi [] mv_X12_farmMany ml_RX12_436 ⟨_, _, rfl⟩ o3 rfl rfl (Nat.le_of_ble_eq_true rfl) (Nat.le_of_ble_eq_true rfl) (Nat.le_of_ble_eq_true rfl) (Nat.zero_le _) (Nat.zero_le _) dX12_wateredSet_6 (c_X12_farmMany h) (fun r1 m2 h => ?_)
  refine v_icmp_ge 32 dX12_wateredSet_9 (by decide) (fun hc => ?_) (fun hc => ?_)
  · replace h := Eq.mp (if_pos hc) h
    refine v_iload_n 1 1 dX12_wateredSet_32 rfl rfl ?_
    exact v_iret dX12_wateredSet_33 rfl rfl h
  · replace h := Eq.mp (if_neg hc) h
    refine v_aload_n 0 0 dX12_wateredSet_12 rfl rfl ?_
    refine v_iload_n 2 2 dX12_wateredSet_13 rfl rfl ?_
    refine v_cVi [.int _] mv_X12_isWatered ml_RX12_518 ⟨_, _, rfl⟩ o3 rfl rfl (Nat.le_of_ble_eq_true rfl) (Nat.le_of_ble_eq_true rfl) (Nat.le_of_ble_eq_true rfl) (Nat.zero_le _) (Nat.zero_le _) dX12_wateredSet_14 (c_X12_isWatered h) (fun r4 m5 h => ?_)
    refine v_if_eq 26 dX12_wateredSet_17 (by decide) (fun hc => ?_) (fun hc => ?_)
    · replace h := Eq.mp (if_pos hc) h
      refine v_sub [0, 1, 2] rfl ?_
      exact v_X12_wateredSet_p26 hK4 h
    · replace h := Eq.mp (if_neg hc) h
      refine v_iload_n 1 1 dX12_wateredSet_20 rfl rfl ?_
      refine v_iconst (1 : Int32) dX12_wateredSet_21 (by decide) ?_
      refine v_iload_n 2 2 dX12_wateredSet_22 rfl rfl ?_
      refine v_ishl dX12_wateredSet_23 ?_
      refine v_ior dX12_wateredSet_24 ?_
      refine v_istore_n (ls' := [(1, .int _), (0, .ref _), (2, .int _)]) 1 dX12_wateredSet_25 rfl (Nat.le_of_ble_eq_true rfl) rfl ?_
      refine v_sub [1, 0, 2] rfl ?_
      exact v_X12_wateredSet_p26 hK4 h
set_option maxHeartbeats 4000000 in
set_option maxRecDepth 100000 in
theorem v_X12_wateredSet_p4 {G : Gl} {F : Fr} {sh : Shp} {v0 : Nat} {v1 : Int32} {v2 : Int32} {Q : Int32 → Mem → Prop} {m : Mem} (h : X12_wateredSet_p4 sh v0 Q v1 v2 m) : V G F M_X12_wateredSet sh 0 0 (Zi G F sh Q) 4 [(0, .ref (G.1 + v0)), (1, .int v1), (2, .int v2)] [] m := by
  obtain ⟨n, h⟩ := h
  induction n generalizing v1 v2 m with
  | zero => exact h.elim
  | succ n ih => exact v_X12_wateredSet_p4b (fun _ _ _ h => ih h) h
set_option maxHeartbeats 4000000 in
set_option maxRecDepth 100000 in
theorem c_X12_wateredSet {l : Launch} {G : Gl} {sh : Shp} {v0 : Nat} {Q : Int32 → Mem → Prop} {m : Mem} (h : wp_X12_wateredSet sh v0 Q m) : Cni l G yX12_wateredSet cX12_wateredSet 3 (Option.some FieldType.int) 3 103 sh [.ref (G.1 + v0)] m Q := by
  refine con_i (ls := [(0, .ref (G.1 + v0))]) (by decide +kernel) rfl (Nat.le_of_ble_eq_true rfl) (fun F => ?_)
  show V G F M_X12_wateredSet sh 0 0 (Zi G F sh Q) 0 [(0, .ref (G.1 + v0))] [] m
  unfold wp_X12_wateredSet at h
  refine v_iconst (0 : Int32) dX12_wateredSet_0 (by decide) ?_
  refine v_istore_n (ls' := [(1, .int _), (0, .ref _)]) 1 dX12_wateredSet_1 rfl (Nat.le_of_ble_eq_true rfl) rfl ?_
  refine v_iconst (0 : Int32) dX12_wateredSet_2 (by decide) ?_
  refine v_istore_n (ls' := [(2, .int _), (1, .int _), (0, .ref _)]) 2 dX12_wateredSet_3 rfl (Nat.le_of_ble_eq_true rfl) rfl ?_
  refine v_sub [2, 1, 0] rfl ?_
  exact v_X12_wateredSet_p4 h
/-! CalledRiverModel.best -/
theorem dX12_best_0 : decode cX12_best 0 = .ok (.aload_n 0, 1) := by decide +kernel
theorem dX12_best_1 : decode cX12_best 1 = .ok (.invokevirtual 509, 3) := by decide +kernel
theorem dX12_best_4 : decode cX12_best 4 = .ok (.ifCond .ne 5, 3) := by decide +kernel
theorem dX12_best_7 : decode cX12_best 7 = .ok (.iconst (-1), 1) := by decide +kernel
theorem dX12_best_8 : decode cX12_best 8 = .ok (.ireturn, 1) := by decide +kernel
theorem dX12_best_9 : decode cX12_best 9 = .ok (.iconst (-1), 1) := by decide +kernel
theorem dX12_best_10 : decode cX12_best 10 = .ok (.istore_n 1, 1) := by decide +kernel
theorem dX12_best_11 : decode cX12_best 11 = .ok (.iconst 0, 1) := by decide +kernel
theorem dX12_best_12 : decode cX12_best 12 = .ok (.istore_n 2, 1) := by decide +kernel
theorem dX12_best_13 : decode cX12_best 13 = .ok (.iconst 0, 1) := by decide +kernel
theorem dX12_best_14 : decode cX12_best 14 = .ok (.istore_n 3, 1) := by decide +kernel
theorem dX12_best_15 : decode cX12_best 15 = .ok (.iconst 0, 1) := by decide +kernel
theorem dX12_best_16 : decode cX12_best 16 = .ok (.istore 4, 2) := by decide +kernel
theorem dX12_best_18 : decode cX12_best 18 = .ok (.iload 4, 2) := by decide +kernel
theorem dX12_best_20 : decode cX12_best 20 = .ok (.aload_n 0, 1) := by decide +kernel
theorem dX12_best_21 : decode cX12_best 21 = .ok (.invokevirtual 439, 3) := by decide +kernel
theorem dX12_best_24 : decode cX12_best 24 = .ok (.if_icmp .ge 63, 3) := by decide +kernel
theorem dX12_best_27 : decode cX12_best 27 = .ok (.aload_n 0, 1) := by decide +kernel
theorem dX12_best_28 : decode cX12_best 28 = .ok (.iload 4, 2) := by decide +kernel
theorem dX12_best_30 : decode cX12_best 30 = .ok (.invokevirtual 521, 3) := by decide +kernel
theorem dX12_best_33 : decode cX12_best 33 = .ok (.aload_n 0, 1) := by decide +kernel
theorem dX12_best_34 : decode cX12_best 34 = .ok (.invokevirtual 532, 3) := by decide +kernel
theorem dX12_best_37 : decode cX12_best 37 = .ok (.invokestatic 535, 3) := by decide +kernel
theorem dX12_best_40 : decode cX12_best 40 = .ok (.istore 5, 2) := by decide +kernel
theorem dX12_best_42 : decode cX12_best 42 = .ok (.iload_n 1, 1) := by decide +kernel
theorem dX12_best_43 : decode cX12_best 43 = .ok (.iconst (-1), 1) := by decide +kernel
theorem dX12_best_44 : decode cX12_best 44 = .ok (.if_icmp .eq 26, 3) := by decide +kernel
theorem dX12_best_47 : decode cX12_best 47 = .ok (.iload 5, 2) := by decide +kernel
theorem dX12_best_49 : decode cX12_best 49 = .ok (.iload_n 2, 1) := by decide +kernel
theorem dX12_best_50 : decode cX12_best 50 = .ok (.if_icmp .lt 31, 3) := by decide +kernel
theorem dX12_best_53 : decode cX12_best 53 = .ok (.iload 5, 2) := by decide +kernel
theorem dX12_best_55 : decode cX12_best 55 = .ok (.iload_n 2, 1) := by decide +kernel
theorem dX12_best_56 : decode cX12_best 56 = .ok (.if_icmp .ne 14, 3) := by decide +kernel
theorem dX12_best_59 : decode cX12_best 59 = .ok (.aload_n 0, 1) := by decide +kernel
theorem dX12_best_60 : decode cX12_best 60 = .ok (.getfield 497, 3) := by decide +kernel
theorem dX12_best_63 : decode cX12_best 63 = .ok (.iload_n 3, 1) := by decide +kernel
theorem dX12_best_64 : decode cX12_best 64 = .ok (.if_icmp .lt 6, 3) := by decide +kernel
theorem dX12_best_67 : decode cX12_best 67 = .ok (.goto 14, 3) := by decide +kernel
theorem dX12_best_70 : decode cX12_best 70 = .ok (.iload 4, 2) := by decide +kernel
theorem dX12_best_72 : decode cX12_best 72 = .ok (.istore_n 1, 1) := by decide +kernel
theorem dX12_best_73 : decode cX12_best 73 = .ok (.iload 5, 2) := by decide +kernel
theorem dX12_best_75 : decode cX12_best 75 = .ok (.istore_n 2, 1) := by decide +kernel
theorem dX12_best_76 : decode cX12_best 76 = .ok (.aload_n 0, 1) := by decide +kernel
theorem dX12_best_77 : decode cX12_best 77 = .ok (.getfield 497, 3) := by decide +kernel
theorem dX12_best_80 : decode cX12_best 80 = .ok (.istore_n 3, 1) := by decide +kernel
theorem dX12_best_81 : decode cX12_best 81 = .ok (.iinc 4 1, 3) := by decide +kernel
theorem dX12_best_84 : decode cX12_best 84 = .ok (.goto (-66), 3) := by decide +kernel
theorem dX12_best_87 : decode cX12_best 87 = .ok (.iload_n 1, 1) := by decide +kernel
theorem dX12_best_88 : decode cX12_best 88 = .ok (.ireturn, 1) := by decide +kernel
def X12_best_p81 (sh : Shp) (v0 : Nat) (v1 : Int32) (v2 : Int32) (v3 : Int32) (v4 : Int32) (Q : Int32 → Mem → Prop) (K18 : Int32 → Int32 → Int32 → Int32 → Mem → Prop) (m : Mem) : Prop :=
  K18 v1 v2 v3 (v4 + (1 : Int32)) m
def X12_best_p70 (sh : Shp) (v0 : Nat) (v4 : Int32) (v5 : Int32) (Q : Int32 → Mem → Prop) (K18 : Int32 → Int32 → Int32 → Int32 → Mem → Prop) (m : Mem) : Prop :=
  Ob sh v0 12 ∧ (X12_best_p81 sh v0 v4 v5 (m.1 v0 64) v4 Q K18 m)
def X12_best_p18b (sh : Shp) (v0 : Nat) (Q : Int32 → Mem → Prop) (K18 : Int32 → Int32 → Int32 → Int32 → Mem → Prop) (v1 : Int32) (v2 : Int32) (v3 : Int32) (v4 : Int32) (m : Mem) : Prop :=
  Ob sh v0 12 ∧ wp_X12_callerMany sh v0 (fun r4 m5 => if r4 ≤ v4 then (Q v1 m5) else (wp_X12_laysWay sh v0 v4 (fun m8 => wp_X12_wateredSet sh v0 (fun r9 m10 => wp_X12_bits sh r9 (fun r11 m12 => if v1 = (-1 : Int32) then (X12_best_p70 sh v0 v4 r11 Q K18 m12) else (if r11 < v2 then (X12_best_p81 sh v0 v1 v2 v3 v4 Q K18 m12) else (if r11 = v2 then (if (m12.1 v0 64) < v3 then (X12_best_p70 sh v0 v4 r11 Q K18 m12) else (X12_best_p81 sh v0 v1 v2 v3 v4 Q K18 m12)) else (X12_best_p70 sh v0 v4 r11 Q K18 m12)))) m10) m8) m5)) m
def X12_best_p18n (sh : Shp) (v0 : Nat) (Q : Int32 → Mem → Prop) : Nat → Int32 → Int32 → Int32 → Int32 → Mem → Prop
  | 0 => fun _ _ _ _ _ => False
  | n + 1 => X12_best_p18b sh v0 Q (X12_best_p18n sh v0 Q n)
def X12_best_p18 (sh : Shp) (v0 : Nat) (Q : Int32 → Mem → Prop) (v1 : Int32) (v2 : Int32) (v3 : Int32) (v4 : Int32) (m : Mem) : Prop := ∃ n, X12_best_p18n sh v0 Q n v1 v2 v3 v4 m
def wp_X12_best (sh : Shp) (v0 : Nat) (Q : Int32 → Mem → Prop) (m : Mem) : Prop :=
  Ob sh v0 12 ∧ wp_X12_hasWay sh v0 (fun r1 m2 => if r1 = 0 then (Q (-1 : Int32) m2) else (X12_best_p18 sh v0 Q (-1 : Int32) (0 : Int32) (0 : Int32) (0 : Int32) m2)) m
abbrev M_X12_best : Mi := (cX12_best, 6, RX12, (Option.some FieldType.int), "best", 9, 243, 0, 0)
set_option maxHeartbeats 4000000 in
set_option maxRecDepth 100000 in
theorem v_X12_best_p81 {G : Gl} {F : Fr} {sh : Shp} {v0 : Nat} {v1 : Int32} {v2 : Int32} {v3 : Int32} {v4 : Int32} {Q : Int32 → Mem → Prop} {K18 : Int32 → Int32 → Int32 → Int32 → Mem → Prop} {m : Mem} (hK18 : ∀ (x1 : Int32) (x2 : Int32) (x3 : Int32) (x4 : Int32) (m : Mem), K18 x1 x2 x3 x4 m → V G F M_X12_best sh 0 0 (Zi G F sh Q) 18 [(0, .ref (G.1 + v0)), (1, .int x1), (2, .int x2), (3, .int x3), (4, .int x4)] [] m) (h : X12_best_p81 sh v0 v1 v2 v3 v4 Q K18 m) : V G F M_X12_best sh 0 0 (Zi G F sh Q) 81 [(0, .ref (G.1 + v0)), (1, .int v1), (2, .int v2), (3, .int v3), (4, .int v4)] [] m := by
  unfold X12_best_p81 at h
  refine v_iinc (ls' := [(4, .int _), (0, .ref _), (1, .int _), (2, .int _), (3, .int _)]) 4 4 dX12_best_81 rfl (congrArg (HAdd.hAdd _) (by decide : Int32.ofInt (1) = (1 : Int32))) (Nat.le_of_ble_eq_true rfl) rfl ?_
  refine v_goto 18 dX12_best_84 (by decide) ?_
  refine v_sub [1, 2, 3, 4, 0] rfl ?_
  exact hK18 _ _ _ _ _ h
set_option maxHeartbeats 4000000 in
set_option maxRecDepth 100000 in
theorem v_X12_best_p70 {G : Gl} {F : Fr} {sh : Shp} {v0 : Nat} {v4 : Int32} {v5 : Int32} {Q : Int32 → Mem → Prop} {K18 : Int32 → Int32 → Int32 → Int32 → Mem → Prop} {m : Mem} (hK18 : ∀ (x1 : Int32) (x2 : Int32) (x3 : Int32) (x4 : Int32) (m : Mem), K18 x1 x2 x3 x4 m → V G F M_X12_best sh 0 0 (Zi G F sh Q) 18 [(0, .ref (G.1 + v0)), (1, .int x1), (2, .int x2), (3, .int x3), (4, .int x4)] [] m) (h : X12_best_p70 sh v0 v4 v5 Q K18 m) : V G F M_X12_best sh 0 0 (Zi G F sh Q) 70 [(0, .ref (G.1 + v0)), (4, .int v4), (5, .int v5)] [] m := by
  unfold X12_best_p70 at h
  refine v_iload 4 1 dX12_best_70 rfl ?_
  refine v_istore_n (ls' := [(1, .int _), (0, .ref _), (4, .int _), (5, .int _)]) 1 dX12_best_72 rfl (Nat.le_of_ble_eq_true rfl) rfl ?_
  refine v_iload 5 3 dX12_best_73 rfl ?_
  refine v_istore_n (ls' := [(2, .int _), (1, .int _), (0, .ref _), (4, .int _), (5, .int _)]) 2 dX12_best_75 rfl (Nat.le_of_ble_eq_true rfl) rfl ?_
  refine v_aload_n 0 2 dX12_best_76 rfl rfl ?_
  obtain ⟨o13, h⟩ := h
  refine v_gI 12 64 dX12_best_77 fg_RX12_497 o13 ?_
  refine v_istore_n (ls' := [(3, .int _), (2, .int _), (1, .int _), (0, .ref _), (4, .int _), (5, .int _)]) 3 dX12_best_80 rfl (Nat.le_of_ble_eq_true rfl) rfl ?_
  refine v_sub [3, 2, 1, 0, 4] rfl ?_
  exact v_X12_best_p81 hK18 h
set_option maxHeartbeats 4000000 in
set_option maxRecDepth 100000 in
theorem v_X12_best_p18b {G : Gl} {F : Fr} {sh : Shp} {v0 : Nat} {v1 : Int32} {v2 : Int32} {v3 : Int32} {v4 : Int32} {Q : Int32 → Mem → Prop} {K18 : Int32 → Int32 → Int32 → Int32 → Mem → Prop} {m : Mem} (hK18 : ∀ (x1 : Int32) (x2 : Int32) (x3 : Int32) (x4 : Int32) (m : Mem), K18 x1 x2 x3 x4 m → V G F M_X12_best sh 0 0 (Zi G F sh Q) 18 [(0, .ref (G.1 + v0)), (1, .int x1), (2, .int x2), (3, .int x3), (4, .int x4)] [] m) (h : X12_best_p18b sh v0 Q K18 v1 v2 v3 v4 m) : V G F M_X12_best sh 0 0 (Zi G F sh Q) 18 [(0, .ref (G.1 + v0)), (1, .int v1), (2, .int v2), (3, .int v3), (4, .int v4)] [] m := by
  unfold X12_best_p18b at h
  refine v_iload 4 4 dX12_best_18 rfl ?_
  refine v_aload_n 0 0 dX12_best_20 rfl rfl ?_
  obtain ⟨o6, h⟩ := h
  refine v_cVi [] mv_X12_callerMany ml_RX12_439 ⟨_, _, rfl⟩ o6 rfl rfl (Nat.le_of_ble_eq_true rfl) (Nat.le_of_ble_eq_true rfl) (Nat.le_of_ble_eq_true rfl) (Nat.zero_le _) (Nat.zero_le _) dX12_best_21 (c_X12_callerMany h) (fun r4 m5 h => ?_)
  refine v_icmp_ge 87 dX12_best_24 (by decide) (fun hc => ?_) (fun hc => ?_)
  · replace h := Eq.mp (if_pos hc) h
    refine v_iload_n 1 1 dX12_best_87 rfl rfl ?_
    exact v_iret dX12_best_88 rfl rfl h
  · replace h := Eq.mp (if_neg hc) h
    refine v_aload_n 0 0 dX12_best_27 rfl rfl ?_
    refine v_iload 4 4 dX12_best_28 rfl ?_
    refine v_cVv [.int _] mv_X12_laysWay ml_RX12_521 ⟨_, _, rfl⟩ o6 rfl rfl (Nat.le_of_ble_eq_true rfl) (Nat.le_of_ble_eq_true rfl) (Nat.le_of_ble_eq_true rfl) (Nat.zero_le _) (Nat.zero_le _) dX12_best_30 (c_X12_laysWay h) (fun m8 h => ?_)
    refine v_aload_n 0 0 dX12_best_33 rfl rfl ?_
    refine v_cVi [] mv_X12_wateredSet ml_RX12_532 ⟨_, _, rfl⟩ o6 rfl rfl (Nat.le_of_ble_eq_true rfl) (Nat.le_of_ble_eq_true rfl) (Nat.le_of_ble_eq_true rfl) (Nat.zero_le _) (Nat.zero_le _) dX12_best_34 (c_X12_wateredSet h) (fun r9 m10 h => ?_)
    refine v_cSi [.int _] mv_X12_bits ml_RX12_535 rfl rfl (Nat.le_of_ble_eq_true rfl) (Nat.le_of_ble_eq_true rfl) (Nat.le_of_ble_eq_true rfl) (Nat.zero_le _) (Nat.zero_le _) dX12_best_37 (c_X12_bits h) (fun r11 m12 h => ?_)
    refine v_istore (ls' := [(5, .int _), (0, .ref _), (1, .int _), (2, .int _), (3, .int _), (4, .int _)]) 5 dX12_best_40 (Nat.le_of_ble_eq_true rfl) rfl ?_
    refine v_iload_n 1 2 dX12_best_42 rfl rfl ?_
    refine v_iconst (-1 : Int32) dX12_best_43 (by decide) ?_
    refine v_icmp_eq 70 dX12_best_44 (by decide) (fun hc => ?_) (fun hc => ?_)
    · replace h := Eq.mp (if_pos hc) h
      refine v_sub [1, 5, 0] rfl ?_
      exact v_X12_best_p70 hK18 h
    · replace h := Eq.mp (if_neg hc) h
      refine v_iload 5 0 dX12_best_47 rfl ?_
      refine v_iload_n 2 3 dX12_best_49 rfl rfl ?_
      refine v_icmp_lt 81 dX12_best_50 (by decide) (fun hc => ?_) (fun hc => ?_)
      · replace h := Eq.mp (if_pos hc) h
        refine v_sub [1, 2, 3, 4, 5] rfl ?_
        exact v_X12_best_p81 hK18 h
      · replace h := Eq.mp (if_neg hc) h
        refine v_iload 5 0 dX12_best_53 rfl ?_
        refine v_iload_n 2 3 dX12_best_55 rfl rfl ?_
        refine v_icmp_ne 70 dX12_best_56 (by decide) (fun hc => ?_) (fun hc => ?_)
        · replace h := Eq.mp (if_neg hc) h
          refine v_sub [1, 5, 0] rfl ?_
          exact v_X12_best_p70 hK18 h
        · replace h := Eq.mp (if_pos hc) h
          refine v_aload_n 0 1 dX12_best_59 rfl rfl ?_
          refine v_gI 12 64 dX12_best_60 fg_RX12_497 o6 ?_
          refine v_iload_n 3 4 dX12_best_63 rfl rfl ?_
          refine v_icmp_lt 70 dX12_best_64 (by decide) (fun hc => ?_) (fun hc => ?_)
          · replace h := Eq.mp (if_pos hc) h
            refine v_sub [1, 5, 0] rfl ?_
            exact v_X12_best_p70 hK18 h
          · replace h := Eq.mp (if_neg hc) h
            refine v_goto 81 dX12_best_67 (by decide) ?_
            refine v_sub [1, 2, 3, 4, 5] rfl ?_
            exact v_X12_best_p81 hK18 h
set_option maxHeartbeats 4000000 in
set_option maxRecDepth 100000 in
theorem v_X12_best_p18 {G : Gl} {F : Fr} {sh : Shp} {v0 : Nat} {v1 : Int32} {v2 : Int32} {v3 : Int32} {v4 : Int32} {Q : Int32 → Mem → Prop} {m : Mem} (h : X12_best_p18 sh v0 Q v1 v2 v3 v4 m) : V G F M_X12_best sh 0 0 (Zi G F sh Q) 18 [(0, .ref (G.1 + v0)), (1, .int v1), (2, .int v2), (3, .int v3), (4, .int v4)] [] m := by
  obtain ⟨n, h⟩ := h
  induction n generalizing v1 v2 v3 v4 m with
  | zero => exact h.elim
  | succ n ih => exact v_X12_best_p18b (fun _ _ _ _ _ h => ih h) h
set_option maxHeartbeats 4000000 in
set_option maxRecDepth 100000 in
theorem c_X12_best {l : Launch} {G : Gl} {sh : Shp} {v0 : Nat} {Q : Int32 → Mem → Prop} {m : Mem} (h : wp_X12_best sh v0 Q m) : Cni l G yX12_best cX12_best 6 (Option.some FieldType.int) 9 243 sh [.ref (G.1 + v0)] m Q := by
  refine con_i (ls := [(0, .ref (G.1 + v0))]) (by decide +kernel) rfl (Nat.le_of_ble_eq_true rfl) (fun F => ?_)
  show V G F M_X12_best sh 0 0 (Zi G F sh Q) 0 [(0, .ref (G.1 + v0))] [] m
  unfold wp_X12_best at h
  refine v_aload_n 0 0 dX12_best_0 rfl rfl ?_
  obtain ⟨o3, h⟩ := h
  refine v_cVi [] mv_X12_hasWay ml_RX12_509 ⟨_, _, rfl⟩ o3 rfl rfl (Nat.le_of_ble_eq_true rfl) (Nat.le_of_ble_eq_true rfl) (Nat.le_of_ble_eq_true rfl) (Nat.zero_le _) (Nat.zero_le _) dX12_best_1 (c_X12_hasWay h) (fun r1 m2 h => ?_)
  refine v_if_ne 9 dX12_best_4 (by decide) (fun hc => ?_) (fun hc => ?_)
  · replace h := Eq.mp (if_neg hc) h
    refine v_iconst (-1 : Int32) dX12_best_9 (by decide) ?_
    refine v_istore_n (ls' := [(1, .int _), (0, .ref _)]) 1 dX12_best_10 rfl (Nat.le_of_ble_eq_true rfl) rfl ?_
    refine v_iconst (0 : Int32) dX12_best_11 (by decide) ?_
    refine v_istore_n (ls' := [(2, .int _), (1, .int _), (0, .ref _)]) 2 dX12_best_12 rfl (Nat.le_of_ble_eq_true rfl) rfl ?_
    refine v_iconst (0 : Int32) dX12_best_13 (by decide) ?_
    refine v_istore_n (ls' := [(3, .int _), (2, .int _), (1, .int _), (0, .ref _)]) 3 dX12_best_14 rfl (Nat.le_of_ble_eq_true rfl) rfl ?_
    refine v_iconst (0 : Int32) dX12_best_15 (by decide) ?_
    refine v_istore (ls' := [(4, .int _), (3, .int _), (2, .int _), (1, .int _), (0, .ref _)]) 4 dX12_best_16 (Nat.le_of_ble_eq_true rfl) rfl ?_
    refine v_sub [4, 3, 2, 1, 0] rfl ?_
    exact v_X12_best_p18 h
  · replace h := Eq.mp (if_pos hc) h
    refine v_iconst (-1 : Int32) dX12_best_7 (by decide) ?_
    exact v_iret dX12_best_8 rfl rfl h
/-! CalledRiverModel.bid -/
theorem dX12_bid_0 : decode cX12_bid 0 = .ok (.aload_n 0, 1) := by decide +kernel
theorem dX12_bid_1 : decode cX12_bid 1 = .ok (.iload_n 1, 1) := by decide +kernel
theorem dX12_bid_2 : decode cX12_bid 2 = .ok (.invokevirtual 554, 3) := by decide +kernel
theorem dX12_bid_5 : decode cX12_bid 5 = .ok (.ifCond .eq 12, 3) := by decide +kernel
theorem dX12_bid_8 : decode cX12_bid 8 = .ok (.aload_n 0, 1) := by decide +kernel
theorem dX12_bid_9 : decode cX12_bid 9 = .ok (.iload_n 2, 1) := by decide +kernel
theorem dX12_bid_10 : decode cX12_bid 10 = .ok (.i2l, 1) := by decide +kernel
theorem dX12_bid_11 : decode cX12_bid 11 = .ok (.invokevirtual 557, 3) := by decide +kernel
theorem dX12_bid_14 : decode cX12_bid 14 = .ok (.ifCond .ne 5, 3) := by decide +kernel
theorem dX12_bid_17 : decode cX12_bid 17 = .ok (.iconst (-1), 1) := by decide +kernel
theorem dX12_bid_18 : decode cX12_bid 18 = .ok (.ireturn, 1) := by decide +kernel
theorem dX12_bid_19 : decode cX12_bid 19 = .ok (.aload_n 0, 1) := by decide +kernel
theorem dX12_bid_20 : decode cX12_bid 20 = .ok (.iload_n 1, 1) := by decide +kernel
theorem dX12_bid_21 : decode cX12_bid 21 = .ok (.invokevirtual 449, 3) := by decide +kernel
theorem dX12_bid_24 : decode cX12_bid 24 = .ok (.istore_n 3, 1) := by decide +kernel
theorem dX12_bid_25 : decode cX12_bid 25 = .ok (.iconst (-1), 1) := by decide +kernel
theorem dX12_bid_26 : decode cX12_bid 26 = .ok (.istore 4, 2) := by decide +kernel
theorem dX12_bid_28 : decode cX12_bid 28 = .ok (.iconst 0, 1) := by decide +kernel
theorem dX12_bid_29 : decode cX12_bid 29 = .ok (.istore 5, 2) := by decide +kernel
theorem dX12_bid_31 : decode cX12_bid 31 = .ok (.iload 5, 2) := by decide +kernel
theorem dX12_bid_33 : decode cX12_bid 33 = .ok (.bipush 9, 2) := by decide +kernel
theorem dX12_bid_35 : decode cX12_bid 35 = .ok (.if_icmp .gt 43, 3) := by decide +kernel
theorem dX12_bid_38 : decode cX12_bid 38 = .ok (.iload 4, 2) := by decide +kernel
theorem dX12_bid_40 : decode cX12_bid 40 = .ok (.iconst (-1), 1) := by decide +kernel
theorem dX12_bid_41 : decode cX12_bid 41 = .ok (.if_icmp .ne 37, 3) := by decide +kernel
theorem dX12_bid_44 : decode cX12_bid 44 = .ok (.aload_n 0, 1) := by decide +kernel
theorem dX12_bid_45 : decode cX12_bid 45 = .ok (.getfield 143, 3) := by decide +kernel
theorem dX12_bid_48 : decode cX12_bid 48 = .ok (.bipush 109, 2) := by decide +kernel
theorem dX12_bid_50 : decode cX12_bid 50 = .ok (.iload_n 1, 1) := by decide +kernel
theorem dX12_bid_51 : decode cX12_bid 51 = .ok (.iadd, 1) := by decide +kernel
theorem dX12_bid_52 : decode cX12_bid 52 = .ok (.iload 5, 2) := by decide +kernel
theorem dX12_bid_54 : decode cX12_bid 54 = .ok (.iastore, 1) := by decide +kernel
theorem dX12_bid_55 : decode cX12_bid 55 = .ok (.aload_n 0, 1) := by decide +kernel
theorem dX12_bid_56 : decode cX12_bid 56 = .ok (.iload_n 2, 1) := by decide +kernel
theorem dX12_bid_57 : decode cX12_bid 57 = .ok (.invokevirtual 521, 3) := by decide +kernel
theorem dX12_bid_60 : decode cX12_bid 60 = .ok (.aload_n 0, 1) := by decide +kernel
theorem dX12_bid_61 : decode cX12_bid 61 = .ok (.iload_n 1, 1) := by decide +kernel
theorem dX12_bid_62 : decode cX12_bid 62 = .ok (.invokevirtual 518, 3) := by decide +kernel
theorem dX12_bid_65 : decode cX12_bid 65 = .ok (.ifCond .eq 7, 3) := by decide +kernel
theorem dX12_bid_68 : decode cX12_bid 68 = .ok (.iload 5, 2) := by decide +kernel
theorem dX12_bid_70 : decode cX12_bid 70 = .ok (.istore 4, 2) := by decide +kernel
theorem dX12_bid_72 : decode cX12_bid 72 = .ok (.iinc 5 1, 3) := by decide +kernel
theorem dX12_bid_75 : decode cX12_bid 75 = .ok (.goto (-44), 3) := by decide +kernel
theorem dX12_bid_78 : decode cX12_bid 78 = .ok (.aload_n 0, 1) := by decide +kernel
theorem dX12_bid_79 : decode cX12_bid 79 = .ok (.getfield 143, 3) := by decide +kernel
theorem dX12_bid_82 : decode cX12_bid 82 = .ok (.bipush 109, 2) := by decide +kernel
theorem dX12_bid_84 : decode cX12_bid 84 = .ok (.iload_n 1, 1) := by decide +kernel
theorem dX12_bid_85 : decode cX12_bid 85 = .ok (.iadd, 1) := by decide +kernel
theorem dX12_bid_86 : decode cX12_bid 86 = .ok (.iload_n 3, 1) := by decide +kernel
theorem dX12_bid_87 : decode cX12_bid 87 = .ok (.iastore, 1) := by decide +kernel
theorem dX12_bid_88 : decode cX12_bid 88 = .ok (.iload 4, 2) := by decide +kernel
theorem dX12_bid_90 : decode cX12_bid 90 = .ok (.ireturn, 1) := by decide +kernel
def X12_bid_p72 (sh : Shp) (v0 : Nat) (v1 : Int32) (v2 : Int32) (v3 : Int32) (v4 : Int32) (v5 : Int32) (Q : Int32 → Mem → Prop) (K31 : Int32 → Int32 → Mem → Prop) (m : Mem) : Prop :=
  K31 v4 (v5 + (1 : Int32)) m
def X12_bid_p78 (sh : Shp) (v0 : Nat) (v1 : Int32) (v3 : Int32) (v4 : Int32) (Q : Int32 → Mem → Prop) (m : Mem) : Prop :=
  Ob sh v0 12 ∧ ∃ b18 : Nat, m.2.2 v0 58 = some b18 ∧ (Ix sh b18 100 ((109 : Int32) + v1) ∧ bnd (sI m b18 ((109 : Int32) + v1).toNatClampNeg v3) (fun m21 => Q v4 m21))
def X12_bid_p31b (sh : Shp) (v0 : Nat) (v1 : Int32) (v2 : Int32) (v3 : Int32) (Q : Int32 → Mem → Prop) (K31 : Int32 → Int32 → Mem → Prop) (v4 : Int32) (v5 : Int32) (m : Mem) : Prop :=
  if (9 : Int32) < v5 then (X12_bid_p78 sh v0 v1 v3 v4 Q m) else (if v4 = (-1 : Int32) then (Ob sh v0 12 ∧ ∃ b9 : Nat, m.2.2 v0 58 = some b9 ∧ (Ix sh b9 100 ((109 : Int32) + v1) ∧ bnd (sI m b9 ((109 : Int32) + v1).toNatClampNeg v5) (fun m12 => wp_X12_laysWay sh v0 v2 (fun m14 => wp_X12_isWatered sh v0 v1 (fun r15 m16 => if r15 = 0 then (X12_bid_p72 sh v0 v1 v2 v3 v4 v5 Q K31 m16) else (X12_bid_p72 sh v0 v1 v2 v3 v5 v5 Q K31 m16)) m14) m12))) else (X12_bid_p78 sh v0 v1 v3 v4 Q m))
def X12_bid_p31n (sh : Shp) (v0 : Nat) (v1 : Int32) (v2 : Int32) (v3 : Int32) (Q : Int32 → Mem → Prop) : Nat → Int32 → Int32 → Mem → Prop
  | 0 => fun _ _ _ => False
  | n + 1 => X12_bid_p31b sh v0 v1 v2 v3 Q (X12_bid_p31n sh v0 v1 v2 v3 Q n)
def X12_bid_p31 (sh : Shp) (v0 : Nat) (v1 : Int32) (v2 : Int32) (v3 : Int32) (Q : Int32 → Mem → Prop) (v4 : Int32) (v5 : Int32) (m : Mem) : Prop := ∃ n, X12_bid_p31n sh v0 v1 v2 v3 Q n v4 v5 m
def wp_X12_bid (sh : Shp) (v0 : Nat) (v1 : Int32) (v2 : Int32) (Q : Int32 → Mem → Prop) (m : Mem) : Prop :=
  Ob sh v0 12 ∧ wp_X12_isFarm sh v0 v1 (fun r1 m2 => if r1 = 0 then (Q (-1 : Int32) m2) else (wp_X12_isCaller sh v0 v2.toInt64 (fun r4 m5 => if r4 = 0 then (Q (-1 : Int32) m5) else (wp_X12_pieOf sh v0 v1 (fun r6 m7 => X12_bid_p31 sh v0 v1 v2 r6 Q (-1 : Int32) (0 : Int32) m7) m5)) m2)) m
abbrev M_X12_bid : Mi := (cX12_bid, 6, RX12, (Option.some FieldType.int), "bid", 9, 243, 0, 0)
set_option maxHeartbeats 4000000 in
set_option maxRecDepth 100000 in
theorem v_X12_bid_p72 {G : Gl} {F : Fr} {sh : Shp} {v0 : Nat} {v1 : Int32} {v2 : Int32} {v3 : Int32} {v4 : Int32} {v5 : Int32} {Q : Int32 → Mem → Prop} {K31 : Int32 → Int32 → Mem → Prop} {m : Mem} (hK31 : ∀ (x4 : Int32) (x5 : Int32) (m : Mem), K31 x4 x5 m → V G F M_X12_bid sh 0 0 (Zi G F sh Q) 31 [(0, .ref (G.1 + v0)), (1, .int v1), (2, .int v2), (3, .int v3), (4, .int x4), (5, .int x5)] [] m) (h : X12_bid_p72 sh v0 v1 v2 v3 v4 v5 Q K31 m) : V G F M_X12_bid sh 0 0 (Zi G F sh Q) 72 [(0, .ref (G.1 + v0)), (1, .int v1), (2, .int v2), (3, .int v3), (4, .int v4), (5, .int v5)] [] m := by
  unfold X12_bid_p72 at h
  refine v_iinc (ls' := [(5, .int _), (0, .ref _), (1, .int _), (2, .int _), (3, .int _), (4, .int _)]) 5 5 dX12_bid_72 rfl (congrArg (HAdd.hAdd _) (by decide : Int32.ofInt (1) = (1 : Int32))) (Nat.le_of_ble_eq_true rfl) rfl ?_
  refine v_goto 31 dX12_bid_75 (by decide) ?_
  refine v_sub [1, 2, 3, 4, 5, 0] rfl ?_
  exact hK31 _ _ _ h
set_option maxHeartbeats 4000000 in
set_option maxRecDepth 100000 in
theorem v_X12_bid_p78 {G : Gl} {F : Fr} {sh : Shp} {v0 : Nat} {v1 : Int32} {v3 : Int32} {v4 : Int32} {Q : Int32 → Mem → Prop} {m : Mem} (h : X12_bid_p78 sh v0 v1 v3 v4 Q m) : V G F M_X12_bid sh 0 0 (Zi G F sh Q) 78 [(0, .ref (G.1 + v0)), (1, .int v1), (3, .int v3), (4, .int v4)] [] m := by
  unfold X12_bid_p78 at h
  refine v_aload_n 0 0 dX12_bid_78 rfl rfl ?_
  obtain ⟨o17, h⟩ := h
  obtain ⟨b18, e19, h⟩ := h
  refine v_gR 12 58 dX12_bid_79 fg_RX12_143 o17 e19 ?_
  refine v_bipush (109 : Int32) dX12_bid_82 (by decide) ?_
  refine v_iload_n 1 1 dX12_bid_84 rfl rfl ?_
  refine v_iadd dX12_bid_85 ?_
  refine v_iload_n 3 2 dX12_bid_86 rfl rfl ?_
  obtain ⟨i20, h⟩ := h
  refine v_iast dX12_bid_87 i20 ?_
  replace h := bnd_e h
  refine v_iload 4 3 dX12_bid_88 rfl ?_
  exact v_iret dX12_bid_90 rfl rfl h
set_option maxHeartbeats 4000000 in
set_option maxRecDepth 100000 in
theorem v_X12_bid_p31b {G : Gl} {F : Fr} {sh : Shp} {v0 : Nat} {v1 : Int32} {v2 : Int32} {v3 : Int32} {v4 : Int32} {v5 : Int32} {Q : Int32 → Mem → Prop} {K31 : Int32 → Int32 → Mem → Prop} {m : Mem} (hK31 : ∀ (x4 : Int32) (x5 : Int32) (m : Mem), K31 x4 x5 m → V G F M_X12_bid sh 0 0 (Zi G F sh Q) 31 [(0, .ref (G.1 + v0)), (1, .int v1), (2, .int v2), (3, .int v3), (4, .int x4), (5, .int x5)] [] m) (h : X12_bid_p31b sh v0 v1 v2 v3 Q K31 v4 v5 m) : V G F M_X12_bid sh 0 0 (Zi G F sh Q) 31 [(0, .ref (G.1 + v0)), (1, .int v1), (2, .int v2), (3, .int v3), (4, .int v4), (5, .int v5)] [] m := by
  unfold X12_bid_p31b at h
  refine v_iload 5 5 dX12_bid_31 rfl ?_
  refine v_bipush (9 : Int32) dX12_bid_33 (by decide) ?_
  refine v_icmp_gt 78 dX12_bid_35 (by decide) (fun hc => ?_) (fun hc => ?_)
  · replace h := Eq.mp (if_pos hc) h
    refine v_sub [0, 1, 3, 4] rfl ?_
    exact v_X12_bid_p78 h
  · replace h := Eq.mp (if_neg hc) h
    refine v_iload 4 4 dX12_bid_38 rfl ?_
    refine v_iconst (-1 : Int32) dX12_bid_40 (by decide) ?_
    refine v_icmp_ne 78 dX12_bid_41 (by decide) (fun hc => ?_) (fun hc => ?_)
    · replace h := Eq.mp (if_neg hc) h
      refine v_sub [0, 1, 3, 4] rfl ?_
      exact v_X12_bid_p78 h
    · replace h := Eq.mp (if_pos hc) h
      refine v_aload_n 0 0 dX12_bid_44 rfl rfl ?_
      obtain ⟨o8, h⟩ := h
      obtain ⟨b9, e10, h⟩ := h
      refine v_gR 12 58 dX12_bid_45 fg_RX12_143 o8 e10 ?_
      refine v_bipush (109 : Int32) dX12_bid_48 (by decide) ?_
      refine v_iload_n 1 1 dX12_bid_50 rfl rfl ?_
      refine v_iadd dX12_bid_51 ?_
      refine v_iload 5 5 dX12_bid_52 rfl ?_
      obtain ⟨i11, h⟩ := h
      refine v_iast dX12_bid_54 i11 ?_
      replace h := bnd_e h
      refine v_aload_n 0 0 dX12_bid_55 rfl rfl ?_
      refine v_iload_n 2 2 dX12_bid_56 rfl rfl ?_
      refine v_cVv [.int _] mv_X12_laysWay ml_RX12_521 ⟨_, _, rfl⟩ o8 rfl rfl (Nat.le_of_ble_eq_true rfl) (Nat.le_of_ble_eq_true rfl) (Nat.le_of_ble_eq_true rfl) (Nat.zero_le _) (Nat.zero_le _) dX12_bid_57 (c_X12_laysWay h) (fun m14 h => ?_)
      refine v_aload_n 0 0 dX12_bid_60 rfl rfl ?_
      refine v_iload_n 1 1 dX12_bid_61 rfl rfl ?_
      refine v_cVi [.int _] mv_X12_isWatered ml_RX12_518 ⟨_, _, rfl⟩ o8 rfl rfl (Nat.le_of_ble_eq_true rfl) (Nat.le_of_ble_eq_true rfl) (Nat.le_of_ble_eq_true rfl) (Nat.zero_le _) (Nat.zero_le _) dX12_bid_62 (c_X12_isWatered h) (fun r15 m16 h => ?_)
      refine v_if_eq 72 dX12_bid_65 (by decide) (fun hc => ?_) (fun hc => ?_)
      · replace h := Eq.mp (if_pos hc) h
        refine v_sub [0, 1, 2, 3, 4, 5] rfl ?_
        exact v_X12_bid_p72 hK31 h
      · replace h := Eq.mp (if_neg hc) h
        refine v_iload 5 5 dX12_bid_68 rfl ?_
        refine v_istore (ls' := [(4, .int _), (0, .ref _), (1, .int _), (2, .int _), (3, .int _), (5, .int _)]) 4 dX12_bid_70 (Nat.le_of_ble_eq_true rfl) rfl ?_
        refine v_sub [1, 2, 3, 4, 0, 5] rfl ?_
        exact v_X12_bid_p72 hK31 h
set_option maxHeartbeats 4000000 in
set_option maxRecDepth 100000 in
theorem v_X12_bid_p31 {G : Gl} {F : Fr} {sh : Shp} {v0 : Nat} {v1 : Int32} {v2 : Int32} {v3 : Int32} {v4 : Int32} {v5 : Int32} {Q : Int32 → Mem → Prop} {m : Mem} (h : X12_bid_p31 sh v0 v1 v2 v3 Q v4 v5 m) : V G F M_X12_bid sh 0 0 (Zi G F sh Q) 31 [(0, .ref (G.1 + v0)), (1, .int v1), (2, .int v2), (3, .int v3), (4, .int v4), (5, .int v5)] [] m := by
  obtain ⟨n, h⟩ := h
  induction n generalizing v4 v5 m with
  | zero => exact h.elim
  | succ n ih => exact v_X12_bid_p31b (fun _ _ _ h => ih h) h
set_option maxHeartbeats 4000000 in
set_option maxRecDepth 100000 in
theorem c_X12_bid {l : Launch} {G : Gl} {sh : Shp} {v0 : Nat} {v1 : Int32} {v2 : Int32} {Q : Int32 → Mem → Prop} {m : Mem} (h : wp_X12_bid sh v0 v1 v2 Q m) : Cni l G yX12_bid cX12_bid 6 (Option.some FieldType.int) 9 243 sh [.ref (G.1 + v0), .int v1, .int v2] m Q := by
  refine con_i (ls := [(0, .ref (G.1 + v0)), (1, .int v1), (2, .int v2)]) (by decide +kernel) rfl (Nat.le_of_ble_eq_true rfl) (fun F => ?_)
  show V G F M_X12_bid sh 0 0 (Zi G F sh Q) 0 [(0, .ref (G.1 + v0)), (1, .int v1), (2, .int v2)] [] m
  unfold wp_X12_bid at h
  refine v_aload_n 0 0 dX12_bid_0 rfl rfl ?_
  refine v_iload_n 1 1 dX12_bid_1 rfl rfl ?_
  obtain ⟨o3, h⟩ := h
  refine v_cVi [.int _] mv_X12_isFarm ml_RX12_554 ⟨_, _, rfl⟩ o3 rfl rfl (Nat.le_of_ble_eq_true rfl) (Nat.le_of_ble_eq_true rfl) (Nat.le_of_ble_eq_true rfl) (Nat.zero_le _) (Nat.zero_le _) dX12_bid_2 (c_X12_isFarm h) (fun r1 m2 h => ?_)
  refine v_if_eq 17 dX12_bid_5 (by decide) (fun hc => ?_) (fun hc => ?_)
  · replace h := Eq.mp (if_pos hc) h
    refine v_iconst (-1 : Int32) dX12_bid_17 (by decide) ?_
    exact v_iret dX12_bid_18 rfl rfl h
  · replace h := Eq.mp (if_neg hc) h
    refine v_aload_n 0 0 dX12_bid_8 rfl rfl ?_
    refine v_iload_n 2 2 dX12_bid_9 rfl rfl ?_
    refine v_i2l dX12_bid_10 ?_
    refine v_cVi [.long _] mv_X12_isCaller ml_RX12_557 ⟨_, _, rfl⟩ o3 rfl rfl (Nat.le_of_ble_eq_true rfl) (Nat.le_of_ble_eq_true rfl) (Nat.le_of_ble_eq_true rfl) (Nat.zero_le _) (Nat.zero_le _) dX12_bid_11 (c_X12_isCaller h) (fun r4 m5 h => ?_)
    refine v_if_ne 19 dX12_bid_14 (by decide) (fun hc => ?_) (fun hc => ?_)
    · replace h := Eq.mp (if_neg hc) h
      refine v_aload_n 0 0 dX12_bid_19 rfl rfl ?_
      refine v_iload_n 1 1 dX12_bid_20 rfl rfl ?_
      refine v_cVi [.int _] mv_X12_pieOf ml_RX12_449 ⟨_, _, rfl⟩ o3 rfl rfl (Nat.le_of_ble_eq_true rfl) (Nat.le_of_ble_eq_true rfl) (Nat.le_of_ble_eq_true rfl) (Nat.zero_le _) (Nat.zero_le _) dX12_bid_21 (c_X12_pieOf h) (fun r6 m7 h => ?_)
      refine v_istore_n (ls' := [(3, .int _), (0, .ref _), (1, .int _), (2, .int _)]) 3 dX12_bid_24 rfl (Nat.le_of_ble_eq_true rfl) rfl ?_
      refine v_iconst (-1 : Int32) dX12_bid_25 (by decide) ?_
      refine v_istore (ls' := [(4, .int _), (3, .int _), (0, .ref _), (1, .int _), (2, .int _)]) 4 dX12_bid_26 (Nat.le_of_ble_eq_true rfl) rfl ?_
      refine v_iconst (0 : Int32) dX12_bid_28 (by decide) ?_
      refine v_istore (ls' := [(5, .int _), (4, .int _), (3, .int _), (0, .ref _), (1, .int _), (2, .int _)]) 5 dX12_bid_29 (Nat.le_of_ble_eq_true rfl) rfl ?_
      refine v_sub [3, 4, 5, 2, 1, 0] rfl ?_
      exact v_X12_bid_p31 h
    · replace h := Eq.mp (if_pos hc) h
      refine v_iconst (-1 : Int32) dX12_bid_17 (by decide) ?_
      exact v_iret dX12_bid_18 rfl rfl h
/-! CalledRiverModel.caller -/
theorem dX12_caller_0 : decode cX12_caller 0 = .ok (.aload_n 0, 1) := by decide +kernel
theorem dX12_caller_1 : decode cX12_caller 1 = .ok (.iload_n 1, 1) := by decide +kernel
theorem dX12_caller_2 : decode cX12_caller 2 = .ok (.i2l, 1) := by decide +kernel
theorem dX12_caller_3 : decode cX12_caller 3 = .ok (.invokevirtual 557, 3) := by decide +kernel
theorem dX12_caller_6 : decode cX12_caller 6 = .ok (.ifCond .eq 29, 3) := by decide +kernel
theorem dX12_caller_9 : decode cX12_caller 9 = .ok (.iload_n 2, 1) := by decide +kernel
theorem dX12_caller_10 : decode cX12_caller 10 = .ok (.i2l, 1) := by decide +kernel
theorem dX12_caller_11 : decode cX12_caller 11 = .ok (.lconst 0, 1) := by decide +kernel
theorem dX12_caller_12 : decode cX12_caller 12 = .ok (.lconst 1, 1) := by decide +kernel
theorem dX12_caller_13 : decode cX12_caller 13 = .ok (.invokestatic 328, 3) := by decide +kernel
theorem dX12_caller_16 : decode cX12_caller 16 = .ok (.ifCond .eq 19, 3) := by decide +kernel
theorem dX12_caller_19 : decode cX12_caller 19 = .ok (.aload_n 0, 1) := by decide +kernel
theorem dX12_caller_20 : decode cX12_caller 20 = .ok (.getfield 124, 3) := by decide +kernel
theorem dX12_caller_23 : decode cX12_caller 23 = .ok (.bipush 10, 2) := by decide +kernel
theorem dX12_caller_25 : decode cX12_caller 25 = .ok (.iconst 2, 1) := by decide +kernel
theorem dX12_caller_26 : decode cX12_caller 26 = .ok (.iload_n 1, 1) := by decide +kernel
theorem dX12_caller_27 : decode cX12_caller 27 = .ok (.imul, 1) := by decide +kernel
theorem dX12_caller_28 : decode cX12_caller 28 = .ok (.iadd, 1) := by decide +kernel
theorem dX12_caller_29 : decode cX12_caller 29 = .ok (.iload_n 2, 1) := by decide +kernel
theorem dX12_caller_30 : decode cX12_caller 30 = .ok (.iadd, 1) := by decide +kernel
theorem dX12_caller_31 : decode cX12_caller 31 = .ok (.iaload, 1) := by decide +kernel
theorem dX12_caller_32 : decode cX12_caller 32 = .ok (.goto 4, 3) := by decide +kernel
theorem dX12_caller_35 : decode cX12_caller 35 = .ok (.iconst (-1), 1) := by decide +kernel
theorem dX12_caller_36 : decode cX12_caller 36 = .ok (.ireturn, 1) := by decide +kernel
def wp_X12_caller (sh : Shp) (v0 : Nat) (v1 : Int32) (v2 : Int32) (Q : Int32 → Mem → Prop) (m : Mem) : Prop :=
  Ob sh v0 12 ∧ wp_X12_isCaller sh v0 v1.toInt64 (fun r1 m2 => if r1 = 0 then (Q (-1 : Int32) m2) else (wp_X12_isIn sh v2.toInt64 (0 : Int64) (1 : Int64) (fun r4 m5 => if r4 = 0 then (Q (-1 : Int32) m5) else (∃ b6 : Nat, m5.2.2 v0 48 = some b6 ∧ (Ix sh b6 100 (((10 : Int32) + ((2 : Int32) * v1)) + v2) ∧ (Q (m5.1 b6 (((10 : Int32) + ((2 : Int32) * v1)) + v2).toNatClampNeg) m5)))) m2)) m
abbrev M_X12_caller : Mi := (cX12_caller, 3, RX12, (Option.some FieldType.int), "caller", 3, 107, 0, 0)
set_option maxHeartbeats 4000000 in
set_option maxRecDepth 100000 in
theorem c_X12_caller {l : Launch} {G : Gl} {sh : Shp} {v0 : Nat} {v1 : Int32} {v2 : Int32} {Q : Int32 → Mem → Prop} {m : Mem} (h : wp_X12_caller sh v0 v1 v2 Q m) : Cni l G yX12_caller cX12_caller 3 (Option.some FieldType.int) 3 107 sh [.ref (G.1 + v0), .int v1, .int v2] m Q := by
  refine con_i (ls := [(0, .ref (G.1 + v0)), (1, .int v1), (2, .int v2)]) (by decide +kernel) rfl (Nat.le_of_ble_eq_true rfl) (fun F => ?_)
  show V G F M_X12_caller sh 0 0 (Zi G F sh Q) 0 [(0, .ref (G.1 + v0)), (1, .int v1), (2, .int v2)] [] m
  unfold wp_X12_caller at h
  refine v_aload_n 0 0 dX12_caller_0 rfl rfl ?_
  refine v_iload_n 1 1 dX12_caller_1 rfl rfl ?_
  refine v_i2l dX12_caller_2 ?_
  obtain ⟨o3, h⟩ := h
  refine v_cVi [.long _] mv_X12_isCaller ml_RX12_557 ⟨_, _, rfl⟩ o3 rfl rfl (Nat.le_of_ble_eq_true rfl) (Nat.le_of_ble_eq_true rfl) (Nat.le_of_ble_eq_true rfl) (Nat.zero_le _) (Nat.zero_le _) dX12_caller_3 (c_X12_isCaller h) (fun r1 m2 h => ?_)
  refine v_if_eq 35 dX12_caller_6 (by decide) (fun hc => ?_) (fun hc => ?_)
  · replace h := Eq.mp (if_pos hc) h
    refine v_iconst (-1 : Int32) dX12_caller_35 (by decide) ?_
    exact v_iret dX12_caller_36 rfl rfl h
  · replace h := Eq.mp (if_neg hc) h
    refine v_iload_n 2 2 dX12_caller_9 rfl rfl ?_
    refine v_i2l dX12_caller_10 ?_
    refine v_lconst (0 : Int64) dX12_caller_11 (by decide) ?_
    refine v_lconst (1 : Int64) dX12_caller_12 (by decide) ?_
    refine v_cSi [.long _, .long _, .long _] mv_X12_isIn ml_RX12_328 rfl rfl (Nat.le_of_ble_eq_true rfl) (Nat.le_of_ble_eq_true rfl) (Nat.le_of_ble_eq_true rfl) (Nat.zero_le _) (Nat.zero_le _) dX12_caller_13 (c_X12_isIn h) (fun r4 m5 h => ?_)
    refine v_if_eq 35 dX12_caller_16 (by decide) (fun hc => ?_) (fun hc => ?_)
    · replace h := Eq.mp (if_pos hc) h
      refine v_iconst (-1 : Int32) dX12_caller_35 (by decide) ?_
      exact v_iret dX12_caller_36 rfl rfl h
    · replace h := Eq.mp (if_neg hc) h
      refine v_aload_n 0 0 dX12_caller_19 rfl rfl ?_
      obtain ⟨b6, e7, h⟩ := h
      refine v_gR 12 48 dX12_caller_20 fg_RX12_124 o3 e7 ?_
      refine v_bipush (10 : Int32) dX12_caller_23 (by decide) ?_
      refine v_iconst (2 : Int32) dX12_caller_25 (by decide) ?_
      refine v_iload_n 1 1 dX12_caller_26 rfl rfl ?_
      refine v_imul dX12_caller_27 ?_
      refine v_iadd dX12_caller_28 ?_
      refine v_iload_n 2 2 dX12_caller_29 rfl rfl ?_
      refine v_iadd dX12_caller_30 ?_
      obtain ⟨i8, h⟩ := h
      refine v_iald dX12_caller_31 i8 ?_
      refine v_goto 36 dX12_caller_32 (by decide) ?_
      exact v_iret dX12_caller_36 rfl rfl h
/-! CalledRiverModel.isFull -/
theorem dX12_isFull_0 : decode cX12_isFull 0 = .ok (.aload_n 0, 1) := by decide +kernel
theorem dX12_isFull_1 : decode cX12_isFull 1 = .ok (.getfield 285, 3) := by decide +kernel
theorem dX12_isFull_4 : decode cX12_isFull 4 = .ok (.ifCond .ne 19, 3) := by decide +kernel
theorem dX12_isFull_7 : decode cX12_isFull 7 = .ok (.aload_n 0, 1) := by decide +kernel
theorem dX12_isFull_8 : decode cX12_isFull 8 = .ok (.getfield 114, 3) := by decide +kernel
theorem dX12_isFull_11 : decode cX12_isFull 11 = .ok (.iload_n 1, 1) := by decide +kernel
theorem dX12_isFull_12 : decode cX12_isFull 12 = .ok (.iaload, 1) := by decide +kernel
theorem dX12_isFull_13 : decode cX12_isFull 13 = .ok (.iload_n 2, 1) := by decide +kernel
theorem dX12_isFull_14 : decode cX12_isFull 14 = .ok (.if_icmp .ne 9, 3) := by decide +kernel
theorem dX12_isFull_17 : decode cX12_isFull 17 = .ok (.aload_n 0, 1) := by decide +kernel
theorem dX12_isFull_18 : decode cX12_isFull 18 = .ok (.iconst 5, 1) := by decide +kernel
theorem dX12_isFull_19 : decode cX12_isFull 19 = .ok (.iload_n 3, 1) := by decide +kernel
theorem dX12_isFull_20 : decode cX12_isFull 20 = .ok (.invokevirtual 315, 3) := by decide +kernel
theorem dX12_isFull_23 : decode cX12_isFull 23 = .ok (.aload_n 0, 1) := by decide +kernel
theorem dX12_isFull_24 : decode cX12_isFull 24 = .ok (.getfield 285, 3) := by decide +kernel
theorem dX12_isFull_27 : decode cX12_isFull 27 = .ok (.ifCond .eq 7, 3) := by decide +kernel
theorem dX12_isFull_30 : decode cX12_isFull 30 = .ok (.iconst 1, 1) := by decide +kernel
theorem dX12_isFull_31 : decode cX12_isFull 31 = .ok (.goto 4, 3) := by decide +kernel
theorem dX12_isFull_34 : decode cX12_isFull 34 = .ok (.iconst 0, 1) := by decide +kernel
theorem dX12_isFull_35 : decode cX12_isFull 35 = .ok (.ireturn, 1) := by decide +kernel
def X12_isFull_p23 (sh : Shp) (v0 : Nat) (Q : Int32 → Mem → Prop) (m : Mem) : Prop :=
  Ob sh v0 12 ∧ (if (m.1 v0 5) = 0 then (Q (0 : Int32) m) else (Q (1 : Int32) m))
def wp_X12_isFull (sh : Shp) (v0 : Nat) (v1 : Int32) (v2 : Int32) (v3 : Int32) (Q : Int32 → Mem → Prop) (m : Mem) : Prop :=
  Ob sh v0 12 ∧ (if (m.1 v0 5) = 0 then (∃ b2 : Nat, m.2.2 v0 45 = some b2 ∧ (Ix sh b2 100 v1 ∧ (if (m.1 b2 v1.toNatClampNeg) = v2 then (wp_X12_fail sh v0 (5 : Int32) v3 (fun m6 => X12_isFull_p23 sh v0 Q m6) m) else (X12_isFull_p23 sh v0 Q m)))) else (X12_isFull_p23 sh v0 Q m))
abbrev M_X12_isFull : Mi := (cX12_isFull, 4, RX12, (Option.some FieldType.boolean), "isFull", 2, 82, 0, 0)
set_option maxHeartbeats 4000000 in
set_option maxRecDepth 100000 in
theorem v_X12_isFull_p23 {G : Gl} {F : Fr} {sh : Shp} {v0 : Nat} {Q : Int32 → Mem → Prop} {m : Mem} (h : X12_isFull_p23 sh v0 Q m) : V G F M_X12_isFull sh 0 0 (Zi G F sh Q) 23 [(0, .ref (G.1 + v0))] [] m := by
  unfold X12_isFull_p23 at h
  refine v_aload_n 0 0 dX12_isFull_23 rfl rfl ?_
  obtain ⟨o7, h⟩ := h
  refine v_gI 12 5 dX12_isFull_24 fg_RX12_285 o7 ?_
  refine v_if_eq 34 dX12_isFull_27 (by decide) (fun hc => ?_) (fun hc => ?_)
  · replace h := Eq.mp (if_pos hc) h
    refine v_iconst (0 : Int32) dX12_isFull_34 (by decide) ?_
    exact v_iret dX12_isFull_35 rfl (by decide) h
  · replace h := Eq.mp (if_neg hc) h
    refine v_iconst (1 : Int32) dX12_isFull_30 (by decide) ?_
    refine v_goto 35 dX12_isFull_31 (by decide) ?_
    exact v_iret dX12_isFull_35 rfl (by decide) h
set_option maxHeartbeats 4000000 in
set_option maxRecDepth 100000 in
theorem c_X12_isFull {l : Launch} {G : Gl} {sh : Shp} {v0 : Nat} {v1 : Int32} {v2 : Int32} {v3 : Int32} {Q : Int32 → Mem → Prop} {m : Mem} (h : wp_X12_isFull sh v0 v1 v2 v3 Q m) : Cni l G yX12_isFull cX12_isFull 4 (Option.some FieldType.boolean) 2 82 sh [.ref (G.1 + v0), .int v1, .int v2, .int v3] m Q := by
  refine con_i (ls := [(0, .ref (G.1 + v0)), (1, .int v1), (2, .int v2), (3, .int v3)]) (by decide +kernel) rfl (Nat.le_of_ble_eq_true rfl) (fun F => ?_)
  show V G F M_X12_isFull sh 0 0 (Zi G F sh Q) 0 [(0, .ref (G.1 + v0)), (1, .int v1), (2, .int v2), (3, .int v3)] [] m
  unfold wp_X12_isFull at h
  refine v_aload_n 0 0 dX12_isFull_0 rfl rfl ?_
  obtain ⟨o1, h⟩ := h
  refine v_gI 12 5 dX12_isFull_1 fg_RX12_285 o1 ?_
  refine v_if_ne 23 dX12_isFull_4 (by decide) (fun hc => ?_) (fun hc => ?_)
  · replace h := Eq.mp (if_neg hc) h
    refine v_sub [0] rfl ?_
    exact v_X12_isFull_p23 h
  · replace h := Eq.mp (if_pos hc) h
    refine v_aload_n 0 0 dX12_isFull_7 rfl rfl ?_
    obtain ⟨b2, e3, h⟩ := h
    refine v_gR 12 45 dX12_isFull_8 fg_RX12_114 o1 e3 ?_
    refine v_iload_n 1 1 dX12_isFull_11 rfl rfl ?_
    obtain ⟨i4, h⟩ := h
    refine v_iald dX12_isFull_12 i4 ?_
    refine v_iload_n 2 2 dX12_isFull_13 rfl rfl ?_
    refine v_icmp_ne 23 dX12_isFull_14 (by decide) (fun hc => ?_) (fun hc => ?_)
    · replace h := Eq.mp (if_neg hc) h
      refine v_sub [0] rfl ?_
      exact v_X12_isFull_p23 h
    · replace h := Eq.mp (if_pos hc) h
      refine v_aload_n 0 0 dX12_isFull_17 rfl rfl ?_
      refine v_iconst (5 : Int32) dX12_isFull_18 (by decide) ?_
      refine v_iload_n 3 3 dX12_isFull_19 rfl rfl ?_
      refine v_cVv [.int _, .int _] mv_X12_fail ml_RX12_315 ⟨_, _, rfl⟩ o1 rfl rfl (Nat.le_of_ble_eq_true rfl) (Nat.le_of_ble_eq_true rfl) (Nat.le_of_ble_eq_true rfl) (Nat.zero_le _) (Nat.zero_le _) dX12_isFull_20 (c_X12_fail h) (fun m6 h => ?_)
      refine v_sub [0] rfl ?_
      exact v_X12_isFull_p23 h
/-! CalledRiverModel.isOwnHere -/
theorem dX12_isOwnHere_0 : decode cX12_isOwnHere 0 = .ok (.aload_n 0, 1) := by decide +kernel
theorem dX12_isOwnHere_1 : decode cX12_isOwnHere 1 = .ok (.aload_n 0, 1) := by decide +kernel
theorem dX12_isOwnHere_2 : decode cX12_isOwnHere 2 = .ok (.getfield 20, 3) := by decide +kernel
theorem dX12_isOwnHere_5 : decode cX12_isOwnHere 5 = .ok (.invokevirtual 308, 3) := by decide +kernel
theorem dX12_isOwnHere_8 : decode cX12_isOwnHere 8 = .ok (.ifCond .ne 58, 3) := by decide +kernel
theorem dX12_isOwnHere_11 : decode cX12_isOwnHere 11 = .ok (.aload_n 0, 1) := by decide +kernel
theorem dX12_isOwnHere_12 : decode cX12_isOwnHere 12 = .ok (.aload_n 0, 1) := by decide +kernel
theorem dX12_isOwnHere_13 : decode cX12_isOwnHere 13 = .ok (.getfield 24, 3) := by decide +kernel
theorem dX12_isOwnHere_16 : decode cX12_isOwnHere 16 = .ok (.invokevirtual 308, 3) := by decide +kernel
theorem dX12_isOwnHere_19 : decode cX12_isOwnHere 19 = .ok (.ifCond .ne 47, 3) := by decide +kernel
theorem dX12_isOwnHere_22 : decode cX12_isOwnHere 22 = .ok (.aload_n 0, 1) := by decide +kernel
theorem dX12_isOwnHere_23 : decode cX12_isOwnHere 23 = .ok (.aload_n 0, 1) := by decide +kernel
theorem dX12_isOwnHere_24 : decode cX12_isOwnHere 24 = .ok (.getfield 27, 3) := by decide +kernel
theorem dX12_isOwnHere_27 : decode cX12_isOwnHere 27 = .ok (.invokevirtual 308, 3) := by decide +kernel
theorem dX12_isOwnHere_30 : decode cX12_isOwnHere 30 = .ok (.ifCond .ne 36, 3) := by decide +kernel
theorem dX12_isOwnHere_33 : decode cX12_isOwnHere 33 = .ok (.aload_n 0, 1) := by decide +kernel
theorem dX12_isOwnHere_34 : decode cX12_isOwnHere 34 = .ok (.aload_n 0, 1) := by decide +kernel
theorem dX12_isOwnHere_35 : decode cX12_isOwnHere 35 = .ok (.getfield 30, 3) := by decide +kernel
theorem dX12_isOwnHere_38 : decode cX12_isOwnHere 38 = .ok (.invokevirtual 308, 3) := by decide +kernel
theorem dX12_isOwnHere_41 : decode cX12_isOwnHere 41 = .ok (.ifCond .ne 25, 3) := by decide +kernel
theorem dX12_isOwnHere_44 : decode cX12_isOwnHere 44 = .ok (.aload_n 0, 1) := by decide +kernel
theorem dX12_isOwnHere_45 : decode cX12_isOwnHere 45 = .ok (.aload_n 0, 1) := by decide +kernel
theorem dX12_isOwnHere_46 : decode cX12_isOwnHere 46 = .ok (.getfield 33, 3) := by decide +kernel
theorem dX12_isOwnHere_49 : decode cX12_isOwnHere 49 = .ok (.invokevirtual 308, 3) := by decide +kernel
theorem dX12_isOwnHere_52 : decode cX12_isOwnHere 52 = .ok (.ifCond .ne 14, 3) := by decide +kernel
theorem dX12_isOwnHere_55 : decode cX12_isOwnHere 55 = .ok (.aload_n 0, 1) := by decide +kernel
theorem dX12_isOwnHere_56 : decode cX12_isOwnHere 56 = .ok (.aload_n 0, 1) := by decide +kernel
theorem dX12_isOwnHere_57 : decode cX12_isOwnHere 57 = .ok (.getfield 36, 3) := by decide +kernel
theorem dX12_isOwnHere_60 : decode cX12_isOwnHere 60 = .ok (.invokevirtual 308, 3) := by decide +kernel
theorem dX12_isOwnHere_63 : decode cX12_isOwnHere 63 = .ok (.ifCond .eq 7, 3) := by decide +kernel
theorem dX12_isOwnHere_66 : decode cX12_isOwnHere 66 = .ok (.iconst 1, 1) := by decide +kernel
theorem dX12_isOwnHere_67 : decode cX12_isOwnHere 67 = .ok (.goto 4, 3) := by decide +kernel
theorem dX12_isOwnHere_70 : decode cX12_isOwnHere 70 = .ok (.iconst 0, 1) := by decide +kernel
theorem dX12_isOwnHere_71 : decode cX12_isOwnHere 71 = .ok (.istore_n 1, 1) := by decide +kernel
theorem dX12_isOwnHere_72 : decode cX12_isOwnHere 72 = .ok (.iload_n 1, 1) := by decide +kernel
theorem dX12_isOwnHere_73 : decode cX12_isOwnHere 73 = .ok (.ifCond .ne 69, 3) := by decide +kernel
theorem dX12_isOwnHere_76 : decode cX12_isOwnHere 76 = .ok (.aload_n 0, 1) := by decide +kernel
theorem dX12_isOwnHere_77 : decode cX12_isOwnHere 77 = .ok (.aload_n 0, 1) := by decide +kernel
theorem dX12_isOwnHere_78 : decode cX12_isOwnHere 78 = .ok (.getfield 39, 3) := by decide +kernel
theorem dX12_isOwnHere_81 : decode cX12_isOwnHere 81 = .ok (.invokevirtual 308, 3) := by decide +kernel
theorem dX12_isOwnHere_84 : decode cX12_isOwnHere 84 = .ok (.ifCond .ne 58, 3) := by decide +kernel
theorem dX12_isOwnHere_87 : decode cX12_isOwnHere 87 = .ok (.aload_n 0, 1) := by decide +kernel
theorem dX12_isOwnHere_88 : decode cX12_isOwnHere 88 = .ok (.aload_n 0, 1) := by decide +kernel
theorem dX12_isOwnHere_89 : decode cX12_isOwnHere 89 = .ok (.getfield 42, 3) := by decide +kernel
theorem dX12_isOwnHere_92 : decode cX12_isOwnHere 92 = .ok (.invokevirtual 308, 3) := by decide +kernel
theorem dX12_isOwnHere_95 : decode cX12_isOwnHere 95 = .ok (.ifCond .ne 47, 3) := by decide +kernel
theorem dX12_isOwnHere_98 : decode cX12_isOwnHere 98 = .ok (.aload_n 0, 1) := by decide +kernel
theorem dX12_isOwnHere_99 : decode cX12_isOwnHere 99 = .ok (.aload_n 0, 1) := by decide +kernel
theorem dX12_isOwnHere_100 : decode cX12_isOwnHere 100 = .ok (.getfield 45, 3) := by decide +kernel
theorem dX12_isOwnHere_103 : decode cX12_isOwnHere 103 = .ok (.invokevirtual 308, 3) := by decide +kernel
theorem dX12_isOwnHere_106 : decode cX12_isOwnHere 106 = .ok (.ifCond .ne 36, 3) := by decide +kernel
theorem dX12_isOwnHere_109 : decode cX12_isOwnHere 109 = .ok (.aload_n 0, 1) := by decide +kernel
theorem dX12_isOwnHere_110 : decode cX12_isOwnHere 110 = .ok (.aload_n 0, 1) := by decide +kernel
theorem dX12_isOwnHere_111 : decode cX12_isOwnHere 111 = .ok (.getfield 48, 3) := by decide +kernel
theorem dX12_isOwnHere_114 : decode cX12_isOwnHere 114 = .ok (.invokevirtual 308, 3) := by decide +kernel
theorem dX12_isOwnHere_117 : decode cX12_isOwnHere 117 = .ok (.ifCond .ne 25, 3) := by decide +kernel
theorem dX12_isOwnHere_120 : decode cX12_isOwnHere 120 = .ok (.aload_n 0, 1) := by decide +kernel
theorem dX12_isOwnHere_121 : decode cX12_isOwnHere 121 = .ok (.aload_n 0, 1) := by decide +kernel
theorem dX12_isOwnHere_122 : decode cX12_isOwnHere 122 = .ok (.getfield 51, 3) := by decide +kernel
theorem dX12_isOwnHere_125 : decode cX12_isOwnHere 125 = .ok (.invokevirtual 308, 3) := by decide +kernel
theorem dX12_isOwnHere_128 : decode cX12_isOwnHere 128 = .ok (.ifCond .ne 14, 3) := by decide +kernel
theorem dX12_isOwnHere_131 : decode cX12_isOwnHere 131 = .ok (.aload_n 0, 1) := by decide +kernel
theorem dX12_isOwnHere_132 : decode cX12_isOwnHere 132 = .ok (.aload_n 0, 1) := by decide +kernel
theorem dX12_isOwnHere_133 : decode cX12_isOwnHere 133 = .ok (.getfield 54, 3) := by decide +kernel
theorem dX12_isOwnHere_136 : decode cX12_isOwnHere 136 = .ok (.invokevirtual 308, 3) := by decide +kernel
theorem dX12_isOwnHere_139 : decode cX12_isOwnHere 139 = .ok (.ifCond .eq 7, 3) := by decide +kernel
theorem dX12_isOwnHere_142 : decode cX12_isOwnHere 142 = .ok (.iconst 1, 1) := by decide +kernel
theorem dX12_isOwnHere_143 : decode cX12_isOwnHere 143 = .ok (.goto 4, 3) := by decide +kernel
theorem dX12_isOwnHere_146 : decode cX12_isOwnHere 146 = .ok (.iconst 0, 1) := by decide +kernel
theorem dX12_isOwnHere_147 : decode cX12_isOwnHere 147 = .ok (.istore_n 1, 1) := by decide +kernel
theorem dX12_isOwnHere_148 : decode cX12_isOwnHere 148 = .ok (.iload_n 1, 1) := by decide +kernel
theorem dX12_isOwnHere_149 : decode cX12_isOwnHere 149 = .ok (.ifCond .ne 69, 3) := by decide +kernel
theorem dX12_isOwnHere_152 : decode cX12_isOwnHere 152 = .ok (.aload_n 0, 1) := by decide +kernel
theorem dX12_isOwnHere_153 : decode cX12_isOwnHere 153 = .ok (.aload_n 0, 1) := by decide +kernel
theorem dX12_isOwnHere_154 : decode cX12_isOwnHere 154 = .ok (.getfield 57, 3) := by decide +kernel
theorem dX12_isOwnHere_157 : decode cX12_isOwnHere 157 = .ok (.invokevirtual 308, 3) := by decide +kernel
theorem dX12_isOwnHere_160 : decode cX12_isOwnHere 160 = .ok (.ifCond .ne 58, 3) := by decide +kernel
theorem dX12_isOwnHere_163 : decode cX12_isOwnHere 163 = .ok (.aload_n 0, 1) := by decide +kernel
theorem dX12_isOwnHere_164 : decode cX12_isOwnHere 164 = .ok (.aload_n 0, 1) := by decide +kernel
theorem dX12_isOwnHere_165 : decode cX12_isOwnHere 165 = .ok (.getfield 60, 3) := by decide +kernel
theorem dX12_isOwnHere_168 : decode cX12_isOwnHere 168 = .ok (.invokevirtual 308, 3) := by decide +kernel
theorem dX12_isOwnHere_171 : decode cX12_isOwnHere 171 = .ok (.ifCond .ne 47, 3) := by decide +kernel
theorem dX12_isOwnHere_174 : decode cX12_isOwnHere 174 = .ok (.aload_n 0, 1) := by decide +kernel
theorem dX12_isOwnHere_175 : decode cX12_isOwnHere 175 = .ok (.aload_n 0, 1) := by decide +kernel
theorem dX12_isOwnHere_176 : decode cX12_isOwnHere 176 = .ok (.getfield 63, 3) := by decide +kernel
theorem dX12_isOwnHere_179 : decode cX12_isOwnHere 179 = .ok (.invokevirtual 308, 3) := by decide +kernel
theorem dX12_isOwnHere_182 : decode cX12_isOwnHere 182 = .ok (.ifCond .ne 36, 3) := by decide +kernel
theorem dX12_isOwnHere_185 : decode cX12_isOwnHere 185 = .ok (.aload_n 0, 1) := by decide +kernel
theorem dX12_isOwnHere_186 : decode cX12_isOwnHere 186 = .ok (.aload_n 0, 1) := by decide +kernel
theorem dX12_isOwnHere_187 : decode cX12_isOwnHere 187 = .ok (.getfield 66, 3) := by decide +kernel
theorem dX12_isOwnHere_190 : decode cX12_isOwnHere 190 = .ok (.invokevirtual 308, 3) := by decide +kernel
theorem dX12_isOwnHere_193 : decode cX12_isOwnHere 193 = .ok (.ifCond .ne 25, 3) := by decide +kernel
theorem dX12_isOwnHere_196 : decode cX12_isOwnHere 196 = .ok (.aload_n 0, 1) := by decide +kernel
theorem dX12_isOwnHere_197 : decode cX12_isOwnHere 197 = .ok (.aload_n 0, 1) := by decide +kernel
theorem dX12_isOwnHere_198 : decode cX12_isOwnHere 198 = .ok (.getfield 69, 3) := by decide +kernel
theorem dX12_isOwnHere_201 : decode cX12_isOwnHere 201 = .ok (.invokevirtual 308, 3) := by decide +kernel
theorem dX12_isOwnHere_204 : decode cX12_isOwnHere 204 = .ok (.ifCond .ne 14, 3) := by decide +kernel
theorem dX12_isOwnHere_207 : decode cX12_isOwnHere 207 = .ok (.aload_n 0, 1) := by decide +kernel
theorem dX12_isOwnHere_208 : decode cX12_isOwnHere 208 = .ok (.aload_n 0, 1) := by decide +kernel
theorem dX12_isOwnHere_209 : decode cX12_isOwnHere 209 = .ok (.getfield 72, 3) := by decide +kernel
theorem dX12_isOwnHere_212 : decode cX12_isOwnHere 212 = .ok (.invokevirtual 308, 3) := by decide +kernel
theorem dX12_isOwnHere_215 : decode cX12_isOwnHere 215 = .ok (.ifCond .eq 7, 3) := by decide +kernel
theorem dX12_isOwnHere_218 : decode cX12_isOwnHere 218 = .ok (.iconst 1, 1) := by decide +kernel
theorem dX12_isOwnHere_219 : decode cX12_isOwnHere 219 = .ok (.goto 4, 3) := by decide +kernel
theorem dX12_isOwnHere_222 : decode cX12_isOwnHere 222 = .ok (.iconst 0, 1) := by decide +kernel
theorem dX12_isOwnHere_223 : decode cX12_isOwnHere 223 = .ok (.istore_n 1, 1) := by decide +kernel
theorem dX12_isOwnHere_224 : decode cX12_isOwnHere 224 = .ok (.iload_n 1, 1) := by decide +kernel
theorem dX12_isOwnHere_225 : decode cX12_isOwnHere 225 = .ok (.ifCond .ne 69, 3) := by decide +kernel
theorem dX12_isOwnHere_228 : decode cX12_isOwnHere 228 = .ok (.aload_n 0, 1) := by decide +kernel
theorem dX12_isOwnHere_229 : decode cX12_isOwnHere 229 = .ok (.aload_n 0, 1) := by decide +kernel
theorem dX12_isOwnHere_230 : decode cX12_isOwnHere 230 = .ok (.getfield 75, 3) := by decide +kernel
theorem dX12_isOwnHere_233 : decode cX12_isOwnHere 233 = .ok (.invokevirtual 308, 3) := by decide +kernel
theorem dX12_isOwnHere_236 : decode cX12_isOwnHere 236 = .ok (.ifCond .ne 58, 3) := by decide +kernel
theorem dX12_isOwnHere_239 : decode cX12_isOwnHere 239 = .ok (.aload_n 0, 1) := by decide +kernel
theorem dX12_isOwnHere_240 : decode cX12_isOwnHere 240 = .ok (.aload_n 0, 1) := by decide +kernel
theorem dX12_isOwnHere_241 : decode cX12_isOwnHere 241 = .ok (.getfield 78, 3) := by decide +kernel
theorem dX12_isOwnHere_244 : decode cX12_isOwnHere 244 = .ok (.invokevirtual 308, 3) := by decide +kernel
theorem dX12_isOwnHere_247 : decode cX12_isOwnHere 247 = .ok (.ifCond .ne 47, 3) := by decide +kernel
theorem dX12_isOwnHere_250 : decode cX12_isOwnHere 250 = .ok (.aload_n 0, 1) := by decide +kernel
theorem dX12_isOwnHere_251 : decode cX12_isOwnHere 251 = .ok (.aload_n 0, 1) := by decide +kernel
theorem dX12_isOwnHere_252 : decode cX12_isOwnHere 252 = .ok (.getfield 81, 3) := by decide +kernel
theorem dX12_isOwnHere_255 : decode cX12_isOwnHere 255 = .ok (.invokevirtual 308, 3) := by decide +kernel
theorem dX12_isOwnHere_258 : decode cX12_isOwnHere 258 = .ok (.ifCond .ne 36, 3) := by decide +kernel
theorem dX12_isOwnHere_261 : decode cX12_isOwnHere 261 = .ok (.aload_n 0, 1) := by decide +kernel
theorem dX12_isOwnHere_262 : decode cX12_isOwnHere 262 = .ok (.aload_n 0, 1) := by decide +kernel
theorem dX12_isOwnHere_263 : decode cX12_isOwnHere 263 = .ok (.getfield 84, 3) := by decide +kernel
theorem dX12_isOwnHere_266 : decode cX12_isOwnHere 266 = .ok (.invokevirtual 308, 3) := by decide +kernel
theorem dX12_isOwnHere_269 : decode cX12_isOwnHere 269 = .ok (.ifCond .ne 25, 3) := by decide +kernel
theorem dX12_isOwnHere_272 : decode cX12_isOwnHere 272 = .ok (.aload_n 0, 1) := by decide +kernel
theorem dX12_isOwnHere_273 : decode cX12_isOwnHere 273 = .ok (.aload_n 0, 1) := by decide +kernel
theorem dX12_isOwnHere_274 : decode cX12_isOwnHere 274 = .ok (.getfield 87, 3) := by decide +kernel
theorem dX12_isOwnHere_277 : decode cX12_isOwnHere 277 = .ok (.invokevirtual 308, 3) := by decide +kernel
theorem dX12_isOwnHere_280 : decode cX12_isOwnHere 280 = .ok (.ifCond .ne 14, 3) := by decide +kernel
theorem dX12_isOwnHere_283 : decode cX12_isOwnHere 283 = .ok (.aload_n 0, 1) := by decide +kernel
theorem dX12_isOwnHere_284 : decode cX12_isOwnHere 284 = .ok (.aload_n 0, 1) := by decide +kernel
theorem dX12_isOwnHere_285 : decode cX12_isOwnHere 285 = .ok (.getfield 90, 3) := by decide +kernel
theorem dX12_isOwnHere_288 : decode cX12_isOwnHere 288 = .ok (.invokevirtual 308, 3) := by decide +kernel
theorem dX12_isOwnHere_291 : decode cX12_isOwnHere 291 = .ok (.ifCond .eq 7, 3) := by decide +kernel
theorem dX12_isOwnHere_294 : decode cX12_isOwnHere 294 = .ok (.iconst 1, 1) := by decide +kernel
theorem dX12_isOwnHere_295 : decode cX12_isOwnHere 295 = .ok (.goto 4, 3) := by decide +kernel
theorem dX12_isOwnHere_298 : decode cX12_isOwnHere 298 = .ok (.iconst 0, 1) := by decide +kernel
theorem dX12_isOwnHere_299 : decode cX12_isOwnHere 299 = .ok (.istore_n 1, 1) := by decide +kernel
theorem dX12_isOwnHere_300 : decode cX12_isOwnHere 300 = .ok (.iload_n 1, 1) := by decide +kernel
theorem dX12_isOwnHere_301 : decode cX12_isOwnHere 301 = .ok (.ifCond .ne 69, 3) := by decide +kernel
theorem dX12_isOwnHere_304 : decode cX12_isOwnHere 304 = .ok (.aload_n 0, 1) := by decide +kernel
theorem dX12_isOwnHere_305 : decode cX12_isOwnHere 305 = .ok (.aload_n 0, 1) := by decide +kernel
theorem dX12_isOwnHere_306 : decode cX12_isOwnHere 306 = .ok (.getfield 93, 3) := by decide +kernel
theorem dX12_isOwnHere_309 : decode cX12_isOwnHere 309 = .ok (.invokevirtual 308, 3) := by decide +kernel
theorem dX12_isOwnHere_312 : decode cX12_isOwnHere 312 = .ok (.ifCond .ne 58, 3) := by decide +kernel
theorem dX12_isOwnHere_315 : decode cX12_isOwnHere 315 = .ok (.aload_n 0, 1) := by decide +kernel
theorem dX12_isOwnHere_316 : decode cX12_isOwnHere 316 = .ok (.aload_n 0, 1) := by decide +kernel
theorem dX12_isOwnHere_317 : decode cX12_isOwnHere 317 = .ok (.getfield 96, 3) := by decide +kernel
theorem dX12_isOwnHere_320 : decode cX12_isOwnHere 320 = .ok (.invokevirtual 308, 3) := by decide +kernel
theorem dX12_isOwnHere_323 : decode cX12_isOwnHere 323 = .ok (.ifCond .ne 47, 3) := by decide +kernel
theorem dX12_isOwnHere_326 : decode cX12_isOwnHere 326 = .ok (.aload_n 0, 1) := by decide +kernel
theorem dX12_isOwnHere_327 : decode cX12_isOwnHere 327 = .ok (.aload_n 0, 1) := by decide +kernel
theorem dX12_isOwnHere_328 : decode cX12_isOwnHere 328 = .ok (.getfield 99, 3) := by decide +kernel
theorem dX12_isOwnHere_331 : decode cX12_isOwnHere 331 = .ok (.invokevirtual 308, 3) := by decide +kernel
theorem dX12_isOwnHere_334 : decode cX12_isOwnHere 334 = .ok (.ifCond .ne 36, 3) := by decide +kernel
theorem dX12_isOwnHere_337 : decode cX12_isOwnHere 337 = .ok (.aload_n 0, 1) := by decide +kernel
theorem dX12_isOwnHere_338 : decode cX12_isOwnHere 338 = .ok (.aload_n 0, 1) := by decide +kernel
theorem dX12_isOwnHere_339 : decode cX12_isOwnHere 339 = .ok (.getfield 102, 3) := by decide +kernel
theorem dX12_isOwnHere_342 : decode cX12_isOwnHere 342 = .ok (.invokevirtual 308, 3) := by decide +kernel
theorem dX12_isOwnHere_345 : decode cX12_isOwnHere 345 = .ok (.ifCond .ne 25, 3) := by decide +kernel
theorem dX12_isOwnHere_348 : decode cX12_isOwnHere 348 = .ok (.aload_n 0, 1) := by decide +kernel
theorem dX12_isOwnHere_349 : decode cX12_isOwnHere 349 = .ok (.aload_n 0, 1) := by decide +kernel
theorem dX12_isOwnHere_350 : decode cX12_isOwnHere 350 = .ok (.getfield 105, 3) := by decide +kernel
theorem dX12_isOwnHere_353 : decode cX12_isOwnHere 353 = .ok (.invokevirtual 308, 3) := by decide +kernel
theorem dX12_isOwnHere_356 : decode cX12_isOwnHere 356 = .ok (.ifCond .ne 14, 3) := by decide +kernel
theorem dX12_isOwnHere_359 : decode cX12_isOwnHere 359 = .ok (.aload_n 0, 1) := by decide +kernel
theorem dX12_isOwnHere_360 : decode cX12_isOwnHere 360 = .ok (.aload_n 0, 1) := by decide +kernel
theorem dX12_isOwnHere_361 : decode cX12_isOwnHere 361 = .ok (.getfield 108, 3) := by decide +kernel
theorem dX12_isOwnHere_364 : decode cX12_isOwnHere 364 = .ok (.invokevirtual 308, 3) := by decide +kernel
theorem dX12_isOwnHere_367 : decode cX12_isOwnHere 367 = .ok (.ifCond .eq 7, 3) := by decide +kernel
theorem dX12_isOwnHere_370 : decode cX12_isOwnHere 370 = .ok (.iconst 1, 1) := by decide +kernel
theorem dX12_isOwnHere_371 : decode cX12_isOwnHere 371 = .ok (.goto 4, 3) := by decide +kernel
theorem dX12_isOwnHere_374 : decode cX12_isOwnHere 374 = .ok (.iconst 0, 1) := by decide +kernel
theorem dX12_isOwnHere_375 : decode cX12_isOwnHere 375 = .ok (.istore_n 1, 1) := by decide +kernel
theorem dX12_isOwnHere_376 : decode cX12_isOwnHere 376 = .ok (.iload_n 1, 1) := by decide +kernel
theorem dX12_isOwnHere_377 : decode cX12_isOwnHere 377 = .ok (.ireturn, 1) := by decide +kernel
def X12_isOwnHere_p370 (sh : Shp) (Q : Int32 → Mem → Prop) (m : Mem) : Prop :=
  Q (1 : Int32) m
def X12_isOwnHere_p299 (sh : Shp) (v0 : Nat) (s0 : Int32) (Q : Int32 → Mem → Prop) (m : Mem) : Prop :=
  if s0 = 0 then (Ob sh v0 12 ∧ ∃ b102 : Nat, m.2.2 v0 35 = some b102 ∧ (wp_X12_isHere sh v0 b102 (fun r104 m105 => if r104 = 0 then (∃ b106 : Nat, m105.2.2 v0 36 = some b106 ∧ (wp_X12_isHere sh v0 b106 (fun r108 m109 => if r108 = 0 then (∃ b110 : Nat, m109.2.2 v0 37 = some b110 ∧ (wp_X12_isHere sh v0 b110 (fun r112 m113 => if r112 = 0 then (∃ b114 : Nat, m113.2.2 v0 38 = some b114 ∧ (wp_X12_isHere sh v0 b114 (fun r116 m117 => if r116 = 0 then (∃ b118 : Nat, m117.2.2 v0 39 = some b118 ∧ (wp_X12_isHere sh v0 b118 (fun r120 m121 => if r120 = 0 then (∃ b122 : Nat, m121.2.2 v0 40 = some b122 ∧ (wp_X12_isHere sh v0 b122 (fun r124 m125 => if r124 = 0 then (Q (0 : Int32) m125) else (X12_isOwnHere_p370 sh Q m125)) m121)) else (X12_isOwnHere_p370 sh Q m121)) m117)) else (X12_isOwnHere_p370 sh Q m117)) m113)) else (X12_isOwnHere_p370 sh Q m113)) m109)) else (X12_isOwnHere_p370 sh Q m109)) m105)) else (X12_isOwnHere_p370 sh Q m105)) m)) else (X12_isOwnHere_p370 sh Q m)
def X12_isOwnHere_p294 (sh : Shp) (v0 : Nat) (Q : Int32 → Mem → Prop) (m : Mem) : Prop :=
  X12_isOwnHere_p299 sh v0 (1 : Int32) Q m
def X12_isOwnHere_p223 (sh : Shp) (v0 : Nat) (s0 : Int32) (Q : Int32 → Mem → Prop) (m : Mem) : Prop :=
  if s0 = 0 then (Ob sh v0 12 ∧ ∃ b77 : Nat, m.2.2 v0 29 = some b77 ∧ (wp_X12_isHere sh v0 b77 (fun r79 m80 => if r79 = 0 then (∃ b81 : Nat, m80.2.2 v0 30 = some b81 ∧ (wp_X12_isHere sh v0 b81 (fun r83 m84 => if r83 = 0 then (∃ b85 : Nat, m84.2.2 v0 31 = some b85 ∧ (wp_X12_isHere sh v0 b85 (fun r87 m88 => if r87 = 0 then (∃ b89 : Nat, m88.2.2 v0 32 = some b89 ∧ (wp_X12_isHere sh v0 b89 (fun r91 m92 => if r91 = 0 then (∃ b93 : Nat, m92.2.2 v0 33 = some b93 ∧ (wp_X12_isHere sh v0 b93 (fun r95 m96 => if r95 = 0 then (∃ b97 : Nat, m96.2.2 v0 34 = some b97 ∧ (wp_X12_isHere sh v0 b97 (fun r99 m100 => if r99 = 0 then (X12_isOwnHere_p299 sh v0 (0 : Int32) Q m100) else (X12_isOwnHere_p294 sh v0 Q m100)) m96)) else (X12_isOwnHere_p294 sh v0 Q m96)) m92)) else (X12_isOwnHere_p294 sh v0 Q m92)) m88)) else (X12_isOwnHere_p294 sh v0 Q m88)) m84)) else (X12_isOwnHere_p294 sh v0 Q m84)) m80)) else (X12_isOwnHere_p294 sh v0 Q m80)) m)) else (X12_isOwnHere_p294 sh v0 Q m)
def X12_isOwnHere_p218 (sh : Shp) (v0 : Nat) (Q : Int32 → Mem → Prop) (m : Mem) : Prop :=
  X12_isOwnHere_p223 sh v0 (1 : Int32) Q m
def X12_isOwnHere_p147 (sh : Shp) (v0 : Nat) (s0 : Int32) (Q : Int32 → Mem → Prop) (m : Mem) : Prop :=
  if s0 = 0 then (Ob sh v0 12 ∧ ∃ b52 : Nat, m.2.2 v0 23 = some b52 ∧ (wp_X12_isHere sh v0 b52 (fun r54 m55 => if r54 = 0 then (∃ b56 : Nat, m55.2.2 v0 24 = some b56 ∧ (wp_X12_isHere sh v0 b56 (fun r58 m59 => if r58 = 0 then (∃ b60 : Nat, m59.2.2 v0 25 = some b60 ∧ (wp_X12_isHere sh v0 b60 (fun r62 m63 => if r62 = 0 then (∃ b64 : Nat, m63.2.2 v0 26 = some b64 ∧ (wp_X12_isHere sh v0 b64 (fun r66 m67 => if r66 = 0 then (∃ b68 : Nat, m67.2.2 v0 27 = some b68 ∧ (wp_X12_isHere sh v0 b68 (fun r70 m71 => if r70 = 0 then (∃ b72 : Nat, m71.2.2 v0 28 = some b72 ∧ (wp_X12_isHere sh v0 b72 (fun r74 m75 => if r74 = 0 then (X12_isOwnHere_p223 sh v0 (0 : Int32) Q m75) else (X12_isOwnHere_p218 sh v0 Q m75)) m71)) else (X12_isOwnHere_p218 sh v0 Q m71)) m67)) else (X12_isOwnHere_p218 sh v0 Q m67)) m63)) else (X12_isOwnHere_p218 sh v0 Q m63)) m59)) else (X12_isOwnHere_p218 sh v0 Q m59)) m55)) else (X12_isOwnHere_p218 sh v0 Q m55)) m)) else (X12_isOwnHere_p218 sh v0 Q m)
def X12_isOwnHere_p142 (sh : Shp) (v0 : Nat) (Q : Int32 → Mem → Prop) (m : Mem) : Prop :=
  X12_isOwnHere_p147 sh v0 (1 : Int32) Q m
def X12_isOwnHere_p71 (sh : Shp) (v0 : Nat) (s0 : Int32) (Q : Int32 → Mem → Prop) (m : Mem) : Prop :=
  if s0 = 0 then (Ob sh v0 12 ∧ ∃ b27 : Nat, m.2.2 v0 17 = some b27 ∧ (wp_X12_isHere sh v0 b27 (fun r29 m30 => if r29 = 0 then (∃ b31 : Nat, m30.2.2 v0 18 = some b31 ∧ (wp_X12_isHere sh v0 b31 (fun r33 m34 => if r33 = 0 then (∃ b35 : Nat, m34.2.2 v0 19 = some b35 ∧ (wp_X12_isHere sh v0 b35 (fun r37 m38 => if r37 = 0 then (∃ b39 : Nat, m38.2.2 v0 20 = some b39 ∧ (wp_X12_isHere sh v0 b39 (fun r41 m42 => if r41 = 0 then (∃ b43 : Nat, m42.2.2 v0 21 = some b43 ∧ (wp_X12_isHere sh v0 b43 (fun r45 m46 => if r45 = 0 then (∃ b47 : Nat, m46.2.2 v0 22 = some b47 ∧ (wp_X12_isHere sh v0 b47 (fun r49 m50 => if r49 = 0 then (X12_isOwnHere_p147 sh v0 (0 : Int32) Q m50) else (X12_isOwnHere_p142 sh v0 Q m50)) m46)) else (X12_isOwnHere_p142 sh v0 Q m46)) m42)) else (X12_isOwnHere_p142 sh v0 Q m42)) m38)) else (X12_isOwnHere_p142 sh v0 Q m38)) m34)) else (X12_isOwnHere_p142 sh v0 Q m34)) m30)) else (X12_isOwnHere_p142 sh v0 Q m30)) m)) else (X12_isOwnHere_p142 sh v0 Q m)
def X12_isOwnHere_p66 (sh : Shp) (v0 : Nat) (Q : Int32 → Mem → Prop) (m : Mem) : Prop :=
  X12_isOwnHere_p71 sh v0 (1 : Int32) Q m
def wp_X12_isOwnHere (sh : Shp) (v0 : Nat) (Q : Int32 → Mem → Prop) (m : Mem) : Prop :=
  Ob sh v0 12 ∧ ∃ b2 : Nat, m.2.2 v0 11 = some b2 ∧ (wp_X12_isHere sh v0 b2 (fun r4 m5 => if r4 = 0 then (∃ b6 : Nat, m5.2.2 v0 12 = some b6 ∧ (wp_X12_isHere sh v0 b6 (fun r8 m9 => if r8 = 0 then (∃ b10 : Nat, m9.2.2 v0 13 = some b10 ∧ (wp_X12_isHere sh v0 b10 (fun r12 m13 => if r12 = 0 then (∃ b14 : Nat, m13.2.2 v0 14 = some b14 ∧ (wp_X12_isHere sh v0 b14 (fun r16 m17 => if r16 = 0 then (∃ b18 : Nat, m17.2.2 v0 15 = some b18 ∧ (wp_X12_isHere sh v0 b18 (fun r20 m21 => if r20 = 0 then (∃ b22 : Nat, m21.2.2 v0 16 = some b22 ∧ (wp_X12_isHere sh v0 b22 (fun r24 m25 => if r24 = 0 then (X12_isOwnHere_p71 sh v0 (0 : Int32) Q m25) else (X12_isOwnHere_p66 sh v0 Q m25)) m21)) else (X12_isOwnHere_p66 sh v0 Q m21)) m17)) else (X12_isOwnHere_p66 sh v0 Q m17)) m13)) else (X12_isOwnHere_p66 sh v0 Q m13)) m9)) else (X12_isOwnHere_p66 sh v0 Q m9)) m5)) else (X12_isOwnHere_p66 sh v0 Q m5)) m)
abbrev M_X12_isOwnHere : Mi := (cX12_isOwnHere, 2, RX12, (Option.some FieldType.boolean), "isOwnHere", 3, 103, 0, 0)
set_option maxHeartbeats 4000000 in
set_option maxRecDepth 100000 in
theorem v_X12_isOwnHere_p370 {G : Gl} {F : Fr} {sh : Shp} {Q : Int32 → Mem → Prop} {m : Mem} (h : X12_isOwnHere_p370 sh Q m) : V G F M_X12_isOwnHere sh 0 0 (Zi G F sh Q) 370 [] [] m := by
  unfold X12_isOwnHere_p370 at h
  refine v_iconst (1 : Int32) dX12_isOwnHere_370 (by decide) ?_
  refine v_goto 375 dX12_isOwnHere_371 (by decide) ?_
  refine v_istore_n (ls' := [(1, .int _)]) 1 dX12_isOwnHere_375 rfl (Nat.le_of_ble_eq_true rfl) rfl ?_
  refine v_iload_n 1 0 dX12_isOwnHere_376 rfl rfl ?_
  exact v_iret dX12_isOwnHere_377 rfl (by decide) h
set_option maxHeartbeats 4000000 in
set_option maxRecDepth 100000 in
theorem v_X12_isOwnHere_p299 {G : Gl} {F : Fr} {sh : Shp} {v0 : Nat} {s0 : Int32} {Q : Int32 → Mem → Prop} {m : Mem} (h : X12_isOwnHere_p299 sh v0 s0 Q m) : V G F M_X12_isOwnHere sh 0 0 (Zi G F sh Q) 299 [(0, .ref (G.1 + v0))] [.int s0] m := by
  unfold X12_isOwnHere_p299 at h
  refine v_istore_n (ls' := [(1, .int _), (0, .ref _)]) 1 dX12_isOwnHere_299 rfl (Nat.le_of_ble_eq_true rfl) rfl ?_
  refine v_iload_n 1 0 dX12_isOwnHere_300 rfl rfl ?_
  refine v_if_ne 370 dX12_isOwnHere_301 (by decide) (fun hc => ?_) (fun hc => ?_)
  · replace h := Eq.mp (if_neg hc) h
    refine v_sub [] rfl ?_
    exact v_X12_isOwnHere_p370 h
  · replace h := Eq.mp (if_pos hc) h
    refine v_aload_n 0 1 dX12_isOwnHere_304 rfl rfl ?_
    refine v_aload_n 0 1 dX12_isOwnHere_305 rfl rfl ?_
    obtain ⟨o101, h⟩ := h
    obtain ⟨b102, e103, h⟩ := h
    refine v_gR 12 35 dX12_isOwnHere_306 fg_RX12_93 o101 e103 ?_
    refine v_cVi [.ref _] mv_X12_isHere ml_RX12_308 ⟨_, _, rfl⟩ o101 rfl rfl (Nat.le_of_ble_eq_true rfl) (Nat.le_of_ble_eq_true rfl) (Nat.le_of_ble_eq_true rfl) (Nat.zero_le _) (Nat.zero_le _) dX12_isOwnHere_309 (c_X12_isHere h) (fun r104 m105 h => ?_)
    refine v_if_ne 370 dX12_isOwnHere_312 (by decide) (fun hc => ?_) (fun hc => ?_)
    · replace h := Eq.mp (if_neg hc) h
      refine v_sub [] rfl ?_
      exact v_X12_isOwnHere_p370 h
    · replace h := Eq.mp (if_pos hc) h
      refine v_aload_n 0 1 dX12_isOwnHere_315 rfl rfl ?_
      refine v_aload_n 0 1 dX12_isOwnHere_316 rfl rfl ?_
      obtain ⟨b106, e107, h⟩ := h
      refine v_gR 12 36 dX12_isOwnHere_317 fg_RX12_96 o101 e107 ?_
      refine v_cVi [.ref _] mv_X12_isHere ml_RX12_308 ⟨_, _, rfl⟩ o101 rfl rfl (Nat.le_of_ble_eq_true rfl) (Nat.le_of_ble_eq_true rfl) (Nat.le_of_ble_eq_true rfl) (Nat.zero_le _) (Nat.zero_le _) dX12_isOwnHere_320 (c_X12_isHere h) (fun r108 m109 h => ?_)
      refine v_if_ne 370 dX12_isOwnHere_323 (by decide) (fun hc => ?_) (fun hc => ?_)
      · replace h := Eq.mp (if_neg hc) h
        refine v_sub [] rfl ?_
        exact v_X12_isOwnHere_p370 h
      · replace h := Eq.mp (if_pos hc) h
        refine v_aload_n 0 1 dX12_isOwnHere_326 rfl rfl ?_
        refine v_aload_n 0 1 dX12_isOwnHere_327 rfl rfl ?_
        obtain ⟨b110, e111, h⟩ := h
        refine v_gR 12 37 dX12_isOwnHere_328 fg_RX12_99 o101 e111 ?_
        refine v_cVi [.ref _] mv_X12_isHere ml_RX12_308 ⟨_, _, rfl⟩ o101 rfl rfl (Nat.le_of_ble_eq_true rfl) (Nat.le_of_ble_eq_true rfl) (Nat.le_of_ble_eq_true rfl) (Nat.zero_le _) (Nat.zero_le _) dX12_isOwnHere_331 (c_X12_isHere h) (fun r112 m113 h => ?_)
        refine v_if_ne 370 dX12_isOwnHere_334 (by decide) (fun hc => ?_) (fun hc => ?_)
        · replace h := Eq.mp (if_neg hc) h
          refine v_sub [] rfl ?_
          exact v_X12_isOwnHere_p370 h
        · replace h := Eq.mp (if_pos hc) h
          refine v_aload_n 0 1 dX12_isOwnHere_337 rfl rfl ?_
          refine v_aload_n 0 1 dX12_isOwnHere_338 rfl rfl ?_
          obtain ⟨b114, e115, h⟩ := h
          refine v_gR 12 38 dX12_isOwnHere_339 fg_RX12_102 o101 e115 ?_
          refine v_cVi [.ref _] mv_X12_isHere ml_RX12_308 ⟨_, _, rfl⟩ o101 rfl rfl (Nat.le_of_ble_eq_true rfl) (Nat.le_of_ble_eq_true rfl) (Nat.le_of_ble_eq_true rfl) (Nat.zero_le _) (Nat.zero_le _) dX12_isOwnHere_342 (c_X12_isHere h) (fun r116 m117 h => ?_)
          refine v_if_ne 370 dX12_isOwnHere_345 (by decide) (fun hc => ?_) (fun hc => ?_)
          · replace h := Eq.mp (if_neg hc) h
            refine v_sub [] rfl ?_
            exact v_X12_isOwnHere_p370 h
          · replace h := Eq.mp (if_pos hc) h
            refine v_aload_n 0 1 dX12_isOwnHere_348 rfl rfl ?_
            refine v_aload_n 0 1 dX12_isOwnHere_349 rfl rfl ?_
            obtain ⟨b118, e119, h⟩ := h
            refine v_gR 12 39 dX12_isOwnHere_350 fg_RX12_105 o101 e119 ?_
            refine v_cVi [.ref _] mv_X12_isHere ml_RX12_308 ⟨_, _, rfl⟩ o101 rfl rfl (Nat.le_of_ble_eq_true rfl) (Nat.le_of_ble_eq_true rfl) (Nat.le_of_ble_eq_true rfl) (Nat.zero_le _) (Nat.zero_le _) dX12_isOwnHere_353 (c_X12_isHere h) (fun r120 m121 h => ?_)
            refine v_if_ne 370 dX12_isOwnHere_356 (by decide) (fun hc => ?_) (fun hc => ?_)
            · replace h := Eq.mp (if_neg hc) h
              refine v_sub [] rfl ?_
              exact v_X12_isOwnHere_p370 h
            · replace h := Eq.mp (if_pos hc) h
              refine v_aload_n 0 1 dX12_isOwnHere_359 rfl rfl ?_
              refine v_aload_n 0 1 dX12_isOwnHere_360 rfl rfl ?_
              obtain ⟨b122, e123, h⟩ := h
              refine v_gR 12 40 dX12_isOwnHere_361 fg_RX12_108 o101 e123 ?_
              refine v_cVi [.ref _] mv_X12_isHere ml_RX12_308 ⟨_, _, rfl⟩ o101 rfl rfl (Nat.le_of_ble_eq_true rfl) (Nat.le_of_ble_eq_true rfl) (Nat.le_of_ble_eq_true rfl) (Nat.zero_le _) (Nat.zero_le _) dX12_isOwnHere_364 (c_X12_isHere h) (fun r124 m125 h => ?_)
              refine v_if_eq 374 dX12_isOwnHere_367 (by decide) (fun hc => ?_) (fun hc => ?_)
              · replace h := Eq.mp (if_pos hc) h
                refine v_iconst (0 : Int32) dX12_isOwnHere_374 (by decide) ?_
                refine v_istore_n (ls' := [(1, .int _), (0, .ref _)]) 1 dX12_isOwnHere_375 rfl (Nat.le_of_ble_eq_true rfl) rfl ?_
                refine v_iload_n 1 0 dX12_isOwnHere_376 rfl rfl ?_
                exact v_iret dX12_isOwnHere_377 rfl (by decide) h
              · replace h := Eq.mp (if_neg hc) h
                refine v_sub [] rfl ?_
                exact v_X12_isOwnHere_p370 h
set_option maxHeartbeats 4000000 in
set_option maxRecDepth 100000 in
theorem v_X12_isOwnHere_p294 {G : Gl} {F : Fr} {sh : Shp} {v0 : Nat} {Q : Int32 → Mem → Prop} {m : Mem} (h : X12_isOwnHere_p294 sh v0 Q m) : V G F M_X12_isOwnHere sh 0 0 (Zi G F sh Q) 294 [(0, .ref (G.1 + v0))] [] m := by
  unfold X12_isOwnHere_p294 at h
  refine v_iconst (1 : Int32) dX12_isOwnHere_294 (by decide) ?_
  refine v_goto 299 dX12_isOwnHere_295 (by decide) ?_
  refine v_sub [0] rfl ?_
  exact v_X12_isOwnHere_p299 h
set_option maxHeartbeats 4000000 in
set_option maxRecDepth 100000 in
theorem v_X12_isOwnHere_p223 {G : Gl} {F : Fr} {sh : Shp} {v0 : Nat} {s0 : Int32} {Q : Int32 → Mem → Prop} {m : Mem} (h : X12_isOwnHere_p223 sh v0 s0 Q m) : V G F M_X12_isOwnHere sh 0 0 (Zi G F sh Q) 223 [(0, .ref (G.1 + v0))] [.int s0] m := by
  unfold X12_isOwnHere_p223 at h
  refine v_istore_n (ls' := [(1, .int _), (0, .ref _)]) 1 dX12_isOwnHere_223 rfl (Nat.le_of_ble_eq_true rfl) rfl ?_
  refine v_iload_n 1 0 dX12_isOwnHere_224 rfl rfl ?_
  refine v_if_ne 294 dX12_isOwnHere_225 (by decide) (fun hc => ?_) (fun hc => ?_)
  · replace h := Eq.mp (if_neg hc) h
    refine v_sub [1] rfl ?_
    exact v_X12_isOwnHere_p294 h
  · replace h := Eq.mp (if_pos hc) h
    refine v_aload_n 0 1 dX12_isOwnHere_228 rfl rfl ?_
    refine v_aload_n 0 1 dX12_isOwnHere_229 rfl rfl ?_
    obtain ⟨o76, h⟩ := h
    obtain ⟨b77, e78, h⟩ := h
    refine v_gR 12 29 dX12_isOwnHere_230 fg_RX12_75 o76 e78 ?_
    refine v_cVi [.ref _] mv_X12_isHere ml_RX12_308 ⟨_, _, rfl⟩ o76 rfl rfl (Nat.le_of_ble_eq_true rfl) (Nat.le_of_ble_eq_true rfl) (Nat.le_of_ble_eq_true rfl) (Nat.zero_le _) (Nat.zero_le _) dX12_isOwnHere_233 (c_X12_isHere h) (fun r79 m80 h => ?_)
    refine v_if_ne 294 dX12_isOwnHere_236 (by decide) (fun hc => ?_) (fun hc => ?_)
    · replace h := Eq.mp (if_neg hc) h
      refine v_sub [1] rfl ?_
      exact v_X12_isOwnHere_p294 h
    · replace h := Eq.mp (if_pos hc) h
      refine v_aload_n 0 1 dX12_isOwnHere_239 rfl rfl ?_
      refine v_aload_n 0 1 dX12_isOwnHere_240 rfl rfl ?_
      obtain ⟨b81, e82, h⟩ := h
      refine v_gR 12 30 dX12_isOwnHere_241 fg_RX12_78 o76 e82 ?_
      refine v_cVi [.ref _] mv_X12_isHere ml_RX12_308 ⟨_, _, rfl⟩ o76 rfl rfl (Nat.le_of_ble_eq_true rfl) (Nat.le_of_ble_eq_true rfl) (Nat.le_of_ble_eq_true rfl) (Nat.zero_le _) (Nat.zero_le _) dX12_isOwnHere_244 (c_X12_isHere h) (fun r83 m84 h => ?_)
      refine v_if_ne 294 dX12_isOwnHere_247 (by decide) (fun hc => ?_) (fun hc => ?_)
      · replace h := Eq.mp (if_neg hc) h
        refine v_sub [1] rfl ?_
        exact v_X12_isOwnHere_p294 h
      · replace h := Eq.mp (if_pos hc) h
        refine v_aload_n 0 1 dX12_isOwnHere_250 rfl rfl ?_
        refine v_aload_n 0 1 dX12_isOwnHere_251 rfl rfl ?_
        obtain ⟨b85, e86, h⟩ := h
        refine v_gR 12 31 dX12_isOwnHere_252 fg_RX12_81 o76 e86 ?_
        refine v_cVi [.ref _] mv_X12_isHere ml_RX12_308 ⟨_, _, rfl⟩ o76 rfl rfl (Nat.le_of_ble_eq_true rfl) (Nat.le_of_ble_eq_true rfl) (Nat.le_of_ble_eq_true rfl) (Nat.zero_le _) (Nat.zero_le _) dX12_isOwnHere_255 (c_X12_isHere h) (fun r87 m88 h => ?_)
        refine v_if_ne 294 dX12_isOwnHere_258 (by decide) (fun hc => ?_) (fun hc => ?_)
        · replace h := Eq.mp (if_neg hc) h
          refine v_sub [1] rfl ?_
          exact v_X12_isOwnHere_p294 h
        · replace h := Eq.mp (if_pos hc) h
          refine v_aload_n 0 1 dX12_isOwnHere_261 rfl rfl ?_
          refine v_aload_n 0 1 dX12_isOwnHere_262 rfl rfl ?_
          obtain ⟨b89, e90, h⟩ := h
          refine v_gR 12 32 dX12_isOwnHere_263 fg_RX12_84 o76 e90 ?_
          refine v_cVi [.ref _] mv_X12_isHere ml_RX12_308 ⟨_, _, rfl⟩ o76 rfl rfl (Nat.le_of_ble_eq_true rfl) (Nat.le_of_ble_eq_true rfl) (Nat.le_of_ble_eq_true rfl) (Nat.zero_le _) (Nat.zero_le _) dX12_isOwnHere_266 (c_X12_isHere h) (fun r91 m92 h => ?_)
          refine v_if_ne 294 dX12_isOwnHere_269 (by decide) (fun hc => ?_) (fun hc => ?_)
          · replace h := Eq.mp (if_neg hc) h
            refine v_sub [1] rfl ?_
            exact v_X12_isOwnHere_p294 h
          · replace h := Eq.mp (if_pos hc) h
            refine v_aload_n 0 1 dX12_isOwnHere_272 rfl rfl ?_
            refine v_aload_n 0 1 dX12_isOwnHere_273 rfl rfl ?_
            obtain ⟨b93, e94, h⟩ := h
            refine v_gR 12 33 dX12_isOwnHere_274 fg_RX12_87 o76 e94 ?_
            refine v_cVi [.ref _] mv_X12_isHere ml_RX12_308 ⟨_, _, rfl⟩ o76 rfl rfl (Nat.le_of_ble_eq_true rfl) (Nat.le_of_ble_eq_true rfl) (Nat.le_of_ble_eq_true rfl) (Nat.zero_le _) (Nat.zero_le _) dX12_isOwnHere_277 (c_X12_isHere h) (fun r95 m96 h => ?_)
            refine v_if_ne 294 dX12_isOwnHere_280 (by decide) (fun hc => ?_) (fun hc => ?_)
            · replace h := Eq.mp (if_neg hc) h
              refine v_sub [1] rfl ?_
              exact v_X12_isOwnHere_p294 h
            · replace h := Eq.mp (if_pos hc) h
              refine v_aload_n 0 1 dX12_isOwnHere_283 rfl rfl ?_
              refine v_aload_n 0 1 dX12_isOwnHere_284 rfl rfl ?_
              obtain ⟨b97, e98, h⟩ := h
              refine v_gR 12 34 dX12_isOwnHere_285 fg_RX12_90 o76 e98 ?_
              refine v_cVi [.ref _] mv_X12_isHere ml_RX12_308 ⟨_, _, rfl⟩ o76 rfl rfl (Nat.le_of_ble_eq_true rfl) (Nat.le_of_ble_eq_true rfl) (Nat.le_of_ble_eq_true rfl) (Nat.zero_le _) (Nat.zero_le _) dX12_isOwnHere_288 (c_X12_isHere h) (fun r99 m100 h => ?_)
              refine v_if_eq 298 dX12_isOwnHere_291 (by decide) (fun hc => ?_) (fun hc => ?_)
              · replace h := Eq.mp (if_pos hc) h
                refine v_iconst (0 : Int32) dX12_isOwnHere_298 (by decide) ?_
                refine v_sub [1] rfl ?_
                exact v_X12_isOwnHere_p299 h
              · replace h := Eq.mp (if_neg hc) h
                refine v_sub [1] rfl ?_
                exact v_X12_isOwnHere_p294 h
set_option maxHeartbeats 4000000 in
set_option maxRecDepth 100000 in
theorem v_X12_isOwnHere_p218 {G : Gl} {F : Fr} {sh : Shp} {v0 : Nat} {Q : Int32 → Mem → Prop} {m : Mem} (h : X12_isOwnHere_p218 sh v0 Q m) : V G F M_X12_isOwnHere sh 0 0 (Zi G F sh Q) 218 [(0, .ref (G.1 + v0))] [] m := by
  unfold X12_isOwnHere_p218 at h
  refine v_iconst (1 : Int32) dX12_isOwnHere_218 (by decide) ?_
  refine v_goto 223 dX12_isOwnHere_219 (by decide) ?_
  refine v_sub [0] rfl ?_
  exact v_X12_isOwnHere_p223 h
set_option maxHeartbeats 4000000 in
set_option maxRecDepth 100000 in
theorem v_X12_isOwnHere_p147 {G : Gl} {F : Fr} {sh : Shp} {v0 : Nat} {s0 : Int32} {Q : Int32 → Mem → Prop} {m : Mem} (h : X12_isOwnHere_p147 sh v0 s0 Q m) : V G F M_X12_isOwnHere sh 0 0 (Zi G F sh Q) 147 [(0, .ref (G.1 + v0))] [.int s0] m := by
  unfold X12_isOwnHere_p147 at h
  refine v_istore_n (ls' := [(1, .int _), (0, .ref _)]) 1 dX12_isOwnHere_147 rfl (Nat.le_of_ble_eq_true rfl) rfl ?_
  refine v_iload_n 1 0 dX12_isOwnHere_148 rfl rfl ?_
  refine v_if_ne 218 dX12_isOwnHere_149 (by decide) (fun hc => ?_) (fun hc => ?_)
  · replace h := Eq.mp (if_neg hc) h
    refine v_sub [1] rfl ?_
    exact v_X12_isOwnHere_p218 h
  · replace h := Eq.mp (if_pos hc) h
    refine v_aload_n 0 1 dX12_isOwnHere_152 rfl rfl ?_
    refine v_aload_n 0 1 dX12_isOwnHere_153 rfl rfl ?_
    obtain ⟨o51, h⟩ := h
    obtain ⟨b52, e53, h⟩ := h
    refine v_gR 12 23 dX12_isOwnHere_154 fg_RX12_57 o51 e53 ?_
    refine v_cVi [.ref _] mv_X12_isHere ml_RX12_308 ⟨_, _, rfl⟩ o51 rfl rfl (Nat.le_of_ble_eq_true rfl) (Nat.le_of_ble_eq_true rfl) (Nat.le_of_ble_eq_true rfl) (Nat.zero_le _) (Nat.zero_le _) dX12_isOwnHere_157 (c_X12_isHere h) (fun r54 m55 h => ?_)
    refine v_if_ne 218 dX12_isOwnHere_160 (by decide) (fun hc => ?_) (fun hc => ?_)
    · replace h := Eq.mp (if_neg hc) h
      refine v_sub [1] rfl ?_
      exact v_X12_isOwnHere_p218 h
    · replace h := Eq.mp (if_pos hc) h
      refine v_aload_n 0 1 dX12_isOwnHere_163 rfl rfl ?_
      refine v_aload_n 0 1 dX12_isOwnHere_164 rfl rfl ?_
      obtain ⟨b56, e57, h⟩ := h
      refine v_gR 12 24 dX12_isOwnHere_165 fg_RX12_60 o51 e57 ?_
      refine v_cVi [.ref _] mv_X12_isHere ml_RX12_308 ⟨_, _, rfl⟩ o51 rfl rfl (Nat.le_of_ble_eq_true rfl) (Nat.le_of_ble_eq_true rfl) (Nat.le_of_ble_eq_true rfl) (Nat.zero_le _) (Nat.zero_le _) dX12_isOwnHere_168 (c_X12_isHere h) (fun r58 m59 h => ?_)
      refine v_if_ne 218 dX12_isOwnHere_171 (by decide) (fun hc => ?_) (fun hc => ?_)
      · replace h := Eq.mp (if_neg hc) h
        refine v_sub [1] rfl ?_
        exact v_X12_isOwnHere_p218 h
      · replace h := Eq.mp (if_pos hc) h
        refine v_aload_n 0 1 dX12_isOwnHere_174 rfl rfl ?_
        refine v_aload_n 0 1 dX12_isOwnHere_175 rfl rfl ?_
        obtain ⟨b60, e61, h⟩ := h
        refine v_gR 12 25 dX12_isOwnHere_176 fg_RX12_63 o51 e61 ?_
        refine v_cVi [.ref _] mv_X12_isHere ml_RX12_308 ⟨_, _, rfl⟩ o51 rfl rfl (Nat.le_of_ble_eq_true rfl) (Nat.le_of_ble_eq_true rfl) (Nat.le_of_ble_eq_true rfl) (Nat.zero_le _) (Nat.zero_le _) dX12_isOwnHere_179 (c_X12_isHere h) (fun r62 m63 h => ?_)
        refine v_if_ne 218 dX12_isOwnHere_182 (by decide) (fun hc => ?_) (fun hc => ?_)
        · replace h := Eq.mp (if_neg hc) h
          refine v_sub [1] rfl ?_
          exact v_X12_isOwnHere_p218 h
        · replace h := Eq.mp (if_pos hc) h
          refine v_aload_n 0 1 dX12_isOwnHere_185 rfl rfl ?_
          refine v_aload_n 0 1 dX12_isOwnHere_186 rfl rfl ?_
          obtain ⟨b64, e65, h⟩ := h
          refine v_gR 12 26 dX12_isOwnHere_187 fg_RX12_66 o51 e65 ?_
          refine v_cVi [.ref _] mv_X12_isHere ml_RX12_308 ⟨_, _, rfl⟩ o51 rfl rfl (Nat.le_of_ble_eq_true rfl) (Nat.le_of_ble_eq_true rfl) (Nat.le_of_ble_eq_true rfl) (Nat.zero_le _) (Nat.zero_le _) dX12_isOwnHere_190 (c_X12_isHere h) (fun r66 m67 h => ?_)
          refine v_if_ne 218 dX12_isOwnHere_193 (by decide) (fun hc => ?_) (fun hc => ?_)
          · replace h := Eq.mp (if_neg hc) h
            refine v_sub [1] rfl ?_
            exact v_X12_isOwnHere_p218 h
          · replace h := Eq.mp (if_pos hc) h
            refine v_aload_n 0 1 dX12_isOwnHere_196 rfl rfl ?_
            refine v_aload_n 0 1 dX12_isOwnHere_197 rfl rfl ?_
            obtain ⟨b68, e69, h⟩ := h
            refine v_gR 12 27 dX12_isOwnHere_198 fg_RX12_69 o51 e69 ?_
            refine v_cVi [.ref _] mv_X12_isHere ml_RX12_308 ⟨_, _, rfl⟩ o51 rfl rfl (Nat.le_of_ble_eq_true rfl) (Nat.le_of_ble_eq_true rfl) (Nat.le_of_ble_eq_true rfl) (Nat.zero_le _) (Nat.zero_le _) dX12_isOwnHere_201 (c_X12_isHere h) (fun r70 m71 h => ?_)
            refine v_if_ne 218 dX12_isOwnHere_204 (by decide) (fun hc => ?_) (fun hc => ?_)
            · replace h := Eq.mp (if_neg hc) h
              refine v_sub [1] rfl ?_
              exact v_X12_isOwnHere_p218 h
            · replace h := Eq.mp (if_pos hc) h
              refine v_aload_n 0 1 dX12_isOwnHere_207 rfl rfl ?_
              refine v_aload_n 0 1 dX12_isOwnHere_208 rfl rfl ?_
              obtain ⟨b72, e73, h⟩ := h
              refine v_gR 12 28 dX12_isOwnHere_209 fg_RX12_72 o51 e73 ?_
              refine v_cVi [.ref _] mv_X12_isHere ml_RX12_308 ⟨_, _, rfl⟩ o51 rfl rfl (Nat.le_of_ble_eq_true rfl) (Nat.le_of_ble_eq_true rfl) (Nat.le_of_ble_eq_true rfl) (Nat.zero_le _) (Nat.zero_le _) dX12_isOwnHere_212 (c_X12_isHere h) (fun r74 m75 h => ?_)
              refine v_if_eq 222 dX12_isOwnHere_215 (by decide) (fun hc => ?_) (fun hc => ?_)
              · replace h := Eq.mp (if_pos hc) h
                refine v_iconst (0 : Int32) dX12_isOwnHere_222 (by decide) ?_
                refine v_sub [1] rfl ?_
                exact v_X12_isOwnHere_p223 h
              · replace h := Eq.mp (if_neg hc) h
                refine v_sub [1] rfl ?_
                exact v_X12_isOwnHere_p218 h
set_option maxHeartbeats 4000000 in
set_option maxRecDepth 100000 in
theorem v_X12_isOwnHere_p142 {G : Gl} {F : Fr} {sh : Shp} {v0 : Nat} {Q : Int32 → Mem → Prop} {m : Mem} (h : X12_isOwnHere_p142 sh v0 Q m) : V G F M_X12_isOwnHere sh 0 0 (Zi G F sh Q) 142 [(0, .ref (G.1 + v0))] [] m := by
  unfold X12_isOwnHere_p142 at h
  refine v_iconst (1 : Int32) dX12_isOwnHere_142 (by decide) ?_
  refine v_goto 147 dX12_isOwnHere_143 (by decide) ?_
  refine v_sub [0] rfl ?_
  exact v_X12_isOwnHere_p147 h
set_option maxHeartbeats 4000000 in
set_option maxRecDepth 100000 in
theorem v_X12_isOwnHere_p71 {G : Gl} {F : Fr} {sh : Shp} {v0 : Nat} {s0 : Int32} {Q : Int32 → Mem → Prop} {m : Mem} (h : X12_isOwnHere_p71 sh v0 s0 Q m) : V G F M_X12_isOwnHere sh 0 0 (Zi G F sh Q) 71 [(0, .ref (G.1 + v0))] [.int s0] m := by
  unfold X12_isOwnHere_p71 at h
  refine v_istore_n (ls' := [(1, .int _), (0, .ref _)]) 1 dX12_isOwnHere_71 rfl (Nat.le_of_ble_eq_true rfl) rfl ?_
  refine v_iload_n 1 0 dX12_isOwnHere_72 rfl rfl ?_
  refine v_if_ne 142 dX12_isOwnHere_73 (by decide) (fun hc => ?_) (fun hc => ?_)
  · replace h := Eq.mp (if_neg hc) h
    refine v_sub [1] rfl ?_
    exact v_X12_isOwnHere_p142 h
  · replace h := Eq.mp (if_pos hc) h
    refine v_aload_n 0 1 dX12_isOwnHere_76 rfl rfl ?_
    refine v_aload_n 0 1 dX12_isOwnHere_77 rfl rfl ?_
    obtain ⟨o26, h⟩ := h
    obtain ⟨b27, e28, h⟩ := h
    refine v_gR 12 17 dX12_isOwnHere_78 fg_RX12_39 o26 e28 ?_
    refine v_cVi [.ref _] mv_X12_isHere ml_RX12_308 ⟨_, _, rfl⟩ o26 rfl rfl (Nat.le_of_ble_eq_true rfl) (Nat.le_of_ble_eq_true rfl) (Nat.le_of_ble_eq_true rfl) (Nat.zero_le _) (Nat.zero_le _) dX12_isOwnHere_81 (c_X12_isHere h) (fun r29 m30 h => ?_)
    refine v_if_ne 142 dX12_isOwnHere_84 (by decide) (fun hc => ?_) (fun hc => ?_)
    · replace h := Eq.mp (if_neg hc) h
      refine v_sub [1] rfl ?_
      exact v_X12_isOwnHere_p142 h
    · replace h := Eq.mp (if_pos hc) h
      refine v_aload_n 0 1 dX12_isOwnHere_87 rfl rfl ?_
      refine v_aload_n 0 1 dX12_isOwnHere_88 rfl rfl ?_
      obtain ⟨b31, e32, h⟩ := h
      refine v_gR 12 18 dX12_isOwnHere_89 fg_RX12_42 o26 e32 ?_
      refine v_cVi [.ref _] mv_X12_isHere ml_RX12_308 ⟨_, _, rfl⟩ o26 rfl rfl (Nat.le_of_ble_eq_true rfl) (Nat.le_of_ble_eq_true rfl) (Nat.le_of_ble_eq_true rfl) (Nat.zero_le _) (Nat.zero_le _) dX12_isOwnHere_92 (c_X12_isHere h) (fun r33 m34 h => ?_)
      refine v_if_ne 142 dX12_isOwnHere_95 (by decide) (fun hc => ?_) (fun hc => ?_)
      · replace h := Eq.mp (if_neg hc) h
        refine v_sub [1] rfl ?_
        exact v_X12_isOwnHere_p142 h
      · replace h := Eq.mp (if_pos hc) h
        refine v_aload_n 0 1 dX12_isOwnHere_98 rfl rfl ?_
        refine v_aload_n 0 1 dX12_isOwnHere_99 rfl rfl ?_
        obtain ⟨b35, e36, h⟩ := h
        refine v_gR 12 19 dX12_isOwnHere_100 fg_RX12_45 o26 e36 ?_
        refine v_cVi [.ref _] mv_X12_isHere ml_RX12_308 ⟨_, _, rfl⟩ o26 rfl rfl (Nat.le_of_ble_eq_true rfl) (Nat.le_of_ble_eq_true rfl) (Nat.le_of_ble_eq_true rfl) (Nat.zero_le _) (Nat.zero_le _) dX12_isOwnHere_103 (c_X12_isHere h) (fun r37 m38 h => ?_)
        refine v_if_ne 142 dX12_isOwnHere_106 (by decide) (fun hc => ?_) (fun hc => ?_)
        · replace h := Eq.mp (if_neg hc) h
          refine v_sub [1] rfl ?_
          exact v_X12_isOwnHere_p142 h
        · replace h := Eq.mp (if_pos hc) h
          refine v_aload_n 0 1 dX12_isOwnHere_109 rfl rfl ?_
          refine v_aload_n 0 1 dX12_isOwnHere_110 rfl rfl ?_
          obtain ⟨b39, e40, h⟩ := h
          refine v_gR 12 20 dX12_isOwnHere_111 fg_RX12_48 o26 e40 ?_
          refine v_cVi [.ref _] mv_X12_isHere ml_RX12_308 ⟨_, _, rfl⟩ o26 rfl rfl (Nat.le_of_ble_eq_true rfl) (Nat.le_of_ble_eq_true rfl) (Nat.le_of_ble_eq_true rfl) (Nat.zero_le _) (Nat.zero_le _) dX12_isOwnHere_114 (c_X12_isHere h) (fun r41 m42 h => ?_)
          refine v_if_ne 142 dX12_isOwnHere_117 (by decide) (fun hc => ?_) (fun hc => ?_)
          · replace h := Eq.mp (if_neg hc) h
            refine v_sub [1] rfl ?_
            exact v_X12_isOwnHere_p142 h
          · replace h := Eq.mp (if_pos hc) h
            refine v_aload_n 0 1 dX12_isOwnHere_120 rfl rfl ?_
            refine v_aload_n 0 1 dX12_isOwnHere_121 rfl rfl ?_
            obtain ⟨b43, e44, h⟩ := h
            refine v_gR 12 21 dX12_isOwnHere_122 fg_RX12_51 o26 e44 ?_
            refine v_cVi [.ref _] mv_X12_isHere ml_RX12_308 ⟨_, _, rfl⟩ o26 rfl rfl (Nat.le_of_ble_eq_true rfl) (Nat.le_of_ble_eq_true rfl) (Nat.le_of_ble_eq_true rfl) (Nat.zero_le _) (Nat.zero_le _) dX12_isOwnHere_125 (c_X12_isHere h) (fun r45 m46 h => ?_)
            refine v_if_ne 142 dX12_isOwnHere_128 (by decide) (fun hc => ?_) (fun hc => ?_)
            · replace h := Eq.mp (if_neg hc) h
              refine v_sub [1] rfl ?_
              exact v_X12_isOwnHere_p142 h
            · replace h := Eq.mp (if_pos hc) h
              refine v_aload_n 0 1 dX12_isOwnHere_131 rfl rfl ?_
              refine v_aload_n 0 1 dX12_isOwnHere_132 rfl rfl ?_
              obtain ⟨b47, e48, h⟩ := h
              refine v_gR 12 22 dX12_isOwnHere_133 fg_RX12_54 o26 e48 ?_
              refine v_cVi [.ref _] mv_X12_isHere ml_RX12_308 ⟨_, _, rfl⟩ o26 rfl rfl (Nat.le_of_ble_eq_true rfl) (Nat.le_of_ble_eq_true rfl) (Nat.le_of_ble_eq_true rfl) (Nat.zero_le _) (Nat.zero_le _) dX12_isOwnHere_136 (c_X12_isHere h) (fun r49 m50 h => ?_)
              refine v_if_eq 146 dX12_isOwnHere_139 (by decide) (fun hc => ?_) (fun hc => ?_)
              · replace h := Eq.mp (if_pos hc) h
                refine v_iconst (0 : Int32) dX12_isOwnHere_146 (by decide) ?_
                refine v_sub [1] rfl ?_
                exact v_X12_isOwnHere_p147 h
              · replace h := Eq.mp (if_neg hc) h
                refine v_sub [1] rfl ?_
                exact v_X12_isOwnHere_p142 h
set_option maxHeartbeats 4000000 in
set_option maxRecDepth 100000 in
theorem v_X12_isOwnHere_p66 {G : Gl} {F : Fr} {sh : Shp} {v0 : Nat} {Q : Int32 → Mem → Prop} {m : Mem} (h : X12_isOwnHere_p66 sh v0 Q m) : V G F M_X12_isOwnHere sh 0 0 (Zi G F sh Q) 66 [(0, .ref (G.1 + v0))] [] m := by
  unfold X12_isOwnHere_p66 at h
  refine v_iconst (1 : Int32) dX12_isOwnHere_66 (by decide) ?_
  refine v_goto 71 dX12_isOwnHere_67 (by decide) ?_
  refine v_sub [0] rfl ?_
  exact v_X12_isOwnHere_p71 h
set_option maxHeartbeats 4000000 in
set_option maxRecDepth 100000 in
theorem c_X12_isOwnHere {l : Launch} {G : Gl} {sh : Shp} {v0 : Nat} {Q : Int32 → Mem → Prop} {m : Mem} (h : wp_X12_isOwnHere sh v0 Q m) : Cni l G yX12_isOwnHere cX12_isOwnHere 2 (Option.some FieldType.boolean) 3 103 sh [.ref (G.1 + v0)] m Q := by
  refine con_i (ls := [(0, .ref (G.1 + v0))]) (by decide +kernel) rfl (Nat.le_of_ble_eq_true rfl) (fun F => ?_)
  show V G F M_X12_isOwnHere sh 0 0 (Zi G F sh Q) 0 [(0, .ref (G.1 + v0))] [] m
  unfold wp_X12_isOwnHere at h
  refine v_aload_n 0 0 dX12_isOwnHere_0 rfl rfl ?_
  refine v_aload_n 0 0 dX12_isOwnHere_1 rfl rfl ?_
  obtain ⟨o1, h⟩ := h
  obtain ⟨b2, e3, h⟩ := h
  refine v_gR 12 11 dX12_isOwnHere_2 fg_RX12_20 o1 e3 ?_
  refine v_cVi [.ref _] mv_X12_isHere ml_RX12_308 ⟨_, _, rfl⟩ o1 rfl rfl (Nat.le_of_ble_eq_true rfl) (Nat.le_of_ble_eq_true rfl) (Nat.le_of_ble_eq_true rfl) (Nat.zero_le _) (Nat.zero_le _) dX12_isOwnHere_5 (c_X12_isHere h) (fun r4 m5 h => ?_)
  refine v_if_ne 66 dX12_isOwnHere_8 (by decide) (fun hc => ?_) (fun hc => ?_)
  · replace h := Eq.mp (if_neg hc) h
    refine v_sub [0] rfl ?_
    exact v_X12_isOwnHere_p66 h
  · replace h := Eq.mp (if_pos hc) h
    refine v_aload_n 0 0 dX12_isOwnHere_11 rfl rfl ?_
    refine v_aload_n 0 0 dX12_isOwnHere_12 rfl rfl ?_
    obtain ⟨b6, e7, h⟩ := h
    refine v_gR 12 12 dX12_isOwnHere_13 fg_RX12_24 o1 e7 ?_
    refine v_cVi [.ref _] mv_X12_isHere ml_RX12_308 ⟨_, _, rfl⟩ o1 rfl rfl (Nat.le_of_ble_eq_true rfl) (Nat.le_of_ble_eq_true rfl) (Nat.le_of_ble_eq_true rfl) (Nat.zero_le _) (Nat.zero_le _) dX12_isOwnHere_16 (c_X12_isHere h) (fun r8 m9 h => ?_)
    refine v_if_ne 66 dX12_isOwnHere_19 (by decide) (fun hc => ?_) (fun hc => ?_)
    · replace h := Eq.mp (if_neg hc) h
      refine v_sub [0] rfl ?_
      exact v_X12_isOwnHere_p66 h
    · replace h := Eq.mp (if_pos hc) h
      refine v_aload_n 0 0 dX12_isOwnHere_22 rfl rfl ?_
      refine v_aload_n 0 0 dX12_isOwnHere_23 rfl rfl ?_
      obtain ⟨b10, e11, h⟩ := h
      refine v_gR 12 13 dX12_isOwnHere_24 fg_RX12_27 o1 e11 ?_
      refine v_cVi [.ref _] mv_X12_isHere ml_RX12_308 ⟨_, _, rfl⟩ o1 rfl rfl (Nat.le_of_ble_eq_true rfl) (Nat.le_of_ble_eq_true rfl) (Nat.le_of_ble_eq_true rfl) (Nat.zero_le _) (Nat.zero_le _) dX12_isOwnHere_27 (c_X12_isHere h) (fun r12 m13 h => ?_)
      refine v_if_ne 66 dX12_isOwnHere_30 (by decide) (fun hc => ?_) (fun hc => ?_)
      · replace h := Eq.mp (if_neg hc) h
        refine v_sub [0] rfl ?_
        exact v_X12_isOwnHere_p66 h
      · replace h := Eq.mp (if_pos hc) h
        refine v_aload_n 0 0 dX12_isOwnHere_33 rfl rfl ?_
        refine v_aload_n 0 0 dX12_isOwnHere_34 rfl rfl ?_
        obtain ⟨b14, e15, h⟩ := h
        refine v_gR 12 14 dX12_isOwnHere_35 fg_RX12_30 o1 e15 ?_
        refine v_cVi [.ref _] mv_X12_isHere ml_RX12_308 ⟨_, _, rfl⟩ o1 rfl rfl (Nat.le_of_ble_eq_true rfl) (Nat.le_of_ble_eq_true rfl) (Nat.le_of_ble_eq_true rfl) (Nat.zero_le _) (Nat.zero_le _) dX12_isOwnHere_38 (c_X12_isHere h) (fun r16 m17 h => ?_)
        refine v_if_ne 66 dX12_isOwnHere_41 (by decide) (fun hc => ?_) (fun hc => ?_)
        · replace h := Eq.mp (if_neg hc) h
          refine v_sub [0] rfl ?_
          exact v_X12_isOwnHere_p66 h
        · replace h := Eq.mp (if_pos hc) h
          refine v_aload_n 0 0 dX12_isOwnHere_44 rfl rfl ?_
          refine v_aload_n 0 0 dX12_isOwnHere_45 rfl rfl ?_
          obtain ⟨b18, e19, h⟩ := h
          refine v_gR 12 15 dX12_isOwnHere_46 fg_RX12_33 o1 e19 ?_
          refine v_cVi [.ref _] mv_X12_isHere ml_RX12_308 ⟨_, _, rfl⟩ o1 rfl rfl (Nat.le_of_ble_eq_true rfl) (Nat.le_of_ble_eq_true rfl) (Nat.le_of_ble_eq_true rfl) (Nat.zero_le _) (Nat.zero_le _) dX12_isOwnHere_49 (c_X12_isHere h) (fun r20 m21 h => ?_)
          refine v_if_ne 66 dX12_isOwnHere_52 (by decide) (fun hc => ?_) (fun hc => ?_)
          · replace h := Eq.mp (if_neg hc) h
            refine v_sub [0] rfl ?_
            exact v_X12_isOwnHere_p66 h
          · replace h := Eq.mp (if_pos hc) h
            refine v_aload_n 0 0 dX12_isOwnHere_55 rfl rfl ?_
            refine v_aload_n 0 0 dX12_isOwnHere_56 rfl rfl ?_
            obtain ⟨b22, e23, h⟩ := h
            refine v_gR 12 16 dX12_isOwnHere_57 fg_RX12_36 o1 e23 ?_
            refine v_cVi [.ref _] mv_X12_isHere ml_RX12_308 ⟨_, _, rfl⟩ o1 rfl rfl (Nat.le_of_ble_eq_true rfl) (Nat.le_of_ble_eq_true rfl) (Nat.le_of_ble_eq_true rfl) (Nat.zero_le _) (Nat.zero_le _) dX12_isOwnHere_60 (c_X12_isHere h) (fun r24 m25 h => ?_)
            refine v_if_eq 70 dX12_isOwnHere_63 (by decide) (fun hc => ?_) (fun hc => ?_)
            · replace h := Eq.mp (if_pos hc) h
              refine v_iconst (0 : Int32) dX12_isOwnHere_70 (by decide) ?_
              refine v_sub [0] rfl ?_
              exact v_X12_isOwnHere_p71 h
            · replace h := Eq.mp (if_neg hc) h
              refine v_sub [0] rfl ?_
              exact v_X12_isOwnHere_p66 h
/-! CalledRiverModel.name -/
theorem dX12_name_0 : decode cX12_name 0 = .ok (.aload_n 0, 1) := by decide +kernel
theorem dX12_name_1 : decode cX12_name 1 = .ok (.getfield 285, 3) := by decide +kernel
theorem dX12_name_4 : decode cX12_name 4 = .ok (.ifCond .eq 5, 3) := by decide +kernel
theorem dX12_name_7 : decode cX12_name 7 = .ok (.lconst 0, 1) := by decide +kernel
theorem dX12_name_8 : decode cX12_name 8 = .ok (.lreturn, 1) := by decide +kernel
theorem dX12_name_9 : decode cX12_name 9 = .ok (.aload_n 0, 1) := by decide +kernel
theorem dX12_name_10 : decode cX12_name 10 = .ok (.invokevirtual 297, 3) := by decide +kernel
theorem dX12_name_13 : decode cX12_name 13 = .ok (.invokestatic 301, 3) := by decide +kernel
theorem dX12_name_16 : decode cX12_name 16 = .ok (.ifCond .eq 21, 3) := by decide +kernel
theorem dX12_name_19 : decode cX12_name 19 = .ok (.aload_n 0, 1) := by decide +kernel
theorem dX12_name_20 : decode cX12_name 20 = .ok (.getfield 291, 3) := by decide +kernel
theorem dX12_name_23 : decode cX12_name 23 = .ok (.aload_n 0, 1) := by decide +kernel
theorem dX12_name_24 : decode cX12_name 24 = .ok (.getfield 305, 3) := by decide +kernel
theorem dX12_name_27 : decode cX12_name 27 = .ok (.if_icmp .eq 10, 3) := by decide +kernel
theorem dX12_name_30 : decode cX12_name 30 = .ok (.aload_n 0, 1) := by decide +kernel
theorem dX12_name_31 : decode cX12_name 31 = .ok (.invokevirtual 332, 3) := by decide +kernel
theorem dX12_name_34 : decode cX12_name 34 = .ok (.ifCond .eq 14, 3) := by decide +kernel
theorem dX12_name_37 : decode cX12_name 37 = .ok (.aload_n 0, 1) := by decide +kernel
theorem dX12_name_38 : decode cX12_name 38 = .ok (.iconst 1, 1) := by decide +kernel
theorem dX12_name_39 : decode cX12_name 39 = .ok (.aload_n 0, 1) := by decide +kernel
theorem dX12_name_40 : decode cX12_name 40 = .ok (.getfield 291, 3) := by decide +kernel
theorem dX12_name_43 : decode cX12_name 43 = .ok (.invokevirtual 315, 3) := by decide +kernel
theorem dX12_name_46 : decode cX12_name 46 = .ok (.lconst 0, 1) := by decide +kernel
theorem dX12_name_47 : decode cX12_name 47 = .ok (.lreturn, 1) := by decide +kernel
theorem dX12_name_48 : decode cX12_name 48 = .ok (.aload_n 0, 1) := by decide +kernel
theorem dX12_name_49 : decode cX12_name 49 = .ok (.aload_n 0, 1) := by decide +kernel
theorem dX12_name_50 : decode cX12_name 50 = .ok (.getfield 291, 3) := by decide +kernel
theorem dX12_name_53 : decode cX12_name 53 = .ok (.putfield 336, 3) := by decide +kernel
theorem dX12_name_56 : decode cX12_name 56 = .ok (.lconst 0, 1) := by decide +kernel
theorem dX12_name_57 : decode cX12_name 57 = .ok (.lstore_n 1, 1) := by decide +kernel
theorem dX12_name_58 : decode cX12_name 58 = .ok (.aload_n 0, 1) := by decide +kernel
theorem dX12_name_59 : decode cX12_name 59 = .ok (.getfield 291, 3) := by decide +kernel
theorem dX12_name_62 : decode cX12_name 62 = .ok (.aload_n 0, 1) := by decide +kernel
theorem dX12_name_63 : decode cX12_name 63 = .ok (.getfield 294, 3) := by decide +kernel
theorem dX12_name_66 : decode cX12_name 66 = .ok (.if_icmp .ge 79, 3) := by decide +kernel
theorem dX12_name_69 : decode cX12_name 69 = .ok (.aload_n 0, 1) := by decide +kernel
theorem dX12_name_70 : decode cX12_name 70 = .ok (.getfield 7, 3) := by decide +kernel
theorem dX12_name_73 : decode cX12_name 73 = .ok (.aload_n 0, 1) := by decide +kernel
theorem dX12_name_74 : decode cX12_name 74 = .ok (.getfield 291, 3) := by decide +kernel
theorem dX12_name_77 : decode cX12_name 77 = .ok (.iaload, 1) := by decide +kernel
theorem dX12_name_78 : decode cX12_name 78 = .ok (.invokestatic 301, 3) := by decide +kernel
theorem dX12_name_81 : decode cX12_name 81 = .ok (.ifCond .eq 64, 3) := by decide +kernel
theorem dX12_name_84 : decode cX12_name 84 = .ok (.aload_n 0, 1) := by decide +kernel
theorem dX12_name_85 : decode cX12_name 85 = .ok (.getfield 291, 3) := by decide +kernel
theorem dX12_name_88 : decode cX12_name 88 = .ok (.aload_n 0, 1) := by decide +kernel
theorem dX12_name_89 : decode cX12_name 89 = .ok (.getfield 336, 3) := by decide +kernel
theorem dX12_name_92 : decode cX12_name 92 = .ok (.isub, 1) := by decide +kernel
theorem dX12_name_93 : decode cX12_name 93 = .ok (.bipush 6, 2) := by decide +kernel
theorem dX12_name_95 : decode cX12_name 95 = .ok (.if_icmp .ne 14, 3) := by decide +kernel
theorem dX12_name_98 : decode cX12_name 98 = .ok (.aload_n 0, 1) := by decide +kernel
theorem dX12_name_99 : decode cX12_name 99 = .ok (.iconst 1, 1) := by decide +kernel
theorem dX12_name_100 : decode cX12_name 100 = .ok (.aload_n 0, 1) := by decide +kernel
theorem dX12_name_101 : decode cX12_name 101 = .ok (.getfield 291, 3) := by decide +kernel
theorem dX12_name_104 : decode cX12_name 104 = .ok (.invokevirtual 315, 3) := by decide +kernel
theorem dX12_name_107 : decode cX12_name 107 = .ok (.lconst 0, 1) := by decide +kernel
theorem dX12_name_108 : decode cX12_name 108 = .ok (.lreturn, 1) := by decide +kernel
theorem dX12_name_109 : decode cX12_name 109 = .ok (.ldc2_w 339, 3) := by decide +kernel
theorem dX12_name_112 : decode cX12_name 112 = .ok (.lload_n 1, 1) := by decide +kernel
theorem dX12_name_113 : decode cX12_name 113 = .ok (.lmul, 1) := by decide +kernel
theorem dX12_name_114 : decode cX12_name 114 = .ok (.aload_n 0, 1) := by decide +kernel
theorem dX12_name_115 : decode cX12_name 115 = .ok (.getfield 7, 3) := by decide +kernel
theorem dX12_name_118 : decode cX12_name 118 = .ok (.aload_n 0, 1) := by decide +kernel
theorem dX12_name_119 : decode cX12_name 119 = .ok (.getfield 291, 3) := by decide +kernel
theorem dX12_name_122 : decode cX12_name 122 = .ok (.iaload, 1) := by decide +kernel
theorem dX12_name_123 : decode cX12_name 123 = .ok (.i2l, 1) := by decide +kernel
theorem dX12_name_124 : decode cX12_name 124 = .ok (.ladd, 1) := by decide +kernel
theorem dX12_name_125 : decode cX12_name 125 = .ok (.ldc2_w 341, 3) := by decide +kernel
theorem dX12_name_128 : decode cX12_name 128 = .ok (.lsub, 1) := by decide +kernel
theorem dX12_name_129 : decode cX12_name 129 = .ok (.lconst 1, 1) := by decide +kernel
theorem dX12_name_130 : decode cX12_name 130 = .ok (.ladd, 1) := by decide +kernel
theorem dX12_name_131 : decode cX12_name 131 = .ok (.lstore_n 1, 1) := by decide +kernel
theorem dX12_name_132 : decode cX12_name 132 = .ok (.aload_n 0, 1) := by decide +kernel
theorem dX12_name_133 : decode cX12_name 133 = .ok (.dup, 1) := by decide +kernel
theorem dX12_name_134 : decode cX12_name 134 = .ok (.getfield 291, 3) := by decide +kernel
theorem dX12_name_137 : decode cX12_name 137 = .ok (.iconst 1, 1) := by decide +kernel
theorem dX12_name_138 : decode cX12_name 138 = .ok (.iadd, 1) := by decide +kernel
theorem dX12_name_139 : decode cX12_name 139 = .ok (.putfield 291, 3) := by decide +kernel
theorem dX12_name_142 : decode cX12_name 142 = .ok (.goto (-84), 3) := by decide +kernel
theorem dX12_name_145 : decode cX12_name 145 = .ok (.aload_n 0, 1) := by decide +kernel
theorem dX12_name_146 : decode cX12_name 146 = .ok (.aload_n 0, 1) := by decide +kernel
theorem dX12_name_147 : decode cX12_name 147 = .ok (.getfield 291, 3) := by decide +kernel
theorem dX12_name_150 : decode cX12_name 150 = .ok (.putfield 305, 3) := by decide +kernel
theorem dX12_name_153 : decode cX12_name 153 = .ok (.lload_n 1, 1) := by decide +kernel
theorem dX12_name_154 : decode cX12_name 154 = .ok (.lreturn, 1) := by decide +kernel
def X12_name_p37 (sh : Shp) (v0 : Nat) (Q : Int64 → Mem → Prop) (m : Mem) : Prop :=
  Ob sh v0 12 ∧ (wp_X12_fail sh v0 (1 : Int32) (m.1 v0 2) (fun m11 => Q (0 : Int64) m11) m)
def X12_name_p145 (sh : Shp) (v0 : Nat) (v1 : Int64) (Q : Int64 → Mem → Prop) (m : Mem) : Prop :=
  Ob sh v0 12 ∧ (bnd (sI m v0 4 (m.1 v0 2)) (fun m25 => Q v1 m25))
def X12_name_p58b (sh : Shp) (v0 : Nat) (Q : Int64 → Mem → Prop) (K58 : Int64 → Mem → Prop) (v1 : Int64) (m : Mem) : Prop :=
  Ob sh v0 12 ∧ (if (m.1 v0 3) ≤ (m.1 v0 2) then (X12_name_p145 sh v0 v1 Q m) else (∃ b13 : Nat, m.2.2 v0 0 = some b13 ∧ (Ix sh b13 100 (m.1 v0 2) ∧ (wp_X12_isLetter sh (m.1 b13 (m.1 v0 2).toNatClampNeg) (fun r16 m17 => if r16 = 0 then (X12_name_p145 sh v0 v1 Q m17) else (if ((m17.1 v0 2) - (m17.1 v0 41)) = (6 : Int32) then (wp_X12_fail sh v0 (1 : Int32) (m17.1 v0 2) (fun m23 => Q (0 : Int64) m23) m17) else (∃ b18 : Nat, m17.2.2 v0 0 = some b18 ∧ (Ix sh b18 100 (m17.1 v0 2) ∧ (bnd (sI m17 v0 2 ((m17.1 v0 2) + (1 : Int32))) (fun m21 => K58 (((((27 : Int64) * v1) + (m17.1 b18 (m17.1 v0 2).toNatClampNeg).toInt64) - (97 : Int64)) + (1 : Int64)) m21)))))) m))))
def X12_name_p58n (sh : Shp) (v0 : Nat) (Q : Int64 → Mem → Prop) : Nat → Int64 → Mem → Prop
  | 0 => fun _ _ => False
  | n + 1 => X12_name_p58b sh v0 Q (X12_name_p58n sh v0 Q n)
def X12_name_p58 (sh : Shp) (v0 : Nat) (Q : Int64 → Mem → Prop) (v1 : Int64) (m : Mem) : Prop := ∃ n, X12_name_p58n sh v0 Q n v1 m
def wp_X12_name (sh : Shp) (v0 : Nat) (Q : Int64 → Mem → Prop) (m : Mem) : Prop :=
  Ob sh v0 12 ∧ (if (m.1 v0 5) = 0 then (wp_X12_look sh v0 (fun r2 m3 => wp_X12_isLetter sh r2 (fun r4 m5 => if r4 = 0 then (X12_name_p37 sh v0 Q m5) else (if (m5.1 v0 2) = (m5.1 v0 4) then (X12_name_p37 sh v0 Q m5) else (wp_X12_isOwnHere sh v0 (fun r6 m7 => if r6 = 0 then (bnd (sI m7 v0 41 (m7.1 v0 2)) (fun m8 => X12_name_p58 sh v0 Q (0 : Int64) m8)) else (X12_name_p37 sh v0 Q m7)) m5))) m3) m) else (Q (0 : Int64) m))
abbrev M_X12_name : Mi := (cX12_name, 3, RX12, (Option.some FieldType.long), "name", 4, 124, 0, 0)
set_option maxHeartbeats 4000000 in
set_option maxRecDepth 100000 in
theorem v_X12_name_p37 {G : Gl} {F : Fr} {sh : Shp} {v0 : Nat} {Q : Int64 → Mem → Prop} {m : Mem} (h : X12_name_p37 sh v0 Q m) : V G F M_X12_name sh 0 0 (Zl G F sh Q) 37 [(0, .ref (G.1 + v0))] [] m := by
  unfold X12_name_p37 at h
  refine v_aload_n 0 0 dX12_name_37 rfl rfl ?_
  refine v_iconst (1 : Int32) dX12_name_38 (by decide) ?_
  refine v_aload_n 0 0 dX12_name_39 rfl rfl ?_
  obtain ⟨o9, h⟩ := h
  refine v_gI 12 2 dX12_name_40 fg_RX12_291 o9 ?_
  refine v_cVv [.int _, .int _] mv_X12_fail ml_RX12_315 ⟨_, _, rfl⟩ o9 rfl rfl (Nat.le_of_ble_eq_true rfl) (Nat.le_of_ble_eq_true rfl) (Nat.le_of_ble_eq_true rfl) (Nat.zero_le _) (Nat.zero_le _) dX12_name_43 (c_X12_fail h) (fun m11 h => ?_)
  refine v_lconst (0 : Int64) dX12_name_46 (by decide) ?_
  exact v_lret dX12_name_47 rfl h
set_option maxHeartbeats 4000000 in
set_option maxRecDepth 100000 in
theorem v_X12_name_p145 {G : Gl} {F : Fr} {sh : Shp} {v0 : Nat} {v1 : Int64} {Q : Int64 → Mem → Prop} {m : Mem} (h : X12_name_p145 sh v0 v1 Q m) : V G F M_X12_name sh 0 0 (Zl G F sh Q) 145 [(0, .ref (G.1 + v0)), (1, .long v1)] [] m := by
  unfold X12_name_p145 at h
  refine v_aload_n 0 0 dX12_name_145 rfl rfl ?_
  refine v_aload_n 0 0 dX12_name_146 rfl rfl ?_
  obtain ⟨o24, h⟩ := h
  refine v_gI 12 2 dX12_name_147 fg_RX12_291 o24 ?_
  refine v_pI 12 4 dX12_name_150 fw_RX12_305 o24 ?_
  replace h := bnd_e h
  refine v_lload_n 1 1 dX12_name_153 rfl rfl ?_
  exact v_lret dX12_name_154 rfl h
set_option maxHeartbeats 4000000 in
set_option maxRecDepth 100000 in
theorem v_X12_name_p58b {G : Gl} {F : Fr} {sh : Shp} {v0 : Nat} {v1 : Int64} {Q : Int64 → Mem → Prop} {K58 : Int64 → Mem → Prop} {m : Mem} (hK58 : ∀ (x1 : Int64) (m : Mem), K58 x1 m → V G F M_X12_name sh 0 0 (Zl G F sh Q) 58 [(0, .ref (G.1 + v0)), (1, .long x1)] [] m) (h : X12_name_p58b sh v0 Q K58 v1 m) : V G F M_X12_name sh 0 0 (Zl G F sh Q) 58 [(0, .ref (G.1 + v0)), (1, .long v1)] [] m := by
  unfold X12_name_p58b at h
  refine v_aload_n 0 0 dX12_name_58 rfl rfl ?_
  obtain ⟨o12, h⟩ := h
  refine v_gI 12 2 dX12_name_59 fg_RX12_291 o12 ?_
  refine v_aload_n 0 0 dX12_name_62 rfl rfl ?_
  refine v_gI 12 3 dX12_name_63 fg_RX12_294 o12 ?_
  refine v_icmp_ge 145 dX12_name_66 (by decide) (fun hc => ?_) (fun hc => ?_)
  · replace h := Eq.mp (if_pos hc) h
    refine v_sub [0, 1] rfl ?_
    exact v_X12_name_p145 h
  · replace h := Eq.mp (if_neg hc) h
    refine v_aload_n 0 0 dX12_name_69 rfl rfl ?_
    obtain ⟨b13, e14, h⟩ := h
    refine v_gR 12 0 dX12_name_70 fg_RX12_7 o12 e14 ?_
    refine v_aload_n 0 0 dX12_name_73 rfl rfl ?_
    refine v_gI 12 2 dX12_name_74 fg_RX12_291 o12 ?_
    obtain ⟨i15, h⟩ := h
    refine v_iald dX12_name_77 i15 ?_
    refine v_cSi [.int _] mv_X12_isLetter ml_RX12_301 rfl rfl (Nat.le_of_ble_eq_true rfl) (Nat.le_of_ble_eq_true rfl) (Nat.le_of_ble_eq_true rfl) (Nat.zero_le _) (Nat.zero_le _) dX12_name_78 (c_X12_isLetter h) (fun r16 m17 h => ?_)
    refine v_if_eq 145 dX12_name_81 (by decide) (fun hc => ?_) (fun hc => ?_)
    · replace h := Eq.mp (if_pos hc) h
      refine v_sub [0, 1] rfl ?_
      exact v_X12_name_p145 h
    · replace h := Eq.mp (if_neg hc) h
      refine v_aload_n 0 0 dX12_name_84 rfl rfl ?_
      refine v_gI 12 2 dX12_name_85 fg_RX12_291 o12 ?_
      refine v_aload_n 0 0 dX12_name_88 rfl rfl ?_
      refine v_gI 12 41 dX12_name_89 fg_RX12_336 o12 ?_
      refine v_isub dX12_name_92 ?_
      refine v_bipush (6 : Int32) dX12_name_93 (by decide) ?_
      refine v_icmp_ne 109 dX12_name_95 (by decide) (fun hc => ?_) (fun hc => ?_)
      · replace h := Eq.mp (if_neg hc) h
        refine v_ldc2 (27 : Int64) dX12_name_109 cw_RX12_339 ?_
        refine v_lload_n 1 1 dX12_name_112 rfl rfl ?_
        refine v_lmul dX12_name_113 ?_
        refine v_aload_n 0 0 dX12_name_114 rfl rfl ?_
        obtain ⟨b18, e19, h⟩ := h
        refine v_gR 12 0 dX12_name_115 fg_RX12_7 o12 e19 ?_
        refine v_aload_n 0 0 dX12_name_118 rfl rfl ?_
        refine v_gI 12 2 dX12_name_119 fg_RX12_291 o12 ?_
        obtain ⟨i20, h⟩ := h
        refine v_iald dX12_name_122 i20 ?_
        refine v_i2l dX12_name_123 ?_
        refine v_ladd dX12_name_124 ?_
        refine v_ldc2 (97 : Int64) dX12_name_125 cw_RX12_341 ?_
        refine v_lsub dX12_name_128 ?_
        refine v_lconst (1 : Int64) dX12_name_129 (by decide) ?_
        refine v_ladd dX12_name_130 ?_
        refine v_lstore_n (ls' := [(1, .long _), (0, .ref _)]) 1 dX12_name_131 rfl (Nat.le_of_ble_eq_true rfl) rfl ?_
        refine v_aload_n 0 1 dX12_name_132 rfl rfl ?_
        refine v_dup dX12_name_133 rfl ?_
        refine v_gI 12 2 dX12_name_134 fg_RX12_291 o12 ?_
        refine v_iconst (1 : Int32) dX12_name_137 (by decide) ?_
        refine v_iadd dX12_name_138 ?_
        refine v_pI 12 2 dX12_name_139 fw_RX12_291 o12 ?_
        replace h := bnd_e h
        refine v_goto 58 dX12_name_142 (by decide) ?_
        refine v_sub [1, 0] rfl ?_
        exact hK58 _ _ h
      · replace h := Eq.mp (if_pos hc) h
        refine v_aload_n 0 0 dX12_name_98 rfl rfl ?_
        refine v_iconst (1 : Int32) dX12_name_99 (by decide) ?_
        refine v_aload_n 0 0 dX12_name_100 rfl rfl ?_
        refine v_gI 12 2 dX12_name_101 fg_RX12_291 o12 ?_
        refine v_cVv [.int _, .int _] mv_X12_fail ml_RX12_315 ⟨_, _, rfl⟩ o12 rfl rfl (Nat.le_of_ble_eq_true rfl) (Nat.le_of_ble_eq_true rfl) (Nat.le_of_ble_eq_true rfl) (Nat.zero_le _) (Nat.zero_le _) dX12_name_104 (c_X12_fail h) (fun m23 h => ?_)
        refine v_lconst (0 : Int64) dX12_name_107 (by decide) ?_
        exact v_lret dX12_name_108 rfl h
set_option maxHeartbeats 4000000 in
set_option maxRecDepth 100000 in
theorem v_X12_name_p58 {G : Gl} {F : Fr} {sh : Shp} {v0 : Nat} {v1 : Int64} {Q : Int64 → Mem → Prop} {m : Mem} (h : X12_name_p58 sh v0 Q v1 m) : V G F M_X12_name sh 0 0 (Zl G F sh Q) 58 [(0, .ref (G.1 + v0)), (1, .long v1)] [] m := by
  obtain ⟨n, h⟩ := h
  induction n generalizing v1 m with
  | zero => exact h.elim
  | succ n ih => exact v_X12_name_p58b (fun _ _ h => ih h) h
set_option maxHeartbeats 4000000 in
set_option maxRecDepth 100000 in
theorem c_X12_name {l : Launch} {G : Gl} {sh : Shp} {v0 : Nat} {Q : Int64 → Mem → Prop} {m : Mem} (h : wp_X12_name sh v0 Q m) : Cnl l G yX12_name cX12_name 3 (Option.some FieldType.long) 4 124 sh [.ref (G.1 + v0)] m Q := by
  refine con_l (ls := [(0, .ref (G.1 + v0))]) (by decide +kernel) rfl (Nat.le_of_ble_eq_true rfl) (fun F => ?_)
  show V G F M_X12_name sh 0 0 (Zl G F sh Q) 0 [(0, .ref (G.1 + v0))] [] m
  unfold wp_X12_name at h
  refine v_aload_n 0 0 dX12_name_0 rfl rfl ?_
  obtain ⟨o1, h⟩ := h
  refine v_gI 12 5 dX12_name_1 fg_RX12_285 o1 ?_
  refine v_if_eq 9 dX12_name_4 (by decide) (fun hc => ?_) (fun hc => ?_)
  · replace h := Eq.mp (if_pos hc) h
    refine v_aload_n 0 0 dX12_name_9 rfl rfl ?_
    refine v_cVi [] mv_X12_look ml_RX12_297 ⟨_, _, rfl⟩ o1 rfl rfl (Nat.le_of_ble_eq_true rfl) (Nat.le_of_ble_eq_true rfl) (Nat.le_of_ble_eq_true rfl) (Nat.zero_le _) (Nat.zero_le _) dX12_name_10 (c_X12_look h) (fun r2 m3 h => ?_)
    refine v_cSi [.int _] mv_X12_isLetter ml_RX12_301 rfl rfl (Nat.le_of_ble_eq_true rfl) (Nat.le_of_ble_eq_true rfl) (Nat.le_of_ble_eq_true rfl) (Nat.zero_le _) (Nat.zero_le _) dX12_name_13 (c_X12_isLetter h) (fun r4 m5 h => ?_)
    refine v_if_eq 37 dX12_name_16 (by decide) (fun hc => ?_) (fun hc => ?_)
    · replace h := Eq.mp (if_pos hc) h
      refine v_sub [0] rfl ?_
      exact v_X12_name_p37 h
    · replace h := Eq.mp (if_neg hc) h
      refine v_aload_n 0 0 dX12_name_19 rfl rfl ?_
      refine v_gI 12 2 dX12_name_20 fg_RX12_291 o1 ?_
      refine v_aload_n 0 0 dX12_name_23 rfl rfl ?_
      refine v_gI 12 4 dX12_name_24 fg_RX12_305 o1 ?_
      refine v_icmp_eq 37 dX12_name_27 (by decide) (fun hc => ?_) (fun hc => ?_)
      · replace h := Eq.mp (if_pos hc) h
        refine v_sub [0] rfl ?_
        exact v_X12_name_p37 h
      · replace h := Eq.mp (if_neg hc) h
        refine v_aload_n 0 0 dX12_name_30 rfl rfl ?_
        refine v_cVi [] mv_X12_isOwnHere ml_RX12_332 ⟨_, _, rfl⟩ o1 rfl rfl (Nat.le_of_ble_eq_true rfl) (Nat.le_of_ble_eq_true rfl) (Nat.le_of_ble_eq_true rfl) (Nat.zero_le _) (Nat.zero_le _) dX12_name_31 (c_X12_isOwnHere h) (fun r6 m7 h => ?_)
        refine v_if_eq 48 dX12_name_34 (by decide) (fun hc => ?_) (fun hc => ?_)
        · replace h := Eq.mp (if_pos hc) h
          refine v_aload_n 0 0 dX12_name_48 rfl rfl ?_
          refine v_aload_n 0 0 dX12_name_49 rfl rfl ?_
          refine v_gI 12 2 dX12_name_50 fg_RX12_291 o1 ?_
          refine v_pI 12 41 dX12_name_53 fw_RX12_336 o1 ?_
          replace h := bnd_e h
          refine v_lconst (0 : Int64) dX12_name_56 (by decide) ?_
          refine v_lstore_n (ls' := [(1, .long _), (0, .ref _)]) 1 dX12_name_57 rfl (Nat.le_of_ble_eq_true rfl) rfl ?_
          refine v_sub [1, 0] rfl ?_
          exact v_X12_name_p58 h
        · replace h := Eq.mp (if_neg hc) h
          refine v_sub [0] rfl ?_
          exact v_X12_name_p37 h
  · replace h := Eq.mp (if_neg hc) h
    refine v_lconst (0 : Int64) dX12_name_7 (by decide) ?_
    exact v_lret dX12_name_8 rfl h
