/-! CalledRiverModel.newName -/
theorem dX12_newName_0 : decode cX12_newName 0 = .ok (.aload_n 0, 1) := by decide +kernel
theorem dX12_newName_1 : decode cX12_newName 1 = .ok (.invokevirtual 346, 3) := by decide +kernel
theorem dX12_newName_4 : decode cX12_newName 4 = .ok (.lstore_n 1, 1) := by decide +kernel
theorem dX12_newName_5 : decode cX12_newName 5 = .ok (.iconst 0, 1) := by decide +kernel
theorem dX12_newName_6 : decode cX12_newName 6 = .ok (.istore_n 3, 1) := by decide +kernel
theorem dX12_newName_7 : decode cX12_newName 7 = .ok (.iload_n 3, 1) := by decide +kernel
theorem dX12_newName_8 : decode cX12_newName 8 = .ok (.iconst 2, 1) := by decide +kernel
theorem dX12_newName_9 : decode cX12_newName 9 = .ok (.if_icmp .ge 62, 3) := by decide +kernel
theorem dX12_newName_12 : decode cX12_newName 12 = .ok (.iconst 0, 1) := by decide +kernel
theorem dX12_newName_13 : decode cX12_newName 13 = .ok (.istore 4, 2) := by decide +kernel
theorem dX12_newName_15 : decode cX12_newName 15 = .ok (.iload 4, 2) := by decide +kernel
theorem dX12_newName_17 : decode cX12_newName 17 = .ok (.aload_n 0, 1) := by decide +kernel
theorem dX12_newName_18 : decode cX12_newName 18 = .ok (.getfield 114, 3) := by decide +kernel
theorem dX12_newName_21 : decode cX12_newName 21 = .ok (.iload_n 3, 1) := by decide +kernel
theorem dX12_newName_22 : decode cX12_newName 22 = .ok (.iaload, 1) := by decide +kernel
theorem dX12_newName_23 : decode cX12_newName 23 = .ok (.if_icmp .ge 42, 3) := by decide +kernel
theorem dX12_newName_26 : decode cX12_newName 26 = .ok (.aload_n 0, 1) := by decide +kernel
theorem dX12_newName_27 : decode cX12_newName 27 = .ok (.getfield 285, 3) := by decide +kernel
theorem dX12_newName_30 : decode cX12_newName 30 = .ok (.ifCond .ne 29, 3) := by decide +kernel
theorem dX12_newName_33 : decode cX12_newName 33 = .ok (.aload_n 0, 1) := by decide +kernel
theorem dX12_newName_34 : decode cX12_newName 34 = .ok (.getfield 117, 3) := by decide +kernel
theorem dX12_newName_37 : decode cX12_newName 37 = .ok (.bipush 8, 2) := by decide +kernel
theorem dX12_newName_39 : decode cX12_newName 39 = .ok (.iload_n 3, 1) := by decide +kernel
theorem dX12_newName_40 : decode cX12_newName 40 = .ok (.imul, 1) := by decide +kernel
theorem dX12_newName_41 : decode cX12_newName 41 = .ok (.iload 4, 2) := by decide +kernel
theorem dX12_newName_43 : decode cX12_newName 43 = .ok (.iadd, 1) := by decide +kernel
theorem dX12_newName_44 : decode cX12_newName 44 = .ok (.laload, 1) := by decide +kernel
theorem dX12_newName_45 : decode cX12_newName 45 = .ok (.lload_n 1, 1) := by decide +kernel
theorem dX12_newName_46 : decode cX12_newName 46 = .ok (.lcmp, 1) := by decide +kernel
theorem dX12_newName_47 : decode cX12_newName 47 = .ok (.ifCond .ne 12, 3) := by decide +kernel
theorem dX12_newName_50 : decode cX12_newName 50 = .ok (.aload_n 0, 1) := by decide +kernel
theorem dX12_newName_51 : decode cX12_newName 51 = .ok (.iconst 3, 1) := by decide +kernel
theorem dX12_newName_52 : decode cX12_newName 52 = .ok (.aload_n 0, 1) := by decide +kernel
theorem dX12_newName_53 : decode cX12_newName 53 = .ok (.getfield 336, 3) := by decide +kernel
theorem dX12_newName_56 : decode cX12_newName 56 = .ok (.invokevirtual 315, 3) := by decide +kernel
theorem dX12_newName_59 : decode cX12_newName 59 = .ok (.iinc 4 1, 3) := by decide +kernel
theorem dX12_newName_62 : decode cX12_newName 62 = .ok (.goto (-47), 3) := by decide +kernel
theorem dX12_newName_65 : decode cX12_newName 65 = .ok (.iinc 3 1, 3) := by decide +kernel
theorem dX12_newName_68 : decode cX12_newName 68 = .ok (.goto (-61), 3) := by decide +kernel
theorem dX12_newName_71 : decode cX12_newName 71 = .ok (.lload_n 1, 1) := by decide +kernel
theorem dX12_newName_72 : decode cX12_newName 72 = .ok (.lreturn, 1) := by decide +kernel
def X12_newName_p59 (sh : Shp) (v0 : Nat) (v1 : Int64) (v3 : Int32) (v4 : Int32) (Q : Int64 → Mem → Prop) (K7 : Int32 → Mem → Prop) (K15 : Int32 → Mem → Prop) (m : Mem) : Prop :=
  K15 (v4 + (1 : Int32)) m
def X12_newName_p15b (sh : Shp) (v0 : Nat) (v1 : Int64) (v3 : Int32) (Q : Int64 → Mem → Prop) (K7 : Int32 → Mem → Prop) (K15 : Int32 → Mem → Prop) (v4 : Int32) (m : Mem) : Prop :=
  Ob sh v0 12 ∧ ∃ b5 : Nat, m.2.2 v0 45 = some b5 ∧ (Ix sh b5 100 v3 ∧ (if (m.1 b5 v3.toNatClampNeg) ≤ v4 then (K7 (v3 + (1 : Int32)) m) else (if (m.1 v0 5) = 0 then (∃ b8 : Nat, m.2.2 v0 46 = some b8 ∧ (Ix sh b8 103 (((8 : Int32) * v3) + v4) ∧ (if (lg_cmp (m.2.1 b8 (((8 : Int32) * v3) + v4).toNatClampNeg) v1) = 0 then (wp_X12_fail sh v0 (3 : Int32) (m.1 v0 41) (fun m12 => X12_newName_p59 sh v0 v1 v3 v4 Q K7 K15 m12) m) else (X12_newName_p59 sh v0 v1 v3 v4 Q K7 K15 m)))) else (X12_newName_p59 sh v0 v1 v3 v4 Q K7 K15 m))))
def X12_newName_p15n (sh : Shp) (v0 : Nat) (v1 : Int64) (v3 : Int32) (Q : Int64 → Mem → Prop) (K7 : Int32 → Mem → Prop) : Nat → Int32 → Mem → Prop
  | 0 => fun _ _ => False
  | n + 1 => X12_newName_p15b sh v0 v1 v3 Q K7 (X12_newName_p15n sh v0 v1 v3 Q K7 n)
def X12_newName_p15 (sh : Shp) (v0 : Nat) (v1 : Int64) (v3 : Int32) (Q : Int64 → Mem → Prop) (K7 : Int32 → Mem → Prop) (v4 : Int32) (m : Mem) : Prop := ∃ n, X12_newName_p15n sh v0 v1 v3 Q K7 n v4 m
def X12_newName_p7b (sh : Shp) (v0 : Nat) (v1 : Int64) (Q : Int64 → Mem → Prop) (K7 : Int32 → Mem → Prop) (v3 : Int32) (m : Mem) : Prop :=
  if (2 : Int32) ≤ v3 then (Q v1 m) else (X12_newName_p15 sh v0 v1 v3 Q K7 (0 : Int32) m)
def X12_newName_p7n (sh : Shp) (v0 : Nat) (v1 : Int64) (Q : Int64 → Mem → Prop) : Nat → Int32 → Mem → Prop
  | 0 => fun _ _ => False
  | n + 1 => X12_newName_p7b sh v0 v1 Q (X12_newName_p7n sh v0 v1 Q n)
def X12_newName_p7 (sh : Shp) (v0 : Nat) (v1 : Int64) (Q : Int64 → Mem → Prop) (v3 : Int32) (m : Mem) : Prop := ∃ n, X12_newName_p7n sh v0 v1 Q n v3 m
def wp_X12_newName (sh : Shp) (v0 : Nat) (Q : Int64 → Mem → Prop) (m : Mem) : Prop :=
  Ob sh v0 12 ∧ wp_X12_name sh v0 (fun r1 m2 => X12_newName_p7 sh v0 r1 Q (0 : Int32) m2) m
abbrev M_X12_newName : Mi := (cX12_newName, 5, RX12, (Option.some FieldType.long), "newName", 5, 146, 0, 0)
set_option maxHeartbeats 4000000 in
set_option maxRecDepth 100000 in
theorem v_X12_newName_p59 {G : Gl} {F : Fr} {sh : Shp} {v0 : Nat} {v1 : Int64} {v3 : Int32} {v4 : Int32} {Q : Int64 → Mem → Prop} {K7 : Int32 → Mem → Prop} {K15 : Int32 → Mem → Prop} {m : Mem} (hK7 : ∀ (x3 : Int32) (m : Mem), K7 x3 m → V G F M_X12_newName sh 0 0 (Zl G F sh Q) 7 [(0, .ref (G.1 + v0)), (1, .long v1), (3, .int x3)] [] m) (hK15 : ∀ (x4 : Int32) (m : Mem), K15 x4 m → V G F M_X12_newName sh 0 0 (Zl G F sh Q) 15 [(0, .ref (G.1 + v0)), (1, .long v1), (3, .int v3), (4, .int x4)] [] m) (h : X12_newName_p59 sh v0 v1 v3 v4 Q K7 K15 m) : V G F M_X12_newName sh 0 0 (Zl G F sh Q) 59 [(0, .ref (G.1 + v0)), (1, .long v1), (3, .int v3), (4, .int v4)] [] m := by
  unfold X12_newName_p59 at h
  refine v_iinc (ls' := [(4, .int _), (0, .ref _), (1, .long _), (3, .int _)]) 4 3 dX12_newName_59 rfl (congrArg (HAdd.hAdd _) (by decide : Int32.ofInt (1) = (1 : Int32))) (Nat.le_of_ble_eq_true rfl) rfl ?_
  refine v_goto 15 dX12_newName_62 (by decide) ?_
  refine v_sub [1, 2, 3, 0] rfl ?_
  exact hK15 _ _ h
set_option maxHeartbeats 4000000 in
set_option maxRecDepth 100000 in
theorem v_X12_newName_p15b {G : Gl} {F : Fr} {sh : Shp} {v0 : Nat} {v1 : Int64} {v3 : Int32} {v4 : Int32} {Q : Int64 → Mem → Prop} {K7 : Int32 → Mem → Prop} {K15 : Int32 → Mem → Prop} {m : Mem} (hK7 : ∀ (x3 : Int32) (m : Mem), K7 x3 m → V G F M_X12_newName sh 0 0 (Zl G F sh Q) 7 [(0, .ref (G.1 + v0)), (1, .long v1), (3, .int x3)] [] m) (hK15 : ∀ (x4 : Int32) (m : Mem), K15 x4 m → V G F M_X12_newName sh 0 0 (Zl G F sh Q) 15 [(0, .ref (G.1 + v0)), (1, .long v1), (3, .int v3), (4, .int x4)] [] m) (h : X12_newName_p15b sh v0 v1 v3 Q K7 K15 v4 m) : V G F M_X12_newName sh 0 0 (Zl G F sh Q) 15 [(0, .ref (G.1 + v0)), (1, .long v1), (3, .int v3), (4, .int v4)] [] m := by
  unfold X12_newName_p15b at h
  refine v_iload 4 3 dX12_newName_15 rfl ?_
  refine v_aload_n 0 0 dX12_newName_17 rfl rfl ?_
  obtain ⟨o4, h⟩ := h
  obtain ⟨b5, e6, h⟩ := h
  refine v_gR 12 45 dX12_newName_18 fg_RX12_114 o4 e6 ?_
  refine v_iload_n 3 2 dX12_newName_21 rfl rfl ?_
  obtain ⟨i7, h⟩ := h
  refine v_iald dX12_newName_22 i7 ?_
  refine v_icmp_ge 65 dX12_newName_23 (by decide) (fun hc => ?_) (fun hc => ?_)
  · replace h := Eq.mp (if_pos hc) h
    refine v_iinc (ls' := [(3, .int _), (0, .ref _), (1, .long _), (4, .int _)]) 3 2 dX12_newName_65 rfl (congrArg (HAdd.hAdd _) (by decide : Int32.ofInt (1) = (1 : Int32))) (Nat.le_of_ble_eq_true rfl) rfl ?_
    refine v_goto 7 dX12_newName_68 (by decide) ?_
    refine v_sub [1, 2, 0] rfl ?_
    exact hK7 _ _ h
  · replace h := Eq.mp (if_neg hc) h
    refine v_aload_n 0 0 dX12_newName_26 rfl rfl ?_
    refine v_gI 12 5 dX12_newName_27 fg_RX12_285 o4 ?_
    refine v_if_ne 59 dX12_newName_30 (by decide) (fun hc => ?_) (fun hc => ?_)
    · replace h := Eq.mp (if_neg hc) h
      refine v_sub [0, 1, 2, 3] rfl ?_
      exact v_X12_newName_p59 hK7 hK15 h
    · replace h := Eq.mp (if_pos hc) h
      refine v_aload_n 0 0 dX12_newName_33 rfl rfl ?_
      obtain ⟨b8, e9, h⟩ := h
      refine v_gR 12 46 dX12_newName_34 fg_RX12_117 o4 e9 ?_
      refine v_bipush (8 : Int32) dX12_newName_37 (by decide) ?_
      refine v_iload_n 3 2 dX12_newName_39 rfl rfl ?_
      refine v_imul dX12_newName_40 ?_
      refine v_iload 4 3 dX12_newName_41 rfl ?_
      refine v_iadd dX12_newName_43 ?_
      obtain ⟨i10, h⟩ := h
      refine v_lald dX12_newName_44 i10 ?_
      refine v_lload_n 1 1 dX12_newName_45 rfl rfl ?_
      refine v_lcmp dX12_newName_46 ?_
      refine v_if_ne 59 dX12_newName_47 (by decide) (fun hc => ?_) (fun hc => ?_)
      · replace h := Eq.mp (if_neg hc) h
        refine v_sub [0, 1, 2, 3] rfl ?_
        exact v_X12_newName_p59 hK7 hK15 h
      · replace h := Eq.mp (if_pos hc) h
        refine v_aload_n 0 0 dX12_newName_50 rfl rfl ?_
        refine v_iconst (3 : Int32) dX12_newName_51 (by decide) ?_
        refine v_aload_n 0 0 dX12_newName_52 rfl rfl ?_
        refine v_gI 12 41 dX12_newName_53 fg_RX12_336 o4 ?_
        refine v_cVv [.int _, .int _] mv_X12_fail ml_RX12_315 ⟨_, _, rfl⟩ o4 rfl rfl (Nat.le_of_ble_eq_true rfl) (Nat.le_of_ble_eq_true rfl) (Nat.le_of_ble_eq_true rfl) (Nat.zero_le _) (Nat.zero_le _) dX12_newName_56 (c_X12_fail h) (fun m12 h => ?_)
        refine v_sub [0, 1, 2, 3] rfl ?_
        exact v_X12_newName_p59 hK7 hK15 h
set_option maxHeartbeats 4000000 in
set_option maxRecDepth 100000 in
theorem v_X12_newName_p15 {G : Gl} {F : Fr} {sh : Shp} {v0 : Nat} {v1 : Int64} {v3 : Int32} {v4 : Int32} {Q : Int64 → Mem → Prop} {K7 : Int32 → Mem → Prop} {m : Mem} (hK7 : ∀ (x3 : Int32) (m : Mem), K7 x3 m → V G F M_X12_newName sh 0 0 (Zl G F sh Q) 7 [(0, .ref (G.1 + v0)), (1, .long v1), (3, .int x3)] [] m) (h : X12_newName_p15 sh v0 v1 v3 Q K7 v4 m) : V G F M_X12_newName sh 0 0 (Zl G F sh Q) 15 [(0, .ref (G.1 + v0)), (1, .long v1), (3, .int v3), (4, .int v4)] [] m := by
  obtain ⟨n, h⟩ := h
  induction n generalizing v4 m with
  | zero => exact h.elim
  | succ n ih => exact v_X12_newName_p15b hK7 (fun _ _ h => ih h) h
set_option maxHeartbeats 4000000 in
set_option maxRecDepth 100000 in
theorem v_X12_newName_p7b {G : Gl} {F : Fr} {sh : Shp} {v0 : Nat} {v1 : Int64} {v3 : Int32} {Q : Int64 → Mem → Prop} {K7 : Int32 → Mem → Prop} {m : Mem} (hK7 : ∀ (x3 : Int32) (m : Mem), K7 x3 m → V G F M_X12_newName sh 0 0 (Zl G F sh Q) 7 [(0, .ref (G.1 + v0)), (1, .long v1), (3, .int x3)] [] m) (h : X12_newName_p7b sh v0 v1 Q K7 v3 m) : V G F M_X12_newName sh 0 0 (Zl G F sh Q) 7 [(0, .ref (G.1 + v0)), (1, .long v1), (3, .int v3)] [] m := by
  unfold X12_newName_p7b at h
  refine v_iload_n 3 2 dX12_newName_7 rfl rfl ?_
  refine v_iconst (2 : Int32) dX12_newName_8 (by decide) ?_
  refine v_icmp_ge 71 dX12_newName_9 (by decide) (fun hc => ?_) (fun hc => ?_)
  · replace h := Eq.mp (if_pos hc) h
    refine v_lload_n 1 1 dX12_newName_71 rfl rfl ?_
    exact v_lret dX12_newName_72 rfl h
  · replace h := Eq.mp (if_neg hc) h
    refine v_iconst (0 : Int32) dX12_newName_12 (by decide) ?_
    refine v_istore (ls' := [(4, .int _), (0, .ref _), (1, .long _), (3, .int _)]) 4 dX12_newName_13 (Nat.le_of_ble_eq_true rfl) rfl ?_
    refine v_sub [1, 2, 3, 0] rfl ?_
    exact v_X12_newName_p15 hK7 h
set_option maxHeartbeats 4000000 in
set_option maxRecDepth 100000 in
theorem v_X12_newName_p7 {G : Gl} {F : Fr} {sh : Shp} {v0 : Nat} {v1 : Int64} {v3 : Int32} {Q : Int64 → Mem → Prop} {m : Mem} (h : X12_newName_p7 sh v0 v1 Q v3 m) : V G F M_X12_newName sh 0 0 (Zl G F sh Q) 7 [(0, .ref (G.1 + v0)), (1, .long v1), (3, .int v3)] [] m := by
  obtain ⟨n, h⟩ := h
  induction n generalizing v3 m with
  | zero => exact h.elim
  | succ n ih => exact v_X12_newName_p7b (fun _ _ h => ih h) h
set_option maxHeartbeats 4000000 in
set_option maxRecDepth 100000 in
theorem c_X12_newName {l : Launch} {G : Gl} {sh : Shp} {v0 : Nat} {Q : Int64 → Mem → Prop} {m : Mem} (h : wp_X12_newName sh v0 Q m) : Cnl l G yX12_newName cX12_newName 5 (Option.some FieldType.long) 5 146 sh [.ref (G.1 + v0)] m Q := by
  refine con_l (ls := [(0, .ref (G.1 + v0))]) (by decide +kernel) rfl (Nat.le_of_ble_eq_true rfl) (fun F => ?_)
  show V G F M_X12_newName sh 0 0 (Zl G F sh Q) 0 [(0, .ref (G.1 + v0))] [] m
  unfold wp_X12_newName at h
  refine v_aload_n 0 0 dX12_newName_0 rfl rfl ?_
  obtain ⟨o3, h⟩ := h
  refine v_cVl [] mv_X12_name ml_RX12_346 ⟨_, _, rfl⟩ o3 rfl rfl (Nat.le_of_ble_eq_true rfl) (Nat.le_of_ble_eq_true rfl) (Nat.le_of_ble_eq_true rfl) (Nat.zero_le _) (Nat.zero_le _) dX12_newName_1 (c_X12_name h) (fun r1 m2 h => ?_)
  refine v_lstore_n (ls' := [(1, .long _), (0, .ref _)]) 1 dX12_newName_4 rfl (Nat.le_of_ble_eq_true rfl) rfl ?_
  refine v_iconst (0 : Int32) dX12_newName_5 (by decide) ?_
  refine v_istore_n (ls' := [(3, .int _), (1, .long _), (0, .ref _)]) 3 dX12_newName_6 rfl (Nat.le_of_ble_eq_true rfl) rfl ?_
  refine v_sub [2, 1, 0] rfl ?_
  exact v_X12_newName_p7 h
/-! CalledRiverModel.callerTold -/
theorem dX12_callerTold_0 : decode cX12_callerTold 0 = .ok (.aload_n 0, 1) := by decide +kernel
theorem dX12_callerTold_1 : decode cX12_callerTold 1 = .ok (.iconst 1, 1) := by decide +kernel
theorem dX12_callerTold_2 : decode cX12_callerTold 2 = .ok (.iconst 5, 1) := by decide +kernel
theorem dX12_callerTold_3 : decode cX12_callerTold 3 = .ok (.iload_n 1, 1) := by decide +kernel
theorem dX12_callerTold_4 : decode cX12_callerTold 4 = .ok (.invokevirtual 365, 3) := by decide +kernel
theorem dX12_callerTold_7 : decode cX12_callerTold 7 = .ok (.ifCond .eq 4, 3) := by decide +kernel
theorem dX12_callerTold_10 : decode cX12_callerTold 10 = .ok (.return_, 1) := by decide +kernel
theorem dX12_callerTold_11 : decode cX12_callerTold 11 = .ok (.aload_n 0, 1) := by decide +kernel
theorem dX12_callerTold_12 : decode cX12_callerTold 12 = .ok (.invokevirtual 369, 3) := by decide +kernel
theorem dX12_callerTold_15 : decode cX12_callerTold 15 = .ok (.lstore_n 2, 1) := by decide +kernel
theorem dX12_callerTold_16 : decode cX12_callerTold 16 = .ok (.aload_n 0, 1) := by decide +kernel
theorem dX12_callerTold_17 : decode cX12_callerTold 17 = .ok (.aload_n 0, 1) := by decide +kernel
theorem dX12_callerTold_18 : decode cX12_callerTold 18 = .ok (.getfield 51, 3) := by decide +kernel
theorem dX12_callerTold_21 : decode cX12_callerTold 21 = .ok (.invokevirtual 350, 3) := by decide +kernel
theorem dX12_callerTold_24 : decode cX12_callerTold 24 = .ok (.aload_n 0, 1) := by decide +kernel
theorem dX12_callerTold_25 : decode cX12_callerTold 25 = .ok (.iconst 0, 1) := by decide +kernel
theorem dX12_callerTold_26 : decode cX12_callerTold 26 = .ok (.bipush 9, 2) := by decide +kernel
theorem dX12_callerTold_28 : decode cX12_callerTold 28 = .ok (.invokevirtual 354, 3) := by decide +kernel
theorem dX12_callerTold_31 : decode cX12_callerTold 31 = .ok (.istore 4, 2) := by decide +kernel
theorem dX12_callerTold_33 : decode cX12_callerTold 33 = .ok (.aload_n 0, 1) := by decide +kernel
theorem dX12_callerTold_34 : decode cX12_callerTold 34 = .ok (.aload_n 0, 1) := by decide +kernel
theorem dX12_callerTold_35 : decode cX12_callerTold 35 = .ok (.getfield 54, 3) := by decide +kernel
theorem dX12_callerTold_38 : decode cX12_callerTold 38 = .ok (.invokevirtual 350, 3) := by decide +kernel
theorem dX12_callerTold_41 : decode cX12_callerTold 41 = .ok (.aload_n 0, 1) := by decide +kernel
theorem dX12_callerTold_42 : decode cX12_callerTold 42 = .ok (.iconst 0, 1) := by decide +kernel
theorem dX12_callerTold_43 : decode cX12_callerTold 43 = .ok (.bipush 9, 2) := by decide +kernel
theorem dX12_callerTold_45 : decode cX12_callerTold 45 = .ok (.invokevirtual 354, 3) := by decide +kernel
theorem dX12_callerTold_48 : decode cX12_callerTold 48 = .ok (.istore 5, 2) := by decide +kernel
theorem dX12_callerTold_50 : decode cX12_callerTold 50 = .ok (.aload_n 0, 1) := by decide +kernel
theorem dX12_callerTold_51 : decode cX12_callerTold 51 = .ok (.getfield 285, 3) := by decide +kernel
theorem dX12_callerTold_54 : decode cX12_callerTold 54 = .ok (.ifCond .eq 4, 3) := by decide +kernel
theorem dX12_callerTold_57 : decode cX12_callerTold 57 = .ok (.return_, 1) := by decide +kernel
theorem dX12_callerTold_58 : decode cX12_callerTold 58 = .ok (.aload_n 0, 1) := by decide +kernel
theorem dX12_callerTold_59 : decode cX12_callerTold 59 = .ok (.getfield 117, 3) := by decide +kernel
theorem dX12_callerTold_62 : decode cX12_callerTold 62 = .ok (.bipush 8, 2) := by decide +kernel
theorem dX12_callerTold_64 : decode cX12_callerTold 64 = .ok (.aload_n 0, 1) := by decide +kernel
theorem dX12_callerTold_65 : decode cX12_callerTold 65 = .ok (.getfield 114, 3) := by decide +kernel
theorem dX12_callerTold_68 : decode cX12_callerTold 68 = .ok (.iconst 1, 1) := by decide +kernel
theorem dX12_callerTold_69 : decode cX12_callerTold 69 = .ok (.iaload, 1) := by decide +kernel
theorem dX12_callerTold_70 : decode cX12_callerTold 70 = .ok (.iadd, 1) := by decide +kernel
theorem dX12_callerTold_71 : decode cX12_callerTold 71 = .ok (.lload_n 2, 1) := by decide +kernel
theorem dX12_callerTold_72 : decode cX12_callerTold 72 = .ok (.lastore, 1) := by decide +kernel
theorem dX12_callerTold_73 : decode cX12_callerTold 73 = .ok (.aload_n 0, 1) := by decide +kernel
theorem dX12_callerTold_74 : decode cX12_callerTold 74 = .ok (.getfield 124, 3) := by decide +kernel
theorem dX12_callerTold_77 : decode cX12_callerTold 77 = .ok (.iconst 2, 1) := by decide +kernel
theorem dX12_callerTold_78 : decode cX12_callerTold 78 = .ok (.aload_n 0, 1) := by decide +kernel
theorem dX12_callerTold_79 : decode cX12_callerTold 79 = .ok (.getfield 114, 3) := by decide +kernel
theorem dX12_callerTold_82 : decode cX12_callerTold 82 = .ok (.iconst 1, 1) := by decide +kernel
theorem dX12_callerTold_83 : decode cX12_callerTold 83 = .ok (.iaload, 1) := by decide +kernel
theorem dX12_callerTold_84 : decode cX12_callerTold 84 = .ok (.imul, 1) := by decide +kernel
theorem dX12_callerTold_85 : decode cX12_callerTold 85 = .ok (.iload 4, 2) := by decide +kernel
theorem dX12_callerTold_87 : decode cX12_callerTold 87 = .ok (.iastore, 1) := by decide +kernel
theorem dX12_callerTold_88 : decode cX12_callerTold 88 = .ok (.aload_n 0, 1) := by decide +kernel
theorem dX12_callerTold_89 : decode cX12_callerTold 89 = .ok (.getfield 124, 3) := by decide +kernel
theorem dX12_callerTold_92 : decode cX12_callerTold 92 = .ok (.iconst 2, 1) := by decide +kernel
theorem dX12_callerTold_93 : decode cX12_callerTold 93 = .ok (.aload_n 0, 1) := by decide +kernel
theorem dX12_callerTold_94 : decode cX12_callerTold 94 = .ok (.getfield 114, 3) := by decide +kernel
theorem dX12_callerTold_97 : decode cX12_callerTold 97 = .ok (.iconst 1, 1) := by decide +kernel
theorem dX12_callerTold_98 : decode cX12_callerTold 98 = .ok (.iaload, 1) := by decide +kernel
theorem dX12_callerTold_99 : decode cX12_callerTold 99 = .ok (.imul, 1) := by decide +kernel
theorem dX12_callerTold_100 : decode cX12_callerTold 100 = .ok (.iconst 1, 1) := by decide +kernel
theorem dX12_callerTold_101 : decode cX12_callerTold 101 = .ok (.iadd, 1) := by decide +kernel
theorem dX12_callerTold_102 : decode cX12_callerTold 102 = .ok (.iload 5, 2) := by decide +kernel
theorem dX12_callerTold_104 : decode cX12_callerTold 104 = .ok (.iastore, 1) := by decide +kernel
theorem dX12_callerTold_105 : decode cX12_callerTold 105 = .ok (.aload_n 0, 1) := by decide +kernel
theorem dX12_callerTold_106 : decode cX12_callerTold 106 = .ok (.getfield 114, 3) := by decide +kernel
theorem dX12_callerTold_109 : decode cX12_callerTold 109 = .ok (.iconst 1, 1) := by decide +kernel
theorem dX12_callerTold_110 : decode cX12_callerTold 110 = .ok (.dup2, 1) := by decide +kernel
theorem dX12_callerTold_111 : decode cX12_callerTold 111 = .ok (.iaload, 1) := by decide +kernel
theorem dX12_callerTold_112 : decode cX12_callerTold 112 = .ok (.iconst 1, 1) := by decide +kernel
theorem dX12_callerTold_113 : decode cX12_callerTold 113 = .ok (.iadd, 1) := by decide +kernel
theorem dX12_callerTold_114 : decode cX12_callerTold 114 = .ok (.iastore, 1) := by decide +kernel
theorem dX12_callerTold_115 : decode cX12_callerTold 115 = .ok (.return_, 1) := by decide +kernel
def wp_X12_callerTold (sh : Shp) (v0 : Nat) (v1 : Int32) (Q : Mem → Prop) (m : Mem) : Prop :=
  Ob sh v0 12 ∧ wp_X12_isFull sh v0 (1 : Int32) (5 : Int32) v1 (fun r1 m2 => if r1 = 0 then (wp_X12_newName sh v0 (fun r4 m5 => ∃ b6 : Nat, m5.2.2 v0 21 = some b6 ∧ (wp_X12_asks sh v0 b6 (fun m9 => wp_X12_number sh v0 (0 : Int32) (9 : Int32) (fun r10 m11 => ∃ b12 : Nat, m11.2.2 v0 22 = some b12 ∧ (wp_X12_asks sh v0 b12 (fun m15 => wp_X12_number sh v0 (0 : Int32) (9 : Int32) (fun r16 m17 => if (m17.1 v0 5) = 0 then (∃ b18 : Nat, m17.2.2 v0 46 = some b18 ∧ (∃ b20 : Nat, m17.2.2 v0 45 = some b20 ∧ (Ix sh b20 100 (1 : Int32) ∧ (Ix sh b18 103 ((8 : Int32) + (m17.1 b20 (1 : Int32).toNatClampNeg)) ∧ bnd (sL m17 b18 ((8 : Int32) + (m17.1 b20 (1 : Int32).toNatClampNeg)).toNatClampNeg r4) (fun m24 => ∃ b25 : Nat, m24.2.2 v0 48 = some b25 ∧ (Ix sh b25 100 ((2 : Int32) * (m24.1 b20 (1 : Int32).toNatClampNeg)) ∧ bnd (sI m24 b25 ((2 : Int32) * (m24.1 b20 (1 : Int32).toNatClampNeg)).toNatClampNeg r10) (fun m28 => Ix sh b25 100 (((2 : Int32) * (m28.1 b20 (1 : Int32).toNatClampNeg)) + (1 : Int32)) ∧ bnd (sI m28 b25 (((2 : Int32) * (m28.1 b20 (1 : Int32).toNatClampNeg)) + (1 : Int32)).toNatClampNeg r16) (fun m30 => bnd (sI m30 b20 (1 : Int32).toNatClampNeg ((m30.1 b20 (1 : Int32).toNatClampNeg) + (1 : Int32))) (fun m31 => Q m31))))))))) else (Q m17)) m15) m11)) m9) m5)) m2) else (Q m2)) m
abbrev M_X12_callerTold : Mi := (cX12_callerTold, 6, RX12, (none : Option FieldType), "callerTold", 6, 170, 0, 0)
set_option maxHeartbeats 4000000 in
set_option maxRecDepth 100000 in
theorem c_X12_callerTold {l : Launch} {G : Gl} {sh : Shp} {v0 : Nat} {v1 : Int32} {Q : Mem → Prop} {m : Mem} (h : wp_X12_callerTold sh v0 v1 Q m) : Cnv l G yX12_callerTold cX12_callerTold 6 (none : Option FieldType) 6 170 sh [.ref (G.1 + v0), .int v1] m Q := by
  refine con_v (ls := [(0, .ref (G.1 + v0)), (1, .int v1)]) (by decide +kernel) rfl (Nat.le_of_ble_eq_true rfl) (fun F => ?_)
  show V G F M_X12_callerTold sh 0 0 (Zv G F sh Q) 0 [(0, .ref (G.1 + v0)), (1, .int v1)] [] m
  unfold wp_X12_callerTold at h
  refine v_aload_n 0 0 dX12_callerTold_0 rfl rfl ?_
  refine v_iconst (1 : Int32) dX12_callerTold_1 (by decide) ?_
  refine v_iconst (5 : Int32) dX12_callerTold_2 (by decide) ?_
  refine v_iload_n 1 1 dX12_callerTold_3 rfl rfl ?_
  obtain ⟨o3, h⟩ := h
  refine v_cVi [.int _, .int _, .int _] mv_X12_isFull ml_RX12_365 ⟨_, _, rfl⟩ o3 rfl rfl (Nat.le_of_ble_eq_true rfl) (Nat.le_of_ble_eq_true rfl) (Nat.le_of_ble_eq_true rfl) (Nat.zero_le _) (Nat.zero_le _) dX12_callerTold_4 (c_X12_isFull h) (fun r1 m2 h => ?_)
  refine v_if_eq 11 dX12_callerTold_7 (by decide) (fun hc => ?_) (fun hc => ?_)
  · replace h := Eq.mp (if_pos hc) h
    refine v_aload_n 0 0 dX12_callerTold_11 rfl rfl ?_
    refine v_cVl [] mv_X12_newName ml_RX12_369 ⟨_, _, rfl⟩ o3 rfl rfl (Nat.le_of_ble_eq_true rfl) (Nat.le_of_ble_eq_true rfl) (Nat.le_of_ble_eq_true rfl) (Nat.zero_le _) (Nat.zero_le _) dX12_callerTold_12 (c_X12_newName h) (fun r4 m5 h => ?_)
    refine v_lstore_n (ls' := [(2, .long _), (0, .ref _), (1, .int _)]) 2 dX12_callerTold_15 rfl (Nat.le_of_ble_eq_true rfl) rfl ?_
    refine v_aload_n 0 1 dX12_callerTold_16 rfl rfl ?_
    refine v_aload_n 0 1 dX12_callerTold_17 rfl rfl ?_
    obtain ⟨b6, e7, h⟩ := h
    refine v_gR 12 21 dX12_callerTold_18 fg_RX12_51 o3 e7 ?_
    refine v_cVv [.ref _] mv_X12_asks ml_RX12_350 ⟨_, _, rfl⟩ o3 rfl rfl (Nat.le_of_ble_eq_true rfl) (Nat.le_of_ble_eq_true rfl) (Nat.le_of_ble_eq_true rfl) (Nat.zero_le _) (Nat.zero_le _) dX12_callerTold_21 (c_X12_asks h) (fun m9 h => ?_)
    refine v_aload_n 0 1 dX12_callerTold_24 rfl rfl ?_
    refine v_iconst (0 : Int32) dX12_callerTold_25 (by decide) ?_
    refine v_bipush (9 : Int32) dX12_callerTold_26 (by decide) ?_
    refine v_cVi [.int _, .int _] mv_X12_number ml_RX12_354 ⟨_, _, rfl⟩ o3 rfl rfl (Nat.le_of_ble_eq_true rfl) (Nat.le_of_ble_eq_true rfl) (Nat.le_of_ble_eq_true rfl) (Nat.zero_le _) (Nat.zero_le _) dX12_callerTold_28 (c_X12_number h) (fun r10 m11 h => ?_)
    refine v_istore (ls' := [(4, .int _), (2, .long _), (0, .ref _), (1, .int _)]) 4 dX12_callerTold_31 (Nat.le_of_ble_eq_true rfl) rfl ?_
    refine v_aload_n 0 2 dX12_callerTold_33 rfl rfl ?_
    refine v_aload_n 0 2 dX12_callerTold_34 rfl rfl ?_
    obtain ⟨b12, e13, h⟩ := h
    refine v_gR 12 22 dX12_callerTold_35 fg_RX12_54 o3 e13 ?_
    refine v_cVv [.ref _] mv_X12_asks ml_RX12_350 ⟨_, _, rfl⟩ o3 rfl rfl (Nat.le_of_ble_eq_true rfl) (Nat.le_of_ble_eq_true rfl) (Nat.le_of_ble_eq_true rfl) (Nat.zero_le _) (Nat.zero_le _) dX12_callerTold_38 (c_X12_asks h) (fun m15 h => ?_)
    refine v_aload_n 0 2 dX12_callerTold_41 rfl rfl ?_
    refine v_iconst (0 : Int32) dX12_callerTold_42 (by decide) ?_
    refine v_bipush (9 : Int32) dX12_callerTold_43 (by decide) ?_
    refine v_cVi [.int _, .int _] mv_X12_number ml_RX12_354 ⟨_, _, rfl⟩ o3 rfl rfl (Nat.le_of_ble_eq_true rfl) (Nat.le_of_ble_eq_true rfl) (Nat.le_of_ble_eq_true rfl) (Nat.zero_le _) (Nat.zero_le _) dX12_callerTold_45 (c_X12_number h) (fun r16 m17 h => ?_)
    refine v_istore (ls' := [(5, .int _), (4, .int _), (2, .long _), (0, .ref _), (1, .int _)]) 5 dX12_callerTold_48 (Nat.le_of_ble_eq_true rfl) rfl ?_
    refine v_aload_n 0 3 dX12_callerTold_50 rfl rfl ?_
    refine v_gI 12 5 dX12_callerTold_51 fg_RX12_285 o3 ?_
    refine v_if_eq 58 dX12_callerTold_54 (by decide) (fun hc => ?_) (fun hc => ?_)
    · replace h := Eq.mp (if_pos hc) h
      refine v_aload_n 0 3 dX12_callerTold_58 rfl rfl ?_
      obtain ⟨b18, e19, h⟩ := h
      refine v_gR 12 46 dX12_callerTold_59 fg_RX12_117 o3 e19 ?_
      refine v_bipush (8 : Int32) dX12_callerTold_62 (by decide) ?_
      refine v_aload_n 0 3 dX12_callerTold_64 rfl rfl ?_
      obtain ⟨b20, e21, h⟩ := h
      refine v_gR 12 45 dX12_callerTold_65 fg_RX12_114 o3 e21 ?_
      refine v_iconst (1 : Int32) dX12_callerTold_68 (by decide) ?_
      obtain ⟨i22, h⟩ := h
      refine v_iald dX12_callerTold_69 i22 ?_
      refine v_iadd dX12_callerTold_70 ?_
      refine v_lload_n 2 2 dX12_callerTold_71 rfl rfl ?_
      obtain ⟨i23, h⟩ := h
      refine v_last dX12_callerTold_72 i23 ?_
      replace h := bnd_e h
      refine v_aload_n 0 3 dX12_callerTold_73 rfl rfl ?_
      obtain ⟨b25, e26, h⟩ := h
      refine v_gR 12 48 dX12_callerTold_74 fg_RX12_124 o3 e26 ?_
      refine v_iconst (2 : Int32) dX12_callerTold_77 (by decide) ?_
      refine v_aload_n 0 3 dX12_callerTold_78 rfl rfl ?_
      refine v_gR 12 45 dX12_callerTold_79 fg_RX12_114 o3 e21 ?_
      refine v_iconst (1 : Int32) dX12_callerTold_82 (by decide) ?_
      refine v_iald dX12_callerTold_83 i22 ?_
      refine v_imul dX12_callerTold_84 ?_
      refine v_iload 4 1 dX12_callerTold_85 rfl ?_
      obtain ⟨i27, h⟩ := h
      refine v_iast dX12_callerTold_87 i27 ?_
      replace h := bnd_e h
      refine v_aload_n 0 3 dX12_callerTold_88 rfl rfl ?_
      refine v_gR 12 48 dX12_callerTold_89 fg_RX12_124 o3 e26 ?_
      refine v_iconst (2 : Int32) dX12_callerTold_92 (by decide) ?_
      refine v_aload_n 0 3 dX12_callerTold_93 rfl rfl ?_
      refine v_gR 12 45 dX12_callerTold_94 fg_RX12_114 o3 e21 ?_
      refine v_iconst (1 : Int32) dX12_callerTold_97 (by decide) ?_
      refine v_iald dX12_callerTold_98 i22 ?_
      refine v_imul dX12_callerTold_99 ?_
      refine v_iconst (1 : Int32) dX12_callerTold_100 (by decide) ?_
      refine v_iadd dX12_callerTold_101 ?_
      refine v_iload 5 0 dX12_callerTold_102 rfl ?_
      obtain ⟨i29, h⟩ := h
      refine v_iast dX12_callerTold_104 i29 ?_
      replace h := bnd_e h
      refine v_aload_n 0 3 dX12_callerTold_105 rfl rfl ?_
      refine v_gR 12 45 dX12_callerTold_106 fg_RX12_114 o3 e21 ?_
      refine v_iconst (1 : Int32) dX12_callerTold_109 (by decide) ?_
      refine v_dup2 dX12_callerTold_110 rfl rfl ?_
      refine v_iald dX12_callerTold_111 i22 ?_
      refine v_iconst (1 : Int32) dX12_callerTold_112 (by decide) ?_
      refine v_iadd dX12_callerTold_113 ?_
      refine v_iast dX12_callerTold_114 i22 ?_
      replace h := bnd_e h
      exact v_vret dX12_callerTold_115 rfl h
    · replace h := Eq.mp (if_neg hc) h
      exact v_vret dX12_callerTold_57 rfl h
  · replace h := Eq.mp (if_neg hc) h
    exact v_vret dX12_callerTold_10 rfl h
/-! CalledRiverModel.cell -/
theorem dX12_cell_0 : decode cX12_cell 0 = .ok (.aload_n 0, 1) := by decide +kernel
theorem dX12_cell_1 : decode cX12_cell 1 = .ok (.iload_n 1, 1) := by decide +kernel
theorem dX12_cell_2 : decode cX12_cell 2 = .ok (.iload_n 2, 1) := by decide +kernel
theorem dX12_cell_3 : decode cX12_cell 3 = .ok (.invokevirtual 452, 3) := by decide +kernel
theorem dX12_cell_6 : decode cX12_cell 6 = .ok (.istore 4, 2) := by decide +kernel
theorem dX12_cell_8 : decode cX12_cell 8 = .ok (.iload 4, 2) := by decide +kernel
theorem dX12_cell_10 : decode cX12_cell 10 = .ok (.iconst (-1), 1) := by decide +kernel
theorem dX12_cell_11 : decode cX12_cell 11 = .ok (.if_icmp .ne 5, 3) := by decide +kernel
theorem dX12_cell_14 : decode cX12_cell 14 = .ok (.iconst (-1), 1) := by decide +kernel
theorem dX12_cell_15 : decode cX12_cell 15 = .ok (.ireturn, 1) := by decide +kernel
theorem dX12_cell_16 : decode cX12_cell 16 = .ok (.iload_n 3, 1) := by decide +kernel
theorem dX12_cell_17 : decode cX12_cell 17 = .ok (.i2l, 1) := by decide +kernel
theorem dX12_cell_18 : decode cX12_cell 18 = .ok (.lconst 0, 1) := by decide +kernel
theorem dX12_cell_19 : decode cX12_cell 19 = .ok (.ldc2_w 552, 3) := by decide +kernel
theorem dX12_cell_22 : decode cX12_cell 22 = .ok (.invokestatic 328, 3) := by decide +kernel
theorem dX12_cell_25 : decode cX12_cell 25 = .ok (.ifCond .eq 19, 3) := by decide +kernel
theorem dX12_cell_28 : decode cX12_cell 28 = .ok (.aload_n 0, 1) := by decide +kernel
theorem dX12_cell_29 : decode cX12_cell 29 = .ok (.getfield 143, 3) := by decide +kernel
theorem dX12_cell_32 : decode cX12_cell 32 = .ok (.iconst 1, 1) := by decide +kernel
theorem dX12_cell_33 : decode cX12_cell 33 = .ok (.iconst 3, 1) := by decide +kernel
theorem dX12_cell_34 : decode cX12_cell 34 = .ok (.iload 4, 2) := by decide +kernel
theorem dX12_cell_36 : decode cX12_cell 36 = .ok (.imul, 1) := by decide +kernel
theorem dX12_cell_37 : decode cX12_cell 37 = .ok (.iadd, 1) := by decide +kernel
theorem dX12_cell_38 : decode cX12_cell 38 = .ok (.iload_n 3, 1) := by decide +kernel
theorem dX12_cell_39 : decode cX12_cell 39 = .ok (.iadd, 1) := by decide +kernel
theorem dX12_cell_40 : decode cX12_cell 40 = .ok (.iaload, 1) := by decide +kernel
theorem dX12_cell_41 : decode cX12_cell 41 = .ok (.goto 18, 3) := by decide +kernel
theorem dX12_cell_44 : decode cX12_cell 44 = .ok (.iload_n 3, 1) := by decide +kernel
theorem dX12_cell_45 : decode cX12_cell 45 = .ok (.iconst 3, 1) := by decide +kernel
theorem dX12_cell_46 : decode cX12_cell 46 = .ok (.if_icmp .ne 12, 3) := by decide +kernel
theorem dX12_cell_49 : decode cX12_cell 49 = .ok (.aload_n 0, 1) := by decide +kernel
theorem dX12_cell_50 : decode cX12_cell 50 = .ok (.iload 4, 2) := by decide +kernel
theorem dX12_cell_52 : decode cX12_cell 52 = .ok (.invokevirtual 446, 3) := by decide +kernel
theorem dX12_cell_55 : decode cX12_cell 55 = .ok (.goto 4, 3) := by decide +kernel
theorem dX12_cell_58 : decode cX12_cell 58 = .ok (.iconst (-1), 1) := by decide +kernel
theorem dX12_cell_59 : decode cX12_cell 59 = .ok (.ireturn, 1) := by decide +kernel
def wp_X12_cell (sh : Shp) (v0 : Nat) (v1 : Int32) (v2 : Int32) (v3 : Int32) (Q : Int32 → Mem → Prop) (m : Mem) : Prop :=
  Ob sh v0 12 ∧ wp_X12_cellAt sh v0 v1 v2 (fun r1 m2 => if r1 = (-1 : Int32) then (Q (-1 : Int32) m2) else (wp_X12_isIn sh v3.toInt64 (0 : Int64) (2 : Int64) (fun r4 m5 => if r4 = 0 then (if v3 = (3 : Int32) then (wp_X12_farmAt sh v0 r1 (fun r6 m7 => Q r6 m7) m5) else (Q (-1 : Int32) m5)) else (∃ b8 : Nat, m5.2.2 v0 58 = some b8 ∧ (Ix sh b8 100 (((1 : Int32) + ((3 : Int32) * r1)) + v3) ∧ (Q (m5.1 b8 (((1 : Int32) + ((3 : Int32) * r1)) + v3).toNatClampNeg) m5)))) m2)) m
abbrev M_X12_cell : Mi := (cX12_cell, 5, RX12, (Option.some FieldType.int), "cell", 3, 107, 0, 0)
set_option maxHeartbeats 4000000 in
set_option maxRecDepth 100000 in
theorem c_X12_cell {l : Launch} {G : Gl} {sh : Shp} {v0 : Nat} {v1 : Int32} {v2 : Int32} {v3 : Int32} {Q : Int32 → Mem → Prop} {m : Mem} (h : wp_X12_cell sh v0 v1 v2 v3 Q m) : Cni l G yX12_cell cX12_cell 5 (Option.some FieldType.int) 3 107 sh [.ref (G.1 + v0), .int v1, .int v2, .int v3] m Q := by
  refine con_i (ls := [(0, .ref (G.1 + v0)), (1, .int v1), (2, .int v2), (3, .int v3)]) (by decide +kernel) rfl (Nat.le_of_ble_eq_true rfl) (fun F => ?_)
  show V G F M_X12_cell sh 0 0 (Zi G F sh Q) 0 [(0, .ref (G.1 + v0)), (1, .int v1), (2, .int v2), (3, .int v3)] [] m
  unfold wp_X12_cell at h
  refine v_aload_n 0 0 dX12_cell_0 rfl rfl ?_
  refine v_iload_n 1 1 dX12_cell_1 rfl rfl ?_
  refine v_iload_n 2 2 dX12_cell_2 rfl rfl ?_
  obtain ⟨o3, h⟩ := h
  refine v_cVi [.int _, .int _] mv_X12_cellAt ml_RX12_452 ⟨_, _, rfl⟩ o3 rfl rfl (Nat.le_of_ble_eq_true rfl) (Nat.le_of_ble_eq_true rfl) (Nat.le_of_ble_eq_true rfl) (Nat.zero_le _) (Nat.zero_le _) dX12_cell_3 (c_X12_cellAt h) (fun r1 m2 h => ?_)
  refine v_istore (ls' := [(4, .int _), (0, .ref _), (1, .int _), (2, .int _), (3, .int _)]) 4 dX12_cell_6 (Nat.le_of_ble_eq_true rfl) rfl ?_
  refine v_iload 4 0 dX12_cell_8 rfl ?_
  refine v_iconst (-1 : Int32) dX12_cell_10 (by decide) ?_
  refine v_icmp_ne 16 dX12_cell_11 (by decide) (fun hc => ?_) (fun hc => ?_)
  · replace h := Eq.mp (if_neg hc) h
    refine v_iload_n 3 4 dX12_cell_16 rfl rfl ?_
    refine v_i2l dX12_cell_17 ?_
    refine v_lconst (0 : Int64) dX12_cell_18 (by decide) ?_
    refine v_ldc2 (2 : Int64) dX12_cell_19 cw_RX12_552 ?_
    refine v_cSi [.long _, .long _, .long _] mv_X12_isIn ml_RX12_328 rfl rfl (Nat.le_of_ble_eq_true rfl) (Nat.le_of_ble_eq_true rfl) (Nat.le_of_ble_eq_true rfl) (Nat.zero_le _) (Nat.zero_le _) dX12_cell_22 (c_X12_isIn h) (fun r4 m5 h => ?_)
    refine v_if_eq 44 dX12_cell_25 (by decide) (fun hc => ?_) (fun hc => ?_)
    · replace h := Eq.mp (if_pos hc) h
      refine v_iload_n 3 4 dX12_cell_44 rfl rfl ?_
      refine v_iconst (3 : Int32) dX12_cell_45 (by decide) ?_
      refine v_icmp_ne 58 dX12_cell_46 (by decide) (fun hc => ?_) (fun hc => ?_)
      · replace h := Eq.mp (if_neg hc) h
        refine v_iconst (-1 : Int32) dX12_cell_58 (by decide) ?_
        exact v_iret dX12_cell_59 rfl rfl h
      · replace h := Eq.mp (if_pos hc) h
        refine v_aload_n 0 1 dX12_cell_49 rfl rfl ?_
        refine v_iload 4 0 dX12_cell_50 rfl ?_
        refine v_cVi [.int _] mv_X12_farmAt ml_RX12_446 ⟨_, _, rfl⟩ o3 rfl rfl (Nat.le_of_ble_eq_true rfl) (Nat.le_of_ble_eq_true rfl) (Nat.le_of_ble_eq_true rfl) (Nat.zero_le _) (Nat.zero_le _) dX12_cell_52 (c_X12_farmAt h) (fun r6 m7 h => ?_)
        refine v_goto 59 dX12_cell_55 (by decide) ?_
        exact v_iret dX12_cell_59 rfl rfl h
    · replace h := Eq.mp (if_neg hc) h
      refine v_aload_n 0 1 dX12_cell_28 rfl rfl ?_
      obtain ⟨b8, e9, h⟩ := h
      refine v_gR 12 58 dX12_cell_29 fg_RX12_143 o3 e9 ?_
      refine v_iconst (1 : Int32) dX12_cell_32 (by decide) ?_
      refine v_iconst (3 : Int32) dX12_cell_33 (by decide) ?_
      refine v_iload 4 0 dX12_cell_34 rfl ?_
      refine v_imul dX12_cell_36 ?_
      refine v_iadd dX12_cell_37 ?_
      refine v_iload_n 3 4 dX12_cell_38 rfl rfl ?_
      refine v_iadd dX12_cell_39 ?_
      obtain ⟨i10, h⟩ := h
      refine v_iald dX12_cell_40 i10 ?_
      refine v_goto 59 dX12_cell_41 (by decide) ?_
      exact v_iret dX12_cell_59 rfl rfl h
  · replace h := Eq.mp (if_pos hc) h
    refine v_iconst (-1 : Int32) dX12_cell_14 (by decide) ?_
    exact v_iret dX12_cell_15 rfl rfl h
/-! CalledRiverModel.cellTold -/
theorem dX12_cellTold_0 : decode cX12_cellTold 0 = .ok (.aload_n 0, 1) := by decide +kernel
theorem dX12_cellTold_1 : decode cX12_cellTold 1 = .ok (.iconst 0, 1) := by decide +kernel
theorem dX12_cellTold_2 : decode cX12_cellTold 2 = .ok (.aload_n 0, 1) := by decide +kernel
theorem dX12_cellTold_3 : decode cX12_cellTold 3 = .ok (.getfield 111, 3) := by decide +kernel
theorem dX12_cellTold_6 : decode cX12_cellTold 6 = .ok (.iconst 0, 1) := by decide +kernel
theorem dX12_cellTold_7 : decode cX12_cellTold 7 = .ok (.iaload, 1) := by decide +kernel
theorem dX12_cellTold_8 : decode cX12_cellTold 8 = .ok (.iconst 1, 1) := by decide +kernel
theorem dX12_cellTold_9 : decode cX12_cellTold 9 = .ok (.isub, 1) := by decide +kernel
theorem dX12_cellTold_10 : decode cX12_cellTold 10 = .ok (.invokevirtual 354, 3) := by decide +kernel
theorem dX12_cellTold_13 : decode cX12_cellTold 13 = .ok (.istore_n 1, 1) := by decide +kernel
theorem dX12_cellTold_14 : decode cX12_cellTold 14 = .ok (.aload_n 0, 1) := by decide +kernel
theorem dX12_cellTold_15 : decode cX12_cellTold 15 = .ok (.iconst 0, 1) := by decide +kernel
theorem dX12_cellTold_16 : decode cX12_cellTold 16 = .ok (.aload_n 0, 1) := by decide +kernel
theorem dX12_cellTold_17 : decode cX12_cellTold 17 = .ok (.getfield 111, 3) := by decide +kernel
theorem dX12_cellTold_20 : decode cX12_cellTold 20 = .ok (.iconst 1, 1) := by decide +kernel
theorem dX12_cellTold_21 : decode cX12_cellTold 21 = .ok (.iaload, 1) := by decide +kernel
theorem dX12_cellTold_22 : decode cX12_cellTold 22 = .ok (.iconst 1, 1) := by decide +kernel
theorem dX12_cellTold_23 : decode cX12_cellTold 23 = .ok (.isub, 1) := by decide +kernel
theorem dX12_cellTold_24 : decode cX12_cellTold 24 = .ok (.invokevirtual 354, 3) := by decide +kernel
theorem dX12_cellTold_27 : decode cX12_cellTold 27 = .ok (.istore_n 2, 1) := by decide +kernel
theorem dX12_cellTold_28 : decode cX12_cellTold 28 = .ok (.aload_n 0, 1) := by decide +kernel
theorem dX12_cellTold_29 : decode cX12_cellTold 29 = .ok (.getfield 285, 3) := by decide +kernel
theorem dX12_cellTold_32 : decode cX12_cellTold 32 = .ok (.ifCond .ne 12, 3) := by decide +kernel
theorem dX12_cellTold_35 : decode cX12_cellTold 35 = .ok (.iload_n 1, 1) := by decide +kernel
theorem dX12_cellTold_36 : decode cX12_cellTold 36 = .ok (.bipush 6, 2) := by decide +kernel
theorem dX12_cellTold_38 : decode cX12_cellTold 38 = .ok (.iload_n 2, 1) := by decide +kernel
theorem dX12_cellTold_39 : decode cX12_cellTold 39 = .ok (.imul, 1) := by decide +kernel
theorem dX12_cellTold_40 : decode cX12_cellTold 40 = .ok (.iadd, 1) := by decide +kernel
theorem dX12_cellTold_41 : decode cX12_cellTold 41 = .ok (.goto 4, 3) := by decide +kernel
theorem dX12_cellTold_44 : decode cX12_cellTold 44 = .ok (.iconst 0, 1) := by decide +kernel
theorem dX12_cellTold_45 : decode cX12_cellTold 45 = .ok (.ireturn, 1) := by decide +kernel
def wp_X12_cellTold (sh : Shp) (v0 : Nat) (Q : Int32 → Mem → Prop) (m : Mem) : Prop :=
  Ob sh v0 12 ∧ ∃ b2 : Nat, m.2.2 v0 42 = some b2 ∧ (Ix sh b2 100 (0 : Int32) ∧ (wp_X12_number sh v0 (0 : Int32) ((m.1 b2 (0 : Int32).toNatClampNeg) - (1 : Int32)) (fun r5 m6 => ∃ b7 : Nat, m6.2.2 v0 42 = some b7 ∧ (Ix sh b7 100 (1 : Int32) ∧ (wp_X12_number sh v0 (0 : Int32) ((m6.1 b7 (1 : Int32).toNatClampNeg) - (1 : Int32)) (fun r10 m11 => if (m11.1 v0 5) = 0 then (Q (r5 + ((6 : Int32) * r10)) m11) else (Q (0 : Int32) m11)) m6))) m))
abbrev M_X12_cellTold : Mi := (cX12_cellTold, 3, RX12, (Option.some FieldType.int), "cellTold", 3, 109, 0, 0)
set_option maxHeartbeats 4000000 in
set_option maxRecDepth 100000 in
theorem c_X12_cellTold {l : Launch} {G : Gl} {sh : Shp} {v0 : Nat} {Q : Int32 → Mem → Prop} {m : Mem} (h : wp_X12_cellTold sh v0 Q m) : Cni l G yX12_cellTold cX12_cellTold 3 (Option.some FieldType.int) 3 109 sh [.ref (G.1 + v0)] m Q := by
  refine con_i (ls := [(0, .ref (G.1 + v0))]) (by decide +kernel) rfl (Nat.le_of_ble_eq_true rfl) (fun F => ?_)
  show V G F M_X12_cellTold sh 0 0 (Zi G F sh Q) 0 [(0, .ref (G.1 + v0))] [] m
  unfold wp_X12_cellTold at h
  refine v_aload_n 0 0 dX12_cellTold_0 rfl rfl ?_
  refine v_iconst (0 : Int32) dX12_cellTold_1 (by decide) ?_
  refine v_aload_n 0 0 dX12_cellTold_2 rfl rfl ?_
  obtain ⟨o1, h⟩ := h
  obtain ⟨b2, e3, h⟩ := h
  refine v_gR 12 42 dX12_cellTold_3 fg_RX12_111 o1 e3 ?_
  refine v_iconst (0 : Int32) dX12_cellTold_6 (by decide) ?_
  obtain ⟨i4, h⟩ := h
  refine v_iald dX12_cellTold_7 i4 ?_
  refine v_iconst (1 : Int32) dX12_cellTold_8 (by decide) ?_
  refine v_isub dX12_cellTold_9 ?_
  refine v_cVi [.int _, .int _] mv_X12_number ml_RX12_354 ⟨_, _, rfl⟩ o1 rfl rfl (Nat.le_of_ble_eq_true rfl) (Nat.le_of_ble_eq_true rfl) (Nat.le_of_ble_eq_true rfl) (Nat.zero_le _) (Nat.zero_le _) dX12_cellTold_10 (c_X12_number h) (fun r5 m6 h => ?_)
  refine v_istore_n (ls' := [(1, .int _), (0, .ref _)]) 1 dX12_cellTold_13 rfl (Nat.le_of_ble_eq_true rfl) rfl ?_
  refine v_aload_n 0 1 dX12_cellTold_14 rfl rfl ?_
  refine v_iconst (0 : Int32) dX12_cellTold_15 (by decide) ?_
  refine v_aload_n 0 1 dX12_cellTold_16 rfl rfl ?_
  obtain ⟨b7, e8, h⟩ := h
  refine v_gR 12 42 dX12_cellTold_17 fg_RX12_111 o1 e8 ?_
  refine v_iconst (1 : Int32) dX12_cellTold_20 (by decide) ?_
  obtain ⟨i9, h⟩ := h
  refine v_iald dX12_cellTold_21 i9 ?_
  refine v_iconst (1 : Int32) dX12_cellTold_22 (by decide) ?_
  refine v_isub dX12_cellTold_23 ?_
  refine v_cVi [.int _, .int _] mv_X12_number ml_RX12_354 ⟨_, _, rfl⟩ o1 rfl rfl (Nat.le_of_ble_eq_true rfl) (Nat.le_of_ble_eq_true rfl) (Nat.le_of_ble_eq_true rfl) (Nat.zero_le _) (Nat.zero_le _) dX12_cellTold_24 (c_X12_number h) (fun r10 m11 h => ?_)
  refine v_istore_n (ls' := [(2, .int _), (1, .int _), (0, .ref _)]) 2 dX12_cellTold_27 rfl (Nat.le_of_ble_eq_true rfl) rfl ?_
  refine v_aload_n 0 2 dX12_cellTold_28 rfl rfl ?_
  refine v_gI 12 5 dX12_cellTold_29 fg_RX12_285 o1 ?_
  refine v_if_ne 44 dX12_cellTold_32 (by decide) (fun hc => ?_) (fun hc => ?_)
  · replace h := Eq.mp (if_neg hc) h
    refine v_iconst (0 : Int32) dX12_cellTold_44 (by decide) ?_
    exact v_iret dX12_cellTold_45 rfl rfl h
  · replace h := Eq.mp (if_pos hc) h
    refine v_iload_n 1 1 dX12_cellTold_35 rfl rfl ?_
    refine v_bipush (6 : Int32) dX12_cellTold_36 (by decide) ?_
    refine v_iload_n 2 0 dX12_cellTold_38 rfl rfl ?_
    refine v_imul dX12_cellTold_39 ?_
    refine v_iadd dX12_cellTold_40 ?_
    refine v_goto 45 dX12_cellTold_41 (by decide) ?_
    exact v_iret dX12_cellTold_45 rfl rfl h
/-! CalledRiverModel.drawOf -/
theorem dX12_drawOf_0 : decode cX12_drawOf 0 = .ok (.aload_n 0, 1) := by decide +kernel
theorem dX12_drawOf_1 : decode cX12_drawOf 1 = .ok (.ldc2_w 610, 3) := by decide +kernel
theorem dX12_drawOf_4 : decode cX12_drawOf 4 = .ok (.aload_n 0, 1) := by decide +kernel
theorem dX12_drawOf_5 : decode cX12_drawOf 5 = .ok (.getfield 185, 3) := by decide +kernel
theorem dX12_drawOf_8 : decode cX12_drawOf 8 = .ok (.lmul, 1) := by decide +kernel
theorem dX12_drawOf_9 : decode cX12_drawOf 9 = .ok (.ldc2_w 612, 3) := by decide +kernel
theorem dX12_drawOf_12 : decode cX12_drawOf 12 = .ok (.ladd, 1) := by decide +kernel
theorem dX12_drawOf_13 : decode cX12_drawOf 13 = .ok (.ldc2_w 614, 3) := by decide +kernel
theorem dX12_drawOf_16 : decode cX12_drawOf 16 = .ok (.lrem, 1) := by decide +kernel
theorem dX12_drawOf_17 : decode cX12_drawOf 17 = .ok (.putfield 185, 3) := by decide +kernel
theorem dX12_drawOf_20 : decode cX12_drawOf 20 = .ok (.aload_n 0, 1) := by decide +kernel
theorem dX12_drawOf_21 : decode cX12_drawOf 21 = .ok (.getfield 185, 3) := by decide +kernel
theorem dX12_drawOf_24 : decode cX12_drawOf 24 = .ok (.ldc2_w 616, 3) := by decide +kernel
theorem dX12_drawOf_27 : decode cX12_drawOf 27 = .ok (.ldiv, 1) := by decide +kernel
theorem dX12_drawOf_28 : decode cX12_drawOf 28 = .ok (.iload_n 1, 1) := by decide +kernel
theorem dX12_drawOf_29 : decode cX12_drawOf 29 = .ok (.i2l, 1) := by decide +kernel
theorem dX12_drawOf_30 : decode cX12_drawOf 30 = .ok (.lrem, 1) := by decide +kernel
theorem dX12_drawOf_31 : decode cX12_drawOf 31 = .ok (.l2i, 1) := by decide +kernel
theorem dX12_drawOf_32 : decode cX12_drawOf 32 = .ok (.ireturn, 1) := by decide +kernel
def wp_X12_drawOf (sh : Shp) (v0 : Nat) (v1 : Int32) (Q : Int32 → Mem → Prop) (m : Mem) : Prop :=
  Ob sh v0 12 ∧ (bnd (sL m v0 80 ((((1103515245 : Int64) * (m.2.1 v0 80)) + (12345 : Int64)) - (((1103515245 : Int64) * (m.2.1 v0 80)) + (12345 : Int64)) / (2147483648 : Int64) * (2147483648 : Int64))) (fun m2 => ¬ v1.toInt64 = 0 ∧ (Q (((m2.2.1 v0 80) / (64 : Int64)) - ((m2.2.1 v0 80) / (64 : Int64)) / v1.toInt64 * v1.toInt64).toInt32 m2)))
abbrev M_X12_drawOf : Mi := (cX12_drawOf, 2, RX12, (Option.some FieldType.int), "drawOf", 1, 60, 0, 0)
set_option maxHeartbeats 4000000 in
set_option maxRecDepth 100000 in
theorem c_X12_drawOf {l : Launch} {G : Gl} {sh : Shp} {v0 : Nat} {v1 : Int32} {Q : Int32 → Mem → Prop} {m : Mem} (h : wp_X12_drawOf sh v0 v1 Q m) : Cni l G yX12_drawOf cX12_drawOf 2 (Option.some FieldType.int) 1 60 sh [.ref (G.1 + v0), .int v1] m Q := by
  refine con_i (ls := [(0, .ref (G.1 + v0)), (1, .int v1)]) (by decide +kernel) rfl (Nat.le_of_ble_eq_true rfl) (fun F => ?_)
  show V G F M_X12_drawOf sh 0 0 (Zi G F sh Q) 0 [(0, .ref (G.1 + v0)), (1, .int v1)] [] m
  unfold wp_X12_drawOf at h
  refine v_aload_n 0 0 dX12_drawOf_0 rfl rfl ?_
  refine v_ldc2 (1103515245 : Int64) dX12_drawOf_1 cw_RX12_610 ?_
  refine v_aload_n 0 0 dX12_drawOf_4 rfl rfl ?_
  obtain ⟨o1, h⟩ := h
  refine v_gL 12 80 dX12_drawOf_5 fg_RX12_185 o1 ?_
  refine v_lmul dX12_drawOf_8 ?_
  refine v_ldc2 (12345 : Int64) dX12_drawOf_9 cw_RX12_612 ?_
  refine v_ladd dX12_drawOf_12 ?_
  refine v_ldc2 (2147483648 : Int64) dX12_drawOf_13 cw_RX12_614 ?_
  refine v_lrem dX12_drawOf_16 (by decide) ?_
  refine v_pL 12 80 dX12_drawOf_17 fw_RX12_185 o1 ?_
  replace h := bnd_e h
  refine v_aload_n 0 0 dX12_drawOf_20 rfl rfl ?_
  refine v_gL 12 80 dX12_drawOf_21 fg_RX12_185 o1 ?_
  refine v_ldc2 (64 : Int64) dX12_drawOf_24 cw_RX12_616 ?_
  refine v_ldiv dX12_drawOf_27 (by decide) ?_
  refine v_iload_n 1 1 dX12_drawOf_28 rfl rfl ?_
  refine v_i2l dX12_drawOf_29 ?_
  obtain ⟨hz, h⟩ := h
  refine v_lrem dX12_drawOf_30 hz ?_
  refine v_l2i dX12_drawOf_31 ?_
  exact v_iret dX12_drawOf_32 rfl rfl h
/-! CalledRiverModel.isAhead -/
theorem dX12_isAhead_0 : decode cX12_isAhead 0 = .ok (.aload_n 0, 1) := by decide +kernel
theorem dX12_isAhead_1 : decode cX12_isAhead 1 = .ok (.getfield 423, 3) := by decide +kernel
theorem dX12_isAhead_4 : decode cX12_isAhead 4 = .ok (.ifCond .eq 33, 3) := by decide +kernel
theorem dX12_isAhead_7 : decode cX12_isAhead 7 = .ok (.iload_n 1, 1) := by decide +kernel
theorem dX12_isAhead_8 : decode cX12_isAhead 8 = .ok (.i2l, 1) := by decide +kernel
theorem dX12_isAhead_9 : decode cX12_isAhead 9 = .ok (.iload_n 2, 1) := by decide +kernel
theorem dX12_isAhead_10 : decode cX12_isAhead 10 = .ok (.i2l, 1) := by decide +kernel
theorem dX12_isAhead_11 : decode cX12_isAhead 11 = .ok (.iload_n 3, 1) := by decide +kernel
theorem dX12_isAhead_12 : decode cX12_isAhead 12 = .ok (.i2l, 1) := by decide +kernel
theorem dX12_isAhead_13 : decode cX12_isAhead 13 = .ok (.invokestatic 328, 3) := by decide +kernel
theorem dX12_isAhead_16 : decode cX12_isAhead 16 = .ok (.ifCond .eq 21, 3) := by decide +kernel
theorem dX12_isAhead_19 : decode cX12_isAhead 19 = .ok (.aload_n 0, 1) := by decide +kernel
theorem dX12_isAhead_20 : decode cX12_isAhead 20 = .ok (.getfield 143, 3) := by decide +kernel
theorem dX12_isAhead_23 : decode cX12_isAhead 23 = .ok (.iconst 0, 1) := by decide +kernel
theorem dX12_isAhead_24 : decode cX12_isAhead 24 = .ok (.iaload, 1) := by decide +kernel
theorem dX12_isAhead_25 : decode cX12_isAhead 25 = .ok (.iload_n 1, 1) := by decide +kernel
theorem dX12_isAhead_26 : decode cX12_isAhead 26 = .ok (.iadd, 1) := by decide +kernel
theorem dX12_isAhead_27 : decode cX12_isAhead 27 = .ok (.sipush 999, 3) := by decide +kernel
theorem dX12_isAhead_30 : decode cX12_isAhead 30 = .ok (.if_icmp .gt 7, 3) := by decide +kernel
theorem dX12_isAhead_33 : decode cX12_isAhead 33 = .ok (.iconst 1, 1) := by decide +kernel
theorem dX12_isAhead_34 : decode cX12_isAhead 34 = .ok (.goto 4, 3) := by decide +kernel
theorem dX12_isAhead_37 : decode cX12_isAhead 37 = .ok (.iconst 0, 1) := by decide +kernel
theorem dX12_isAhead_38 : decode cX12_isAhead 38 = .ok (.ireturn, 1) := by decide +kernel
def wp_X12_isAhead (sh : Shp) (v0 : Nat) (v1 : Int32) (v2 : Int32) (v3 : Int32) (Q : Int32 → Mem → Prop) (m : Mem) : Prop :=
  Ob sh v0 12 ∧ (if (m.1 v0 56) = 0 then (Q (0 : Int32) m) else (wp_X12_isIn sh v1.toInt64 v2.toInt64 v3.toInt64 (fun r2 m3 => if r2 = 0 then (Q (0 : Int32) m3) else (∃ b4 : Nat, m3.2.2 v0 58 = some b4 ∧ (Ix sh b4 100 (0 : Int32) ∧ (if (999 : Int32) < ((m3.1 b4 (0 : Int32).toNatClampNeg) + v1) then (Q (0 : Int32) m3) else (Q (1 : Int32) m3))))) m))
abbrev M_X12_isAhead : Mi := (cX12_isAhead, 4, RX12, (Option.some FieldType.boolean), "isAhead", 2, 85, 0, 0)
set_option maxHeartbeats 4000000 in
set_option maxRecDepth 100000 in
theorem c_X12_isAhead {l : Launch} {G : Gl} {sh : Shp} {v0 : Nat} {v1 : Int32} {v2 : Int32} {v3 : Int32} {Q : Int32 → Mem → Prop} {m : Mem} (h : wp_X12_isAhead sh v0 v1 v2 v3 Q m) : Cni l G yX12_isAhead cX12_isAhead 4 (Option.some FieldType.boolean) 2 85 sh [.ref (G.1 + v0), .int v1, .int v2, .int v3] m Q := by
  refine con_i (ls := [(0, .ref (G.1 + v0)), (1, .int v1), (2, .int v2), (3, .int v3)]) (by decide +kernel) rfl (Nat.le_of_ble_eq_true rfl) (fun F => ?_)
  show V G F M_X12_isAhead sh 0 0 (Zi G F sh Q) 0 [(0, .ref (G.1 + v0)), (1, .int v1), (2, .int v2), (3, .int v3)] [] m
  unfold wp_X12_isAhead at h
  refine v_aload_n 0 0 dX12_isAhead_0 rfl rfl ?_
  obtain ⟨o1, h⟩ := h
  refine v_gI 12 56 dX12_isAhead_1 fg_RX12_423 o1 ?_
  refine v_if_eq 37 dX12_isAhead_4 (by decide) (fun hc => ?_) (fun hc => ?_)
  · replace h := Eq.mp (if_pos hc) h
    refine v_iconst (0 : Int32) dX12_isAhead_37 (by decide) ?_
    exact v_iret dX12_isAhead_38 rfl (by decide) h
  · replace h := Eq.mp (if_neg hc) h
    refine v_iload_n 1 1 dX12_isAhead_7 rfl rfl ?_
    refine v_i2l dX12_isAhead_8 ?_
    refine v_iload_n 2 2 dX12_isAhead_9 rfl rfl ?_
    refine v_i2l dX12_isAhead_10 ?_
    refine v_iload_n 3 3 dX12_isAhead_11 rfl rfl ?_
    refine v_i2l dX12_isAhead_12 ?_
    refine v_cSi [.long _, .long _, .long _] mv_X12_isIn ml_RX12_328 rfl rfl (Nat.le_of_ble_eq_true rfl) (Nat.le_of_ble_eq_true rfl) (Nat.le_of_ble_eq_true rfl) (Nat.zero_le _) (Nat.zero_le _) dX12_isAhead_13 (c_X12_isIn h) (fun r2 m3 h => ?_)
    refine v_if_eq 37 dX12_isAhead_16 (by decide) (fun hc => ?_) (fun hc => ?_)
    · replace h := Eq.mp (if_pos hc) h
      refine v_iconst (0 : Int32) dX12_isAhead_37 (by decide) ?_
      exact v_iret dX12_isAhead_38 rfl (by decide) h
    · replace h := Eq.mp (if_neg hc) h
      refine v_aload_n 0 0 dX12_isAhead_19 rfl rfl ?_
      obtain ⟨b4, e5, h⟩ := h
      refine v_gR 12 58 dX12_isAhead_20 fg_RX12_143 o1 e5 ?_
      refine v_iconst (0 : Int32) dX12_isAhead_23 (by decide) ?_
      obtain ⟨i6, h⟩ := h
      refine v_iald dX12_isAhead_24 i6 ?_
      refine v_iload_n 1 1 dX12_isAhead_25 rfl rfl ?_
      refine v_iadd dX12_isAhead_26 ?_
      refine v_sipush (999 : Int32) dX12_isAhead_27 (by decide) ?_
      refine v_icmp_gt 37 dX12_isAhead_30 (by decide) (fun hc => ?_) (fun hc => ?_)
      · replace h := Eq.mp (if_pos hc) h
        refine v_iconst (0 : Int32) dX12_isAhead_37 (by decide) ?_
        exact v_iret dX12_isAhead_38 rfl (by decide) h
      · replace h := Eq.mp (if_neg hc) h
        refine v_iconst (1 : Int32) dX12_isAhead_33 (by decide) ?_
        refine v_goto 38 dX12_isAhead_34 (by decide) ?_
        exact v_iret dX12_isAhead_38 rfl (by decide) h
/-! CalledRiverModel.refuses -/
theorem dX12_refuses_0 : decode cX12_refuses 0 = .ok (.aload_n 0, 1) := by decide +kernel
theorem dX12_refuses_1 : decode cX12_refuses 1 = .ok (.getfield 17, 3) := by decide +kernel
theorem dX12_refuses_4 : decode cX12_refuses 4 = .ok (.iload_n 1, 1) := by decide +kernel
theorem dX12_refuses_5 : decode cX12_refuses 5 = .ok (.dup2, 1) := by decide +kernel
theorem dX12_refuses_6 : decode cX12_refuses 6 = .ok (.iaload, 1) := by decide +kernel
theorem dX12_refuses_7 : decode cX12_refuses 7 = .ok (.iconst 1, 1) := by decide +kernel
theorem dX12_refuses_8 : decode cX12_refuses 8 = .ok (.iadd, 1) := by decide +kernel
theorem dX12_refuses_9 : decode cX12_refuses 9 = .ok (.iastore, 1) := by decide +kernel
theorem dX12_refuses_10 : decode cX12_refuses 10 = .ok (.iconst (-1), 1) := by decide +kernel
theorem dX12_refuses_11 : decode cX12_refuses 11 = .ok (.ireturn, 1) := by decide +kernel
def wp_X12_refuses (sh : Shp) (v0 : Nat) (v1 : Int32) (Q : Int32 → Mem → Prop) (m : Mem) : Prop :=
  Ob sh v0 12 ∧ ∃ b2 : Nat, m.2.2 v0 9 = some b2 ∧ (Ix sh b2 100 v1 ∧ (bnd (sI m b2 v1.toNatClampNeg ((m.1 b2 v1.toNatClampNeg) + (1 : Int32))) (fun m5 => Q (-1 : Int32) m5)))
abbrev M_X12_refuses : Mi := (cX12_refuses, 2, RX12, (Option.some FieldType.int), "refuses", 1, 60, 0, 0)
set_option maxHeartbeats 4000000 in
set_option maxRecDepth 100000 in
theorem c_X12_refuses {l : Launch} {G : Gl} {sh : Shp} {v0 : Nat} {v1 : Int32} {Q : Int32 → Mem → Prop} {m : Mem} (h : wp_X12_refuses sh v0 v1 Q m) : Cni l G yX12_refuses cX12_refuses 2 (Option.some FieldType.int) 1 60 sh [.ref (G.1 + v0), .int v1] m Q := by
  refine con_i (ls := [(0, .ref (G.1 + v0)), (1, .int v1)]) (by decide +kernel) rfl (Nat.le_of_ble_eq_true rfl) (fun F => ?_)
  show V G F M_X12_refuses sh 0 0 (Zi G F sh Q) 0 [(0, .ref (G.1 + v0)), (1, .int v1)] [] m
  unfold wp_X12_refuses at h
  refine v_aload_n 0 0 dX12_refuses_0 rfl rfl ?_
  obtain ⟨o1, h⟩ := h
  obtain ⟨b2, e3, h⟩ := h
  refine v_gR 12 9 dX12_refuses_1 fg_RX12_17 o1 e3 ?_
  refine v_iload_n 1 1 dX12_refuses_4 rfl rfl ?_
  refine v_dup2 dX12_refuses_5 rfl rfl ?_
  obtain ⟨i4, h⟩ := h
  refine v_iald dX12_refuses_6 i4 ?_
  refine v_iconst (1 : Int32) dX12_refuses_7 (by decide) ?_
  refine v_iadd dX12_refuses_8 ?_
  refine v_iast dX12_refuses_9 i4 ?_
  replace h := bnd_e h
  refine v_iconst (-1 : Int32) dX12_refuses_10 (by decide) ?_
  exact v_iret dX12_refuses_11 rfl rfl h
/-! CalledRiverModel.isKept -/
theorem dX12_isKept_0 : decode cX12_isKept 0 = .ok (.aload_n 0, 1) := by decide +kernel
theorem dX12_isKept_1 : decode cX12_isKept 1 = .ok (.getfield 143, 3) := by decide +kernel
theorem dX12_isKept_4 : decode cX12_isKept 4 = .ok (.bipush 115, 2) := by decide +kernel
theorem dX12_isKept_6 : decode cX12_isKept 6 = .ok (.iaload, 1) := by decide +kernel
theorem dX12_isKept_7 : decode cX12_isKept 7 = .ok (.bipush 40, 2) := by decide +kernel
theorem dX12_isKept_9 : decode cX12_isKept 9 = .ok (.if_icmp .ne 36, 3) := by decide +kernel
theorem dX12_isKept_12 : decode cX12_isKept 12 = .ok (.bipush 116, 2) := by decide +kernel
theorem dX12_isKept_14 : decode cX12_isKept 14 = .ok (.istore_n 3, 1) := by decide +kernel
theorem dX12_isKept_15 : decode cX12_isKept 15 = .ok (.iload_n 3, 1) := by decide +kernel
theorem dX12_isKept_16 : decode cX12_isKept 16 = .ok (.sipush 233, 3) := by decide +kernel
theorem dX12_isKept_19 : decode cX12_isKept 19 = .ok (.if_icmp .ge 23, 3) := by decide +kernel
theorem dX12_isKept_22 : decode cX12_isKept 22 = .ok (.aload_n 0, 1) := by decide +kernel
theorem dX12_isKept_23 : decode cX12_isKept 23 = .ok (.getfield 143, 3) := by decide +kernel
theorem dX12_isKept_26 : decode cX12_isKept 26 = .ok (.iload_n 3, 1) := by decide +kernel
theorem dX12_isKept_27 : decode cX12_isKept 27 = .ok (.aload_n 0, 1) := by decide +kernel
theorem dX12_isKept_28 : decode cX12_isKept 28 = .ok (.getfield 143, 3) := by decide +kernel
theorem dX12_isKept_31 : decode cX12_isKept 31 = .ok (.iload_n 3, 1) := by decide +kernel
theorem dX12_isKept_32 : decode cX12_isKept 32 = .ok (.iconst 3, 1) := by decide +kernel
theorem dX12_isKept_33 : decode cX12_isKept 33 = .ok (.iadd, 1) := by decide +kernel
theorem dX12_isKept_34 : decode cX12_isKept 34 = .ok (.iaload, 1) := by decide +kernel
theorem dX12_isKept_35 : decode cX12_isKept 35 = .ok (.iastore, 1) := by decide +kernel
theorem dX12_isKept_36 : decode cX12_isKept 36 = .ok (.iinc 3 1, 3) := by decide +kernel
theorem dX12_isKept_39 : decode cX12_isKept 39 = .ok (.goto (-24), 3) := by decide +kernel
theorem dX12_isKept_42 : decode cX12_isKept 42 = .ok (.goto 14, 3) := by decide +kernel
theorem dX12_isKept_45 : decode cX12_isKept 45 = .ok (.aload_n 0, 1) := by decide +kernel
theorem dX12_isKept_46 : decode cX12_isKept 46 = .ok (.getfield 143, 3) := by decide +kernel
theorem dX12_isKept_49 : decode cX12_isKept 49 = .ok (.bipush 115, 2) := by decide +kernel
theorem dX12_isKept_51 : decode cX12_isKept 51 = .ok (.dup2, 1) := by decide +kernel
theorem dX12_isKept_52 : decode cX12_isKept 52 = .ok (.iaload, 1) := by decide +kernel
theorem dX12_isKept_53 : decode cX12_isKept 53 = .ok (.iconst 1, 1) := by decide +kernel
theorem dX12_isKept_54 : decode cX12_isKept 54 = .ok (.iadd, 1) := by decide +kernel
theorem dX12_isKept_55 : decode cX12_isKept 55 = .ok (.iastore, 1) := by decide +kernel
theorem dX12_isKept_56 : decode cX12_isKept 56 = .ok (.bipush 116, 2) := by decide +kernel
theorem dX12_isKept_58 : decode cX12_isKept 58 = .ok (.iconst 3, 1) := by decide +kernel
theorem dX12_isKept_59 : decode cX12_isKept 59 = .ok (.aload_n 0, 1) := by decide +kernel
theorem dX12_isKept_60 : decode cX12_isKept 60 = .ok (.getfield 143, 3) := by decide +kernel
theorem dX12_isKept_63 : decode cX12_isKept 63 = .ok (.bipush 115, 2) := by decide +kernel
theorem dX12_isKept_65 : decode cX12_isKept 65 = .ok (.iaload, 1) := by decide +kernel
theorem dX12_isKept_66 : decode cX12_isKept 66 = .ok (.imul, 1) := by decide +kernel
theorem dX12_isKept_67 : decode cX12_isKept 67 = .ok (.iadd, 1) := by decide +kernel
theorem dX12_isKept_68 : decode cX12_isKept 68 = .ok (.iconst 3, 1) := by decide +kernel
theorem dX12_isKept_69 : decode cX12_isKept 69 = .ok (.isub, 1) := by decide +kernel
theorem dX12_isKept_70 : decode cX12_isKept 70 = .ok (.istore_n 3, 1) := by decide +kernel
theorem dX12_isKept_71 : decode cX12_isKept 71 = .ok (.aload_n 0, 1) := by decide +kernel
theorem dX12_isKept_72 : decode cX12_isKept 72 = .ok (.getfield 143, 3) := by decide +kernel
theorem dX12_isKept_75 : decode cX12_isKept 75 = .ok (.iload_n 3, 1) := by decide +kernel
theorem dX12_isKept_76 : decode cX12_isKept 76 = .ok (.aload_n 0, 1) := by decide +kernel
theorem dX12_isKept_77 : decode cX12_isKept 77 = .ok (.getfield 143, 3) := by decide +kernel
theorem dX12_isKept_80 : decode cX12_isKept 80 = .ok (.iconst 0, 1) := by decide +kernel
theorem dX12_isKept_81 : decode cX12_isKept 81 = .ok (.iaload, 1) := by decide +kernel
theorem dX12_isKept_82 : decode cX12_isKept 82 = .ok (.iastore, 1) := by decide +kernel
theorem dX12_isKept_83 : decode cX12_isKept 83 = .ok (.aload_n 0, 1) := by decide +kernel
theorem dX12_isKept_84 : decode cX12_isKept 84 = .ok (.getfield 143, 3) := by decide +kernel
theorem dX12_isKept_87 : decode cX12_isKept 87 = .ok (.iload_n 3, 1) := by decide +kernel
theorem dX12_isKept_88 : decode cX12_isKept 88 = .ok (.iconst 1, 1) := by decide +kernel
theorem dX12_isKept_89 : decode cX12_isKept 89 = .ok (.iadd, 1) := by decide +kernel
theorem dX12_isKept_90 : decode cX12_isKept 90 = .ok (.iload_n 1, 1) := by decide +kernel
theorem dX12_isKept_91 : decode cX12_isKept 91 = .ok (.iastore, 1) := by decide +kernel
theorem dX12_isKept_92 : decode cX12_isKept 92 = .ok (.aload_n 0, 1) := by decide +kernel
theorem dX12_isKept_93 : decode cX12_isKept 93 = .ok (.getfield 143, 3) := by decide +kernel
theorem dX12_isKept_96 : decode cX12_isKept 96 = .ok (.iload_n 3, 1) := by decide +kernel
theorem dX12_isKept_97 : decode cX12_isKept 97 = .ok (.iconst 2, 1) := by decide +kernel
theorem dX12_isKept_98 : decode cX12_isKept 98 = .ok (.iadd, 1) := by decide +kernel
theorem dX12_isKept_99 : decode cX12_isKept 99 = .ok (.iload_n 2, 1) := by decide +kernel
theorem dX12_isKept_100 : decode cX12_isKept 100 = .ok (.iastore, 1) := by decide +kernel
theorem dX12_isKept_101 : decode cX12_isKept 101 = .ok (.return_, 1) := by decide +kernel
def X12_isKept_p56 (sh : Shp) (v0 : Nat) (v1 : Int32) (v2 : Int32) (Q : Mem → Prop) (m : Mem) : Prop :=
  Ob sh v0 12 ∧ ∃ b7 : Nat, m.2.2 v0 58 = some b7 ∧ (Ix sh b7 100 (115 : Int32) ∧ (Ix sh b7 100 (0 : Int32) ∧ (Ix sh b7 100 (((116 : Int32) + ((3 : Int32) * (m.1 b7 (115 : Int32).toNatClampNeg))) - (3 : Int32)) ∧ bnd (sI m b7 (((116 : Int32) + ((3 : Int32) * (m.1 b7 (115 : Int32).toNatClampNeg))) - (3 : Int32)).toNatClampNeg (m.1 b7 (0 : Int32).toNatClampNeg)) (fun m12 => Ix sh b7 100 ((((116 : Int32) + ((3 : Int32) * (m.1 b7 (115 : Int32).toNatClampNeg))) - (3 : Int32)) + (1 : Int32)) ∧ bnd (sI m12 b7 ((((116 : Int32) + ((3 : Int32) * (m.1 b7 (115 : Int32).toNatClampNeg))) - (3 : Int32)) + (1 : Int32)).toNatClampNeg v1) (fun m14 => Ix sh b7 100 ((((116 : Int32) + ((3 : Int32) * (m.1 b7 (115 : Int32).toNatClampNeg))) - (3 : Int32)) + (2 : Int32)) ∧ bnd (sI m14 b7 ((((116 : Int32) + ((3 : Int32) * (m.1 b7 (115 : Int32).toNatClampNeg))) - (3 : Int32)) + (2 : Int32)).toNatClampNeg v2) (fun m16 => Q m16))))))
def X12_isKept_p15b (sh : Shp) (v0 : Nat) (v1 : Int32) (v2 : Int32) (Q : Mem → Prop) (K15 : Int32 → Mem → Prop) (v3 : Int32) (m : Mem) : Prop :=
  if (233 : Int32) ≤ v3 then (X12_isKept_p56 sh v0 v1 v2 Q m) else (Ob sh v0 12 ∧ ∃ b18 : Nat, m.2.2 v0 58 = some b18 ∧ (Ix sh b18 100 (v3 + (3 : Int32)) ∧ (Ix sh b18 100 v3 ∧ bnd (sI m b18 v3.toNatClampNeg (m.1 b18 (v3 + (3 : Int32)).toNatClampNeg)) (fun m22 => K15 (v3 + (1 : Int32)) m22))))
def X12_isKept_p15n (sh : Shp) (v0 : Nat) (v1 : Int32) (v2 : Int32) (Q : Mem → Prop) : Nat → Int32 → Mem → Prop
  | 0 => fun _ _ => False
  | n + 1 => X12_isKept_p15b sh v0 v1 v2 Q (X12_isKept_p15n sh v0 v1 v2 Q n)
def X12_isKept_p15 (sh : Shp) (v0 : Nat) (v1 : Int32) (v2 : Int32) (Q : Mem → Prop) (v3 : Int32) (m : Mem) : Prop := ∃ n, X12_isKept_p15n sh v0 v1 v2 Q n v3 m
def wp_X12_isKept (sh : Shp) (v0 : Nat) (v1 : Int32) (v2 : Int32) (Q : Mem → Prop) (m : Mem) : Prop :=
  Ob sh v0 12 ∧ ∃ b2 : Nat, m.2.2 v0 58 = some b2 ∧ (Ix sh b2 100 (115 : Int32) ∧ (if (m.1 b2 (115 : Int32).toNatClampNeg) = (40 : Int32) then (X12_isKept_p15 sh v0 v1 v2 Q (116 : Int32) m) else (bnd (sI m b2 (115 : Int32).toNatClampNeg ((m.1 b2 (115 : Int32).toNatClampNeg) + (1 : Int32))) (fun m5 => X12_isKept_p56 sh v0 v1 v2 Q m5))))
abbrev M_X12_isKept : Mi := (cX12_isKept, 4, RX12, (none : Option FieldType), "isKept", 1, 60, 0, 0)
set_option maxHeartbeats 4000000 in
set_option maxRecDepth 100000 in
theorem v_X12_isKept_p56 {G : Gl} {F : Fr} {sh : Shp} {v0 : Nat} {v1 : Int32} {v2 : Int32} {Q : Mem → Prop} {m : Mem} (h : X12_isKept_p56 sh v0 v1 v2 Q m) : V G F M_X12_isKept sh 0 0 (Zv G F sh Q) 56 [(0, .ref (G.1 + v0)), (1, .int v1), (2, .int v2)] [] m := by
  unfold X12_isKept_p56 at h
  refine v_bipush (116 : Int32) dX12_isKept_56 (by decide) ?_
  refine v_iconst (3 : Int32) dX12_isKept_58 (by decide) ?_
  refine v_aload_n 0 0 dX12_isKept_59 rfl rfl ?_
  obtain ⟨o6, h⟩ := h
  obtain ⟨b7, e8, h⟩ := h
  refine v_gR 12 58 dX12_isKept_60 fg_RX12_143 o6 e8 ?_
  refine v_bipush (115 : Int32) dX12_isKept_63 (by decide) ?_
  obtain ⟨i9, h⟩ := h
  refine v_iald dX12_isKept_65 i9 ?_
  refine v_imul dX12_isKept_66 ?_
  refine v_iadd dX12_isKept_67 ?_
  refine v_iconst (3 : Int32) dX12_isKept_68 (by decide) ?_
  refine v_isub dX12_isKept_69 ?_
  refine v_istore_n (ls' := [(3, .int _), (0, .ref _), (1, .int _), (2, .int _)]) 3 dX12_isKept_70 rfl (Nat.le_of_ble_eq_true rfl) rfl ?_
  refine v_aload_n 0 1 dX12_isKept_71 rfl rfl ?_
  refine v_gR 12 58 dX12_isKept_72 fg_RX12_143 o6 e8 ?_
  refine v_iload_n 3 0 dX12_isKept_75 rfl rfl ?_
  refine v_aload_n 0 1 dX12_isKept_76 rfl rfl ?_
  refine v_gR 12 58 dX12_isKept_77 fg_RX12_143 o6 e8 ?_
  refine v_iconst (0 : Int32) dX12_isKept_80 (by decide) ?_
  obtain ⟨i10, h⟩ := h
  refine v_iald dX12_isKept_81 i10 ?_
  obtain ⟨i11, h⟩ := h
  refine v_iast dX12_isKept_82 i11 ?_
  replace h := bnd_e h
  refine v_aload_n 0 1 dX12_isKept_83 rfl rfl ?_
  refine v_gR 12 58 dX12_isKept_84 fg_RX12_143 o6 e8 ?_
  refine v_iload_n 3 0 dX12_isKept_87 rfl rfl ?_
  refine v_iconst (1 : Int32) dX12_isKept_88 (by decide) ?_
  refine v_iadd dX12_isKept_89 ?_
  refine v_iload_n 1 2 dX12_isKept_90 rfl rfl ?_
  obtain ⟨i13, h⟩ := h
  refine v_iast dX12_isKept_91 i13 ?_
  replace h := bnd_e h
  refine v_aload_n 0 1 dX12_isKept_92 rfl rfl ?_
  refine v_gR 12 58 dX12_isKept_93 fg_RX12_143 o6 e8 ?_
  refine v_iload_n 3 0 dX12_isKept_96 rfl rfl ?_
  refine v_iconst (2 : Int32) dX12_isKept_97 (by decide) ?_
  refine v_iadd dX12_isKept_98 ?_
  refine v_iload_n 2 3 dX12_isKept_99 rfl rfl ?_
  obtain ⟨i15, h⟩ := h
  refine v_iast dX12_isKept_100 i15 ?_
  replace h := bnd_e h
  exact v_vret dX12_isKept_101 rfl h
set_option maxHeartbeats 4000000 in
set_option maxRecDepth 100000 in
theorem v_X12_isKept_p15b {G : Gl} {F : Fr} {sh : Shp} {v0 : Nat} {v1 : Int32} {v2 : Int32} {v3 : Int32} {Q : Mem → Prop} {K15 : Int32 → Mem → Prop} {m : Mem} (hK15 : ∀ (x3 : Int32) (m : Mem), K15 x3 m → V G F M_X12_isKept sh 0 0 (Zv G F sh Q) 15 [(0, .ref (G.1 + v0)), (1, .int v1), (2, .int v2), (3, .int x3)] [] m) (h : X12_isKept_p15b sh v0 v1 v2 Q K15 v3 m) : V G F M_X12_isKept sh 0 0 (Zv G F sh Q) 15 [(0, .ref (G.1 + v0)), (1, .int v1), (2, .int v2), (3, .int v3)] [] m := by
  unfold X12_isKept_p15b at h
  refine v_iload_n 3 3 dX12_isKept_15 rfl rfl ?_
  refine v_sipush (233 : Int32) dX12_isKept_16 (by decide) ?_
  refine v_icmp_ge 42 dX12_isKept_19 (by decide) (fun hc => ?_) (fun hc => ?_)
  · replace h := Eq.mp (if_pos hc) h
    refine v_goto 56 dX12_isKept_42 (by decide) ?_
    refine v_sub [0, 1, 2] rfl ?_
    exact v_X12_isKept_p56 h
  · replace h := Eq.mp (if_neg hc) h
    refine v_aload_n 0 0 dX12_isKept_22 rfl rfl ?_
    obtain ⟨o17, h⟩ := h
    obtain ⟨b18, e19, h⟩ := h
    refine v_gR 12 58 dX12_isKept_23 fg_RX12_143 o17 e19 ?_
    refine v_iload_n 3 3 dX12_isKept_26 rfl rfl ?_
    refine v_aload_n 0 0 dX12_isKept_27 rfl rfl ?_
    refine v_gR 12 58 dX12_isKept_28 fg_RX12_143 o17 e19 ?_
    refine v_iload_n 3 3 dX12_isKept_31 rfl rfl ?_
    refine v_iconst (3 : Int32) dX12_isKept_32 (by decide) ?_
    refine v_iadd dX12_isKept_33 ?_
    obtain ⟨i20, h⟩ := h
    refine v_iald dX12_isKept_34 i20 ?_
    obtain ⟨i21, h⟩ := h
    refine v_iast dX12_isKept_35 i21 ?_
    replace h := bnd_e h
    refine v_iinc (ls' := [(3, .int _), (0, .ref _), (1, .int _), (2, .int _)]) 3 3 dX12_isKept_36 rfl (congrArg (HAdd.hAdd _) (by decide : Int32.ofInt (1) = (1 : Int32))) (Nat.le_of_ble_eq_true rfl) rfl ?_
    refine v_goto 15 dX12_isKept_39 (by decide) ?_
    refine v_sub [1, 2, 3, 0] rfl ?_
    exact hK15 _ _ h
set_option maxHeartbeats 4000000 in
set_option maxRecDepth 100000 in
theorem v_X12_isKept_p15 {G : Gl} {F : Fr} {sh : Shp} {v0 : Nat} {v1 : Int32} {v2 : Int32} {v3 : Int32} {Q : Mem → Prop} {m : Mem} (h : X12_isKept_p15 sh v0 v1 v2 Q v3 m) : V G F M_X12_isKept sh 0 0 (Zv G F sh Q) 15 [(0, .ref (G.1 + v0)), (1, .int v1), (2, .int v2), (3, .int v3)] [] m := by
  obtain ⟨n, h⟩ := h
  induction n generalizing v3 m with
  | zero => exact h.elim
  | succ n ih => exact v_X12_isKept_p15b (fun _ _ h => ih h) h
set_option maxHeartbeats 4000000 in
set_option maxRecDepth 100000 in
theorem c_X12_isKept {l : Launch} {G : Gl} {sh : Shp} {v0 : Nat} {v1 : Int32} {v2 : Int32} {Q : Mem → Prop} {m : Mem} (h : wp_X12_isKept sh v0 v1 v2 Q m) : Cnv l G yX12_isKept cX12_isKept 4 (none : Option FieldType) 1 60 sh [.ref (G.1 + v0), .int v1, .int v2] m Q := by
  refine con_v (ls := [(0, .ref (G.1 + v0)), (1, .int v1), (2, .int v2)]) (by decide +kernel) rfl (Nat.le_of_ble_eq_true rfl) (fun F => ?_)
  show V G F M_X12_isKept sh 0 0 (Zv G F sh Q) 0 [(0, .ref (G.1 + v0)), (1, .int v1), (2, .int v2)] [] m
  unfold wp_X12_isKept at h
  refine v_aload_n 0 0 dX12_isKept_0 rfl rfl ?_
  obtain ⟨o1, h⟩ := h
  obtain ⟨b2, e3, h⟩ := h
  refine v_gR 12 58 dX12_isKept_1 fg_RX12_143 o1 e3 ?_
  refine v_bipush (115 : Int32) dX12_isKept_4 (by decide) ?_
  obtain ⟨i4, h⟩ := h
  refine v_iald dX12_isKept_6 i4 ?_
  refine v_bipush (40 : Int32) dX12_isKept_7 (by decide) ?_
  refine v_icmp_ne 45 dX12_isKept_9 (by decide) (fun hc => ?_) (fun hc => ?_)
  · replace h := Eq.mp (if_neg hc) h
    refine v_aload_n 0 0 dX12_isKept_45 rfl rfl ?_
    refine v_gR 12 58 dX12_isKept_46 fg_RX12_143 o1 e3 ?_
    refine v_bipush (115 : Int32) dX12_isKept_49 (by decide) ?_
    refine v_dup2 dX12_isKept_51 rfl rfl ?_
    refine v_iald dX12_isKept_52 i4 ?_
    refine v_iconst (1 : Int32) dX12_isKept_53 (by decide) ?_
    refine v_iadd dX12_isKept_54 ?_
    refine v_iast dX12_isKept_55 i4 ?_
    replace h := bnd_e h
    refine v_sub [0, 1, 2] rfl ?_
    exact v_X12_isKept_p56 h
  · replace h := Eq.mp (if_pos hc) h
    refine v_bipush (116 : Int32) dX12_isKept_12 (by decide) ?_
    refine v_istore_n (ls' := [(3, .int _), (0, .ref _), (1, .int _), (2, .int _)]) 3 dX12_isKept_14 rfl (Nat.le_of_ble_eq_true rfl) rfl ?_
    refine v_sub [1, 2, 3, 0] rfl ?_
    exact v_X12_isKept_p15 h
/-! CalledRiverModel.yearGoes -/
theorem dX12_yearGoes_0 : decode cX12_yearGoes 0 = .ok (.aload_n 0, 1) := by decide +kernel
theorem dX12_yearGoes_1 : decode cX12_yearGoes 1 = .ok (.iload_n 1, 1) := by decide +kernel
theorem dX12_yearGoes_2 : decode cX12_yearGoes 2 = .ok (.invokevirtual 521, 3) := by decide +kernel
theorem dX12_yearGoes_5 : decode cX12_yearGoes 5 = .ok (.iconst 0, 1) := by decide +kernel
theorem dX12_yearGoes_6 : decode cX12_yearGoes 6 = .ok (.istore_n 2, 1) := by decide +kernel
theorem dX12_yearGoes_7 : decode cX12_yearGoes 7 = .ok (.iload_n 2, 1) := by decide +kernel
theorem dX12_yearGoes_8 : decode cX12_yearGoes 8 = .ok (.aload_n 0, 1) := by decide +kernel
theorem dX12_yearGoes_9 : decode cX12_yearGoes 9 = .ok (.getfield 497, 3) := by decide +kernel
theorem dX12_yearGoes_12 : decode cX12_yearGoes 12 = .ok (.if_icmp .ge 43, 3) := by decide +kernel
theorem dX12_yearGoes_15 : decode cX12_yearGoes 15 = .ok (.aload_n 0, 1) := by decide +kernel
theorem dX12_yearGoes_16 : decode cX12_yearGoes 16 = .ok (.aload_n 0, 1) := by decide +kernel
theorem dX12_yearGoes_17 : decode cX12_yearGoes 17 = .ok (.getfield 146, 3) := by decide +kernel
theorem dX12_yearGoes_20 : decode cX12_yearGoes 20 = .ok (.iload_n 2, 1) := by decide +kernel
theorem dX12_yearGoes_21 : decode cX12_yearGoes 21 = .ok (.iaload, 1) := by decide +kernel
theorem dX12_yearGoes_22 : decode cX12_yearGoes 22 = .ok (.invokevirtual 529, 3) := by decide +kernel
theorem dX12_yearGoes_25 : decode cX12_yearGoes 25 = .ok (.bipush 99, 2) := by decide +kernel
theorem dX12_yearGoes_27 : decode cX12_yearGoes 27 = .ok (.if_icmp .ge 22, 3) := by decide +kernel
theorem dX12_yearGoes_30 : decode cX12_yearGoes 30 = .ok (.aload_n 0, 1) := by decide +kernel
theorem dX12_yearGoes_31 : decode cX12_yearGoes 31 = .ok (.getfield 143, 3) := by decide +kernel
theorem dX12_yearGoes_34 : decode cX12_yearGoes 34 = .ok (.iconst 3, 1) := by decide +kernel
theorem dX12_yearGoes_35 : decode cX12_yearGoes 35 = .ok (.iconst 3, 1) := by decide +kernel
theorem dX12_yearGoes_36 : decode cX12_yearGoes 36 = .ok (.aload_n 0, 1) := by decide +kernel
theorem dX12_yearGoes_37 : decode cX12_yearGoes 37 = .ok (.getfield 146, 3) := by decide +kernel
theorem dX12_yearGoes_40 : decode cX12_yearGoes 40 = .ok (.iload_n 2, 1) := by decide +kernel
theorem dX12_yearGoes_41 : decode cX12_yearGoes 41 = .ok (.iaload, 1) := by decide +kernel
theorem dX12_yearGoes_42 : decode cX12_yearGoes 42 = .ok (.imul, 1) := by decide +kernel
theorem dX12_yearGoes_43 : decode cX12_yearGoes 43 = .ok (.iadd, 1) := by decide +kernel
theorem dX12_yearGoes_44 : decode cX12_yearGoes 44 = .ok (.dup2, 1) := by decide +kernel
theorem dX12_yearGoes_45 : decode cX12_yearGoes 45 = .ok (.iaload, 1) := by decide +kernel
theorem dX12_yearGoes_46 : decode cX12_yearGoes 46 = .ok (.iconst 1, 1) := by decide +kernel
theorem dX12_yearGoes_47 : decode cX12_yearGoes 47 = .ok (.iadd, 1) := by decide +kernel
theorem dX12_yearGoes_48 : decode cX12_yearGoes 48 = .ok (.iastore, 1) := by decide +kernel
theorem dX12_yearGoes_49 : decode cX12_yearGoes 49 = .ok (.iinc 2 1, 3) := by decide +kernel
theorem dX12_yearGoes_52 : decode cX12_yearGoes 52 = .ok (.goto (-45), 3) := by decide +kernel
theorem dX12_yearGoes_55 : decode cX12_yearGoes 55 = .ok (.aload_n 0, 1) := by decide +kernel
theorem dX12_yearGoes_56 : decode cX12_yearGoes 56 = .ok (.invokevirtual 532, 3) := by decide +kernel
theorem dX12_yearGoes_59 : decode cX12_yearGoes 59 = .ok (.invokestatic 535, 3) := by decide +kernel
theorem dX12_yearGoes_62 : decode cX12_yearGoes 62 = .ok (.istore_n 2, 1) := by decide +kernel
theorem dX12_yearGoes_63 : decode cX12_yearGoes 63 = .ok (.iconst 0, 1) := by decide +kernel
theorem dX12_yearGoes_64 : decode cX12_yearGoes 64 = .ok (.istore_n 3, 1) := by decide +kernel
theorem dX12_yearGoes_65 : decode cX12_yearGoes 65 = .ok (.iload_n 3, 1) := by decide +kernel
theorem dX12_yearGoes_66 : decode cX12_yearGoes 66 = .ok (.aload_n 0, 1) := by decide +kernel
theorem dX12_yearGoes_67 : decode cX12_yearGoes 67 = .ok (.invokevirtual 436, 3) := by decide +kernel
theorem dX12_yearGoes_70 : decode cX12_yearGoes 70 = .ok (.if_icmp .ge 23, 3) := by decide +kernel
theorem dX12_yearGoes_73 : decode cX12_yearGoes 73 = .ok (.aload_n 0, 1) := by decide +kernel
theorem dX12_yearGoes_74 : decode cX12_yearGoes 74 = .ok (.getfield 143, 3) := by decide +kernel
theorem dX12_yearGoes_77 : decode cX12_yearGoes 77 = .ok (.bipush 109, 2) := by decide +kernel
theorem dX12_yearGoes_79 : decode cX12_yearGoes 79 = .ok (.iload_n 3, 1) := by decide +kernel
theorem dX12_yearGoes_80 : decode cX12_yearGoes 80 = .ok (.iadd, 1) := by decide +kernel
theorem dX12_yearGoes_81 : decode cX12_yearGoes 81 = .ok (.aload_n 0, 1) := by decide +kernel
theorem dX12_yearGoes_82 : decode cX12_yearGoes 82 = .ok (.iload_n 3, 1) := by decide +kernel
theorem dX12_yearGoes_83 : decode cX12_yearGoes 83 = .ok (.invokevirtual 538, 3) := by decide +kernel
theorem dX12_yearGoes_86 : decode cX12_yearGoes 86 = .ok (.iastore, 1) := by decide +kernel
theorem dX12_yearGoes_87 : decode cX12_yearGoes 87 = .ok (.iinc 3 1, 3) := by decide +kernel
theorem dX12_yearGoes_90 : decode cX12_yearGoes 90 = .ok (.goto (-25), 3) := by decide +kernel
theorem dX12_yearGoes_93 : decode cX12_yearGoes 93 = .ok (.aload_n 0, 1) := by decide +kernel
theorem dX12_yearGoes_94 : decode cX12_yearGoes 94 = .ok (.iload_n 1, 1) := by decide +kernel
theorem dX12_yearGoes_95 : decode cX12_yearGoes 95 = .ok (.iload_n 2, 1) := by decide +kernel
theorem dX12_yearGoes_96 : decode cX12_yearGoes 96 = .ok (.invokevirtual 541, 3) := by decide +kernel
theorem dX12_yearGoes_99 : decode cX12_yearGoes 99 = .ok (.aload_n 0, 1) := by decide +kernel
theorem dX12_yearGoes_100 : decode cX12_yearGoes 100 = .ok (.getfield 143, 3) := by decide +kernel
theorem dX12_yearGoes_103 : decode cX12_yearGoes 103 = .ok (.iconst 0, 1) := by decide +kernel
theorem dX12_yearGoes_104 : decode cX12_yearGoes 104 = .ok (.dup2, 1) := by decide +kernel
theorem dX12_yearGoes_105 : decode cX12_yearGoes 105 = .ok (.iaload, 1) := by decide +kernel
theorem dX12_yearGoes_106 : decode cX12_yearGoes 106 = .ok (.iconst 1, 1) := by decide +kernel
theorem dX12_yearGoes_107 : decode cX12_yearGoes 107 = .ok (.iadd, 1) := by decide +kernel
theorem dX12_yearGoes_108 : decode cX12_yearGoes 108 = .ok (.iastore, 1) := by decide +kernel
theorem dX12_yearGoes_109 : decode cX12_yearGoes 109 = .ok (.iload_n 2, 1) := by decide +kernel
theorem dX12_yearGoes_110 : decode cX12_yearGoes 110 = .ok (.ireturn, 1) := by decide +kernel
def X12_yearGoes_p49 (sh : Shp) (v0 : Nat) (v1 : Int32) (v2 : Int32) (Q : Int32 → Mem → Prop) (K7 : Int32 → Mem → Prop) (m : Mem) : Prop :=
  K7 (v2 + (1 : Int32)) m
def X12_yearGoes_p65b (sh : Shp) (v0 : Nat) (v1 : Int32) (v2 : Int32) (Q : Int32 → Mem → Prop) (K65 : Int32 → Mem → Prop) (v3 : Int32) (m : Mem) : Prop :=
  Ob sh v0 12 ∧ wp_X12_farmMany sh v0 (fun r21 m22 => if r21 ≤ v3 then (wp_X12_isKept sh v0 v1 v2 (fun m25 => ∃ b26 : Nat, m25.2.2 v0 58 = some b26 ∧ (Ix sh b26 100 (0 : Int32) ∧ (bnd (sI m25 b26 (0 : Int32).toNatClampNeg ((m25.1 b26 (0 : Int32).toNatClampNeg) + (1 : Int32))) (fun m29 => Q v2 m29)))) m22) else (∃ b30 : Nat, m22.2.2 v0 58 = some b30 ∧ (wp_X12_bakedBy sh v0 v3 (fun r32 m33 => Ix sh b30 100 ((109 : Int32) + v3) ∧ bnd (sI m33 b30 ((109 : Int32) + v3).toNatClampNeg r32) (fun m35 => K65 (v3 + (1 : Int32)) m35)) m22))) m
def X12_yearGoes_p65n (sh : Shp) (v0 : Nat) (v1 : Int32) (v2 : Int32) (Q : Int32 → Mem → Prop) : Nat → Int32 → Mem → Prop
  | 0 => fun _ _ => False
  | n + 1 => X12_yearGoes_p65b sh v0 v1 v2 Q (X12_yearGoes_p65n sh v0 v1 v2 Q n)
def X12_yearGoes_p65 (sh : Shp) (v0 : Nat) (v1 : Int32) (v2 : Int32) (Q : Int32 → Mem → Prop) (v3 : Int32) (m : Mem) : Prop := ∃ n, X12_yearGoes_p65n sh v0 v1 v2 Q n v3 m
def X12_yearGoes_p7b (sh : Shp) (v0 : Nat) (v1 : Int32) (Q : Int32 → Mem → Prop) (K7 : Int32 → Mem → Prop) (v2 : Int32) (m : Mem) : Prop :=
  Ob sh v0 12 ∧ (if (m.1 v0 64) ≤ v2 then (wp_X12_wateredSet sh v0 (fun r5 m6 => wp_X12_bits sh r5 (fun r7 m8 => X12_yearGoes_p65 sh v0 v1 r7 Q (0 : Int32) m8) m6) m) else (∃ b9 : Nat, m.2.2 v0 63 = some b9 ∧ (Ix sh b9 100 v2 ∧ (wp_X12_beenOf sh v0 (m.1 b9 v2.toNatClampNeg) (fun r12 m13 => if (99 : Int32) ≤ r12 then (X12_yearGoes_p49 sh v0 v1 v2 Q K7 m13) else (∃ b14 : Nat, m13.2.2 v0 58 = some b14 ∧ (∃ b16 : Nat, m13.2.2 v0 63 = some b16 ∧ (Ix sh b16 100 v2 ∧ (Ix sh b14 100 ((3 : Int32) + ((3 : Int32) * (m13.1 b16 v2.toNatClampNeg))) ∧ (bnd (sI m13 b14 ((3 : Int32) + ((3 : Int32) * (m13.1 b16 v2.toNatClampNeg))).toNatClampNeg ((m13.1 b14 ((3 : Int32) + ((3 : Int32) * (m13.1 b16 v2.toNatClampNeg))).toNatClampNeg) + (1 : Int32))) (fun m20 => X12_yearGoes_p49 sh v0 v1 v2 Q K7 m20))))))) m))))
def X12_yearGoes_p7n (sh : Shp) (v0 : Nat) (v1 : Int32) (Q : Int32 → Mem → Prop) : Nat → Int32 → Mem → Prop
  | 0 => fun _ _ => False
  | n + 1 => X12_yearGoes_p7b sh v0 v1 Q (X12_yearGoes_p7n sh v0 v1 Q n)
def X12_yearGoes_p7 (sh : Shp) (v0 : Nat) (v1 : Int32) (Q : Int32 → Mem → Prop) (v2 : Int32) (m : Mem) : Prop := ∃ n, X12_yearGoes_p7n sh v0 v1 Q n v2 m
def wp_X12_yearGoes (sh : Shp) (v0 : Nat) (v1 : Int32) (Q : Int32 → Mem → Prop) (m : Mem) : Prop :=
  Ob sh v0 12 ∧ wp_X12_laysWay sh v0 v1 (fun m2 => X12_yearGoes_p7 sh v0 v1 Q (0 : Int32) m2) m
abbrev M_X12_yearGoes : Mi := (cX12_yearGoes, 4, RX12, (Option.some FieldType.int), "yearGoes", 9, 243, 0, 0)
set_option maxHeartbeats 4000000 in
set_option maxRecDepth 100000 in
theorem v_X12_yearGoes_p49 {G : Gl} {F : Fr} {sh : Shp} {v0 : Nat} {v1 : Int32} {v2 : Int32} {Q : Int32 → Mem → Prop} {K7 : Int32 → Mem → Prop} {m : Mem} (hK7 : ∀ (x2 : Int32) (m : Mem), K7 x2 m → V G F M_X12_yearGoes sh 0 0 (Zi G F sh Q) 7 [(0, .ref (G.1 + v0)), (1, .int v1), (2, .int x2)] [] m) (h : X12_yearGoes_p49 sh v0 v1 v2 Q K7 m) : V G F M_X12_yearGoes sh 0 0 (Zi G F sh Q) 49 [(0, .ref (G.1 + v0)), (1, .int v1), (2, .int v2)] [] m := by
  unfold X12_yearGoes_p49 at h
  refine v_iinc (ls' := [(2, .int _), (0, .ref _), (1, .int _)]) 2 2 dX12_yearGoes_49 rfl (congrArg (HAdd.hAdd _) (by decide : Int32.ofInt (1) = (1 : Int32))) (Nat.le_of_ble_eq_true rfl) rfl ?_
  refine v_goto 7 dX12_yearGoes_52 (by decide) ?_
  refine v_sub [1, 2, 0] rfl ?_
  exact hK7 _ _ h
set_option maxHeartbeats 4000000 in
set_option maxRecDepth 100000 in
theorem v_X12_yearGoes_p65b {G : Gl} {F : Fr} {sh : Shp} {v0 : Nat} {v1 : Int32} {v2 : Int32} {v3 : Int32} {Q : Int32 → Mem → Prop} {K65 : Int32 → Mem → Prop} {m : Mem} (hK65 : ∀ (x3 : Int32) (m : Mem), K65 x3 m → V G F M_X12_yearGoes sh 0 0 (Zi G F sh Q) 65 [(0, .ref (G.1 + v0)), (1, .int v1), (2, .int v2), (3, .int x3)] [] m) (h : X12_yearGoes_p65b sh v0 v1 v2 Q K65 v3 m) : V G F M_X12_yearGoes sh 0 0 (Zi G F sh Q) 65 [(0, .ref (G.1 + v0)), (1, .int v1), (2, .int v2), (3, .int v3)] [] m := by
  unfold X12_yearGoes_p65b at h
  refine v_iload_n 3 3 dX12_yearGoes_65 rfl rfl ?_
  refine v_aload_n 0 0 dX12_yearGoes_66 rfl rfl ?_
  obtain ⟨o23, h⟩ := h
  refine v_cVi [] mv_X12_farmMany ml_RX12_436 ⟨_, _, rfl⟩ o23 rfl rfl (Nat.le_of_ble_eq_true rfl) (Nat.le_of_ble_eq_true rfl) (Nat.le_of_ble_eq_true rfl) (Nat.zero_le _) (Nat.zero_le _) dX12_yearGoes_67 (c_X12_farmMany h) (fun r21 m22 h => ?_)
  refine v_icmp_ge 93 dX12_yearGoes_70 (by decide) (fun hc => ?_) (fun hc => ?_)
  · replace h := Eq.mp (if_pos hc) h
    refine v_aload_n 0 0 dX12_yearGoes_93 rfl rfl ?_
    refine v_iload_n 1 1 dX12_yearGoes_94 rfl rfl ?_
    refine v_iload_n 2 2 dX12_yearGoes_95 rfl rfl ?_
    refine v_cVv [.int _, .int _] mv_X12_isKept ml_RX12_541 ⟨_, _, rfl⟩ o23 rfl rfl (Nat.le_of_ble_eq_true rfl) (Nat.le_of_ble_eq_true rfl) (Nat.le_of_ble_eq_true rfl) (Nat.zero_le _) (Nat.zero_le _) dX12_yearGoes_96 (c_X12_isKept h) (fun m25 h => ?_)
    refine v_aload_n 0 0 dX12_yearGoes_99 rfl rfl ?_
    obtain ⟨b26, e27, h⟩ := h
    refine v_gR 12 58 dX12_yearGoes_100 fg_RX12_143 o23 e27 ?_
    refine v_iconst (0 : Int32) dX12_yearGoes_103 (by decide) ?_
    refine v_dup2 dX12_yearGoes_104 rfl rfl ?_
    obtain ⟨i28, h⟩ := h
    refine v_iald dX12_yearGoes_105 i28 ?_
    refine v_iconst (1 : Int32) dX12_yearGoes_106 (by decide) ?_
    refine v_iadd dX12_yearGoes_107 ?_
    refine v_iast dX12_yearGoes_108 i28 ?_
    replace h := bnd_e h
    refine v_iload_n 2 2 dX12_yearGoes_109 rfl rfl ?_
    exact v_iret dX12_yearGoes_110 rfl rfl h
  · replace h := Eq.mp (if_neg hc) h
    refine v_aload_n 0 0 dX12_yearGoes_73 rfl rfl ?_
    obtain ⟨b30, e31, h⟩ := h
    refine v_gR 12 58 dX12_yearGoes_74 fg_RX12_143 o23 e31 ?_
    refine v_bipush (109 : Int32) dX12_yearGoes_77 (by decide) ?_
    refine v_iload_n 3 3 dX12_yearGoes_79 rfl rfl ?_
    refine v_iadd dX12_yearGoes_80 ?_
    refine v_aload_n 0 0 dX12_yearGoes_81 rfl rfl ?_
    refine v_iload_n 3 3 dX12_yearGoes_82 rfl rfl ?_
    refine v_cVi [.int _] mv_X12_bakedBy ml_RX12_538 ⟨_, _, rfl⟩ o23 rfl rfl (Nat.le_of_ble_eq_true rfl) (Nat.le_of_ble_eq_true rfl) (Nat.le_of_ble_eq_true rfl) (Nat.zero_le _) (Nat.zero_le _) dX12_yearGoes_83 (c_X12_bakedBy h) (fun r32 m33 h => ?_)
    obtain ⟨i34, h⟩ := h
    refine v_iast dX12_yearGoes_86 i34 ?_
    replace h := bnd_e h
    refine v_iinc (ls' := [(3, .int _), (0, .ref _), (1, .int _), (2, .int _)]) 3 3 dX12_yearGoes_87 rfl (congrArg (HAdd.hAdd _) (by decide : Int32.ofInt (1) = (1 : Int32))) (Nat.le_of_ble_eq_true rfl) rfl ?_
    refine v_goto 65 dX12_yearGoes_90 (by decide) ?_
    refine v_sub [1, 2, 3, 0] rfl ?_
    exact hK65 _ _ h
set_option maxHeartbeats 4000000 in
set_option maxRecDepth 100000 in
theorem v_X12_yearGoes_p65 {G : Gl} {F : Fr} {sh : Shp} {v0 : Nat} {v1 : Int32} {v2 : Int32} {v3 : Int32} {Q : Int32 → Mem → Prop} {m : Mem} (h : X12_yearGoes_p65 sh v0 v1 v2 Q v3 m) : V G F M_X12_yearGoes sh 0 0 (Zi G F sh Q) 65 [(0, .ref (G.1 + v0)), (1, .int v1), (2, .int v2), (3, .int v3)] [] m := by
  obtain ⟨n, h⟩ := h
  induction n generalizing v3 m with
  | zero => exact h.elim
  | succ n ih => exact v_X12_yearGoes_p65b (fun _ _ h => ih h) h
set_option maxHeartbeats 4000000 in
set_option maxRecDepth 100000 in
theorem v_X12_yearGoes_p7b {G : Gl} {F : Fr} {sh : Shp} {v0 : Nat} {v1 : Int32} {v2 : Int32} {Q : Int32 → Mem → Prop} {K7 : Int32 → Mem → Prop} {m : Mem} (hK7 : ∀ (x2 : Int32) (m : Mem), K7 x2 m → V G F M_X12_yearGoes sh 0 0 (Zi G F sh Q) 7 [(0, .ref (G.1 + v0)), (1, .int v1), (2, .int x2)] [] m) (h : X12_yearGoes_p7b sh v0 v1 Q K7 v2 m) : V G F M_X12_yearGoes sh 0 0 (Zi G F sh Q) 7 [(0, .ref (G.1 + v0)), (1, .int v1), (2, .int v2)] [] m := by
  unfold X12_yearGoes_p7b at h
  refine v_iload_n 2 2 dX12_yearGoes_7 rfl rfl ?_
  refine v_aload_n 0 0 dX12_yearGoes_8 rfl rfl ?_
  obtain ⟨o4, h⟩ := h
  refine v_gI 12 64 dX12_yearGoes_9 fg_RX12_497 o4 ?_
  refine v_icmp_ge 55 dX12_yearGoes_12 (by decide) (fun hc => ?_) (fun hc => ?_)
  · replace h := Eq.mp (if_pos hc) h
    refine v_aload_n 0 0 dX12_yearGoes_55 rfl rfl ?_
    refine v_cVi [] mv_X12_wateredSet ml_RX12_532 ⟨_, _, rfl⟩ o4 rfl rfl (Nat.le_of_ble_eq_true rfl) (Nat.le_of_ble_eq_true rfl) (Nat.le_of_ble_eq_true rfl) (Nat.zero_le _) (Nat.zero_le _) dX12_yearGoes_56 (c_X12_wateredSet h) (fun r5 m6 h => ?_)
    refine v_cSi [.int _] mv_X12_bits ml_RX12_535 rfl rfl (Nat.le_of_ble_eq_true rfl) (Nat.le_of_ble_eq_true rfl) (Nat.le_of_ble_eq_true rfl) (Nat.zero_le _) (Nat.zero_le _) dX12_yearGoes_59 (c_X12_bits h) (fun r7 m8 h => ?_)
    refine v_istore_n (ls' := [(2, .int _), (0, .ref _), (1, .int _)]) 2 dX12_yearGoes_62 rfl (Nat.le_of_ble_eq_true rfl) rfl ?_
    refine v_iconst (0 : Int32) dX12_yearGoes_63 (by decide) ?_
    refine v_istore_n (ls' := [(3, .int _), (2, .int _), (0, .ref _), (1, .int _)]) 3 dX12_yearGoes_64 rfl (Nat.le_of_ble_eq_true rfl) rfl ?_
    refine v_sub [2, 3, 1, 0] rfl ?_
    exact v_X12_yearGoes_p65 h
  · replace h := Eq.mp (if_neg hc) h
    refine v_aload_n 0 0 dX12_yearGoes_15 rfl rfl ?_
    refine v_aload_n 0 0 dX12_yearGoes_16 rfl rfl ?_
    obtain ⟨b9, e10, h⟩ := h
    refine v_gR 12 63 dX12_yearGoes_17 fg_RX12_146 o4 e10 ?_
    refine v_iload_n 2 2 dX12_yearGoes_20 rfl rfl ?_
    obtain ⟨i11, h⟩ := h
    refine v_iald dX12_yearGoes_21 i11 ?_
    refine v_cVi [.int _] mv_X12_beenOf ml_RX12_529 ⟨_, _, rfl⟩ o4 rfl rfl (Nat.le_of_ble_eq_true rfl) (Nat.le_of_ble_eq_true rfl) (Nat.le_of_ble_eq_true rfl) (Nat.zero_le _) (Nat.zero_le _) dX12_yearGoes_22 (c_X12_beenOf h) (fun r12 m13 h => ?_)
    refine v_bipush (99 : Int32) dX12_yearGoes_25 (by decide) ?_
    refine v_icmp_ge 49 dX12_yearGoes_27 (by decide) (fun hc => ?_) (fun hc => ?_)
    · replace h := Eq.mp (if_pos hc) h
      refine v_sub [0, 1, 2] rfl ?_
      exact v_X12_yearGoes_p49 hK7 h
    · replace h := Eq.mp (if_neg hc) h
      refine v_aload_n 0 0 dX12_yearGoes_30 rfl rfl ?_
      obtain ⟨b14, e15, h⟩ := h
      refine v_gR 12 58 dX12_yearGoes_31 fg_RX12_143 o4 e15 ?_
      refine v_iconst (3 : Int32) dX12_yearGoes_34 (by decide) ?_
      refine v_iconst (3 : Int32) dX12_yearGoes_35 (by decide) ?_
      refine v_aload_n 0 0 dX12_yearGoes_36 rfl rfl ?_
      obtain ⟨b16, e17, h⟩ := h
      refine v_gR 12 63 dX12_yearGoes_37 fg_RX12_146 o4 e17 ?_
      refine v_iload_n 2 2 dX12_yearGoes_40 rfl rfl ?_
      obtain ⟨i18, h⟩ := h
      refine v_iald dX12_yearGoes_41 i18 ?_
      refine v_imul dX12_yearGoes_42 ?_
      refine v_iadd dX12_yearGoes_43 ?_
      refine v_dup2 dX12_yearGoes_44 rfl rfl ?_
      obtain ⟨i19, h⟩ := h
      refine v_iald dX12_yearGoes_45 i19 ?_
      refine v_iconst (1 : Int32) dX12_yearGoes_46 (by decide) ?_
      refine v_iadd dX12_yearGoes_47 ?_
      refine v_iast dX12_yearGoes_48 i19 ?_
      replace h := bnd_e h
      refine v_sub [0, 1, 2] rfl ?_
      exact v_X12_yearGoes_p49 hK7 h
set_option maxHeartbeats 4000000 in
set_option maxRecDepth 100000 in
theorem v_X12_yearGoes_p7 {G : Gl} {F : Fr} {sh : Shp} {v0 : Nat} {v1 : Int32} {v2 : Int32} {Q : Int32 → Mem → Prop} {m : Mem} (h : X12_yearGoes_p7 sh v0 v1 Q v2 m) : V G F M_X12_yearGoes sh 0 0 (Zi G F sh Q) 7 [(0, .ref (G.1 + v0)), (1, .int v1), (2, .int v2)] [] m := by
  obtain ⟨n, h⟩ := h
  induction n generalizing v2 m with
  | zero => exact h.elim
  | succ n ih => exact v_X12_yearGoes_p7b (fun _ _ h => ih h) h
set_option maxHeartbeats 4000000 in
set_option maxRecDepth 100000 in
theorem c_X12_yearGoes {l : Launch} {G : Gl} {sh : Shp} {v0 : Nat} {v1 : Int32} {Q : Int32 → Mem → Prop} {m : Mem} (h : wp_X12_yearGoes sh v0 v1 Q m) : Cni l G yX12_yearGoes cX12_yearGoes 4 (Option.some FieldType.int) 9 243 sh [.ref (G.1 + v0), .int v1] m Q := by
  refine con_i (ls := [(0, .ref (G.1 + v0)), (1, .int v1)]) (by decide +kernel) rfl (Nat.le_of_ble_eq_true rfl) (fun F => ?_)
  show V G F M_X12_yearGoes sh 0 0 (Zi G F sh Q) 0 [(0, .ref (G.1 + v0)), (1, .int v1)] [] m
  unfold wp_X12_yearGoes at h
  refine v_aload_n 0 0 dX12_yearGoes_0 rfl rfl ?_
  refine v_iload_n 1 1 dX12_yearGoes_1 rfl rfl ?_
  obtain ⟨o3, h⟩ := h
  refine v_cVv [.int _] mv_X12_laysWay ml_RX12_521 ⟨_, _, rfl⟩ o3 rfl rfl (Nat.le_of_ble_eq_true rfl) (Nat.le_of_ble_eq_true rfl) (Nat.le_of_ble_eq_true rfl) (Nat.zero_le _) (Nat.zero_le _) dX12_yearGoes_2 (c_X12_laysWay h) (fun m2 h => ?_)
  refine v_iconst (0 : Int32) dX12_yearGoes_5 (by decide) ?_
  refine v_istore_n (ls' := [(2, .int _), (0, .ref _), (1, .int _)]) 2 dX12_yearGoes_6 rfl (Nat.le_of_ble_eq_true rfl) rfl ?_
  refine v_sub [1, 2, 0] rfl ?_
  exact v_X12_yearGoes_p7 h
/-! CalledRiverModel.chance -/
theorem dX12_chance_0 : decode cX12_chance 0 = .ok (.aload_n 0, 1) := by decide +kernel
theorem dX12_chance_1 : decode cX12_chance 1 = .ok (.iload_n 1, 1) := by decide +kernel
theorem dX12_chance_2 : decode cX12_chance 2 = .ok (.iconst 1, 1) := by decide +kernel
theorem dX12_chance_3 : decode cX12_chance 3 = .ok (.bipush 100, 2) := by decide +kernel
theorem dX12_chance_5 : decode cX12_chance 5 = .ok (.invokevirtual 598, 3) := by decide +kernel
theorem dX12_chance_8 : decode cX12_chance 8 = .ok (.ifCond .eq 17, 3) := by decide +kernel
theorem dX12_chance_11 : decode cX12_chance 11 = .ok (.aload_n 0, 1) := by decide +kernel
theorem dX12_chance_12 : decode cX12_chance 12 = .ok (.invokevirtual 439, 3) := by decide +kernel
theorem dX12_chance_15 : decode cX12_chance 15 = .ok (.ifCond .eq 10, 3) := by decide +kernel
theorem dX12_chance_18 : decode cX12_chance 18 = .ok (.aload_n 0, 1) := by decide +kernel
theorem dX12_chance_19 : decode cX12_chance 19 = .ok (.invokevirtual 509, 3) := by decide +kernel
theorem dX12_chance_22 : decode cX12_chance 22 = .ok (.ifCond .ne 9, 3) := by decide +kernel
theorem dX12_chance_25 : decode cX12_chance 25 = .ok (.aload_n 0, 1) := by decide +kernel
theorem dX12_chance_26 : decode cX12_chance 26 = .ok (.iconst 2, 1) := by decide +kernel
theorem dX12_chance_27 : decode cX12_chance 27 = .ok (.invokevirtual 580, 3) := by decide +kernel
theorem dX12_chance_30 : decode cX12_chance 30 = .ok (.ireturn, 1) := by decide +kernel
theorem dX12_chance_31 : decode cX12_chance 31 = .ok (.aload_n 0, 1) := by decide +kernel
theorem dX12_chance_32 : decode cX12_chance 32 = .ok (.invokevirtual 601, 3) := by decide +kernel
theorem dX12_chance_35 : decode cX12_chance 35 = .ok (.iconst 0, 1) := by decide +kernel
theorem dX12_chance_36 : decode cX12_chance 36 = .ok (.istore_n 2, 1) := by decide +kernel
theorem dX12_chance_37 : decode cX12_chance 37 = .ok (.iconst 0, 1) := by decide +kernel
theorem dX12_chance_38 : decode cX12_chance 38 = .ok (.istore_n 3, 1) := by decide +kernel
theorem dX12_chance_39 : decode cX12_chance 39 = .ok (.iload_n 3, 1) := by decide +kernel
theorem dX12_chance_40 : decode cX12_chance 40 = .ok (.iload_n 1, 1) := by decide +kernel
theorem dX12_chance_41 : decode cX12_chance 41 = .ok (.if_icmp .ge 24, 3) := by decide +kernel
theorem dX12_chance_44 : decode cX12_chance 44 = .ok (.iload_n 2, 1) := by decide +kernel
theorem dX12_chance_45 : decode cX12_chance 45 = .ok (.aload_n 0, 1) := by decide +kernel
theorem dX12_chance_46 : decode cX12_chance 46 = .ok (.aload_n 0, 1) := by decide +kernel
theorem dX12_chance_47 : decode cX12_chance 47 = .ok (.aload_n 0, 1) := by decide +kernel
theorem dX12_chance_48 : decode cX12_chance 48 = .ok (.invokevirtual 439, 3) := by decide +kernel
theorem dX12_chance_51 : decode cX12_chance 51 = .ok (.invokevirtual 618, 3) := by decide +kernel
theorem dX12_chance_54 : decode cX12_chance 54 = .ok (.invokevirtual 604, 3) := by decide +kernel
theorem dX12_chance_57 : decode cX12_chance 57 = .ok (.iadd, 1) := by decide +kernel
theorem dX12_chance_58 : decode cX12_chance 58 = .ok (.istore_n 2, 1) := by decide +kernel
theorem dX12_chance_59 : decode cX12_chance 59 = .ok (.iinc 3 1, 3) := by decide +kernel
theorem dX12_chance_62 : decode cX12_chance 62 = .ok (.goto (-23), 3) := by decide +kernel
theorem dX12_chance_65 : decode cX12_chance 65 = .ok (.iload_n 2, 1) := by decide +kernel
theorem dX12_chance_66 : decode cX12_chance 66 = .ok (.ireturn, 1) := by decide +kernel
def X12_chance_p25 (sh : Shp) (v0 : Nat) (Q : Int32 → Mem → Prop) (m : Mem) : Prop :=
  Ob sh v0 12 ∧ wp_X12_refuses sh v0 (2 : Int32) (fun r10 m11 => Q r10 m11) m
def X12_chance_p39b (sh : Shp) (v0 : Nat) (v1 : Int32) (Q : Int32 → Mem → Prop) (K39 : Int32 → Int32 → Mem → Prop) (v2 : Int32) (v3 : Int32) (m : Mem) : Prop :=
  if v1 ≤ v3 then (Q v2 m) else (Ob sh v0 12 ∧ wp_X12_callerMany sh v0 (fun r13 m14 => wp_X12_drawOf sh v0 r13 (fun r16 m17 => wp_X12_yearGoes sh v0 r16 (fun r18 m19 => K39 (v2 + r18) (v3 + (1 : Int32)) m19) m17) m14) m)
def X12_chance_p39n (sh : Shp) (v0 : Nat) (v1 : Int32) (Q : Int32 → Mem → Prop) : Nat → Int32 → Int32 → Mem → Prop
  | 0 => fun _ _ _ => False
  | n + 1 => X12_chance_p39b sh v0 v1 Q (X12_chance_p39n sh v0 v1 Q n)
def X12_chance_p39 (sh : Shp) (v0 : Nat) (v1 : Int32) (Q : Int32 → Mem → Prop) (v2 : Int32) (v3 : Int32) (m : Mem) : Prop := ∃ n, X12_chance_p39n sh v0 v1 Q n v2 v3 m
def wp_X12_chance (sh : Shp) (v0 : Nat) (v1 : Int32) (Q : Int32 → Mem → Prop) (m : Mem) : Prop :=
  Ob sh v0 12 ∧ wp_X12_isAhead sh v0 v1 (1 : Int32) (100 : Int32) (fun r1 m2 => if r1 = 0 then (X12_chance_p25 sh v0 Q m2) else (wp_X12_callerMany sh v0 (fun r4 m5 => if r4 = 0 then (X12_chance_p25 sh v0 Q m5) else (wp_X12_hasWay sh v0 (fun r6 m7 => if r6 = 0 then (X12_chance_p25 sh v0 Q m7) else (wp_X12_keeps sh v0 (fun m9 => X12_chance_p39 sh v0 v1 Q (0 : Int32) (0 : Int32) m9) m7)) m5)) m2)) m
abbrev M_X12_chance : Mi := (cX12_chance, 4, RX12, (Option.some FieldType.int), "chance", 10, 266, 0, 0)
set_option maxHeartbeats 4000000 in
set_option maxRecDepth 100000 in
theorem v_X12_chance_p25 {G : Gl} {F : Fr} {sh : Shp} {v0 : Nat} {Q : Int32 → Mem → Prop} {m : Mem} (h : X12_chance_p25 sh v0 Q m) : V G F M_X12_chance sh 0 0 (Zi G F sh Q) 25 [(0, .ref (G.1 + v0))] [] m := by
  unfold X12_chance_p25 at h
  refine v_aload_n 0 0 dX12_chance_25 rfl rfl ?_
  refine v_iconst (2 : Int32) dX12_chance_26 (by decide) ?_
  obtain ⟨o12, h⟩ := h
  refine v_cVi [.int _] mv_X12_refuses ml_RX12_580 ⟨_, _, rfl⟩ o12 rfl rfl (Nat.le_of_ble_eq_true rfl) (Nat.le_of_ble_eq_true rfl) (Nat.le_of_ble_eq_true rfl) (Nat.zero_le _) (Nat.zero_le _) dX12_chance_27 (c_X12_refuses h) (fun r10 m11 h => ?_)
  exact v_iret dX12_chance_30 rfl rfl h
set_option maxHeartbeats 4000000 in
set_option maxRecDepth 100000 in
theorem v_X12_chance_p39b {G : Gl} {F : Fr} {sh : Shp} {v0 : Nat} {v1 : Int32} {v2 : Int32} {v3 : Int32} {Q : Int32 → Mem → Prop} {K39 : Int32 → Int32 → Mem → Prop} {m : Mem} (hK39 : ∀ (x2 : Int32) (x3 : Int32) (m : Mem), K39 x2 x3 m → V G F M_X12_chance sh 0 0 (Zi G F sh Q) 39 [(0, .ref (G.1 + v0)), (1, .int v1), (2, .int x2), (3, .int x3)] [] m) (h : X12_chance_p39b sh v0 v1 Q K39 v2 v3 m) : V G F M_X12_chance sh 0 0 (Zi G F sh Q) 39 [(0, .ref (G.1 + v0)), (1, .int v1), (2, .int v2), (3, .int v3)] [] m := by
  unfold X12_chance_p39b at h
  refine v_iload_n 3 3 dX12_chance_39 rfl rfl ?_
  refine v_iload_n 1 1 dX12_chance_40 rfl rfl ?_
  refine v_icmp_ge 65 dX12_chance_41 (by decide) (fun hc => ?_) (fun hc => ?_)
  · replace h := Eq.mp (if_pos hc) h
    refine v_iload_n 2 2 dX12_chance_65 rfl rfl ?_
    exact v_iret dX12_chance_66 rfl rfl h
  · replace h := Eq.mp (if_neg hc) h
    refine v_iload_n 2 2 dX12_chance_44 rfl rfl ?_
    refine v_aload_n 0 0 dX12_chance_45 rfl rfl ?_
    refine v_aload_n 0 0 dX12_chance_46 rfl rfl ?_
    refine v_aload_n 0 0 dX12_chance_47 rfl rfl ?_
    obtain ⟨o15, h⟩ := h
    refine v_cVi [] mv_X12_callerMany ml_RX12_439 ⟨_, _, rfl⟩ o15 rfl rfl (Nat.le_of_ble_eq_true rfl) (Nat.le_of_ble_eq_true rfl) (Nat.le_of_ble_eq_true rfl) (Nat.zero_le _) (Nat.zero_le _) dX12_chance_48 (c_X12_callerMany h) (fun r13 m14 h => ?_)
    refine v_cVi [.int _] mv_X12_drawOf ml_RX12_618 ⟨_, _, rfl⟩ o15 rfl rfl (Nat.le_of_ble_eq_true rfl) (Nat.le_of_ble_eq_true rfl) (Nat.le_of_ble_eq_true rfl) (Nat.zero_le _) (Nat.zero_le _) dX12_chance_51 (c_X12_drawOf h) (fun r16 m17 h => ?_)
    refine v_cVi [.int _] mv_X12_yearGoes ml_RX12_604 ⟨_, _, rfl⟩ o15 rfl rfl (Nat.le_of_ble_eq_true rfl) (Nat.le_of_ble_eq_true rfl) (Nat.le_of_ble_eq_true rfl) (Nat.zero_le _) (Nat.zero_le _) dX12_chance_54 (c_X12_yearGoes h) (fun r18 m19 h => ?_)
    refine v_iadd dX12_chance_57 ?_
    refine v_istore_n (ls' := [(2, .int _), (0, .ref _), (1, .int _), (3, .int _)]) 2 dX12_chance_58 rfl (Nat.le_of_ble_eq_true rfl) rfl ?_
    refine v_iinc (ls' := [(3, .int _), (2, .int _), (0, .ref _), (1, .int _)]) 3 3 dX12_chance_59 rfl (congrArg (HAdd.hAdd _) (by decide : Int32.ofInt (1) = (1 : Int32))) (Nat.le_of_ble_eq_true rfl) rfl ?_
    refine v_goto 39 dX12_chance_62 (by decide) ?_
    refine v_sub [2, 3, 1, 0] rfl ?_
    exact hK39 _ _ _ h
set_option maxHeartbeats 4000000 in
set_option maxRecDepth 100000 in
theorem v_X12_chance_p39 {G : Gl} {F : Fr} {sh : Shp} {v0 : Nat} {v1 : Int32} {v2 : Int32} {v3 : Int32} {Q : Int32 → Mem → Prop} {m : Mem} (h : X12_chance_p39 sh v0 v1 Q v2 v3 m) : V G F M_X12_chance sh 0 0 (Zi G F sh Q) 39 [(0, .ref (G.1 + v0)), (1, .int v1), (2, .int v2), (3, .int v3)] [] m := by
  obtain ⟨n, h⟩ := h
  induction n generalizing v2 v3 m with
  | zero => exact h.elim
  | succ n ih => exact v_X12_chance_p39b (fun _ _ _ h => ih h) h
set_option maxHeartbeats 4000000 in
set_option maxRecDepth 100000 in
theorem c_X12_chance {l : Launch} {G : Gl} {sh : Shp} {v0 : Nat} {v1 : Int32} {Q : Int32 → Mem → Prop} {m : Mem} (h : wp_X12_chance sh v0 v1 Q m) : Cni l G yX12_chance cX12_chance 4 (Option.some FieldType.int) 10 266 sh [.ref (G.1 + v0), .int v1] m Q := by
  refine con_i (ls := [(0, .ref (G.1 + v0)), (1, .int v1)]) (by decide +kernel) rfl (Nat.le_of_ble_eq_true rfl) (fun F => ?_)
  show V G F M_X12_chance sh 0 0 (Zi G F sh Q) 0 [(0, .ref (G.1 + v0)), (1, .int v1)] [] m
  unfold wp_X12_chance at h
  refine v_aload_n 0 0 dX12_chance_0 rfl rfl ?_
  refine v_iload_n 1 1 dX12_chance_1 rfl rfl ?_
  refine v_iconst (1 : Int32) dX12_chance_2 (by decide) ?_
  refine v_bipush (100 : Int32) dX12_chance_3 (by decide) ?_
  obtain ⟨o3, h⟩ := h
  refine v_cVi [.int _, .int _, .int _] mv_X12_isAhead ml_RX12_598 ⟨_, _, rfl⟩ o3 rfl rfl (Nat.le_of_ble_eq_true rfl) (Nat.le_of_ble_eq_true rfl) (Nat.le_of_ble_eq_true rfl) (Nat.zero_le _) (Nat.zero_le _) dX12_chance_5 (c_X12_isAhead h) (fun r1 m2 h => ?_)
  refine v_if_eq 25 dX12_chance_8 (by decide) (fun hc => ?_) (fun hc => ?_)
  · replace h := Eq.mp (if_pos hc) h
    refine v_sub [0] rfl ?_
    exact v_X12_chance_p25 h
  · replace h := Eq.mp (if_neg hc) h
    refine v_aload_n 0 0 dX12_chance_11 rfl rfl ?_
    refine v_cVi [] mv_X12_callerMany ml_RX12_439 ⟨_, _, rfl⟩ o3 rfl rfl (Nat.le_of_ble_eq_true rfl) (Nat.le_of_ble_eq_true rfl) (Nat.le_of_ble_eq_true rfl) (Nat.zero_le _) (Nat.zero_le _) dX12_chance_12 (c_X12_callerMany h) (fun r4 m5 h => ?_)
    refine v_if_eq 25 dX12_chance_15 (by decide) (fun hc => ?_) (fun hc => ?_)
    · replace h := Eq.mp (if_pos hc) h
      refine v_sub [0] rfl ?_
      exact v_X12_chance_p25 h
    · replace h := Eq.mp (if_neg hc) h
      refine v_aload_n 0 0 dX12_chance_18 rfl rfl ?_
      refine v_cVi [] mv_X12_hasWay ml_RX12_509 ⟨_, _, rfl⟩ o3 rfl rfl (Nat.le_of_ble_eq_true rfl) (Nat.le_of_ble_eq_true rfl) (Nat.le_of_ble_eq_true rfl) (Nat.zero_le _) (Nat.zero_le _) dX12_chance_19 (c_X12_hasWay h) (fun r6 m7 h => ?_)
      refine v_if_ne 31 dX12_chance_22 (by decide) (fun hc => ?_) (fun hc => ?_)
      · replace h := Eq.mp (if_neg hc) h
        refine v_aload_n 0 0 dX12_chance_31 rfl rfl ?_
        refine v_cVv [] mv_X12_keeps ml_RX12_601 ⟨_, _, rfl⟩ o3 rfl rfl (Nat.le_of_ble_eq_true rfl) (Nat.le_of_ble_eq_true rfl) (Nat.le_of_ble_eq_true rfl) (Nat.zero_le _) (Nat.zero_le _) dX12_chance_32 (c_X12_keeps h) (fun m9 h => ?_)
        refine v_iconst (0 : Int32) dX12_chance_35 (by decide) ?_
        refine v_istore_n (ls' := [(2, .int _), (0, .ref _), (1, .int _)]) 2 dX12_chance_36 rfl (Nat.le_of_ble_eq_true rfl) rfl ?_
        refine v_iconst (0 : Int32) dX12_chance_37 (by decide) ?_
        refine v_istore_n (ls' := [(3, .int _), (2, .int _), (0, .ref _), (1, .int _)]) 3 dX12_chance_38 rfl (Nat.le_of_ble_eq_true rfl) rfl ?_
        refine v_sub [2, 3, 1, 0] rfl ?_
        exact v_X12_chance_p39 h
      · replace h := Eq.mp (if_pos hc) h
        refine v_sub [0] rfl ?_
        exact v_X12_chance_p25 h
/-! CalledRiverModel.checked -/
theorem dX12_checked_0 : decode cX12_checked 0 = .ok (.sipush 173, 3) := by decide +kernel
theorem dX12_checked_3 : decode cX12_checked 3 = .ok (.istore_n 2, 1) := by decide +kernel
theorem dX12_checked_4 : decode cX12_checked 4 = .ok (.iconst 0, 1) := by decide +kernel
theorem dX12_checked_5 : decode cX12_checked 5 = .ok (.istore_n 3, 1) := by decide +kernel
theorem dX12_checked_6 : decode cX12_checked 6 = .ok (.iload_n 3, 1) := by decide +kernel
theorem dX12_checked_7 : decode cX12_checked 7 = .ok (.iload_n 1, 1) := by decide +kernel
theorem dX12_checked_8 : decode cX12_checked 8 = .ok (.if_icmp .ge 21, 3) := by decide +kernel
theorem dX12_checked_11 : decode cX12_checked 11 = .ok (.iconst 3, 1) := by decide +kernel
theorem dX12_checked_12 : decode cX12_checked 12 = .ok (.iload_n 2, 1) := by decide +kernel
theorem dX12_checked_13 : decode cX12_checked 13 = .ok (.imul, 1) := by decide +kernel
theorem dX12_checked_14 : decode cX12_checked 14 = .ok (.aload_n 0, 1) := by decide +kernel
theorem dX12_checked_15 : decode cX12_checked 15 = .ok (.iload_n 3, 1) := by decide +kernel
theorem dX12_checked_16 : decode cX12_checked 16 = .ok (.iaload, 1) := by decide +kernel
theorem dX12_checked_17 : decode cX12_checked 17 = .ok (.iadd, 1) := by decide +kernel
theorem dX12_checked_18 : decode cX12_checked 18 = .ok (.sipush 251, 3) := by decide +kernel
theorem dX12_checked_21 : decode cX12_checked 21 = .ok (.irem, 1) := by decide +kernel
theorem dX12_checked_22 : decode cX12_checked 22 = .ok (.istore_n 2, 1) := by decide +kernel
theorem dX12_checked_23 : decode cX12_checked 23 = .ok (.iinc 3 1, 3) := by decide +kernel
theorem dX12_checked_26 : decode cX12_checked 26 = .ok (.goto (-20), 3) := by decide +kernel
theorem dX12_checked_29 : decode cX12_checked 29 = .ok (.iload_n 2, 1) := by decide +kernel
theorem dX12_checked_30 : decode cX12_checked 30 = .ok (.ireturn, 1) := by decide +kernel
def X12_checked_p6b (sh : Shp) (v0 : Nat) (v1 : Int32) (Q : Int32 → Mem → Prop) (K6 : Int32 → Int32 → Mem → Prop) (v2 : Int32) (v3 : Int32) (m : Mem) : Prop :=
  if v1 ≤ v3 then (Q v2 m) else (Ix sh v0 100 v3 ∧ (K6 ((((3 : Int32) * v2) + (m.1 v0 v3.toNatClampNeg)) - (((3 : Int32) * v2) + (m.1 v0 v3.toNatClampNeg)) / (251 : Int32) * (251 : Int32)) (v3 + (1 : Int32)) m))
def X12_checked_p6n (sh : Shp) (v0 : Nat) (v1 : Int32) (Q : Int32 → Mem → Prop) : Nat → Int32 → Int32 → Mem → Prop
  | 0 => fun _ _ _ => False
  | n + 1 => X12_checked_p6b sh v0 v1 Q (X12_checked_p6n sh v0 v1 Q n)
def X12_checked_p6 (sh : Shp) (v0 : Nat) (v1 : Int32) (Q : Int32 → Mem → Prop) (v2 : Int32) (v3 : Int32) (m : Mem) : Prop := ∃ n, X12_checked_p6n sh v0 v1 Q n v2 v3 m
def wp_X12_checked (sh : Shp) (v0 : Nat) (v1 : Int32) (Q : Int32 → Mem → Prop) (m : Mem) : Prop :=
  X12_checked_p6 sh v0 v1 Q (173 : Int32) (0 : Int32) m
abbrev M_X12_checked : Mi := (cX12_checked, 4, RX12, (Option.some FieldType.int), "checked", 1, 60, 0, 0)
set_option maxHeartbeats 4000000 in
set_option maxRecDepth 100000 in
theorem v_X12_checked_p6b {G : Gl} {F : Fr} {sh : Shp} {v0 : Nat} {v1 : Int32} {v2 : Int32} {v3 : Int32} {Q : Int32 → Mem → Prop} {K6 : Int32 → Int32 → Mem → Prop} {m : Mem} (hK6 : ∀ (x2 : Int32) (x3 : Int32) (m : Mem), K6 x2 x3 m → V G F M_X12_checked sh 0 0 (Zi G F sh Q) 6 [(0, .ref (G.1 + v0)), (1, .int v1), (2, .int x2), (3, .int x3)] [] m) (h : X12_checked_p6b sh v0 v1 Q K6 v2 v3 m) : V G F M_X12_checked sh 0 0 (Zi G F sh Q) 6 [(0, .ref (G.1 + v0)), (1, .int v1), (2, .int v2), (3, .int v3)] [] m := by
  unfold X12_checked_p6b at h
  refine v_iload_n 3 3 dX12_checked_6 rfl rfl ?_
  refine v_iload_n 1 1 dX12_checked_7 rfl rfl ?_
  refine v_icmp_ge 29 dX12_checked_8 (by decide) (fun hc => ?_) (fun hc => ?_)
  · replace h := Eq.mp (if_pos hc) h
    refine v_iload_n 2 2 dX12_checked_29 rfl rfl ?_
    exact v_iret dX12_checked_30 rfl rfl h
  · replace h := Eq.mp (if_neg hc) h
    refine v_iconst (3 : Int32) dX12_checked_11 (by decide) ?_
    refine v_iload_n 2 2 dX12_checked_12 rfl rfl ?_
    refine v_imul dX12_checked_13 ?_
    refine v_aload_n 0 0 dX12_checked_14 rfl rfl ?_
    refine v_iload_n 3 3 dX12_checked_15 rfl rfl ?_
    obtain ⟨i1, h⟩ := h
    refine v_iald dX12_checked_16 i1 ?_
    refine v_iadd dX12_checked_17 ?_
    refine v_sipush (251 : Int32) dX12_checked_18 (by decide) ?_
    refine v_irem dX12_checked_21 (by decide) ?_
    refine v_istore_n (ls' := [(2, .int _), (0, .ref _), (1, .int _), (3, .int _)]) 2 dX12_checked_22 rfl (Nat.le_of_ble_eq_true rfl) rfl ?_
    refine v_iinc (ls' := [(3, .int _), (2, .int _), (0, .ref _), (1, .int _)]) 3 3 dX12_checked_23 rfl (congrArg (HAdd.hAdd _) (by decide : Int32.ofInt (1) = (1 : Int32))) (Nat.le_of_ble_eq_true rfl) rfl ?_
    refine v_goto 6 dX12_checked_26 (by decide) ?_
    refine v_sub [2, 3, 1, 0] rfl ?_
    exact hK6 _ _ _ h
set_option maxHeartbeats 4000000 in
set_option maxRecDepth 100000 in
theorem v_X12_checked_p6 {G : Gl} {F : Fr} {sh : Shp} {v0 : Nat} {v1 : Int32} {v2 : Int32} {v3 : Int32} {Q : Int32 → Mem → Prop} {m : Mem} (h : X12_checked_p6 sh v0 v1 Q v2 v3 m) : V G F M_X12_checked sh 0 0 (Zi G F sh Q) 6 [(0, .ref (G.1 + v0)), (1, .int v1), (2, .int v2), (3, .int v3)] [] m := by
  obtain ⟨n, h⟩ := h
  induction n generalizing v2 v3 m with
  | zero => exact h.elim
  | succ n ih => exact v_X12_checked_p6b (fun _ _ _ h => ih h) h
set_option maxHeartbeats 4000000 in
set_option maxRecDepth 100000 in
theorem c_X12_checked {l : Launch} {G : Gl} {sh : Shp} {v0 : Nat} {v1 : Int32} {Q : Int32 → Mem → Prop} {m : Mem} (h : wp_X12_checked sh v0 v1 Q m) : Cni l G yX12_checked cX12_checked 4 (Option.some FieldType.int) 1 60 sh [.ref (G.1 + v0), .int v1] m Q := by
  refine con_i (ls := [(0, .ref (G.1 + v0)), (1, .int v1)]) (by decide +kernel) rfl (Nat.le_of_ble_eq_true rfl) (fun F => ?_)
  show V G F M_X12_checked sh 0 0 (Zi G F sh Q) 0 [(0, .ref (G.1 + v0)), (1, .int v1)] [] m
  unfold wp_X12_checked at h
  refine v_sipush (173 : Int32) dX12_checked_0 (by decide) ?_
  refine v_istore_n (ls' := [(2, .int _), (0, .ref _), (1, .int _)]) 2 dX12_checked_3 rfl (Nat.le_of_ble_eq_true rfl) rfl ?_
  refine v_iconst (0 : Int32) dX12_checked_4 (by decide) ?_
  refine v_istore_n (ls' := [(3, .int _), (2, .int _), (0, .ref _), (1, .int _)]) 3 dX12_checked_5 rfl (Nat.le_of_ble_eq_true rfl) rfl ?_
  refine v_sub [2, 3, 1, 0] rfl ?_
  exact v_X12_checked_p6 h
/-! CalledRiverModel.codesTold -/
theorem dX12_codesTold_0 : decode cX12_codesTold 0 = .ok (.aload_n 0, 1) := by decide +kernel
theorem dX12_codesTold_1 : decode cX12_codesTold 1 = .ok (.getfield 285, 3) := by decide +kernel
theorem dX12_codesTold_4 : decode cX12_codesTold 4 = .ok (.ifCond .ne 19, 3) := by decide +kernel
theorem dX12_codesTold_7 : decode cX12_codesTold 7 = .ok (.aload_n 0, 1) := by decide +kernel
theorem dX12_codesTold_8 : decode cX12_codesTold 8 = .ok (.getfield 134, 3) := by decide +kernel
theorem dX12_codesTold_11 : decode cX12_codesTold 11 = .ok (.iload_n 1, 1) := by decide +kernel
theorem dX12_codesTold_12 : decode cX12_codesTold 12 = .ok (.iaload, 1) := by decide +kernel
theorem dX12_codesTold_13 : decode cX12_codesTold 13 = .ok (.iconst (-1), 1) := by decide +kernel
theorem dX12_codesTold_14 : decode cX12_codesTold 14 = .ok (.if_icmp .eq 9, 3) := by decide +kernel
theorem dX12_codesTold_17 : decode cX12_codesTold 17 = .ok (.aload_n 0, 1) := by decide +kernel
theorem dX12_codesTold_18 : decode cX12_codesTold 18 = .ok (.iconst 5, 1) := by decide +kernel
theorem dX12_codesTold_19 : decode cX12_codesTold 19 = .ok (.iload_n 2, 1) := by decide +kernel
theorem dX12_codesTold_20 : decode cX12_codesTold 20 = .ok (.invokevirtual 315, 3) := by decide +kernel
theorem dX12_codesTold_23 : decode cX12_codesTold 23 = .ok (.aload_n 0, 1) := by decide +kernel
theorem dX12_codesTold_24 : decode cX12_codesTold 24 = .ok (.getfield 285, 3) := by decide +kernel
theorem dX12_codesTold_27 : decode cX12_codesTold 27 = .ok (.ifCond .eq 4, 3) := by decide +kernel
theorem dX12_codesTold_30 : decode cX12_codesTold 30 = .ok (.return_, 1) := by decide +kernel
theorem dX12_codesTold_31 : decode cX12_codesTold 31 = .ok (.aload_n 0, 1) := by decide +kernel
theorem dX12_codesTold_32 : decode cX12_codesTold 32 = .ok (.iload_n 1, 1) := by decide +kernel
theorem dX12_codesTold_33 : decode cX12_codesTold 33 = .ok (.putfield 343, 3) := by decide +kernel
theorem dX12_codesTold_36 : decode cX12_codesTold 36 = .ok (.aload_n 0, 1) := by decide +kernel
theorem dX12_codesTold_37 : decode cX12_codesTold 37 = .ok (.iconst 0, 1) := by decide +kernel
theorem dX12_codesTold_38 : decode cX12_codesTold 38 = .ok (.putfield 372, 3) := by decide +kernel
theorem dX12_codesTold_41 : decode cX12_codesTold 41 = .ok (.aload_n 0, 1) := by decide +kernel
theorem dX12_codesTold_42 : decode cX12_codesTold 42 = .ok (.iconst 0, 1) := by decide +kernel
theorem dX12_codesTold_43 : decode cX12_codesTold 43 = .ok (.putfield 375, 3) := by decide +kernel
theorem dX12_codesTold_46 : decode cX12_codesTold 46 = .ok (.aload_n 0, 1) := by decide +kernel
theorem dX12_codesTold_47 : decode cX12_codesTold 47 = .ok (.iconst 0, 1) := by decide +kernel
theorem dX12_codesTold_48 : decode cX12_codesTold 48 = .ok (.putfield 378, 3) := by decide +kernel
theorem dX12_codesTold_51 : decode cX12_codesTold 51 = .ok (.aload_n 0, 1) := by decide +kernel
theorem dX12_codesTold_52 : decode cX12_codesTold 52 = .ok (.iconst 0, 1) := by decide +kernel
theorem dX12_codesTold_53 : decode cX12_codesTold 53 = .ok (.putfield 381, 3) := by decide +kernel
theorem dX12_codesTold_56 : decode cX12_codesTold 56 = .ok (.aload_n 0, 1) := by decide +kernel
theorem dX12_codesTold_57 : decode cX12_codesTold 57 = .ok (.invokevirtual 384, 3) := by decide +kernel
theorem dX12_codesTold_60 : decode cX12_codesTold 60 = .ok (.aload_n 0, 1) := by decide +kernel
theorem dX12_codesTold_61 : decode cX12_codesTold 61 = .ok (.getfield 285, 3) := by decide +kernel
theorem dX12_codesTold_64 : decode cX12_codesTold 64 = .ok (.ifCond .eq 4, 3) := by decide +kernel
theorem dX12_codesTold_67 : decode cX12_codesTold 67 = .ok (.return_, 1) := by decide +kernel
theorem dX12_codesTold_68 : decode cX12_codesTold 68 = .ok (.aload_n 0, 1) := by decide +kernel
theorem dX12_codesTold_69 : decode cX12_codesTold 69 = .ok (.getfield 134, 3) := by decide +kernel
theorem dX12_codesTold_72 : decode cX12_codesTold 72 = .ok (.iload_n 1, 1) := by decide +kernel
theorem dX12_codesTold_73 : decode cX12_codesTold 73 = .ok (.aload_n 0, 1) := by decide +kernel
theorem dX12_codesTold_74 : decode cX12_codesTold 74 = .ok (.getfield 387, 3) := by decide +kernel
theorem dX12_codesTold_77 : decode cX12_codesTold 77 = .ok (.iastore, 1) := by decide +kernel
theorem dX12_codesTold_78 : decode cX12_codesTold 78 = .ok (.iconst 0, 1) := by decide +kernel
theorem dX12_codesTold_79 : decode cX12_codesTold 79 = .ok (.istore_n 3, 1) := by decide +kernel
theorem dX12_codesTold_80 : decode cX12_codesTold 80 = .ok (.iload_n 3, 1) := by decide +kernel
theorem dX12_codesTold_81 : decode cX12_codesTold 81 = .ok (.aload_n 0, 1) := by decide +kernel
theorem dX12_codesTold_82 : decode cX12_codesTold 82 = .ok (.getfield 372, 3) := by decide +kernel
theorem dX12_codesTold_85 : decode cX12_codesTold 85 = .ok (.if_icmp .ge 34, 3) := by decide +kernel
theorem dX12_codesTold_88 : decode cX12_codesTold 88 = .ok (.aload_n 0, 1) := by decide +kernel
theorem dX12_codesTold_89 : decode cX12_codesTold 89 = .ok (.getfield 140, 3) := by decide +kernel
theorem dX12_codesTold_92 : decode cX12_codesTold 92 = .ok (.aload_n 0, 1) := by decide +kernel
theorem dX12_codesTold_93 : decode cX12_codesTold 93 = .ok (.getfield 387, 3) := by decide +kernel
theorem dX12_codesTold_96 : decode cX12_codesTold 96 = .ok (.aload_n 0, 1) := by decide +kernel
theorem dX12_codesTold_97 : decode cX12_codesTold 97 = .ok (.getfield 270, 3) := by decide +kernel
theorem dX12_codesTold_100 : decode cX12_codesTold 100 = .ok (.iload_n 3, 1) := by decide +kernel
theorem dX12_codesTold_101 : decode cX12_codesTold 101 = .ok (.iaload, 1) := by decide +kernel
theorem dX12_codesTold_102 : decode cX12_codesTold 102 = .ok (.iastore, 1) := by decide +kernel
theorem dX12_codesTold_103 : decode cX12_codesTold 103 = .ok (.aload_n 0, 1) := by decide +kernel
theorem dX12_codesTold_104 : decode cX12_codesTold 104 = .ok (.dup, 1) := by decide +kernel
theorem dX12_codesTold_105 : decode cX12_codesTold 105 = .ok (.getfield 387, 3) := by decide +kernel
theorem dX12_codesTold_108 : decode cX12_codesTold 108 = .ok (.iconst 1, 1) := by decide +kernel
theorem dX12_codesTold_109 : decode cX12_codesTold 109 = .ok (.iadd, 1) := by decide +kernel
theorem dX12_codesTold_110 : decode cX12_codesTold 110 = .ok (.putfield 387, 3) := by decide +kernel
theorem dX12_codesTold_113 : decode cX12_codesTold 113 = .ok (.iinc 3 1, 3) := by decide +kernel
theorem dX12_codesTold_116 : decode cX12_codesTold 116 = .ok (.goto (-36), 3) := by decide +kernel
theorem dX12_codesTold_119 : decode cX12_codesTold 119 = .ok (.aload_n 0, 1) := by decide +kernel
theorem dX12_codesTold_120 : decode cX12_codesTold 120 = .ok (.getfield 137, 3) := by decide +kernel
theorem dX12_codesTold_123 : decode cX12_codesTold 123 = .ok (.iload_n 1, 1) := by decide +kernel
theorem dX12_codesTold_124 : decode cX12_codesTold 124 = .ok (.aload_n 0, 1) := by decide +kernel
theorem dX12_codesTold_125 : decode cX12_codesTold 125 = .ok (.getfield 387, 3) := by decide +kernel
theorem dX12_codesTold_128 : decode cX12_codesTold 128 = .ok (.iastore, 1) := by decide +kernel
theorem dX12_codesTold_129 : decode cX12_codesTold 129 = .ok (.return_, 1) := by decide +kernel
def X12_codesTold_p80b (sh : Shp) (v0 : Nat) (v1 : Int32) (Q : Mem → Prop) (K80 : Int32 → Mem → Prop) (v3 : Int32) (m : Mem) : Prop :=
  Ob sh v0 12 ∧ (if (m.1 v0 109) ≤ v3 then (∃ b20 : Nat, m.2.2 v0 52 = some b20 ∧ (Ix sh b20 100 v1 ∧ bnd (sI m b20 v1.toNatClampNeg (m.1 v0 54)) (fun m23 => Q m23))) else (∃ b24 : Nat, m.2.2 v0 53 = some b24 ∧ (∃ b26 : Nat, m.2.2 v0 108 = some b26 ∧ (Ix sh b26 100 v3 ∧ (Ix sh b24 100 (m.1 v0 54) ∧ bnd (sI m b24 (m.1 v0 54).toNatClampNeg (m.1 b26 v3.toNatClampNeg)) (fun m30 => bnd (sI m30 v0 54 ((m30.1 v0 54) + (1 : Int32))) (fun m31 => K80 (v3 + (1 : Int32)) m31)))))))
def X12_codesTold_p80n (sh : Shp) (v0 : Nat) (v1 : Int32) (Q : Mem → Prop) : Nat → Int32 → Mem → Prop
  | 0 => fun _ _ => False
  | n + 1 => X12_codesTold_p80b sh v0 v1 Q (X12_codesTold_p80n sh v0 v1 Q n)
def X12_codesTold_p80 (sh : Shp) (v0 : Nat) (v1 : Int32) (Q : Mem → Prop) (v3 : Int32) (m : Mem) : Prop := ∃ n, X12_codesTold_p80n sh v0 v1 Q n v3 m
def X12_codesTold_p23 (sh : Shp) (v0 : Nat) (v1 : Int32) (Q : Mem → Prop) (m : Mem) : Prop :=
  Ob sh v0 12 ∧ (if (m.1 v0 5) = 0 then (bnd (sI m v0 57 v1) (fun m8 => bnd (sI m8 v0 109 (0 : Int32)) (fun m9 => bnd (sI m9 v0 111 (0 : Int32)) (fun m10 => bnd (sI m10 v0 112 (0 : Int32)) (fun m11 => bnd (sI m11 v0 113 (0 : Int32)) (fun m12 => wp_X12_qSums sh v0 (fun m14 => if (m14.1 v0 5) = 0 then (∃ b15 : Nat, m14.2.2 v0 51 = some b15 ∧ (Ix sh b15 100 v1 ∧ bnd (sI m14 b15 v1.toNatClampNeg (m14.1 v0 54)) (fun m18 => X12_codesTold_p80 sh v0 v1 Q (0 : Int32) m18))) else (Q m14)) m12)))))) else (Q m))
def wp_X12_codesTold (sh : Shp) (v0 : Nat) (v1 : Int32) (v2 : Int32) (Q : Mem → Prop) (m : Mem) : Prop :=
  Ob sh v0 12 ∧ (if (m.1 v0 5) = 0 then (∃ b2 : Nat, m.2.2 v0 51 = some b2 ∧ (Ix sh b2 100 v1 ∧ (if (m.1 b2 v1.toNatClampNeg) = (-1 : Int32) then (X12_codesTold_p23 sh v0 v1 Q m) else (wp_X12_fail sh v0 (5 : Int32) v2 (fun m6 => X12_codesTold_p23 sh v0 v1 Q m6) m)))) else (X12_codesTold_p23 sh v0 v1 Q m))
abbrev M_X12_codesTold : Mi := (cX12_codesTold, 4, RX12, (none : Option FieldType), "codesTold", 8, 213, 0, 0)
set_option maxHeartbeats 4000000 in
set_option maxRecDepth 100000 in
theorem v_X12_codesTold_p80b {G : Gl} {F : Fr} {sh : Shp} {v0 : Nat} {v1 : Int32} {v3 : Int32} {Q : Mem → Prop} {K80 : Int32 → Mem → Prop} {m : Mem} (hK80 : ∀ (x3 : Int32) (m : Mem), K80 x3 m → V G F M_X12_codesTold sh 0 0 (Zv G F sh Q) 80 [(0, .ref (G.1 + v0)), (1, .int v1), (3, .int x3)] [] m) (h : X12_codesTold_p80b sh v0 v1 Q K80 v3 m) : V G F M_X12_codesTold sh 0 0 (Zv G F sh Q) 80 [(0, .ref (G.1 + v0)), (1, .int v1), (3, .int v3)] [] m := by
  unfold X12_codesTold_p80b at h
  refine v_iload_n 3 2 dX12_codesTold_80 rfl rfl ?_
  refine v_aload_n 0 0 dX12_codesTold_81 rfl rfl ?_
  obtain ⟨o19, h⟩ := h
  refine v_gI 12 109 dX12_codesTold_82 fg_RX12_372 o19 ?_
  refine v_icmp_ge 119 dX12_codesTold_85 (by decide) (fun hc => ?_) (fun hc => ?_)
  · replace h := Eq.mp (if_pos hc) h
    refine v_aload_n 0 0 dX12_codesTold_119 rfl rfl ?_
    obtain ⟨b20, e21, h⟩ := h
    refine v_gR 12 52 dX12_codesTold_120 fg_RX12_137 o19 e21 ?_
    refine v_iload_n 1 1 dX12_codesTold_123 rfl rfl ?_
    refine v_aload_n 0 0 dX12_codesTold_124 rfl rfl ?_
    refine v_gI 12 54 dX12_codesTold_125 fg_RX12_387 o19 ?_
    obtain ⟨i22, h⟩ := h
    refine v_iast dX12_codesTold_128 i22 ?_
    replace h := bnd_e h
    exact v_vret dX12_codesTold_129 rfl h
  · replace h := Eq.mp (if_neg hc) h
    refine v_aload_n 0 0 dX12_codesTold_88 rfl rfl ?_
    obtain ⟨b24, e25, h⟩ := h
    refine v_gR 12 53 dX12_codesTold_89 fg_RX12_140 o19 e25 ?_
    refine v_aload_n 0 0 dX12_codesTold_92 rfl rfl ?_
    refine v_gI 12 54 dX12_codesTold_93 fg_RX12_387 o19 ?_
    refine v_aload_n 0 0 dX12_codesTold_96 rfl rfl ?_
    obtain ⟨b26, e27, h⟩ := h
    refine v_gR 12 108 dX12_codesTold_97 fg_RX12_270 o19 e27 ?_
    refine v_iload_n 3 2 dX12_codesTold_100 rfl rfl ?_
    obtain ⟨i28, h⟩ := h
    refine v_iald dX12_codesTold_101 i28 ?_
    obtain ⟨i29, h⟩ := h
    refine v_iast dX12_codesTold_102 i29 ?_
    replace h := bnd_e h
    refine v_aload_n 0 0 dX12_codesTold_103 rfl rfl ?_
    refine v_dup dX12_codesTold_104 rfl ?_
    refine v_gI 12 54 dX12_codesTold_105 fg_RX12_387 o19 ?_
    refine v_iconst (1 : Int32) dX12_codesTold_108 (by decide) ?_
    refine v_iadd dX12_codesTold_109 ?_
    refine v_pI 12 54 dX12_codesTold_110 fw_RX12_387 o19 ?_
    replace h := bnd_e h
    refine v_iinc (ls' := [(3, .int _), (0, .ref _), (1, .int _)]) 3 2 dX12_codesTold_113 rfl (congrArg (HAdd.hAdd _) (by decide : Int32.ofInt (1) = (1 : Int32))) (Nat.le_of_ble_eq_true rfl) rfl ?_
    refine v_goto 80 dX12_codesTold_116 (by decide) ?_
    refine v_sub [1, 2, 0] rfl ?_
    exact hK80 _ _ h
set_option maxHeartbeats 4000000 in
set_option maxRecDepth 100000 in
theorem v_X12_codesTold_p80 {G : Gl} {F : Fr} {sh : Shp} {v0 : Nat} {v1 : Int32} {v3 : Int32} {Q : Mem → Prop} {m : Mem} (h : X12_codesTold_p80 sh v0 v1 Q v3 m) : V G F M_X12_codesTold sh 0 0 (Zv G F sh Q) 80 [(0, .ref (G.1 + v0)), (1, .int v1), (3, .int v3)] [] m := by
  obtain ⟨n, h⟩ := h
  induction n generalizing v3 m with
  | zero => exact h.elim
  | succ n ih => exact v_X12_codesTold_p80b (fun _ _ h => ih h) h
set_option maxHeartbeats 4000000 in
set_option maxRecDepth 100000 in
theorem v_X12_codesTold_p23 {G : Gl} {F : Fr} {sh : Shp} {v0 : Nat} {v1 : Int32} {Q : Mem → Prop} {m : Mem} (h : X12_codesTold_p23 sh v0 v1 Q m) : V G F M_X12_codesTold sh 0 0 (Zv G F sh Q) 23 [(0, .ref (G.1 + v0)), (1, .int v1)] [] m := by
  unfold X12_codesTold_p23 at h
  refine v_aload_n 0 0 dX12_codesTold_23 rfl rfl ?_
  obtain ⟨o7, h⟩ := h
  refine v_gI 12 5 dX12_codesTold_24 fg_RX12_285 o7 ?_
  refine v_if_eq 31 dX12_codesTold_27 (by decide) (fun hc => ?_) (fun hc => ?_)
  · replace h := Eq.mp (if_pos hc) h
    refine v_aload_n 0 0 dX12_codesTold_31 rfl rfl ?_
    refine v_iload_n 1 1 dX12_codesTold_32 rfl rfl ?_
    refine v_pI 12 57 dX12_codesTold_33 fw_RX12_343 o7 ?_
    replace h := bnd_e h
    refine v_aload_n 0 0 dX12_codesTold_36 rfl rfl ?_
    refine v_iconst (0 : Int32) dX12_codesTold_37 (by decide) ?_
    refine v_pI 12 109 dX12_codesTold_38 fw_RX12_372 o7 ?_
    replace h := bnd_e h
    refine v_aload_n 0 0 dX12_codesTold_41 rfl rfl ?_
    refine v_iconst (0 : Int32) dX12_codesTold_42 (by decide) ?_
    refine v_pI 12 111 dX12_codesTold_43 fw_RX12_375 o7 ?_
    replace h := bnd_e h
    refine v_aload_n 0 0 dX12_codesTold_46 rfl rfl ?_
    refine v_iconst (0 : Int32) dX12_codesTold_47 (by decide) ?_
    refine v_pI 12 112 dX12_codesTold_48 fw_RX12_378 o7 ?_
    replace h := bnd_e h
    refine v_aload_n 0 0 dX12_codesTold_51 rfl rfl ?_
    refine v_iconst (0 : Int32) dX12_codesTold_52 (by decide) ?_
    refine v_pI 12 113 dX12_codesTold_53 fw_RX12_381 o7 ?_
    replace h := bnd_e h
    refine v_aload_n 0 0 dX12_codesTold_56 rfl rfl ?_
    refine v_cVv [] mv_X12_qSums ml_RX12_384 ⟨_, _, rfl⟩ o7 rfl rfl (Nat.le_of_ble_eq_true rfl) (Nat.le_of_ble_eq_true rfl) (Nat.le_of_ble_eq_true rfl) (Nat.zero_le _) (Nat.zero_le _) dX12_codesTold_57 (c_X12_qSums h) (fun m14 h => ?_)
    refine v_aload_n 0 0 dX12_codesTold_60 rfl rfl ?_
    refine v_gI 12 5 dX12_codesTold_61 fg_RX12_285 o7 ?_
    refine v_if_eq 68 dX12_codesTold_64 (by decide) (fun hc => ?_) (fun hc => ?_)
    · replace h := Eq.mp (if_pos hc) h
      refine v_aload_n 0 0 dX12_codesTold_68 rfl rfl ?_
      obtain ⟨b15, e16, h⟩ := h
      refine v_gR 12 51 dX12_codesTold_69 fg_RX12_134 o7 e16 ?_
      refine v_iload_n 1 1 dX12_codesTold_72 rfl rfl ?_
      refine v_aload_n 0 0 dX12_codesTold_73 rfl rfl ?_
      refine v_gI 12 54 dX12_codesTold_74 fg_RX12_387 o7 ?_
      obtain ⟨i17, h⟩ := h
      refine v_iast dX12_codesTold_77 i17 ?_
      replace h := bnd_e h
      refine v_iconst (0 : Int32) dX12_codesTold_78 (by decide) ?_
      refine v_istore_n (ls' := [(3, .int _), (0, .ref _), (1, .int _)]) 3 dX12_codesTold_79 rfl (Nat.le_of_ble_eq_true rfl) rfl ?_
      refine v_sub [1, 2, 0] rfl ?_
      exact v_X12_codesTold_p80 h
    · replace h := Eq.mp (if_neg hc) h
      exact v_vret dX12_codesTold_67 rfl h
  · replace h := Eq.mp (if_neg hc) h
    exact v_vret dX12_codesTold_30 rfl h
set_option maxHeartbeats 4000000 in
set_option maxRecDepth 100000 in
theorem c_X12_codesTold {l : Launch} {G : Gl} {sh : Shp} {v0 : Nat} {v1 : Int32} {v2 : Int32} {Q : Mem → Prop} {m : Mem} (h : wp_X12_codesTold sh v0 v1 v2 Q m) : Cnv l G yX12_codesTold cX12_codesTold 4 (none : Option FieldType) 8 213 sh [.ref (G.1 + v0), .int v1, .int v2] m Q := by
  refine con_v (ls := [(0, .ref (G.1 + v0)), (1, .int v1), (2, .int v2)]) (by decide +kernel) rfl (Nat.le_of_ble_eq_true rfl) (fun F => ?_)
  show V G F M_X12_codesTold sh 0 0 (Zv G F sh Q) 0 [(0, .ref (G.1 + v0)), (1, .int v1), (2, .int v2)] [] m
  unfold wp_X12_codesTold at h
  refine v_aload_n 0 0 dX12_codesTold_0 rfl rfl ?_
  obtain ⟨o1, h⟩ := h
  refine v_gI 12 5 dX12_codesTold_1 fg_RX12_285 o1 ?_
  refine v_if_ne 23 dX12_codesTold_4 (by decide) (fun hc => ?_) (fun hc => ?_)
  · replace h := Eq.mp (if_neg hc) h
    refine v_sub [0, 1] rfl ?_
    exact v_X12_codesTold_p23 h
  · replace h := Eq.mp (if_pos hc) h
    refine v_aload_n 0 0 dX12_codesTold_7 rfl rfl ?_
    obtain ⟨b2, e3, h⟩ := h
    refine v_gR 12 51 dX12_codesTold_8 fg_RX12_134 o1 e3 ?_
    refine v_iload_n 1 1 dX12_codesTold_11 rfl rfl ?_
    obtain ⟨i4, h⟩ := h
    refine v_iald dX12_codesTold_12 i4 ?_
    refine v_iconst (-1 : Int32) dX12_codesTold_13 (by decide) ?_
    refine v_icmp_eq 23 dX12_codesTold_14 (by decide) (fun hc => ?_) (fun hc => ?_)
    · replace h := Eq.mp (if_pos hc) h
      refine v_sub [0, 1] rfl ?_
      exact v_X12_codesTold_p23 h
    · replace h := Eq.mp (if_neg hc) h
      refine v_aload_n 0 0 dX12_codesTold_17 rfl rfl ?_
      refine v_iconst (5 : Int32) dX12_codesTold_18 (by decide) ?_
      refine v_iload_n 2 2 dX12_codesTold_19 rfl rfl ?_
      refine v_cVv [.int _, .int _] mv_X12_fail ml_RX12_315 ⟨_, _, rfl⟩ o1 rfl rfl (Nat.le_of_ble_eq_true rfl) (Nat.le_of_ble_eq_true rfl) (Nat.le_of_ble_eq_true rfl) (Nat.zero_le _) (Nat.zero_le _) dX12_codesTold_20 (c_X12_fail h) (fun m6 h => ?_)
      refine v_sub [0, 1] rfl ?_
      exact v_X12_codesTold_p23 h
/-! CalledRiverModel.dig -/
theorem dX12_dig_0 : decode cX12_dig 0 = .ok (.aload_n 0, 1) := by decide +kernel
theorem dX12_dig_1 : decode cX12_dig 1 = .ok (.iload_n 1, 1) := by decide +kernel
theorem dX12_dig_2 : decode cX12_dig 2 = .ok (.iload_n 2, 1) := by decide +kernel
theorem dX12_dig_3 : decode cX12_dig 3 = .ok (.invokevirtual 452, 3) := by decide +kernel
theorem dX12_dig_6 : decode cX12_dig 6 = .ok (.istore_n 3, 1) := by decide +kernel
theorem dX12_dig_7 : decode cX12_dig 7 = .ok (.iload_n 3, 1) := by decide +kernel
theorem dX12_dig_8 : decode cX12_dig 8 = .ok (.iconst (-1), 1) := by decide +kernel
theorem dX12_dig_9 : decode cX12_dig 9 = .ok (.if_icmp .eq 19, 3) := by decide +kernel
theorem dX12_dig_12 : decode cX12_dig 12 = .ok (.aload_n 0, 1) := by decide +kernel
theorem dX12_dig_13 : decode cX12_dig 13 = .ok (.iload_n 3, 1) := by decide +kernel
theorem dX12_dig_14 : decode cX12_dig 14 = .ok (.invokevirtual 455, 3) := by decide +kernel
theorem dX12_dig_17 : decode cX12_dig 17 = .ok (.ifCond .ne 11, 3) := by decide +kernel
theorem dX12_dig_20 : decode cX12_dig 20 = .ok (.aload_n 0, 1) := by decide +kernel
theorem dX12_dig_21 : decode cX12_dig 21 = .ok (.iload_n 3, 1) := by decide +kernel
theorem dX12_dig_22 : decode cX12_dig 22 = .ok (.invokevirtual 458, 3) := by decide +kernel
theorem dX12_dig_25 : decode cX12_dig 25 = .ok (.ifCond .ne 9, 3) := by decide +kernel
theorem dX12_dig_28 : decode cX12_dig 28 = .ok (.aload_n 0, 1) := by decide +kernel
theorem dX12_dig_29 : decode cX12_dig 29 = .ok (.iconst 3, 1) := by decide +kernel
theorem dX12_dig_30 : decode cX12_dig 30 = .ok (.invokevirtual 580, 3) := by decide +kernel
theorem dX12_dig_33 : decode cX12_dig 33 = .ok (.ireturn, 1) := by decide +kernel
theorem dX12_dig_34 : decode cX12_dig 34 = .ok (.aload_n 0, 1) := by decide +kernel
theorem dX12_dig_35 : decode cX12_dig 35 = .ok (.invokevirtual 601, 3) := by decide +kernel
theorem dX12_dig_38 : decode cX12_dig 38 = .ok (.aload_n 0, 1) := by decide +kernel
theorem dX12_dig_39 : decode cX12_dig 39 = .ok (.getfield 143, 3) := by decide +kernel
theorem dX12_dig_42 : decode cX12_dig 42 = .ok (.iconst 1, 1) := by decide +kernel
theorem dX12_dig_43 : decode cX12_dig 43 = .ok (.iconst 3, 1) := by decide +kernel
theorem dX12_dig_44 : decode cX12_dig 44 = .ok (.iload_n 3, 1) := by decide +kernel
theorem dX12_dig_45 : decode cX12_dig 45 = .ok (.imul, 1) := by decide +kernel
theorem dX12_dig_46 : decode cX12_dig 46 = .ok (.iadd, 1) := by decide +kernel
theorem dX12_dig_47 : decode cX12_dig 47 = .ok (.dup2, 1) := by decide +kernel
theorem dX12_dig_48 : decode cX12_dig 48 = .ok (.iaload, 1) := by decide +kernel
theorem dX12_dig_49 : decode cX12_dig 49 = .ok (.iconst 1, 1) := by decide +kernel
theorem dX12_dig_50 : decode cX12_dig 50 = .ok (.isub, 1) := by decide +kernel
theorem dX12_dig_51 : decode cX12_dig 51 = .ok (.iastore, 1) := by decide +kernel
theorem dX12_dig_52 : decode cX12_dig 52 = .ok (.aload_n 0, 1) := by decide +kernel
theorem dX12_dig_53 : decode cX12_dig 53 = .ok (.iload_n 3, 1) := by decide +kernel
theorem dX12_dig_54 : decode cX12_dig 54 = .ok (.invokevirtual 458, 3) := by decide +kernel
theorem dX12_dig_57 : decode cX12_dig 57 = .ok (.ireturn, 1) := by decide +kernel
def X12_dig_p28 (sh : Shp) (v0 : Nat) (Q : Int32 → Mem → Prop) (m : Mem) : Prop :=
  Ob sh v0 12 ∧ wp_X12_refuses sh v0 (3 : Int32) (fun r16 m17 => Q r16 m17) m
def wp_X12_dig (sh : Shp) (v0 : Nat) (v1 : Int32) (v2 : Int32) (Q : Int32 → Mem → Prop) (m : Mem) : Prop :=
  Ob sh v0 12 ∧ wp_X12_cellAt sh v0 v1 v2 (fun r1 m2 => if r1 = (-1 : Int32) then (X12_dig_p28 sh v0 Q m2) else (wp_X12_isStone sh v0 r1 (fun r4 m5 => if r4 = 0 then (wp_X12_heightOf sh v0 r1 (fun r6 m7 => if r6 = 0 then (X12_dig_p28 sh v0 Q m7) else (wp_X12_keeps sh v0 (fun m9 => ∃ b10 : Nat, m9.2.2 v0 58 = some b10 ∧ (Ix sh b10 100 ((1 : Int32) + ((3 : Int32) * r1)) ∧ (bnd (sI m9 b10 ((1 : Int32) + ((3 : Int32) * r1)).toNatClampNeg ((m9.1 b10 ((1 : Int32) + ((3 : Int32) * r1)).toNatClampNeg) - (1 : Int32))) (fun m13 => wp_X12_heightOf sh v0 r1 (fun r14 m15 => Q r14 m15) m13)))) m7)) m5) else (X12_dig_p28 sh v0 Q m5)) m2)) m
abbrev M_X12_dig : Mi := (cX12_dig, 4, RX12, (Option.some FieldType.int), "dig", 3, 107, 0, 0)
set_option maxHeartbeats 4000000 in
set_option maxRecDepth 100000 in
theorem v_X12_dig_p28 {G : Gl} {F : Fr} {sh : Shp} {v0 : Nat} {Q : Int32 → Mem → Prop} {m : Mem} (h : X12_dig_p28 sh v0 Q m) : V G F M_X12_dig sh 0 0 (Zi G F sh Q) 28 [(0, .ref (G.1 + v0))] [] m := by
  unfold X12_dig_p28 at h
  refine v_aload_n 0 0 dX12_dig_28 rfl rfl ?_
  refine v_iconst (3 : Int32) dX12_dig_29 (by decide) ?_
  obtain ⟨o18, h⟩ := h
  refine v_cVi [.int _] mv_X12_refuses ml_RX12_580 ⟨_, _, rfl⟩ o18 rfl rfl (Nat.le_of_ble_eq_true rfl) (Nat.le_of_ble_eq_true rfl) (Nat.le_of_ble_eq_true rfl) (Nat.zero_le _) (Nat.zero_le _) dX12_dig_30 (c_X12_refuses h) (fun r16 m17 h => ?_)
  exact v_iret dX12_dig_33 rfl rfl h
set_option maxHeartbeats 4000000 in
set_option maxRecDepth 100000 in
theorem c_X12_dig {l : Launch} {G : Gl} {sh : Shp} {v0 : Nat} {v1 : Int32} {v2 : Int32} {Q : Int32 → Mem → Prop} {m : Mem} (h : wp_X12_dig sh v0 v1 v2 Q m) : Cni l G yX12_dig cX12_dig 4 (Option.some FieldType.int) 3 107 sh [.ref (G.1 + v0), .int v1, .int v2] m Q := by
  refine con_i (ls := [(0, .ref (G.1 + v0)), (1, .int v1), (2, .int v2)]) (by decide +kernel) rfl (Nat.le_of_ble_eq_true rfl) (fun F => ?_)
  show V G F M_X12_dig sh 0 0 (Zi G F sh Q) 0 [(0, .ref (G.1 + v0)), (1, .int v1), (2, .int v2)] [] m
  unfold wp_X12_dig at h
  refine v_aload_n 0 0 dX12_dig_0 rfl rfl ?_
  refine v_iload_n 1 1 dX12_dig_1 rfl rfl ?_
  refine v_iload_n 2 2 dX12_dig_2 rfl rfl ?_
  obtain ⟨o3, h⟩ := h
  refine v_cVi [.int _, .int _] mv_X12_cellAt ml_RX12_452 ⟨_, _, rfl⟩ o3 rfl rfl (Nat.le_of_ble_eq_true rfl) (Nat.le_of_ble_eq_true rfl) (Nat.le_of_ble_eq_true rfl) (Nat.zero_le _) (Nat.zero_le _) dX12_dig_3 (c_X12_cellAt h) (fun r1 m2 h => ?_)
  refine v_istore_n (ls' := [(3, .int _), (0, .ref _), (1, .int _), (2, .int _)]) 3 dX12_dig_6 rfl (Nat.le_of_ble_eq_true rfl) rfl ?_
  refine v_iload_n 3 0 dX12_dig_7 rfl rfl ?_
  refine v_iconst (-1 : Int32) dX12_dig_8 (by decide) ?_
  refine v_icmp_eq 28 dX12_dig_9 (by decide) (fun hc => ?_) (fun hc => ?_)
  · replace h := Eq.mp (if_pos hc) h
    refine v_sub [1] rfl ?_
    exact v_X12_dig_p28 h
  · replace h := Eq.mp (if_neg hc) h
    refine v_aload_n 0 1 dX12_dig_12 rfl rfl ?_
    refine v_iload_n 3 0 dX12_dig_13 rfl rfl ?_
    refine v_cVi [.int _] mv_X12_isStone ml_RX12_455 ⟨_, _, rfl⟩ o3 rfl rfl (Nat.le_of_ble_eq_true rfl) (Nat.le_of_ble_eq_true rfl) (Nat.le_of_ble_eq_true rfl) (Nat.zero_le _) (Nat.zero_le _) dX12_dig_14 (c_X12_isStone h) (fun r4 m5 h => ?_)
    refine v_if_ne 28 dX12_dig_17 (by decide) (fun hc => ?_) (fun hc => ?_)
    · replace h := Eq.mp (if_neg hc) h
      refine v_sub [1] rfl ?_
      exact v_X12_dig_p28 h
    · replace h := Eq.mp (if_pos hc) h
      refine v_aload_n 0 1 dX12_dig_20 rfl rfl ?_
      refine v_iload_n 3 0 dX12_dig_21 rfl rfl ?_
      refine v_cVi [.int _] mv_X12_heightOf ml_RX12_458 ⟨_, _, rfl⟩ o3 rfl rfl (Nat.le_of_ble_eq_true rfl) (Nat.le_of_ble_eq_true rfl) (Nat.le_of_ble_eq_true rfl) (Nat.zero_le _) (Nat.zero_le _) dX12_dig_22 (c_X12_heightOf h) (fun r6 m7 h => ?_)
      refine v_if_ne 34 dX12_dig_25 (by decide) (fun hc => ?_) (fun hc => ?_)
      · replace h := Eq.mp (if_neg hc) h
        refine v_aload_n 0 1 dX12_dig_34 rfl rfl ?_
        refine v_cVv [] mv_X12_keeps ml_RX12_601 ⟨_, _, rfl⟩ o3 rfl rfl (Nat.le_of_ble_eq_true rfl) (Nat.le_of_ble_eq_true rfl) (Nat.le_of_ble_eq_true rfl) (Nat.zero_le _) (Nat.zero_le _) dX12_dig_35 (c_X12_keeps h) (fun m9 h => ?_)
        refine v_aload_n 0 1 dX12_dig_38 rfl rfl ?_
        obtain ⟨b10, e11, h⟩ := h
        refine v_gR 12 58 dX12_dig_39 fg_RX12_143 o3 e11 ?_
        refine v_iconst (1 : Int32) dX12_dig_42 (by decide) ?_
        refine v_iconst (3 : Int32) dX12_dig_43 (by decide) ?_
        refine v_iload_n 3 0 dX12_dig_44 rfl rfl ?_
        refine v_imul dX12_dig_45 ?_
        refine v_iadd dX12_dig_46 ?_
        refine v_dup2 dX12_dig_47 rfl rfl ?_
        obtain ⟨i12, h⟩ := h
        refine v_iald dX12_dig_48 i12 ?_
        refine v_iconst (1 : Int32) dX12_dig_49 (by decide) ?_
        refine v_isub dX12_dig_50 ?_
        refine v_iast dX12_dig_51 i12 ?_
        replace h := bnd_e h
        refine v_aload_n 0 1 dX12_dig_52 rfl rfl ?_
        refine v_iload_n 3 0 dX12_dig_53 rfl rfl ?_
        refine v_cVi [.int _] mv_X12_heightOf ml_RX12_458 ⟨_, _, rfl⟩ o3 rfl rfl (Nat.le_of_ble_eq_true rfl) (Nat.le_of_ble_eq_true rfl) (Nat.le_of_ble_eq_true rfl) (Nat.zero_le _) (Nat.zero_le _) dX12_dig_54 (c_X12_heightOf h) (fun r14 m15 h => ?_)
        exact v_iret dX12_dig_57 rfl rfl h
      · replace h := Eq.mp (if_pos hc) h
        refine v_sub [1] rfl ?_
        exact v_X12_dig_p28 h
/-! CalledRiverModel.setBehind -/
theorem dX12_setBehind_0 : decode cX12_setBehind 0 = .ok (.aload_n 0, 1) := by decide +kernel
theorem dX12_setBehind_1 : decode cX12_setBehind 1 = .ok (.iload_n 2, 1) := by decide +kernel
theorem dX12_setBehind_2 : decode cX12_setBehind 2 = .ok (.invokevirtual 446, 3) := by decide +kernel
theorem dX12_setBehind_5 : decode cX12_setBehind 5 = .ok (.istore 4, 2) := by decide +kernel
theorem dX12_setBehind_7 : decode cX12_setBehind 7 = .ok (.iload 4, 2) := by decide +kernel
theorem dX12_setBehind_9 : decode cX12_setBehind 9 = .ok (.iconst (-1), 1) := by decide +kernel
theorem dX12_setBehind_10 : decode cX12_setBehind 10 = .ok (.if_icmp .eq 22, 3) := by decide +kernel
theorem dX12_setBehind_13 : decode cX12_setBehind 13 = .ok (.iload_n 3, 1) := by decide +kernel
theorem dX12_setBehind_14 : decode cX12_setBehind 14 = .ok (.aload_n 0, 1) := by decide +kernel
theorem dX12_setBehind_15 : decode cX12_setBehind 15 = .ok (.iload 4, 2) := by decide +kernel
theorem dX12_setBehind_17 : decode cX12_setBehind 17 = .ok (.invokevirtual 515, 3) := by decide +kernel
theorem dX12_setBehind_20 : decode cX12_setBehind 20 = .ok (.if_icmp .gt 12, 3) := by decide +kernel
theorem dX12_setBehind_23 : decode cX12_setBehind 23 = .ok (.iload_n 1, 1) := by decide +kernel
theorem dX12_setBehind_24 : decode cX12_setBehind 24 = .ok (.iconst 1, 1) := by decide +kernel
theorem dX12_setBehind_25 : decode cX12_setBehind 25 = .ok (.iload 4, 2) := by decide +kernel
theorem dX12_setBehind_27 : decode cX12_setBehind 27 = .ok (.ishl, 1) := by decide +kernel
theorem dX12_setBehind_28 : decode cX12_setBehind 28 = .ok (.ior, 1) := by decide +kernel
theorem dX12_setBehind_29 : decode cX12_setBehind 29 = .ok (.goto 4, 3) := by decide +kernel
theorem dX12_setBehind_32 : decode cX12_setBehind 32 = .ok (.iload_n 1, 1) := by decide +kernel
theorem dX12_setBehind_33 : decode cX12_setBehind 33 = .ok (.ireturn, 1) := by decide +kernel
def wp_X12_setBehind (sh : Shp) (v0 : Nat) (v1 : Int32) (v2 : Int32) (v3 : Int32) (Q : Int32 → Mem → Prop) (m : Mem) : Prop :=
  Ob sh v0 12 ∧ wp_X12_farmAt sh v0 v2 (fun r1 m2 => if r1 = (-1 : Int32) then (Q v1 m2) else (wp_X12_dayOf sh v0 r1 (fun r4 m5 => if r4 < v3 then (Q v1 m5) else (Q (v1 ||| ((1 : Int32) <<< (r1 &&& 31))) m5)) m2)) m
abbrev M_X12_setBehind : Mi := (cX12_setBehind, 5, RX12, (Option.some FieldType.int), "setBehind", 3, 103, 0, 0)
set_option maxHeartbeats 4000000 in
set_option maxRecDepth 100000 in
theorem c_X12_setBehind {l : Launch} {G : Gl} {sh : Shp} {v0 : Nat} {v1 : Int32} {v2 : Int32} {v3 : Int32} {Q : Int32 → Mem → Prop} {m : Mem} (h : wp_X12_setBehind sh v0 v1 v2 v3 Q m) : Cni l G yX12_setBehind cX12_setBehind 5 (Option.some FieldType.int) 3 103 sh [.ref (G.1 + v0), .int v1, .int v2, .int v3] m Q := by
  refine con_i (ls := [(0, .ref (G.1 + v0)), (1, .int v1), (2, .int v2), (3, .int v3)]) (by decide +kernel) rfl (Nat.le_of_ble_eq_true rfl) (fun F => ?_)
  show V G F M_X12_setBehind sh 0 0 (Zi G F sh Q) 0 [(0, .ref (G.1 + v0)), (1, .int v1), (2, .int v2), (3, .int v3)] [] m
  unfold wp_X12_setBehind at h
  refine v_aload_n 0 0 dX12_setBehind_0 rfl rfl ?_
  refine v_iload_n 2 2 dX12_setBehind_1 rfl rfl ?_
  obtain ⟨o3, h⟩ := h
  refine v_cVi [.int _] mv_X12_farmAt ml_RX12_446 ⟨_, _, rfl⟩ o3 rfl rfl (Nat.le_of_ble_eq_true rfl) (Nat.le_of_ble_eq_true rfl) (Nat.le_of_ble_eq_true rfl) (Nat.zero_le _) (Nat.zero_le _) dX12_setBehind_2 (c_X12_farmAt h) (fun r1 m2 h => ?_)
  refine v_istore (ls' := [(4, .int _), (0, .ref _), (1, .int _), (2, .int _), (3, .int _)]) 4 dX12_setBehind_5 (Nat.le_of_ble_eq_true rfl) rfl ?_
  refine v_iload 4 0 dX12_setBehind_7 rfl ?_
  refine v_iconst (-1 : Int32) dX12_setBehind_9 (by decide) ?_
  refine v_icmp_eq 32 dX12_setBehind_10 (by decide) (fun hc => ?_) (fun hc => ?_)
  · replace h := Eq.mp (if_pos hc) h
    refine v_iload_n 1 2 dX12_setBehind_32 rfl rfl ?_
    exact v_iret dX12_setBehind_33 rfl rfl h
  · replace h := Eq.mp (if_neg hc) h
    refine v_iload_n 3 4 dX12_setBehind_13 rfl rfl ?_
    refine v_aload_n 0 1 dX12_setBehind_14 rfl rfl ?_
    refine v_iload 4 0 dX12_setBehind_15 rfl ?_
    refine v_cVi [.int _] mv_X12_dayOf ml_RX12_515 ⟨_, _, rfl⟩ o3 rfl rfl (Nat.le_of_ble_eq_true rfl) (Nat.le_of_ble_eq_true rfl) (Nat.le_of_ble_eq_true rfl) (Nat.zero_le _) (Nat.zero_le _) dX12_setBehind_17 (c_X12_dayOf h) (fun r4 m5 h => ?_)
    refine v_icmp_gt 32 dX12_setBehind_20 (by decide) (fun hc => ?_) (fun hc => ?_)
    · replace h := Eq.mp (if_pos hc) h
      refine v_iload_n 1 2 dX12_setBehind_32 rfl rfl ?_
      exact v_iret dX12_setBehind_33 rfl rfl h
    · replace h := Eq.mp (if_neg hc) h
      refine v_iload_n 1 2 dX12_setBehind_23 rfl rfl ?_
      refine v_iconst (1 : Int32) dX12_setBehind_24 (by decide) ?_
      refine v_iload 4 0 dX12_setBehind_25 rfl ?_
      refine v_ishl dX12_setBehind_27 ?_
      refine v_ior dX12_setBehind_28 ?_
      refine v_goto 33 dX12_setBehind_29 (by decide) ?_
      exact v_iret dX12_setBehind_33 rfl rfl h
/-! CalledRiverModel.isBegun -/
theorem dX12_isBegun_0 : decode cX12_isBegun 0 = .ok (.iconst 0, 1) := by decide +kernel
theorem dX12_isBegun_1 : decode cX12_isBegun 1 = .ok (.istore_n 1, 1) := by decide +kernel
theorem dX12_isBegun_2 : decode cX12_isBegun 2 = .ok (.iload_n 1, 1) := by decide +kernel
theorem dX12_isBegun_3 : decode cX12_isBegun 3 = .ok (.sipush 2304, 3) := by decide +kernel
theorem dX12_isBegun_6 : decode cX12_isBegun 6 = .ok (.if_icmp .ge 16, 3) := by decide +kernel
theorem dX12_isBegun_9 : decode cX12_isBegun 9 = .ok (.aload_n 0, 1) := by decide +kernel
theorem dX12_isBegun_10 : decode cX12_isBegun 10 = .ok (.getfield 155, 3) := by decide +kernel
theorem dX12_isBegun_13 : decode cX12_isBegun 13 = .ok (.iload_n 1, 1) := by decide +kernel
theorem dX12_isBegun_14 : decode cX12_isBegun 14 = .ok (.iconst 0, 1) := by decide +kernel
theorem dX12_isBegun_15 : decode cX12_isBegun 15 = .ok (.bastore, 1) := by decide +kernel
theorem dX12_isBegun_16 : decode cX12_isBegun 16 = .ok (.iinc 1 1, 3) := by decide +kernel
theorem dX12_isBegun_19 : decode cX12_isBegun 19 = .ok (.goto (-17), 3) := by decide +kernel
theorem dX12_isBegun_22 : decode cX12_isBegun 22 = .ok (.iconst 0, 1) := by decide +kernel
theorem dX12_isBegun_23 : decode cX12_isBegun 23 = .ok (.istore_n 1, 1) := by decide +kernel
theorem dX12_isBegun_24 : decode cX12_isBegun 24 = .ok (.iload_n 1, 1) := by decide +kernel
theorem dX12_isBegun_25 : decode cX12_isBegun 25 = .ok (.bipush 64, 2) := by decide +kernel
theorem dX12_isBegun_27 : decode cX12_isBegun 27 = .ok (.if_icmp .ge 16, 3) := by decide +kernel
theorem dX12_isBegun_30 : decode cX12_isBegun 30 = .ok (.aload_n 0, 1) := by decide +kernel
theorem dX12_isBegun_31 : decode cX12_isBegun 31 = .ok (.getfield 161, 3) := by decide +kernel
theorem dX12_isBegun_34 : decode cX12_isBegun 34 = .ok (.iload_n 1, 1) := by decide +kernel
theorem dX12_isBegun_35 : decode cX12_isBegun 35 = .ok (.iconst 0, 1) := by decide +kernel
theorem dX12_isBegun_36 : decode cX12_isBegun 36 = .ok (.bastore, 1) := by decide +kernel
theorem dX12_isBegun_37 : decode cX12_isBegun 37 = .ok (.iinc 1 1, 3) := by decide +kernel
theorem dX12_isBegun_40 : decode cX12_isBegun 40 = .ok (.goto (-16), 3) := by decide +kernel
theorem dX12_isBegun_43 : decode cX12_isBegun 43 = .ok (.aload_n 0, 1) := by decide +kernel
theorem dX12_isBegun_44 : decode cX12_isBegun 44 = .ok (.invokevirtual 509, 3) := by decide +kernel
theorem dX12_isBegun_47 : decode cX12_isBegun 47 = .ok (.ifCond .ne 5, 3) := by decide +kernel
theorem dX12_isBegun_50 : decode cX12_isBegun 50 = .ok (.iconst 0, 1) := by decide +kernel
theorem dX12_isBegun_51 : decode cX12_isBegun 51 = .ok (.ireturn, 1) := by decide +kernel
theorem dX12_isBegun_52 : decode cX12_isBegun 52 = .ok (.aload_n 0, 1) := by decide +kernel
theorem dX12_isBegun_53 : decode cX12_isBegun 53 = .ok (.iconst 0, 1) := by decide +kernel
theorem dX12_isBegun_54 : decode cX12_isBegun 54 = .ok (.aload_n 0, 1) := by decide +kernel
theorem dX12_isBegun_55 : decode cX12_isBegun 55 = .ok (.getfield 427, 3) := by decide +kernel
theorem dX12_isBegun_58 : decode cX12_isBegun 58 = .ok (.iconst 0, 1) := by decide +kernel
theorem dX12_isBegun_59 : decode cX12_isBegun 59 = .ok (.invokevirtual 561, 3) := by decide +kernel
theorem dX12_isBegun_62 : decode cX12_isBegun 62 = .ok (.istore_n 1, 1) := by decide +kernel
theorem dX12_isBegun_63 : decode cX12_isBegun 63 = .ok (.aload_n 0, 1) := by decide +kernel
theorem dX12_isBegun_64 : decode cX12_isBegun 64 = .ok (.getfield 155, 3) := by decide +kernel
theorem dX12_isBegun_67 : decode cX12_isBegun 67 = .ok (.bipush 64, 2) := by decide +kernel
theorem dX12_isBegun_69 : decode cX12_isBegun 69 = .ok (.aload_n 0, 1) := by decide +kernel
theorem dX12_isBegun_70 : decode cX12_isBegun 70 = .ok (.getfield 427, 3) := by decide +kernel
theorem dX12_isBegun_73 : decode cX12_isBegun 73 = .ok (.imul, 1) := by decide +kernel
theorem dX12_isBegun_74 : decode cX12_isBegun 74 = .ok (.iload_n 1, 1) := by decide +kernel
theorem dX12_isBegun_75 : decode cX12_isBegun 75 = .ok (.iadd, 1) := by decide +kernel
theorem dX12_isBegun_76 : decode cX12_isBegun 76 = .ok (.iconst 1, 1) := by decide +kernel
theorem dX12_isBegun_77 : decode cX12_isBegun 77 = .ok (.bastore, 1) := by decide +kernel
theorem dX12_isBegun_78 : decode cX12_isBegun 78 = .ok (.aload_n 0, 1) := by decide +kernel
theorem dX12_isBegun_79 : decode cX12_isBegun 79 = .ok (.getfield 161, 3) := by decide +kernel
theorem dX12_isBegun_82 : decode cX12_isBegun 82 = .ok (.iload_n 1, 1) := by decide +kernel
theorem dX12_isBegun_83 : decode cX12_isBegun 83 = .ok (.iconst 1, 1) := by decide +kernel
theorem dX12_isBegun_84 : decode cX12_isBegun 84 = .ok (.bastore, 1) := by decide +kernel
theorem dX12_isBegun_85 : decode cX12_isBegun 85 = .ok (.iconst 1, 1) := by decide +kernel
theorem dX12_isBegun_86 : decode cX12_isBegun 86 = .ok (.ireturn, 1) := by decide +kernel
def X12_isBegun_p24b (sh : Shp) (v0 : Nat) (Q : Int32 → Mem → Prop) (K24 : Int32 → Mem → Prop) (v1 : Int32) (m : Mem) : Prop :=
  if (64 : Int32) ≤ v1 then (Ob sh v0 12 ∧ wp_X12_hasWay sh v0 (fun r6 m7 => if r6 = 0 then (Q (0 : Int32) m7) else (wp_X12_setBehind sh v0 (0 : Int32) (m7.1 v0 44) (0 : Int32) (fun r9 m10 => ∃ b11 : Nat, m10.2.2 v0 67 = some b11 ∧ (Ix sh b11 102 (((64 : Int32) * (m10.1 v0 44)) + r9) ∧ bnd (sI m10 b11 (((64 : Int32) * (m10.1 v0 44)) + r9).toNatClampNeg (vp_nar .boolean (1 : Int32))) (fun m14 => ∃ b15 : Nat, m14.2.2 v0 69 = some b15 ∧ (Ix sh b15 102 r9 ∧ bnd (sI m14 b15 r9.toNatClampNeg (vp_nar .boolean (1 : Int32))) (fun m18 => Q (1 : Int32) m18))))) m7)) m) else (Ob sh v0 12 ∧ ∃ b20 : Nat, m.2.2 v0 69 = some b20 ∧ (Ix sh b20 102 v1 ∧ bnd (sI m b20 v1.toNatClampNeg (vp_nar .boolean (0 : Int32))) (fun m23 => K24 (v1 + (1 : Int32)) m23)))
def X12_isBegun_p24n (sh : Shp) (v0 : Nat) (Q : Int32 → Mem → Prop) : Nat → Int32 → Mem → Prop
  | 0 => fun _ _ => False
  | n + 1 => X12_isBegun_p24b sh v0 Q (X12_isBegun_p24n sh v0 Q n)
def X12_isBegun_p24 (sh : Shp) (v0 : Nat) (Q : Int32 → Mem → Prop) (v1 : Int32) (m : Mem) : Prop := ∃ n, X12_isBegun_p24n sh v0 Q n v1 m
def X12_isBegun_p2b (sh : Shp) (v0 : Nat) (Q : Int32 → Mem → Prop) (K2 : Int32 → Mem → Prop) (v1 : Int32) (m : Mem) : Prop :=
  if (2304 : Int32) ≤ v1 then (X12_isBegun_p24 sh v0 Q (0 : Int32) m) else (Ob sh v0 12 ∧ ∃ b2 : Nat, m.2.2 v0 67 = some b2 ∧ (Ix sh b2 102 v1 ∧ bnd (sI m b2 v1.toNatClampNeg (vp_nar .boolean (0 : Int32))) (fun m5 => K2 (v1 + (1 : Int32)) m5)))
def X12_isBegun_p2n (sh : Shp) (v0 : Nat) (Q : Int32 → Mem → Prop) : Nat → Int32 → Mem → Prop
  | 0 => fun _ _ => False
  | n + 1 => X12_isBegun_p2b sh v0 Q (X12_isBegun_p2n sh v0 Q n)
def X12_isBegun_p2 (sh : Shp) (v0 : Nat) (Q : Int32 → Mem → Prop) (v1 : Int32) (m : Mem) : Prop := ∃ n, X12_isBegun_p2n sh v0 Q n v1 m
def wp_X12_isBegun (sh : Shp) (v0 : Nat) (Q : Int32 → Mem → Prop) (m : Mem) : Prop :=
  X12_isBegun_p2 sh v0 Q (0 : Int32) m
abbrev M_X12_isBegun : Mi := (cX12_isBegun, 2, RX12, (Option.some FieldType.boolean), "isBegun", 4, 127, 0, 0)
set_option maxHeartbeats 4000000 in
set_option maxRecDepth 100000 in
theorem v_X12_isBegun_p24b {G : Gl} {F : Fr} {sh : Shp} {v0 : Nat} {v1 : Int32} {Q : Int32 → Mem → Prop} {K24 : Int32 → Mem → Prop} {m : Mem} (hK24 : ∀ (x1 : Int32) (m : Mem), K24 x1 m → V G F M_X12_isBegun sh 0 0 (Zi G F sh Q) 24 [(0, .ref (G.1 + v0)), (1, .int x1)] [] m) (h : X12_isBegun_p24b sh v0 Q K24 v1 m) : V G F M_X12_isBegun sh 0 0 (Zi G F sh Q) 24 [(0, .ref (G.1 + v0)), (1, .int v1)] [] m := by
  unfold X12_isBegun_p24b at h
  refine v_iload_n 1 1 dX12_isBegun_24 rfl rfl ?_
  refine v_bipush (64 : Int32) dX12_isBegun_25 (by decide) ?_
  refine v_icmp_ge 43 dX12_isBegun_27 (by decide) (fun hc => ?_) (fun hc => ?_)
  · replace h := Eq.mp (if_pos hc) h
    refine v_aload_n 0 0 dX12_isBegun_43 rfl rfl ?_
    obtain ⟨o8, h⟩ := h
    refine v_cVi [] mv_X12_hasWay ml_RX12_509 ⟨_, _, rfl⟩ o8 rfl rfl (Nat.le_of_ble_eq_true rfl) (Nat.le_of_ble_eq_true rfl) (Nat.le_of_ble_eq_true rfl) (Nat.zero_le _) (Nat.zero_le _) dX12_isBegun_44 (c_X12_hasWay h) (fun r6 m7 h => ?_)
    refine v_if_ne 52 dX12_isBegun_47 (by decide) (fun hc => ?_) (fun hc => ?_)
    · replace h := Eq.mp (if_neg hc) h
      refine v_aload_n 0 0 dX12_isBegun_52 rfl rfl ?_
      refine v_iconst (0 : Int32) dX12_isBegun_53 (by decide) ?_
      refine v_aload_n 0 0 dX12_isBegun_54 rfl rfl ?_
      refine v_gI 12 44 dX12_isBegun_55 fg_RX12_427 o8 ?_
      refine v_iconst (0 : Int32) dX12_isBegun_58 (by decide) ?_
      refine v_cVi [.int _, .int _, .int _] mv_X12_setBehind ml_RX12_561 ⟨_, _, rfl⟩ o8 rfl rfl (Nat.le_of_ble_eq_true rfl) (Nat.le_of_ble_eq_true rfl) (Nat.le_of_ble_eq_true rfl) (Nat.zero_le _) (Nat.zero_le _) dX12_isBegun_59 (c_X12_setBehind h) (fun r9 m10 h => ?_)
      refine v_istore_n (ls' := [(1, .int _), (0, .ref _)]) 1 dX12_isBegun_62 rfl (Nat.le_of_ble_eq_true rfl) rfl ?_
      refine v_aload_n 0 1 dX12_isBegun_63 rfl rfl ?_
      obtain ⟨b11, e12, h⟩ := h
      refine v_gR 12 67 dX12_isBegun_64 fg_RX12_155 o8 e12 ?_
      refine v_bipush (64 : Int32) dX12_isBegun_67 (by decide) ?_
      refine v_aload_n 0 1 dX12_isBegun_69 rfl rfl ?_
      refine v_gI 12 44 dX12_isBegun_70 fg_RX12_427 o8 ?_
      refine v_imul dX12_isBegun_73 ?_
      refine v_iload_n 1 0 dX12_isBegun_74 rfl rfl ?_
      refine v_iadd dX12_isBegun_75 ?_
      refine v_iconst (1 : Int32) dX12_isBegun_76 (by decide) ?_
      obtain ⟨i13, h⟩ := h
      refine v_zast dX12_isBegun_77 i13 ?_
      replace h := bnd_e h
      refine v_aload_n 0 1 dX12_isBegun_78 rfl rfl ?_
      obtain ⟨b15, e16, h⟩ := h
      refine v_gR 12 69 dX12_isBegun_79 fg_RX12_161 o8 e16 ?_
      refine v_iload_n 1 0 dX12_isBegun_82 rfl rfl ?_
      refine v_iconst (1 : Int32) dX12_isBegun_83 (by decide) ?_
      obtain ⟨i17, h⟩ := h
      refine v_zast dX12_isBegun_84 i17 ?_
      replace h := bnd_e h
      refine v_iconst (1 : Int32) dX12_isBegun_85 (by decide) ?_
      exact v_iret dX12_isBegun_86 rfl (by decide) h
    · replace h := Eq.mp (if_pos hc) h
      refine v_iconst (0 : Int32) dX12_isBegun_50 (by decide) ?_
      exact v_iret dX12_isBegun_51 rfl (by decide) h
  · replace h := Eq.mp (if_neg hc) h
    refine v_aload_n 0 0 dX12_isBegun_30 rfl rfl ?_
    obtain ⟨o19, h⟩ := h
    obtain ⟨b20, e21, h⟩ := h
    refine v_gR 12 69 dX12_isBegun_31 fg_RX12_161 o19 e21 ?_
    refine v_iload_n 1 1 dX12_isBegun_34 rfl rfl ?_
    refine v_iconst (0 : Int32) dX12_isBegun_35 (by decide) ?_
    obtain ⟨i22, h⟩ := h
    refine v_zast dX12_isBegun_36 i22 ?_
    replace h := bnd_e h
    refine v_iinc (ls' := [(1, .int _), (0, .ref _)]) 1 1 dX12_isBegun_37 rfl (congrArg (HAdd.hAdd _) (by decide : Int32.ofInt (1) = (1 : Int32))) (Nat.le_of_ble_eq_true rfl) rfl ?_
    refine v_goto 24 dX12_isBegun_40 (by decide) ?_
    refine v_sub [1, 0] rfl ?_
    exact hK24 _ _ h
set_option maxHeartbeats 4000000 in
set_option maxRecDepth 100000 in
theorem v_X12_isBegun_p24 {G : Gl} {F : Fr} {sh : Shp} {v0 : Nat} {v1 : Int32} {Q : Int32 → Mem → Prop} {m : Mem} (h : X12_isBegun_p24 sh v0 Q v1 m) : V G F M_X12_isBegun sh 0 0 (Zi G F sh Q) 24 [(0, .ref (G.1 + v0)), (1, .int v1)] [] m := by
  obtain ⟨n, h⟩ := h
  induction n generalizing v1 m with
  | zero => exact h.elim
  | succ n ih => exact v_X12_isBegun_p24b (fun _ _ h => ih h) h
set_option maxHeartbeats 4000000 in
set_option maxRecDepth 100000 in
theorem v_X12_isBegun_p2b {G : Gl} {F : Fr} {sh : Shp} {v0 : Nat} {v1 : Int32} {Q : Int32 → Mem → Prop} {K2 : Int32 → Mem → Prop} {m : Mem} (hK2 : ∀ (x1 : Int32) (m : Mem), K2 x1 m → V G F M_X12_isBegun sh 0 0 (Zi G F sh Q) 2 [(0, .ref (G.1 + v0)), (1, .int x1)] [] m) (h : X12_isBegun_p2b sh v0 Q K2 v1 m) : V G F M_X12_isBegun sh 0 0 (Zi G F sh Q) 2 [(0, .ref (G.1 + v0)), (1, .int v1)] [] m := by
  unfold X12_isBegun_p2b at h
  refine v_iload_n 1 1 dX12_isBegun_2 rfl rfl ?_
  refine v_sipush (2304 : Int32) dX12_isBegun_3 (by decide) ?_
  refine v_icmp_ge 22 dX12_isBegun_6 (by decide) (fun hc => ?_) (fun hc => ?_)
  · replace h := Eq.mp (if_pos hc) h
    refine v_iconst (0 : Int32) dX12_isBegun_22 (by decide) ?_
    refine v_istore_n (ls' := [(1, .int _), (0, .ref _)]) 1 dX12_isBegun_23 rfl (Nat.le_of_ble_eq_true rfl) rfl ?_
    refine v_sub [1, 0] rfl ?_
    exact v_X12_isBegun_p24 h
  · replace h := Eq.mp (if_neg hc) h
    refine v_aload_n 0 0 dX12_isBegun_9 rfl rfl ?_
    obtain ⟨o1, h⟩ := h
    obtain ⟨b2, e3, h⟩ := h
    refine v_gR 12 67 dX12_isBegun_10 fg_RX12_155 o1 e3 ?_
    refine v_iload_n 1 1 dX12_isBegun_13 rfl rfl ?_
    refine v_iconst (0 : Int32) dX12_isBegun_14 (by decide) ?_
    obtain ⟨i4, h⟩ := h
    refine v_zast dX12_isBegun_15 i4 ?_
    replace h := bnd_e h
    refine v_iinc (ls' := [(1, .int _), (0, .ref _)]) 1 1 dX12_isBegun_16 rfl (congrArg (HAdd.hAdd _) (by decide : Int32.ofInt (1) = (1 : Int32))) (Nat.le_of_ble_eq_true rfl) rfl ?_
    refine v_goto 2 dX12_isBegun_19 (by decide) ?_
    refine v_sub [1, 0] rfl ?_
    exact hK2 _ _ h
set_option maxHeartbeats 4000000 in
set_option maxRecDepth 100000 in
theorem v_X12_isBegun_p2 {G : Gl} {F : Fr} {sh : Shp} {v0 : Nat} {v1 : Int32} {Q : Int32 → Mem → Prop} {m : Mem} (h : X12_isBegun_p2 sh v0 Q v1 m) : V G F M_X12_isBegun sh 0 0 (Zi G F sh Q) 2 [(0, .ref (G.1 + v0)), (1, .int v1)] [] m := by
  obtain ⟨n, h⟩ := h
  induction n generalizing v1 m with
  | zero => exact h.elim
  | succ n ih => exact v_X12_isBegun_p2b (fun _ _ h => ih h) h
set_option maxHeartbeats 4000000 in
set_option maxRecDepth 100000 in
theorem c_X12_isBegun {l : Launch} {G : Gl} {sh : Shp} {v0 : Nat} {Q : Int32 → Mem → Prop} {m : Mem} (h : wp_X12_isBegun sh v0 Q m) : Cni l G yX12_isBegun cX12_isBegun 2 (Option.some FieldType.boolean) 4 127 sh [.ref (G.1 + v0)] m Q := by
  refine con_i (ls := [(0, .ref (G.1 + v0))]) (by decide +kernel) rfl (Nat.le_of_ble_eq_true rfl) (fun F => ?_)
  show V G F M_X12_isBegun sh 0 0 (Zi G F sh Q) 0 [(0, .ref (G.1 + v0))] [] m
  unfold wp_X12_isBegun at h
  refine v_iconst (0 : Int32) dX12_isBegun_0 (by decide) ?_
  refine v_istore_n (ls' := [(1, .int _), (0, .ref _)]) 1 dX12_isBegun_1 rfl (Nat.le_of_ble_eq_true rfl) rfl ?_
  refine v_sub [1, 0] rfl ?_
  exact v_X12_isBegun_p2 h
/-! CalledRiverModel.isThere -/
theorem dX12_isThere_0 : decode cX12_isThere 0 = .ok (.iconst 0, 1) := by decide +kernel
theorem dX12_isThere_1 : decode cX12_isThere 1 = .ok (.istore_n 2, 1) := by decide +kernel
theorem dX12_isThere_2 : decode cX12_isThere 2 = .ok (.iload_n 2, 1) := by decide +kernel
theorem dX12_isThere_3 : decode cX12_isThere 3 = .ok (.bipush 64, 2) := by decide +kernel
theorem dX12_isThere_5 : decode cX12_isThere 5 = .ok (.if_icmp .ge 27, 3) := by decide +kernel
theorem dX12_isThere_8 : decode cX12_isThere 8 = .ok (.aload_n 0, 1) := by decide +kernel
theorem dX12_isThere_9 : decode cX12_isThere 9 = .ok (.getfield 161, 3) := by decide +kernel
theorem dX12_isThere_12 : decode cX12_isThere 12 = .ok (.iload_n 2, 1) := by decide +kernel
theorem dX12_isThere_13 : decode cX12_isThere 13 = .ok (.baload, 1) := by decide +kernel
theorem dX12_isThere_14 : decode cX12_isThere 14 = .ok (.ifCond .eq 12, 3) := by decide +kernel
theorem dX12_isThere_17 : decode cX12_isThere 17 = .ok (.iload_n 2, 1) := by decide +kernel
theorem dX12_isThere_18 : decode cX12_isThere 18 = .ok (.iload_n 1, 1) := by decide +kernel
theorem dX12_isThere_19 : decode cX12_isThere 19 = .ok (.iand, 1) := by decide +kernel
theorem dX12_isThere_20 : decode cX12_isThere 20 = .ok (.iload_n 1, 1) := by decide +kernel
theorem dX12_isThere_21 : decode cX12_isThere 21 = .ok (.if_icmp .ne 5, 3) := by decide +kernel
theorem dX12_isThere_24 : decode cX12_isThere 24 = .ok (.iconst 1, 1) := by decide +kernel
theorem dX12_isThere_25 : decode cX12_isThere 25 = .ok (.ireturn, 1) := by decide +kernel
theorem dX12_isThere_26 : decode cX12_isThere 26 = .ok (.iinc 2 1, 3) := by decide +kernel
theorem dX12_isThere_29 : decode cX12_isThere 29 = .ok (.goto (-27), 3) := by decide +kernel
theorem dX12_isThere_32 : decode cX12_isThere 32 = .ok (.iconst 0, 1) := by decide +kernel
theorem dX12_isThere_33 : decode cX12_isThere 33 = .ok (.ireturn, 1) := by decide +kernel
def X12_isThere_p26 (sh : Shp) (v0 : Nat) (v1 : Int32) (v2 : Int32) (Q : Int32 → Mem → Prop) (K2 : Int32 → Mem → Prop) (m : Mem) : Prop :=
  K2 (v2 + (1 : Int32)) m
def X12_isThere_p2b (sh : Shp) (v0 : Nat) (v1 : Int32) (Q : Int32 → Mem → Prop) (K2 : Int32 → Mem → Prop) (v2 : Int32) (m : Mem) : Prop :=
  if (64 : Int32) ≤ v2 then (Q (0 : Int32) m) else (Ob sh v0 12 ∧ ∃ b2 : Nat, m.2.2 v0 69 = some b2 ∧ (Ix sh b2 102 v2 ∧ (if (m.1 b2 v2.toNatClampNeg) = 0 then (X12_isThere_p26 sh v0 v1 v2 Q K2 m) else (if (v2 &&& v1) = v1 then (Q (1 : Int32) m) else (X12_isThere_p26 sh v0 v1 v2 Q K2 m)))))
def X12_isThere_p2n (sh : Shp) (v0 : Nat) (v1 : Int32) (Q : Int32 → Mem → Prop) : Nat → Int32 → Mem → Prop
  | 0 => fun _ _ => False
  | n + 1 => X12_isThere_p2b sh v0 v1 Q (X12_isThere_p2n sh v0 v1 Q n)
def X12_isThere_p2 (sh : Shp) (v0 : Nat) (v1 : Int32) (Q : Int32 → Mem → Prop) (v2 : Int32) (m : Mem) : Prop := ∃ n, X12_isThere_p2n sh v0 v1 Q n v2 m
def wp_X12_isThere (sh : Shp) (v0 : Nat) (v1 : Int32) (Q : Int32 → Mem → Prop) (m : Mem) : Prop :=
  X12_isThere_p2 sh v0 v1 Q (0 : Int32) m
abbrev M_X12_isThere : Mi := (cX12_isThere, 3, RX12, (Option.some FieldType.boolean), "isThere", 1, 60, 0, 0)
set_option maxHeartbeats 4000000 in
set_option maxRecDepth 100000 in
theorem v_X12_isThere_p26 {G : Gl} {F : Fr} {sh : Shp} {v0 : Nat} {v1 : Int32} {v2 : Int32} {Q : Int32 → Mem → Prop} {K2 : Int32 → Mem → Prop} {m : Mem} (hK2 : ∀ (x2 : Int32) (m : Mem), K2 x2 m → V G F M_X12_isThere sh 0 0 (Zi G F sh Q) 2 [(0, .ref (G.1 + v0)), (1, .int v1), (2, .int x2)] [] m) (h : X12_isThere_p26 sh v0 v1 v2 Q K2 m) : V G F M_X12_isThere sh 0 0 (Zi G F sh Q) 26 [(0, .ref (G.1 + v0)), (1, .int v1), (2, .int v2)] [] m := by
  unfold X12_isThere_p26 at h
  refine v_iinc (ls' := [(2, .int _), (0, .ref _), (1, .int _)]) 2 2 dX12_isThere_26 rfl (congrArg (HAdd.hAdd _) (by decide : Int32.ofInt (1) = (1 : Int32))) (Nat.le_of_ble_eq_true rfl) rfl ?_
  refine v_goto 2 dX12_isThere_29 (by decide) ?_
  refine v_sub [1, 2, 0] rfl ?_
  exact hK2 _ _ h
set_option maxHeartbeats 4000000 in
set_option maxRecDepth 100000 in
theorem v_X12_isThere_p2b {G : Gl} {F : Fr} {sh : Shp} {v0 : Nat} {v1 : Int32} {v2 : Int32} {Q : Int32 → Mem → Prop} {K2 : Int32 → Mem → Prop} {m : Mem} (hK2 : ∀ (x2 : Int32) (m : Mem), K2 x2 m → V G F M_X12_isThere sh 0 0 (Zi G F sh Q) 2 [(0, .ref (G.1 + v0)), (1, .int v1), (2, .int x2)] [] m) (h : X12_isThere_p2b sh v0 v1 Q K2 v2 m) : V G F M_X12_isThere sh 0 0 (Zi G F sh Q) 2 [(0, .ref (G.1 + v0)), (1, .int v1), (2, .int v2)] [] m := by
  unfold X12_isThere_p2b at h
  refine v_iload_n 2 2 dX12_isThere_2 rfl rfl ?_
  refine v_bipush (64 : Int32) dX12_isThere_3 (by decide) ?_
  refine v_icmp_ge 32 dX12_isThere_5 (by decide) (fun hc => ?_) (fun hc => ?_)
  · replace h := Eq.mp (if_pos hc) h
    refine v_iconst (0 : Int32) dX12_isThere_32 (by decide) ?_
    exact v_iret dX12_isThere_33 rfl (by decide) h
  · replace h := Eq.mp (if_neg hc) h
    refine v_aload_n 0 0 dX12_isThere_8 rfl rfl ?_
    obtain ⟨o1, h⟩ := h
    obtain ⟨b2, e3, h⟩ := h
    refine v_gR 12 69 dX12_isThere_9 fg_RX12_161 o1 e3 ?_
    refine v_iload_n 2 2 dX12_isThere_12 rfl rfl ?_
    obtain ⟨i4, h⟩ := h
    refine v_zald dX12_isThere_13 i4 ?_
    refine v_if_eq 26 dX12_isThere_14 (by decide) (fun hc => ?_) (fun hc => ?_)
    · replace h := Eq.mp (if_pos hc) h
      refine v_sub [0, 1, 2] rfl ?_
      exact v_X12_isThere_p26 hK2 h
    · replace h := Eq.mp (if_neg hc) h
      refine v_iload_n 2 2 dX12_isThere_17 rfl rfl ?_
      refine v_iload_n 1 1 dX12_isThere_18 rfl rfl ?_
      refine v_iand dX12_isThere_19 ?_
      refine v_iload_n 1 1 dX12_isThere_20 rfl rfl ?_
      refine v_icmp_ne 26 dX12_isThere_21 (by decide) (fun hc => ?_) (fun hc => ?_)
      · replace h := Eq.mp (if_neg hc) h
        refine v_sub [0, 1, 2] rfl ?_
        exact v_X12_isThere_p26 hK2 h
      · replace h := Eq.mp (if_pos hc) h
        refine v_iconst (1 : Int32) dX12_isThere_24 (by decide) ?_
        exact v_iret dX12_isThere_25 rfl (by decide) h
set_option maxHeartbeats 4000000 in
set_option maxRecDepth 100000 in
theorem v_X12_isThere_p2 {G : Gl} {F : Fr} {sh : Shp} {v0 : Nat} {v1 : Int32} {v2 : Int32} {Q : Int32 → Mem → Prop} {m : Mem} (h : X12_isThere_p2 sh v0 v1 Q v2 m) : V G F M_X12_isThere sh 0 0 (Zi G F sh Q) 2 [(0, .ref (G.1 + v0)), (1, .int v1), (2, .int v2)] [] m := by
  obtain ⟨n, h⟩ := h
  induction n generalizing v2 m with
  | zero => exact h.elim
  | succ n ih => exact v_X12_isThere_p2b (fun _ _ h => ih h) h
set_option maxHeartbeats 4000000 in
set_option maxRecDepth 100000 in
theorem c_X12_isThere {l : Launch} {G : Gl} {sh : Shp} {v0 : Nat} {v1 : Int32} {Q : Int32 → Mem → Prop} {m : Mem} (h : wp_X12_isThere sh v0 v1 Q m) : Cni l G yX12_isThere cX12_isThere 3 (Option.some FieldType.boolean) 1 60 sh [.ref (G.1 + v0), .int v1] m Q := by
  refine con_i (ls := [(0, .ref (G.1 + v0)), (1, .int v1)]) (by decide +kernel) rfl (Nat.le_of_ble_eq_true rfl) (fun F => ?_)
  show V G F M_X12_isThere sh 0 0 (Zi G F sh Q) 0 [(0, .ref (G.1 + v0)), (1, .int v1)] [] m
  unfold wp_X12_isThere at h
  refine v_iconst (0 : Int32) dX12_isThere_0 (by decide) ?_
  refine v_istore_n (ls' := [(2, .int _), (0, .ref _), (1, .int _)]) 2 dX12_isThere_1 rfl (Nat.le_of_ble_eq_true rfl) rfl ?_
  refine v_sub [1, 2, 0] rfl ?_
  exact v_X12_isThere_p2 h
/-! CalledRiverModel.stepGoes -/
theorem dX12_stepGoes_0 : decode cX12_stepGoes 0 = .ok (.iconst 0, 1) := by decide +kernel
theorem dX12_stepGoes_1 : decode cX12_stepGoes 1 = .ok (.istore_n 2, 1) := by decide +kernel
theorem dX12_stepGoes_2 : decode cX12_stepGoes 2 = .ok (.iload_n 2, 1) := by decide +kernel
theorem dX12_stepGoes_3 : decode cX12_stepGoes 3 = .ok (.sipush 2304, 3) := by decide +kernel
theorem dX12_stepGoes_6 : decode cX12_stepGoes 6 = .ok (.if_icmp .ge 16, 3) := by decide +kernel
theorem dX12_stepGoes_9 : decode cX12_stepGoes 9 = .ok (.aload_n 0, 1) := by decide +kernel
theorem dX12_stepGoes_10 : decode cX12_stepGoes 10 = .ok (.getfield 158, 3) := by decide +kernel
theorem dX12_stepGoes_13 : decode cX12_stepGoes 13 = .ok (.iload_n 2, 1) := by decide +kernel
theorem dX12_stepGoes_14 : decode cX12_stepGoes 14 = .ok (.iconst 0, 1) := by decide +kernel
theorem dX12_stepGoes_15 : decode cX12_stepGoes 15 = .ok (.bastore, 1) := by decide +kernel
theorem dX12_stepGoes_16 : decode cX12_stepGoes 16 = .ok (.iinc 2 1, 3) := by decide +kernel
theorem dX12_stepGoes_19 : decode cX12_stepGoes 19 = .ok (.goto (-17), 3) := by decide +kernel
theorem dX12_stepGoes_22 : decode cX12_stepGoes 22 = .ok (.iconst 0, 1) := by decide +kernel
theorem dX12_stepGoes_23 : decode cX12_stepGoes 23 = .ok (.istore_n 2, 1) := by decide +kernel
theorem dX12_stepGoes_24 : decode cX12_stepGoes 24 = .ok (.iload_n 2, 1) := by decide +kernel
theorem dX12_stepGoes_25 : decode cX12_stepGoes 25 = .ok (.sipush 2304, 3) := by decide +kernel
theorem dX12_stepGoes_28 : decode cX12_stepGoes 28 = .ok (.if_icmp .ge 98, 3) := by decide +kernel
theorem dX12_stepGoes_31 : decode cX12_stepGoes 31 = .ok (.aload_n 0, 1) := by decide +kernel
theorem dX12_stepGoes_32 : decode cX12_stepGoes 32 = .ok (.getfield 155, 3) := by decide +kernel
theorem dX12_stepGoes_35 : decode cX12_stepGoes 35 = .ok (.iload_n 2, 1) := by decide +kernel
theorem dX12_stepGoes_36 : decode cX12_stepGoes 36 = .ok (.baload, 1) := by decide +kernel
theorem dX12_stepGoes_37 : decode cX12_stepGoes 37 = .ok (.ifCond .ne 6, 3) := by decide +kernel
theorem dX12_stepGoes_40 : decode cX12_stepGoes 40 = .ok (.goto 80, 3) := by decide +kernel
theorem dX12_stepGoes_43 : decode cX12_stepGoes 43 = .ok (.iload_n 2, 1) := by decide +kernel
theorem dX12_stepGoes_44 : decode cX12_stepGoes 44 = .ok (.bipush 64, 2) := by decide +kernel
theorem dX12_stepGoes_46 : decode cX12_stepGoes 46 = .ok (.idiv, 1) := by decide +kernel
theorem dX12_stepGoes_47 : decode cX12_stepGoes 47 = .ok (.istore_n 3, 1) := by decide +kernel
theorem dX12_stepGoes_48 : decode cX12_stepGoes 48 = .ok (.iconst 0, 1) := by decide +kernel
theorem dX12_stepGoes_49 : decode cX12_stepGoes 49 = .ok (.istore 4, 2) := by decide +kernel
theorem dX12_stepGoes_51 : decode cX12_stepGoes 51 = .ok (.iload 4, 2) := by decide +kernel
theorem dX12_stepGoes_53 : decode cX12_stepGoes 53 = .ok (.iconst 4, 1) := by decide +kernel
theorem dX12_stepGoes_54 : decode cX12_stepGoes 54 = .ok (.if_icmp .ge 66, 3) := by decide +kernel
theorem dX12_stepGoes_57 : decode cX12_stepGoes 57 = .ok (.aload_n 0, 1) := by decide +kernel
theorem dX12_stepGoes_58 : decode cX12_stepGoes 58 = .ok (.iload_n 3, 1) := by decide +kernel
theorem dX12_stepGoes_59 : decode cX12_stepGoes 59 = .ok (.iload 4, 2) := by decide +kernel
theorem dX12_stepGoes_61 : decode cX12_stepGoes 61 = .ok (.invokevirtual 503, 3) := by decide +kernel
theorem dX12_stepGoes_64 : decode cX12_stepGoes 64 = .ok (.istore 5, 2) := by decide +kernel
theorem dX12_stepGoes_66 : decode cX12_stepGoes 66 = .ok (.aload_n 0, 1) := by decide +kernel
theorem dX12_stepGoes_67 : decode cX12_stepGoes 67 = .ok (.iload_n 3, 1) := by decide +kernel
theorem dX12_stepGoes_68 : decode cX12_stepGoes 68 = .ok (.iload 5, 2) := by decide +kernel
theorem dX12_stepGoes_70 : decode cX12_stepGoes 70 = .ok (.invokevirtual 494, 3) := by decide +kernel
theorem dX12_stepGoes_73 : decode cX12_stepGoes 73 = .ok (.ifCond .ne 6, 3) := by decide +kernel
theorem dX12_stepGoes_76 : decode cX12_stepGoes 76 = .ok (.goto 38, 3) := by decide +kernel
theorem dX12_stepGoes_79 : decode cX12_stepGoes 79 = .ok (.aload_n 0, 1) := by decide +kernel
theorem dX12_stepGoes_80 : decode cX12_stepGoes 80 = .ok (.iload_n 2, 1) := by decide +kernel
theorem dX12_stepGoes_81 : decode cX12_stepGoes 81 = .ok (.bipush 64, 2) := by decide +kernel
theorem dX12_stepGoes_83 : decode cX12_stepGoes 83 = .ok (.irem, 1) := by decide +kernel
theorem dX12_stepGoes_84 : decode cX12_stepGoes 84 = .ok (.iload 5, 2) := by decide +kernel
theorem dX12_stepGoes_86 : decode cX12_stepGoes 86 = .ok (.iload_n 1, 1) := by decide +kernel
theorem dX12_stepGoes_87 : decode cX12_stepGoes 87 = .ok (.invokevirtual 561, 3) := by decide +kernel
theorem dX12_stepGoes_90 : decode cX12_stepGoes 90 = .ok (.istore 6, 2) := by decide +kernel
theorem dX12_stepGoes_92 : decode cX12_stepGoes 92 = .ok (.aload_n 0, 1) := by decide +kernel
theorem dX12_stepGoes_93 : decode cX12_stepGoes 93 = .ok (.getfield 158, 3) := by decide +kernel
theorem dX12_stepGoes_96 : decode cX12_stepGoes 96 = .ok (.bipush 64, 2) := by decide +kernel
theorem dX12_stepGoes_98 : decode cX12_stepGoes 98 = .ok (.iload 5, 2) := by decide +kernel
theorem dX12_stepGoes_100 : decode cX12_stepGoes 100 = .ok (.imul, 1) := by decide +kernel
theorem dX12_stepGoes_101 : decode cX12_stepGoes 101 = .ok (.iload 6, 2) := by decide +kernel
theorem dX12_stepGoes_103 : decode cX12_stepGoes 103 = .ok (.iadd, 1) := by decide +kernel
theorem dX12_stepGoes_104 : decode cX12_stepGoes 104 = .ok (.iconst 1, 1) := by decide +kernel
theorem dX12_stepGoes_105 : decode cX12_stepGoes 105 = .ok (.bastore, 1) := by decide +kernel
theorem dX12_stepGoes_106 : decode cX12_stepGoes 106 = .ok (.aload_n 0, 1) := by decide +kernel
theorem dX12_stepGoes_107 : decode cX12_stepGoes 107 = .ok (.getfield 161, 3) := by decide +kernel
theorem dX12_stepGoes_110 : decode cX12_stepGoes 110 = .ok (.iload 6, 2) := by decide +kernel
theorem dX12_stepGoes_112 : decode cX12_stepGoes 112 = .ok (.iconst 1, 1) := by decide +kernel
theorem dX12_stepGoes_113 : decode cX12_stepGoes 113 = .ok (.bastore, 1) := by decide +kernel
theorem dX12_stepGoes_114 : decode cX12_stepGoes 114 = .ok (.iinc 4 1, 3) := by decide +kernel
theorem dX12_stepGoes_117 : decode cX12_stepGoes 117 = .ok (.goto (-66), 3) := by decide +kernel
theorem dX12_stepGoes_120 : decode cX12_stepGoes 120 = .ok (.iinc 2 1, 3) := by decide +kernel
theorem dX12_stepGoes_123 : decode cX12_stepGoes 123 = .ok (.goto (-99), 3) := by decide +kernel
theorem dX12_stepGoes_126 : decode cX12_stepGoes 126 = .ok (.iconst 0, 1) := by decide +kernel
theorem dX12_stepGoes_127 : decode cX12_stepGoes 127 = .ok (.istore_n 2, 1) := by decide +kernel
theorem dX12_stepGoes_128 : decode cX12_stepGoes 128 = .ok (.iload_n 2, 1) := by decide +kernel
theorem dX12_stepGoes_129 : decode cX12_stepGoes 129 = .ok (.sipush 2304, 3) := by decide +kernel
theorem dX12_stepGoes_132 : decode cX12_stepGoes 132 = .ok (.if_icmp .ge 21, 3) := by decide +kernel
theorem dX12_stepGoes_135 : decode cX12_stepGoes 135 = .ok (.aload_n 0, 1) := by decide +kernel
theorem dX12_stepGoes_136 : decode cX12_stepGoes 136 = .ok (.getfield 155, 3) := by decide +kernel
theorem dX12_stepGoes_139 : decode cX12_stepGoes 139 = .ok (.iload_n 2, 1) := by decide +kernel
theorem dX12_stepGoes_140 : decode cX12_stepGoes 140 = .ok (.aload_n 0, 1) := by decide +kernel
theorem dX12_stepGoes_141 : decode cX12_stepGoes 141 = .ok (.getfield 158, 3) := by decide +kernel
theorem dX12_stepGoes_144 : decode cX12_stepGoes 144 = .ok (.iload_n 2, 1) := by decide +kernel
theorem dX12_stepGoes_145 : decode cX12_stepGoes 145 = .ok (.baload, 1) := by decide +kernel
theorem dX12_stepGoes_146 : decode cX12_stepGoes 146 = .ok (.bastore, 1) := by decide +kernel
theorem dX12_stepGoes_147 : decode cX12_stepGoes 147 = .ok (.iinc 2 1, 3) := by decide +kernel
theorem dX12_stepGoes_150 : decode cX12_stepGoes 150 = .ok (.goto (-22), 3) := by decide +kernel
theorem dX12_stepGoes_153 : decode cX12_stepGoes 153 = .ok (.return_, 1) := by decide +kernel
def X12_stepGoes_p114 (sh : Shp) (v0 : Nat) (v1 : Int32) (v2 : Int32) (v3 : Int32) (v4 : Int32) (Q : Mem → Prop) (K24 : Int32 → Mem → Prop) (K51 : Int32 → Mem → Prop) (m : Mem) : Prop :=
  K51 (v4 + (1 : Int32)) m
def X12_stepGoes_p120 (sh : Shp) (v0 : Nat) (v1 : Int32) (v2 : Int32) (Q : Mem → Prop) (K24 : Int32 → Mem → Prop) (m : Mem) : Prop :=
  K24 (v2 + (1 : Int32)) m
def X12_stepGoes_p51b (sh : Shp) (v0 : Nat) (v1 : Int32) (v2 : Int32) (v3 : Int32) (Q : Mem → Prop) (K24 : Int32 → Mem → Prop) (K51 : Int32 → Mem → Prop) (v4 : Int32) (m : Mem) : Prop :=
  if (4 : Int32) ≤ v4 then (X12_stepGoes_p120 sh v0 v1 v2 Q K24 m) else (Ob sh v0 12 ∧ wp_X12_beside sh v0 v3 v4 (fun r18 m19 => wp_X12_canFlow sh v0 v3 r18 (fun r21 m22 => if r21 = 0 then (X12_stepGoes_p114 sh v0 v1 v2 v3 v4 Q K24 K51 m22) else (wp_X12_setBehind sh v0 (v2 - v2 / (64 : Int32) * (64 : Int32)) r18 v1 (fun r23 m24 => ∃ b25 : Nat, m24.2.2 v0 68 = some b25 ∧ (Ix sh b25 102 (((64 : Int32) * r18) + r23) ∧ bnd (sI m24 b25 (((64 : Int32) * r18) + r23).toNatClampNeg (vp_nar .boolean (1 : Int32))) (fun m28 => ∃ b29 : Nat, m28.2.2 v0 69 = some b29 ∧ (Ix sh b29 102 r23 ∧ bnd (sI m28 b29 r23.toNatClampNeg (vp_nar .boolean (1 : Int32))) (fun m32 => X12_stepGoes_p114 sh v0 v1 v2 v3 v4 Q K24 K51 m32))))) m22)) m19) m)
def X12_stepGoes_p51n (sh : Shp) (v0 : Nat) (v1 : Int32) (v2 : Int32) (v3 : Int32) (Q : Mem → Prop) (K24 : Int32 → Mem → Prop) : Nat → Int32 → Mem → Prop
  | 0 => fun _ _ => False
  | n + 1 => X12_stepGoes_p51b sh v0 v1 v2 v3 Q K24 (X12_stepGoes_p51n sh v0 v1 v2 v3 Q K24 n)
def X12_stepGoes_p51 (sh : Shp) (v0 : Nat) (v1 : Int32) (v2 : Int32) (v3 : Int32) (Q : Mem → Prop) (K24 : Int32 → Mem → Prop) (v4 : Int32) (m : Mem) : Prop := ∃ n, X12_stepGoes_p51n sh v0 v1 v2 v3 Q K24 n v4 m
def X12_stepGoes_p128b (sh : Shp) (v0 : Nat) (Q : Mem → Prop) (K128 : Int32 → Mem → Prop) (v2 : Int32) (m : Mem) : Prop :=
  if (2304 : Int32) ≤ v2 then (Q m) else (Ob sh v0 12 ∧ ∃ b11 : Nat, m.2.2 v0 67 = some b11 ∧ (∃ b13 : Nat, m.2.2 v0 68 = some b13 ∧ (Ix sh b13 102 v2 ∧ (Ix sh b11 102 v2 ∧ bnd (sI m b11 v2.toNatClampNeg (vp_nar .boolean (m.1 b13 v2.toNatClampNeg))) (fun m17 => K128 (v2 + (1 : Int32)) m17)))))
def X12_stepGoes_p128n (sh : Shp) (v0 : Nat) (Q : Mem → Prop) : Nat → Int32 → Mem → Prop
  | 0 => fun _ _ => False
  | n + 1 => X12_stepGoes_p128b sh v0 Q (X12_stepGoes_p128n sh v0 Q n)
def X12_stepGoes_p128 (sh : Shp) (v0 : Nat) (Q : Mem → Prop) (v2 : Int32) (m : Mem) : Prop := ∃ n, X12_stepGoes_p128n sh v0 Q n v2 m
def X12_stepGoes_p24b (sh : Shp) (v0 : Nat) (v1 : Int32) (Q : Mem → Prop) (K24 : Int32 → Mem → Prop) (v2 : Int32) (m : Mem) : Prop :=
  if (2304 : Int32) ≤ v2 then (X12_stepGoes_p128 sh v0 Q (0 : Int32) m) else (Ob sh v0 12 ∧ ∃ b7 : Nat, m.2.2 v0 67 = some b7 ∧ (Ix sh b7 102 v2 ∧ (if (m.1 b7 v2.toNatClampNeg) = 0 then (X12_stepGoes_p120 sh v0 v1 v2 Q K24 m) else (X12_stepGoes_p51 sh v0 v1 v2 (v2 / (64 : Int32)) Q K24 (0 : Int32) m))))
def X12_stepGoes_p24n (sh : Shp) (v0 : Nat) (v1 : Int32) (Q : Mem → Prop) : Nat → Int32 → Mem → Prop
  | 0 => fun _ _ => False
  | n + 1 => X12_stepGoes_p24b sh v0 v1 Q (X12_stepGoes_p24n sh v0 v1 Q n)
def X12_stepGoes_p24 (sh : Shp) (v0 : Nat) (v1 : Int32) (Q : Mem → Prop) (v2 : Int32) (m : Mem) : Prop := ∃ n, X12_stepGoes_p24n sh v0 v1 Q n v2 m
def X12_stepGoes_p2b (sh : Shp) (v0 : Nat) (v1 : Int32) (Q : Mem → Prop) (K2 : Int32 → Mem → Prop) (v2 : Int32) (m : Mem) : Prop :=
  if (2304 : Int32) ≤ v2 then (X12_stepGoes_p24 sh v0 v1 Q (0 : Int32) m) else (Ob sh v0 12 ∧ ∃ b2 : Nat, m.2.2 v0 68 = some b2 ∧ (Ix sh b2 102 v2 ∧ bnd (sI m b2 v2.toNatClampNeg (vp_nar .boolean (0 : Int32))) (fun m5 => K2 (v2 + (1 : Int32)) m5)))
def X12_stepGoes_p2n (sh : Shp) (v0 : Nat) (v1 : Int32) (Q : Mem → Prop) : Nat → Int32 → Mem → Prop
  | 0 => fun _ _ => False
  | n + 1 => X12_stepGoes_p2b sh v0 v1 Q (X12_stepGoes_p2n sh v0 v1 Q n)
def X12_stepGoes_p2 (sh : Shp) (v0 : Nat) (v1 : Int32) (Q : Mem → Prop) (v2 : Int32) (m : Mem) : Prop := ∃ n, X12_stepGoes_p2n sh v0 v1 Q n v2 m
def wp_X12_stepGoes (sh : Shp) (v0 : Nat) (v1 : Int32) (Q : Mem → Prop) (m : Mem) : Prop :=
  X12_stepGoes_p2 sh v0 v1 Q (0 : Int32) m
abbrev M_X12_stepGoes : Mi := (cX12_stepGoes, 7, RX12, (none : Option FieldType), "stepGoes", 4, 131, 0, 0)
set_option maxHeartbeats 4000000 in
set_option maxRecDepth 100000 in
theorem v_X12_stepGoes_p114 {G : Gl} {F : Fr} {sh : Shp} {v0 : Nat} {v1 : Int32} {v2 : Int32} {v3 : Int32} {v4 : Int32} {Q : Mem → Prop} {K24 : Int32 → Mem → Prop} {K51 : Int32 → Mem → Prop} {m : Mem} (hK24 : ∀ (x2 : Int32) (m : Mem), K24 x2 m → V G F M_X12_stepGoes sh 0 0 (Zv G F sh Q) 24 [(0, .ref (G.1 + v0)), (1, .int v1), (2, .int x2)] [] m) (hK51 : ∀ (x4 : Int32) (m : Mem), K51 x4 m → V G F M_X12_stepGoes sh 0 0 (Zv G F sh Q) 51 [(0, .ref (G.1 + v0)), (1, .int v1), (2, .int v2), (3, .int v3), (4, .int x4)] [] m) (h : X12_stepGoes_p114 sh v0 v1 v2 v3 v4 Q K24 K51 m) : V G F M_X12_stepGoes sh 0 0 (Zv G F sh Q) 114 [(0, .ref (G.1 + v0)), (1, .int v1), (2, .int v2), (3, .int v3), (4, .int v4)] [] m := by
  unfold X12_stepGoes_p114 at h
  refine v_iinc (ls' := [(4, .int _), (0, .ref _), (1, .int _), (2, .int _), (3, .int _)]) 4 4 dX12_stepGoes_114 rfl (congrArg (HAdd.hAdd _) (by decide : Int32.ofInt (1) = (1 : Int32))) (Nat.le_of_ble_eq_true rfl) rfl ?_
  refine v_goto 51 dX12_stepGoes_117 (by decide) ?_
  refine v_sub [1, 2, 3, 4, 0] rfl ?_
  exact hK51 _ _ h
set_option maxHeartbeats 4000000 in
set_option maxRecDepth 100000 in
theorem v_X12_stepGoes_p120 {G : Gl} {F : Fr} {sh : Shp} {v0 : Nat} {v1 : Int32} {v2 : Int32} {Q : Mem → Prop} {K24 : Int32 → Mem → Prop} {m : Mem} (hK24 : ∀ (x2 : Int32) (m : Mem), K24 x2 m → V G F M_X12_stepGoes sh 0 0 (Zv G F sh Q) 24 [(0, .ref (G.1 + v0)), (1, .int v1), (2, .int x2)] [] m) (h : X12_stepGoes_p120 sh v0 v1 v2 Q K24 m) : V G F M_X12_stepGoes sh 0 0 (Zv G F sh Q) 120 [(0, .ref (G.1 + v0)), (1, .int v1), (2, .int v2)] [] m := by
  unfold X12_stepGoes_p120 at h
  refine v_iinc (ls' := [(2, .int _), (0, .ref _), (1, .int _)]) 2 2 dX12_stepGoes_120 rfl (congrArg (HAdd.hAdd _) (by decide : Int32.ofInt (1) = (1 : Int32))) (Nat.le_of_ble_eq_true rfl) rfl ?_
  refine v_goto 24 dX12_stepGoes_123 (by decide) ?_
  refine v_sub [1, 2, 0] rfl ?_
  exact hK24 _ _ h
set_option maxHeartbeats 4000000 in
set_option maxRecDepth 100000 in
theorem v_X12_stepGoes_p51b {G : Gl} {F : Fr} {sh : Shp} {v0 : Nat} {v1 : Int32} {v2 : Int32} {v3 : Int32} {v4 : Int32} {Q : Mem → Prop} {K24 : Int32 → Mem → Prop} {K51 : Int32 → Mem → Prop} {m : Mem} (hK24 : ∀ (x2 : Int32) (m : Mem), K24 x2 m → V G F M_X12_stepGoes sh 0 0 (Zv G F sh Q) 24 [(0, .ref (G.1 + v0)), (1, .int v1), (2, .int x2)] [] m) (hK51 : ∀ (x4 : Int32) (m : Mem), K51 x4 m → V G F M_X12_stepGoes sh 0 0 (Zv G F sh Q) 51 [(0, .ref (G.1 + v0)), (1, .int v1), (2, .int v2), (3, .int v3), (4, .int x4)] [] m) (h : X12_stepGoes_p51b sh v0 v1 v2 v3 Q K24 K51 v4 m) : V G F M_X12_stepGoes sh 0 0 (Zv G F sh Q) 51 [(0, .ref (G.1 + v0)), (1, .int v1), (2, .int v2), (3, .int v3), (4, .int v4)] [] m := by
  unfold X12_stepGoes_p51b at h
  refine v_iload 4 4 dX12_stepGoes_51 rfl ?_
  refine v_iconst (4 : Int32) dX12_stepGoes_53 (by decide) ?_
  refine v_icmp_ge 120 dX12_stepGoes_54 (by decide) (fun hc => ?_) (fun hc => ?_)
  · replace h := Eq.mp (if_pos hc) h
    refine v_sub [0, 1, 2] rfl ?_
    exact v_X12_stepGoes_p120 hK24 h
  · replace h := Eq.mp (if_neg hc) h
    refine v_aload_n 0 0 dX12_stepGoes_57 rfl rfl ?_
    refine v_iload_n 3 3 dX12_stepGoes_58 rfl rfl ?_
    refine v_iload 4 4 dX12_stepGoes_59 rfl ?_
    obtain ⟨o20, h⟩ := h
    refine v_cVi [.int _, .int _] mv_X12_beside ml_RX12_503 ⟨_, _, rfl⟩ o20 rfl rfl (Nat.le_of_ble_eq_true rfl) (Nat.le_of_ble_eq_true rfl) (Nat.le_of_ble_eq_true rfl) (Nat.zero_le _) (Nat.zero_le _) dX12_stepGoes_61 (c_X12_beside h) (fun r18 m19 h => ?_)
    refine v_istore (ls' := [(5, .int _), (0, .ref _), (1, .int _), (2, .int _), (3, .int _), (4, .int _)]) 5 dX12_stepGoes_64 (Nat.le_of_ble_eq_true rfl) rfl ?_
    refine v_aload_n 0 1 dX12_stepGoes_66 rfl rfl ?_
    refine v_iload_n 3 4 dX12_stepGoes_67 rfl rfl ?_
    refine v_iload 5 0 dX12_stepGoes_68 rfl ?_
    refine v_cVi [.int _, .int _] mv_X12_canFlow ml_RX12_494 ⟨_, _, rfl⟩ o20 rfl rfl (Nat.le_of_ble_eq_true rfl) (Nat.le_of_ble_eq_true rfl) (Nat.le_of_ble_eq_true rfl) (Nat.zero_le _) (Nat.zero_le _) dX12_stepGoes_70 (c_X12_canFlow h) (fun r21 m22 h => ?_)
    refine v_if_ne 79 dX12_stepGoes_73 (by decide) (fun hc => ?_) (fun hc => ?_)
    · replace h := Eq.mp (if_neg hc) h
      refine v_aload_n 0 1 dX12_stepGoes_79 rfl rfl ?_
      refine v_iload_n 2 3 dX12_stepGoes_80 rfl rfl ?_
      refine v_bipush (64 : Int32) dX12_stepGoes_81 (by decide) ?_
      refine v_irem dX12_stepGoes_83 (by decide) ?_
      refine v_iload 5 0 dX12_stepGoes_84 rfl ?_
      refine v_iload_n 1 2 dX12_stepGoes_86 rfl rfl ?_
      refine v_cVi [.int _, .int _, .int _] mv_X12_setBehind ml_RX12_561 ⟨_, _, rfl⟩ o20 rfl rfl (Nat.le_of_ble_eq_true rfl) (Nat.le_of_ble_eq_true rfl) (Nat.le_of_ble_eq_true rfl) (Nat.zero_le _) (Nat.zero_le _) dX12_stepGoes_87 (c_X12_setBehind h) (fun r23 m24 h => ?_)
      refine v_istore (ls' := [(6, .int _), (5, .int _), (0, .ref _), (1, .int _), (2, .int _), (3, .int _), (4, .int _)]) 6 dX12_stepGoes_90 (Nat.le_of_ble_eq_true rfl) rfl ?_
      refine v_aload_n 0 2 dX12_stepGoes_92 rfl rfl ?_
      obtain ⟨b25, e26, h⟩ := h
      refine v_gR 12 68 dX12_stepGoes_93 fg_RX12_158 o20 e26 ?_
      refine v_bipush (64 : Int32) dX12_stepGoes_96 (by decide) ?_
      refine v_iload 5 1 dX12_stepGoes_98 rfl ?_
      refine v_imul dX12_stepGoes_100 ?_
      refine v_iload 6 0 dX12_stepGoes_101 rfl ?_
      refine v_iadd dX12_stepGoes_103 ?_
      refine v_iconst (1 : Int32) dX12_stepGoes_104 (by decide) ?_
      obtain ⟨i27, h⟩ := h
      refine v_zast dX12_stepGoes_105 i27 ?_
      replace h := bnd_e h
      refine v_aload_n 0 2 dX12_stepGoes_106 rfl rfl ?_
      obtain ⟨b29, e30, h⟩ := h
      refine v_gR 12 69 dX12_stepGoes_107 fg_RX12_161 o20 e30 ?_
      refine v_iload 6 0 dX12_stepGoes_110 rfl ?_
      refine v_iconst (1 : Int32) dX12_stepGoes_112 (by decide) ?_
      obtain ⟨i31, h⟩ := h
      refine v_zast dX12_stepGoes_113 i31 ?_
      replace h := bnd_e h
      refine v_sub [2, 3, 4, 5, 6] rfl ?_
      exact v_X12_stepGoes_p114 hK24 hK51 h
    · replace h := Eq.mp (if_pos hc) h
      refine v_goto 114 dX12_stepGoes_76 (by decide) ?_
      refine v_sub [1, 2, 3, 4, 5] rfl ?_
      exact v_X12_stepGoes_p114 hK24 hK51 h
set_option maxHeartbeats 4000000 in
set_option maxRecDepth 100000 in
theorem v_X12_stepGoes_p51 {G : Gl} {F : Fr} {sh : Shp} {v0 : Nat} {v1 : Int32} {v2 : Int32} {v3 : Int32} {v4 : Int32} {Q : Mem → Prop} {K24 : Int32 → Mem → Prop} {m : Mem} (hK24 : ∀ (x2 : Int32) (m : Mem), K24 x2 m → V G F M_X12_stepGoes sh 0 0 (Zv G F sh Q) 24 [(0, .ref (G.1 + v0)), (1, .int v1), (2, .int x2)] [] m) (h : X12_stepGoes_p51 sh v0 v1 v2 v3 Q K24 v4 m) : V G F M_X12_stepGoes sh 0 0 (Zv G F sh Q) 51 [(0, .ref (G.1 + v0)), (1, .int v1), (2, .int v2), (3, .int v3), (4, .int v4)] [] m := by
  obtain ⟨n, h⟩ := h
  induction n generalizing v4 m with
  | zero => exact h.elim
  | succ n ih => exact v_X12_stepGoes_p51b hK24 (fun _ _ h => ih h) h
set_option maxHeartbeats 4000000 in
set_option maxRecDepth 100000 in
theorem v_X12_stepGoes_p128b {G : Gl} {F : Fr} {sh : Shp} {v0 : Nat} {v2 : Int32} {Q : Mem → Prop} {K128 : Int32 → Mem → Prop} {m : Mem} (hK128 : ∀ (x2 : Int32) (m : Mem), K128 x2 m → V G F M_X12_stepGoes sh 0 0 (Zv G F sh Q) 128 [(0, .ref (G.1 + v0)), (2, .int x2)] [] m) (h : X12_stepGoes_p128b sh v0 Q K128 v2 m) : V G F M_X12_stepGoes sh 0 0 (Zv G F sh Q) 128 [(0, .ref (G.1 + v0)), (2, .int v2)] [] m := by
  unfold X12_stepGoes_p128b at h
  refine v_iload_n 2 1 dX12_stepGoes_128 rfl rfl ?_
  refine v_sipush (2304 : Int32) dX12_stepGoes_129 (by decide) ?_
  refine v_icmp_ge 153 dX12_stepGoes_132 (by decide) (fun hc => ?_) (fun hc => ?_)
  · replace h := Eq.mp (if_pos hc) h
    exact v_vret dX12_stepGoes_153 rfl h
  · replace h := Eq.mp (if_neg hc) h
    refine v_aload_n 0 0 dX12_stepGoes_135 rfl rfl ?_
    obtain ⟨o10, h⟩ := h
    obtain ⟨b11, e12, h⟩ := h
    refine v_gR 12 67 dX12_stepGoes_136 fg_RX12_155 o10 e12 ?_
    refine v_iload_n 2 1 dX12_stepGoes_139 rfl rfl ?_
    refine v_aload_n 0 0 dX12_stepGoes_140 rfl rfl ?_
    obtain ⟨b13, e14, h⟩ := h
    refine v_gR 12 68 dX12_stepGoes_141 fg_RX12_158 o10 e14 ?_
    refine v_iload_n 2 1 dX12_stepGoes_144 rfl rfl ?_
    obtain ⟨i15, h⟩ := h
    refine v_zald dX12_stepGoes_145 i15 ?_
    obtain ⟨i16, h⟩ := h
    refine v_zast dX12_stepGoes_146 i16 ?_
    replace h := bnd_e h
    refine v_iinc (ls' := [(2, .int _), (0, .ref _)]) 2 1 dX12_stepGoes_147 rfl (congrArg (HAdd.hAdd _) (by decide : Int32.ofInt (1) = (1 : Int32))) (Nat.le_of_ble_eq_true rfl) rfl ?_
    refine v_goto 128 dX12_stepGoes_150 (by decide) ?_
    refine v_sub [1, 0] rfl ?_
    exact hK128 _ _ h
set_option maxHeartbeats 4000000 in
set_option maxRecDepth 100000 in
theorem v_X12_stepGoes_p128 {G : Gl} {F : Fr} {sh : Shp} {v0 : Nat} {v2 : Int32} {Q : Mem → Prop} {m : Mem} (h : X12_stepGoes_p128 sh v0 Q v2 m) : V G F M_X12_stepGoes sh 0 0 (Zv G F sh Q) 128 [(0, .ref (G.1 + v0)), (2, .int v2)] [] m := by
  obtain ⟨n, h⟩ := h
  induction n generalizing v2 m with
  | zero => exact h.elim
  | succ n ih => exact v_X12_stepGoes_p128b (fun _ _ h => ih h) h
set_option maxHeartbeats 4000000 in
set_option maxRecDepth 100000 in
theorem v_X12_stepGoes_p24b {G : Gl} {F : Fr} {sh : Shp} {v0 : Nat} {v1 : Int32} {v2 : Int32} {Q : Mem → Prop} {K24 : Int32 → Mem → Prop} {m : Mem} (hK24 : ∀ (x2 : Int32) (m : Mem), K24 x2 m → V G F M_X12_stepGoes sh 0 0 (Zv G F sh Q) 24 [(0, .ref (G.1 + v0)), (1, .int v1), (2, .int x2)] [] m) (h : X12_stepGoes_p24b sh v0 v1 Q K24 v2 m) : V G F M_X12_stepGoes sh 0 0 (Zv G F sh Q) 24 [(0, .ref (G.1 + v0)), (1, .int v1), (2, .int v2)] [] m := by
  unfold X12_stepGoes_p24b at h
  refine v_iload_n 2 2 dX12_stepGoes_24 rfl rfl ?_
  refine v_sipush (2304 : Int32) dX12_stepGoes_25 (by decide) ?_
  refine v_icmp_ge 126 dX12_stepGoes_28 (by decide) (fun hc => ?_) (fun hc => ?_)
  · replace h := Eq.mp (if_pos hc) h
    refine v_iconst (0 : Int32) dX12_stepGoes_126 (by decide) ?_
    refine v_istore_n (ls' := [(2, .int _), (0, .ref _), (1, .int _)]) 2 dX12_stepGoes_127 rfl (Nat.le_of_ble_eq_true rfl) rfl ?_
    refine v_sub [1, 0] rfl ?_
    exact v_X12_stepGoes_p128 h
  · replace h := Eq.mp (if_neg hc) h
    refine v_aload_n 0 0 dX12_stepGoes_31 rfl rfl ?_
    obtain ⟨o6, h⟩ := h
    obtain ⟨b7, e8, h⟩ := h
    refine v_gR 12 67 dX12_stepGoes_32 fg_RX12_155 o6 e8 ?_
    refine v_iload_n 2 2 dX12_stepGoes_35 rfl rfl ?_
    obtain ⟨i9, h⟩ := h
    refine v_zald dX12_stepGoes_36 i9 ?_
    refine v_if_ne 43 dX12_stepGoes_37 (by decide) (fun hc => ?_) (fun hc => ?_)
    · replace h := Eq.mp (if_neg hc) h
      refine v_iload_n 2 2 dX12_stepGoes_43 rfl rfl ?_
      refine v_bipush (64 : Int32) dX12_stepGoes_44 (by decide) ?_
      refine v_idiv dX12_stepGoes_46 (by decide) ?_
      refine v_istore_n (ls' := [(3, .int _), (0, .ref _), (1, .int _), (2, .int _)]) 3 dX12_stepGoes_47 rfl (Nat.le_of_ble_eq_true rfl) rfl ?_
      refine v_iconst (0 : Int32) dX12_stepGoes_48 (by decide) ?_
      refine v_istore (ls' := [(4, .int _), (3, .int _), (0, .ref _), (1, .int _), (2, .int _)]) 4 dX12_stepGoes_49 (Nat.le_of_ble_eq_true rfl) rfl ?_
      refine v_sub [2, 3, 4, 1, 0] rfl ?_
      exact v_X12_stepGoes_p51 hK24 h
    · replace h := Eq.mp (if_pos hc) h
      refine v_goto 120 dX12_stepGoes_40 (by decide) ?_
      refine v_sub [0, 1, 2] rfl ?_
      exact v_X12_stepGoes_p120 hK24 h
set_option maxHeartbeats 4000000 in
set_option maxRecDepth 100000 in
theorem v_X12_stepGoes_p24 {G : Gl} {F : Fr} {sh : Shp} {v0 : Nat} {v1 : Int32} {v2 : Int32} {Q : Mem → Prop} {m : Mem} (h : X12_stepGoes_p24 sh v0 v1 Q v2 m) : V G F M_X12_stepGoes sh 0 0 (Zv G F sh Q) 24 [(0, .ref (G.1 + v0)), (1, .int v1), (2, .int v2)] [] m := by
  obtain ⟨n, h⟩ := h
  induction n generalizing v2 m with
  | zero => exact h.elim
  | succ n ih => exact v_X12_stepGoes_p24b (fun _ _ h => ih h) h
set_option maxHeartbeats 4000000 in
set_option maxRecDepth 100000 in
theorem v_X12_stepGoes_p2b {G : Gl} {F : Fr} {sh : Shp} {v0 : Nat} {v1 : Int32} {v2 : Int32} {Q : Mem → Prop} {K2 : Int32 → Mem → Prop} {m : Mem} (hK2 : ∀ (x2 : Int32) (m : Mem), K2 x2 m → V G F M_X12_stepGoes sh 0 0 (Zv G F sh Q) 2 [(0, .ref (G.1 + v0)), (1, .int v1), (2, .int x2)] [] m) (h : X12_stepGoes_p2b sh v0 v1 Q K2 v2 m) : V G F M_X12_stepGoes sh 0 0 (Zv G F sh Q) 2 [(0, .ref (G.1 + v0)), (1, .int v1), (2, .int v2)] [] m := by
  unfold X12_stepGoes_p2b at h
  refine v_iload_n 2 2 dX12_stepGoes_2 rfl rfl ?_
  refine v_sipush (2304 : Int32) dX12_stepGoes_3 (by decide) ?_
  refine v_icmp_ge 22 dX12_stepGoes_6 (by decide) (fun hc => ?_) (fun hc => ?_)
  · replace h := Eq.mp (if_pos hc) h
    refine v_iconst (0 : Int32) dX12_stepGoes_22 (by decide) ?_
    refine v_istore_n (ls' := [(2, .int _), (0, .ref _), (1, .int _)]) 2 dX12_stepGoes_23 rfl (Nat.le_of_ble_eq_true rfl) rfl ?_
    refine v_sub [1, 2, 0] rfl ?_
    exact v_X12_stepGoes_p24 h
  · replace h := Eq.mp (if_neg hc) h
    refine v_aload_n 0 0 dX12_stepGoes_9 rfl rfl ?_
    obtain ⟨o1, h⟩ := h
    obtain ⟨b2, e3, h⟩ := h
    refine v_gR 12 68 dX12_stepGoes_10 fg_RX12_158 o1 e3 ?_
    refine v_iload_n 2 2 dX12_stepGoes_13 rfl rfl ?_
    refine v_iconst (0 : Int32) dX12_stepGoes_14 (by decide) ?_
    obtain ⟨i4, h⟩ := h
    refine v_zast dX12_stepGoes_15 i4 ?_
    replace h := bnd_e h
    refine v_iinc (ls' := [(2, .int _), (0, .ref _), (1, .int _)]) 2 2 dX12_stepGoes_16 rfl (congrArg (HAdd.hAdd _) (by decide : Int32.ofInt (1) = (1 : Int32))) (Nat.le_of_ble_eq_true rfl) rfl ?_
    refine v_goto 2 dX12_stepGoes_19 (by decide) ?_
    refine v_sub [1, 2, 0] rfl ?_
    exact hK2 _ _ h
set_option maxHeartbeats 4000000 in
set_option maxRecDepth 100000 in
theorem v_X12_stepGoes_p2 {G : Gl} {F : Fr} {sh : Shp} {v0 : Nat} {v1 : Int32} {v2 : Int32} {Q : Mem → Prop} {m : Mem} (h : X12_stepGoes_p2 sh v0 v1 Q v2 m) : V G F M_X12_stepGoes sh 0 0 (Zv G F sh Q) 2 [(0, .ref (G.1 + v0)), (1, .int v1), (2, .int v2)] [] m := by
  obtain ⟨n, h⟩ := h
  induction n generalizing v2 m with
  | zero => exact h.elim
  | succ n ih => exact v_X12_stepGoes_p2b (fun _ _ h => ih h) h
set_option maxHeartbeats 4000000 in
set_option maxRecDepth 100000 in
theorem c_X12_stepGoes {l : Launch} {G : Gl} {sh : Shp} {v0 : Nat} {v1 : Int32} {Q : Mem → Prop} {m : Mem} (h : wp_X12_stepGoes sh v0 v1 Q m) : Cnv l G yX12_stepGoes cX12_stepGoes 7 (none : Option FieldType) 4 131 sh [.ref (G.1 + v0), .int v1] m Q := by
  refine con_v (ls := [(0, .ref (G.1 + v0)), (1, .int v1)]) (by decide +kernel) rfl (Nat.le_of_ble_eq_true rfl) (fun F => ?_)
  show V G F M_X12_stepGoes sh 0 0 (Zv G F sh Q) 0 [(0, .ref (G.1 + v0)), (1, .int v1)] [] m
  unfold wp_X12_stepGoes at h
  refine v_iconst (0 : Int32) dX12_stepGoes_0 (by decide) ?_
  refine v_istore_n (ls' := [(2, .int _), (0, .ref _), (1, .int _)]) 2 dX12_stepGoes_1 rfl (Nat.le_of_ble_eq_true rfl) rfl ?_
  refine v_sub [1, 2, 0] rfl ?_
  exact v_X12_stepGoes_p2 h
/-! CalledRiverModel.dry -/
theorem dX12_dry_0 : decode cX12_dry 0 = .ok (.aload_n 0, 1) := by decide +kernel
theorem dX12_dry_1 : decode cX12_dry 1 = .ok (.invokevirtual 565, 3) := by decide +kernel
theorem dX12_dry_4 : decode cX12_dry 4 = .ok (.ifCond .ne 5, 3) := by decide +kernel
theorem dX12_dry_7 : decode cX12_dry 7 = .ok (.iconst (-1), 1) := by decide +kernel
theorem dX12_dry_8 : decode cX12_dry 8 = .ok (.ireturn, 1) := by decide +kernel
theorem dX12_dry_9 : decode cX12_dry 9 = .ok (.iconst 1, 1) := by decide +kernel
theorem dX12_dry_10 : decode cX12_dry 10 = .ok (.istore_n 1, 1) := by decide +kernel
theorem dX12_dry_11 : decode cX12_dry 11 = .ok (.iload_n 1, 1) := by decide +kernel
theorem dX12_dry_12 : decode cX12_dry 12 = .ok (.bipush 40, 2) := by decide +kernel
theorem dX12_dry_14 : decode cX12_dry 14 = .ok (.if_icmp .gt 14, 3) := by decide +kernel
theorem dX12_dry_17 : decode cX12_dry 17 = .ok (.aload_n 0, 1) := by decide +kernel
theorem dX12_dry_18 : decode cX12_dry 18 = .ok (.iload_n 1, 1) := by decide +kernel
theorem dX12_dry_19 : decode cX12_dry 19 = .ok (.invokevirtual 571, 3) := by decide +kernel
theorem dX12_dry_22 : decode cX12_dry 22 = .ok (.iinc 1 1, 3) := by decide +kernel
theorem dX12_dry_25 : decode cX12_dry 25 = .ok (.goto (-14), 3) := by decide +kernel
theorem dX12_dry_28 : decode cX12_dry 28 = .ok (.iconst 1, 1) := by decide +kernel
theorem dX12_dry_29 : decode cX12_dry 29 = .ok (.aload_n 0, 1) := by decide +kernel
theorem dX12_dry_30 : decode cX12_dry 30 = .ok (.invokevirtual 436, 3) := by decide +kernel
theorem dX12_dry_33 : decode cX12_dry 33 = .ok (.ishl, 1) := by decide +kernel
theorem dX12_dry_34 : decode cX12_dry 34 = .ok (.iconst 1, 1) := by decide +kernel
theorem dX12_dry_35 : decode cX12_dry 35 = .ok (.isub, 1) := by decide +kernel
theorem dX12_dry_36 : decode cX12_dry 36 = .ok (.istore_n 1, 1) := by decide +kernel
theorem dX12_dry_37 : decode cX12_dry 37 = .ok (.iconst (-1), 1) := by decide +kernel
theorem dX12_dry_38 : decode cX12_dry 38 = .ok (.istore_n 2, 1) := by decide +kernel
theorem dX12_dry_39 : decode cX12_dry 39 = .ok (.iconst 0, 1) := by decide +kernel
theorem dX12_dry_40 : decode cX12_dry 40 = .ok (.istore_n 3, 1) := by decide +kernel
theorem dX12_dry_41 : decode cX12_dry 41 = .ok (.iload_n 3, 1) := by decide +kernel
theorem dX12_dry_42 : decode cX12_dry 42 = .ok (.iload_n 1, 1) := by decide +kernel
theorem dX12_dry_43 : decode cX12_dry 43 = .ok (.if_icmp .gt 39, 3) := by decide +kernel
theorem dX12_dry_46 : decode cX12_dry 46 = .ok (.iload_n 2, 1) := by decide +kernel
theorem dX12_dry_47 : decode cX12_dry 47 = .ok (.iconst (-1), 1) := by decide +kernel
theorem dX12_dry_48 : decode cX12_dry 48 = .ok (.if_icmp .eq 14, 3) := by decide +kernel
theorem dX12_dry_51 : decode cX12_dry 51 = .ok (.iload_n 3, 1) := by decide +kernel
theorem dX12_dry_52 : decode cX12_dry 52 = .ok (.invokestatic 535, 3) := by decide +kernel
theorem dX12_dry_55 : decode cX12_dry 55 = .ok (.iload_n 2, 1) := by decide +kernel
theorem dX12_dry_56 : decode cX12_dry 56 = .ok (.invokestatic 535, 3) := by decide +kernel
theorem dX12_dry_59 : decode cX12_dry 59 = .ok (.if_icmp .ge 17, 3) := by decide +kernel
theorem dX12_dry_62 : decode cX12_dry 62 = .ok (.aload_n 0, 1) := by decide +kernel
theorem dX12_dry_63 : decode cX12_dry 63 = .ok (.iload_n 1, 1) := by decide +kernel
theorem dX12_dry_64 : decode cX12_dry 64 = .ok (.iload_n 3, 1) := by decide +kernel
theorem dX12_dry_65 : decode cX12_dry 65 = .ok (.iconst (-1), 1) := by decide +kernel
theorem dX12_dry_66 : decode cX12_dry 66 = .ok (.ixor, 1) := by decide +kernel
theorem dX12_dry_67 : decode cX12_dry 67 = .ok (.iand, 1) := by decide +kernel
theorem dX12_dry_68 : decode cX12_dry 68 = .ok (.invokevirtual 568, 3) := by decide +kernel
theorem dX12_dry_71 : decode cX12_dry 71 = .ok (.ifCond .eq 5, 3) := by decide +kernel
theorem dX12_dry_74 : decode cX12_dry 74 = .ok (.iload_n 3, 1) := by decide +kernel
theorem dX12_dry_75 : decode cX12_dry 75 = .ok (.istore_n 2, 1) := by decide +kernel
theorem dX12_dry_76 : decode cX12_dry 76 = .ok (.iinc 3 1, 3) := by decide +kernel
theorem dX12_dry_79 : decode cX12_dry 79 = .ok (.goto (-38), 3) := by decide +kernel
theorem dX12_dry_82 : decode cX12_dry 82 = .ok (.iload_n 2, 1) := by decide +kernel
theorem dX12_dry_83 : decode cX12_dry 83 = .ok (.ireturn, 1) := by decide +kernel
def X12_dry_p76 (sh : Shp) (v0 : Nat) (v1 : Int32) (v2 : Int32) (v3 : Int32) (Q : Int32 → Mem → Prop) (K41 : Int32 → Int32 → Mem → Prop) (m : Mem) : Prop :=
  K41 v2 (v3 + (1 : Int32)) m
def X12_dry_p62 (sh : Shp) (v0 : Nat) (v1 : Int32) (v2 : Int32) (v3 : Int32) (Q : Int32 → Mem → Prop) (K41 : Int32 → Int32 → Mem → Prop) (m : Mem) : Prop :=
  Ob sh v0 12 ∧ wp_X12_isThere sh v0 (v1 &&& (v3 ^^^ (-1 : Int32))) (fun r14 m15 => if r14 = 0 then (X12_dry_p76 sh v0 v1 v2 v3 Q K41 m15) else (X12_dry_p76 sh v0 v1 v3 v3 Q K41 m15)) m
def X12_dry_p41b (sh : Shp) (v0 : Nat) (v1 : Int32) (Q : Int32 → Mem → Prop) (K41 : Int32 → Int32 → Mem → Prop) (v2 : Int32) (v3 : Int32) (m : Mem) : Prop :=
  if v1 < v3 then (Q v2 m) else (if v2 = (-1 : Int32) then (X12_dry_p62 sh v0 v1 v2 v3 Q K41 m) else (wp_X12_bits sh v3 (fun r10 m11 => wp_X12_bits sh v2 (fun r12 m13 => if r12 ≤ r10 then (X12_dry_p76 sh v0 v1 v2 v3 Q K41 m13) else (X12_dry_p62 sh v0 v1 v2 v3 Q K41 m13)) m11) m))
def X12_dry_p41n (sh : Shp) (v0 : Nat) (v1 : Int32) (Q : Int32 → Mem → Prop) : Nat → Int32 → Int32 → Mem → Prop
  | 0 => fun _ _ _ => False
  | n + 1 => X12_dry_p41b sh v0 v1 Q (X12_dry_p41n sh v0 v1 Q n)
def X12_dry_p41 (sh : Shp) (v0 : Nat) (v1 : Int32) (Q : Int32 → Mem → Prop) (v2 : Int32) (v3 : Int32) (m : Mem) : Prop := ∃ n, X12_dry_p41n sh v0 v1 Q n v2 v3 m
def X12_dry_p11b (sh : Shp) (v0 : Nat) (Q : Int32 → Mem → Prop) (K11 : Int32 → Mem → Prop) (v1 : Int32) (m : Mem) : Prop :=
  if (40 : Int32) < v1 then (Ob sh v0 12 ∧ wp_X12_farmMany sh v0 (fun r4 m5 => X12_dry_p41 sh v0 (((1 : Int32) <<< (r4 &&& 31)) - (1 : Int32)) Q (-1 : Int32) (0 : Int32) m5) m) else (Ob sh v0 12 ∧ wp_X12_stepGoes sh v0 v1 (fun m8 => K11 (v1 + (1 : Int32)) m8) m)
def X12_dry_p11n (sh : Shp) (v0 : Nat) (Q : Int32 → Mem → Prop) : Nat → Int32 → Mem → Prop
  | 0 => fun _ _ => False
  | n + 1 => X12_dry_p11b sh v0 Q (X12_dry_p11n sh v0 Q n)
def X12_dry_p11 (sh : Shp) (v0 : Nat) (Q : Int32 → Mem → Prop) (v1 : Int32) (m : Mem) : Prop := ∃ n, X12_dry_p11n sh v0 Q n v1 m
def wp_X12_dry (sh : Shp) (v0 : Nat) (Q : Int32 → Mem → Prop) (m : Mem) : Prop :=
  Ob sh v0 12 ∧ wp_X12_isBegun sh v0 (fun r1 m2 => if r1 = 0 then (Q (-1 : Int32) m2) else (X12_dry_p11 sh v0 Q (1 : Int32) m2)) m
abbrev M_X12_dry : Mi := (cX12_dry, 4, RX12, (Option.some FieldType.int), "dry", 5, 157, 0, 0)
set_option maxHeartbeats 4000000 in
set_option maxRecDepth 100000 in
theorem v_X12_dry_p76 {G : Gl} {F : Fr} {sh : Shp} {v0 : Nat} {v1 : Int32} {v2 : Int32} {v3 : Int32} {Q : Int32 → Mem → Prop} {K41 : Int32 → Int32 → Mem → Prop} {m : Mem} (hK41 : ∀ (x2 : Int32) (x3 : Int32) (m : Mem), K41 x2 x3 m → V G F M_X12_dry sh 0 0 (Zi G F sh Q) 41 [(0, .ref (G.1 + v0)), (1, .int v1), (2, .int x2), (3, .int x3)] [] m) (h : X12_dry_p76 sh v0 v1 v2 v3 Q K41 m) : V G F M_X12_dry sh 0 0 (Zi G F sh Q) 76 [(0, .ref (G.1 + v0)), (1, .int v1), (2, .int v2), (3, .int v3)] [] m := by
  unfold X12_dry_p76 at h
  refine v_iinc (ls' := [(3, .int _), (0, .ref _), (1, .int _), (2, .int _)]) 3 3 dX12_dry_76 rfl (congrArg (HAdd.hAdd _) (by decide : Int32.ofInt (1) = (1 : Int32))) (Nat.le_of_ble_eq_true rfl) rfl ?_
  refine v_goto 41 dX12_dry_79 (by decide) ?_
  refine v_sub [1, 2, 3, 0] rfl ?_
  exact hK41 _ _ _ h
set_option maxHeartbeats 4000000 in
set_option maxRecDepth 100000 in
theorem v_X12_dry_p62 {G : Gl} {F : Fr} {sh : Shp} {v0 : Nat} {v1 : Int32} {v2 : Int32} {v3 : Int32} {Q : Int32 → Mem → Prop} {K41 : Int32 → Int32 → Mem → Prop} {m : Mem} (hK41 : ∀ (x2 : Int32) (x3 : Int32) (m : Mem), K41 x2 x3 m → V G F M_X12_dry sh 0 0 (Zi G F sh Q) 41 [(0, .ref (G.1 + v0)), (1, .int v1), (2, .int x2), (3, .int x3)] [] m) (h : X12_dry_p62 sh v0 v1 v2 v3 Q K41 m) : V G F M_X12_dry sh 0 0 (Zi G F sh Q) 62 [(0, .ref (G.1 + v0)), (1, .int v1), (2, .int v2), (3, .int v3)] [] m := by
  unfold X12_dry_p62 at h
  refine v_aload_n 0 0 dX12_dry_62 rfl rfl ?_
  refine v_iload_n 1 1 dX12_dry_63 rfl rfl ?_
  refine v_iload_n 3 3 dX12_dry_64 rfl rfl ?_
  refine v_iconst (-1 : Int32) dX12_dry_65 (by decide) ?_
  refine v_ixor dX12_dry_66 ?_
  refine v_iand dX12_dry_67 ?_
  obtain ⟨o16, h⟩ := h
  refine v_cVi [.int _] mv_X12_isThere ml_RX12_568 ⟨_, _, rfl⟩ o16 rfl rfl (Nat.le_of_ble_eq_true rfl) (Nat.le_of_ble_eq_true rfl) (Nat.le_of_ble_eq_true rfl) (Nat.zero_le _) (Nat.zero_le _) dX12_dry_68 (c_X12_isThere h) (fun r14 m15 h => ?_)
  refine v_if_eq 76 dX12_dry_71 (by decide) (fun hc => ?_) (fun hc => ?_)
  · replace h := Eq.mp (if_pos hc) h
    refine v_sub [0, 1, 2, 3] rfl ?_
    exact v_X12_dry_p76 hK41 h
  · replace h := Eq.mp (if_neg hc) h
    refine v_iload_n 3 3 dX12_dry_74 rfl rfl ?_
    refine v_istore_n (ls' := [(2, .int _), (0, .ref _), (1, .int _), (3, .int _)]) 2 dX12_dry_75 rfl (Nat.le_of_ble_eq_true rfl) rfl ?_
    refine v_sub [1, 2, 0, 3] rfl ?_
    exact v_X12_dry_p76 hK41 h
set_option maxHeartbeats 4000000 in
set_option maxRecDepth 100000 in
theorem v_X12_dry_p41b {G : Gl} {F : Fr} {sh : Shp} {v0 : Nat} {v1 : Int32} {v2 : Int32} {v3 : Int32} {Q : Int32 → Mem → Prop} {K41 : Int32 → Int32 → Mem → Prop} {m : Mem} (hK41 : ∀ (x2 : Int32) (x3 : Int32) (m : Mem), K41 x2 x3 m → V G F M_X12_dry sh 0 0 (Zi G F sh Q) 41 [(0, .ref (G.1 + v0)), (1, .int v1), (2, .int x2), (3, .int x3)] [] m) (h : X12_dry_p41b sh v0 v1 Q K41 v2 v3 m) : V G F M_X12_dry sh 0 0 (Zi G F sh Q) 41 [(0, .ref (G.1 + v0)), (1, .int v1), (2, .int v2), (3, .int v3)] [] m := by
  unfold X12_dry_p41b at h
  refine v_iload_n 3 3 dX12_dry_41 rfl rfl ?_
  refine v_iload_n 1 1 dX12_dry_42 rfl rfl ?_
  refine v_icmp_gt 82 dX12_dry_43 (by decide) (fun hc => ?_) (fun hc => ?_)
  · replace h := Eq.mp (if_pos hc) h
    refine v_iload_n 2 2 dX12_dry_82 rfl rfl ?_
    exact v_iret dX12_dry_83 rfl rfl h
  · replace h := Eq.mp (if_neg hc) h
    refine v_iload_n 2 2 dX12_dry_46 rfl rfl ?_
    refine v_iconst (-1 : Int32) dX12_dry_47 (by decide) ?_
    refine v_icmp_eq 62 dX12_dry_48 (by decide) (fun hc => ?_) (fun hc => ?_)
    · replace h := Eq.mp (if_pos hc) h
      refine v_sub [0, 1, 2, 3] rfl ?_
      exact v_X12_dry_p62 hK41 h
    · replace h := Eq.mp (if_neg hc) h
      refine v_iload_n 3 3 dX12_dry_51 rfl rfl ?_
      refine v_cSi [.int _] mv_X12_bits ml_RX12_535 rfl rfl (Nat.le_of_ble_eq_true rfl) (Nat.le_of_ble_eq_true rfl) (Nat.le_of_ble_eq_true rfl) (Nat.zero_le _) (Nat.zero_le _) dX12_dry_52 (c_X12_bits h) (fun r10 m11 h => ?_)
      refine v_iload_n 2 2 dX12_dry_55 rfl rfl ?_
      refine v_cSi [.int _] mv_X12_bits ml_RX12_535 rfl rfl (Nat.le_of_ble_eq_true rfl) (Nat.le_of_ble_eq_true rfl) (Nat.le_of_ble_eq_true rfl) (Nat.zero_le _) (Nat.zero_le _) dX12_dry_56 (c_X12_bits h) (fun r12 m13 h => ?_)
      refine v_icmp_ge 76 dX12_dry_59 (by decide) (fun hc => ?_) (fun hc => ?_)
      · replace h := Eq.mp (if_pos hc) h
        refine v_sub [0, 1, 2, 3] rfl ?_
        exact v_X12_dry_p76 hK41 h
      · replace h := Eq.mp (if_neg hc) h
        refine v_sub [0, 1, 2, 3] rfl ?_
        exact v_X12_dry_p62 hK41 h
set_option maxHeartbeats 4000000 in
set_option maxRecDepth 100000 in
theorem v_X12_dry_p41 {G : Gl} {F : Fr} {sh : Shp} {v0 : Nat} {v1 : Int32} {v2 : Int32} {v3 : Int32} {Q : Int32 → Mem → Prop} {m : Mem} (h : X12_dry_p41 sh v0 v1 Q v2 v3 m) : V G F M_X12_dry sh 0 0 (Zi G F sh Q) 41 [(0, .ref (G.1 + v0)), (1, .int v1), (2, .int v2), (3, .int v3)] [] m := by
  obtain ⟨n, h⟩ := h
  induction n generalizing v2 v3 m with
  | zero => exact h.elim
  | succ n ih => exact v_X12_dry_p41b (fun _ _ _ h => ih h) h
set_option maxHeartbeats 4000000 in
set_option maxRecDepth 100000 in
theorem v_X12_dry_p11b {G : Gl} {F : Fr} {sh : Shp} {v0 : Nat} {v1 : Int32} {Q : Int32 → Mem → Prop} {K11 : Int32 → Mem → Prop} {m : Mem} (hK11 : ∀ (x1 : Int32) (m : Mem), K11 x1 m → V G F M_X12_dry sh 0 0 (Zi G F sh Q) 11 [(0, .ref (G.1 + v0)), (1, .int x1)] [] m) (h : X12_dry_p11b sh v0 Q K11 v1 m) : V G F M_X12_dry sh 0 0 (Zi G F sh Q) 11 [(0, .ref (G.1 + v0)), (1, .int v1)] [] m := by
  unfold X12_dry_p11b at h
  refine v_iload_n 1 1 dX12_dry_11 rfl rfl ?_
  refine v_bipush (40 : Int32) dX12_dry_12 (by decide) ?_
  refine v_icmp_gt 28 dX12_dry_14 (by decide) (fun hc => ?_) (fun hc => ?_)
  · replace h := Eq.mp (if_pos hc) h
    refine v_iconst (1 : Int32) dX12_dry_28 (by decide) ?_
    refine v_aload_n 0 0 dX12_dry_29 rfl rfl ?_
    obtain ⟨o6, h⟩ := h
    refine v_cVi [] mv_X12_farmMany ml_RX12_436 ⟨_, _, rfl⟩ o6 rfl rfl (Nat.le_of_ble_eq_true rfl) (Nat.le_of_ble_eq_true rfl) (Nat.le_of_ble_eq_true rfl) (Nat.zero_le _) (Nat.zero_le _) dX12_dry_30 (c_X12_farmMany h) (fun r4 m5 h => ?_)
    refine v_ishl dX12_dry_33 ?_
    refine v_iconst (1 : Int32) dX12_dry_34 (by decide) ?_
    refine v_isub dX12_dry_35 ?_
    refine v_istore_n (ls' := [(1, .int _), (0, .ref _)]) 1 dX12_dry_36 rfl (Nat.le_of_ble_eq_true rfl) rfl ?_
    refine v_iconst (-1 : Int32) dX12_dry_37 (by decide) ?_
    refine v_istore_n (ls' := [(2, .int _), (1, .int _), (0, .ref _)]) 2 dX12_dry_38 rfl (Nat.le_of_ble_eq_true rfl) rfl ?_
    refine v_iconst (0 : Int32) dX12_dry_39 (by decide) ?_
    refine v_istore_n (ls' := [(3, .int _), (2, .int _), (1, .int _), (0, .ref _)]) 3 dX12_dry_40 rfl (Nat.le_of_ble_eq_true rfl) rfl ?_
    refine v_sub [3, 2, 1, 0] rfl ?_
    exact v_X12_dry_p41 h
  · replace h := Eq.mp (if_neg hc) h
    refine v_aload_n 0 0 dX12_dry_17 rfl rfl ?_
    refine v_iload_n 1 1 dX12_dry_18 rfl rfl ?_
    obtain ⟨o9, h⟩ := h
    refine v_cVv [.int _] mv_X12_stepGoes ml_RX12_571 ⟨_, _, rfl⟩ o9 rfl rfl (Nat.le_of_ble_eq_true rfl) (Nat.le_of_ble_eq_true rfl) (Nat.le_of_ble_eq_true rfl) (Nat.zero_le _) (Nat.zero_le _) dX12_dry_19 (c_X12_stepGoes h) (fun m8 h => ?_)
    refine v_iinc (ls' := [(1, .int _), (0, .ref _)]) 1 1 dX12_dry_22 rfl (congrArg (HAdd.hAdd _) (by decide : Int32.ofInt (1) = (1 : Int32))) (Nat.le_of_ble_eq_true rfl) rfl ?_
    refine v_goto 11 dX12_dry_25 (by decide) ?_
    refine v_sub [1, 0] rfl ?_
    exact hK11 _ _ h
set_option maxHeartbeats 4000000 in
set_option maxRecDepth 100000 in
theorem v_X12_dry_p11 {G : Gl} {F : Fr} {sh : Shp} {v0 : Nat} {v1 : Int32} {Q : Int32 → Mem → Prop} {m : Mem} (h : X12_dry_p11 sh v0 Q v1 m) : V G F M_X12_dry sh 0 0 (Zi G F sh Q) 11 [(0, .ref (G.1 + v0)), (1, .int v1)] [] m := by
  obtain ⟨n, h⟩ := h
  induction n generalizing v1 m with
  | zero => exact h.elim
  | succ n ih => exact v_X12_dry_p11b (fun _ _ h => ih h) h
set_option maxHeartbeats 4000000 in
set_option maxRecDepth 100000 in
theorem c_X12_dry {l : Launch} {G : Gl} {sh : Shp} {v0 : Nat} {Q : Int32 → Mem → Prop} {m : Mem} (h : wp_X12_dry sh v0 Q m) : Cni l G yX12_dry cX12_dry 4 (Option.some FieldType.int) 5 157 sh [.ref (G.1 + v0)] m Q := by
  refine con_i (ls := [(0, .ref (G.1 + v0))]) (by decide +kernel) rfl (Nat.le_of_ble_eq_true rfl) (fun F => ?_)
  show V G F M_X12_dry sh 0 0 (Zi G F sh Q) 0 [(0, .ref (G.1 + v0))] [] m
  unfold wp_X12_dry at h
  refine v_aload_n 0 0 dX12_dry_0 rfl rfl ?_
  obtain ⟨o3, h⟩ := h
  refine v_cVi [] mv_X12_isBegun ml_RX12_565 ⟨_, _, rfl⟩ o3 rfl rfl (Nat.le_of_ble_eq_true rfl) (Nat.le_of_ble_eq_true rfl) (Nat.le_of_ble_eq_true rfl) (Nat.zero_le _) (Nat.zero_le _) dX12_dry_1 (c_X12_isBegun h) (fun r1 m2 h => ?_)
  refine v_if_ne 9 dX12_dry_4 (by decide) (fun hc => ?_) (fun hc => ?_)
  · replace h := Eq.mp (if_neg hc) h
    refine v_iconst (1 : Int32) dX12_dry_9 (by decide) ?_
    refine v_istore_n (ls' := [(1, .int _), (0, .ref _)]) 1 dX12_dry_10 rfl (Nat.le_of_ble_eq_true rfl) rfl ?_
    refine v_sub [1, 0] rfl ?_
    exact v_X12_dry_p11 h
  · replace h := Eq.mp (if_pos hc) h
    refine v_iconst (-1 : Int32) dX12_dry_7 (by decide) ?_
    exact v_iret dX12_dry_8 rfl rfl h
/-! CalledRiverModel.end -/
theorem dX12_end_0 : decode cX12_end 0 = .ok (.iload_n 1, 1) := by decide +kernel
theorem dX12_end_1 : decode cX12_end 1 = .ok (.ifCond .lt 11, 3) := by decide +kernel
theorem dX12_end_4 : decode cX12_end 4 = .ok (.iload_n 1, 1) := by decide +kernel
theorem dX12_end_5 : decode cX12_end 5 = .ok (.aload_n 0, 1) := by decide +kernel
theorem dX12_end_6 : decode cX12_end 6 = .ok (.getfield 282, 3) := by decide +kernel
theorem dX12_end_9 : decode cX12_end 9 = .ok (.if_icmp .le 15, 3) := by decide +kernel
theorem dX12_end_12 : decode cX12_end 12 = .ok (.aload_n 0, 1) := by decide +kernel
theorem dX12_end_13 : decode cX12_end 13 = .ok (.getfield 17, 3) := by decide +kernel
theorem dX12_end_16 : decode cX12_end 16 = .ok (.iconst 0, 1) := by decide +kernel
theorem dX12_end_17 : decode cX12_end 17 = .ok (.dup2, 1) := by decide +kernel
theorem dX12_end_18 : decode cX12_end 18 = .ok (.iaload, 1) := by decide +kernel
theorem dX12_end_19 : decode cX12_end 19 = .ok (.iconst 1, 1) := by decide +kernel
theorem dX12_end_20 : decode cX12_end 20 = .ok (.iadd, 1) := by decide +kernel
theorem dX12_end_21 : decode cX12_end 21 = .ok (.iastore, 1) := by decide +kernel
theorem dX12_end_22 : decode cX12_end 22 = .ok (.iconst 0, 1) := by decide +kernel
theorem dX12_end_23 : decode cX12_end 23 = .ok (.ireturn, 1) := by decide +kernel
theorem dX12_end_24 : decode cX12_end 24 = .ok (.aload_n 0, 1) := by decide +kernel
theorem dX12_end_25 : decode cX12_end 25 = .ok (.iload_n 1, 1) := by decide +kernel
theorem dX12_end_26 : decode cX12_end 26 = .ok (.putfield 282, 3) := by decide +kernel
theorem dX12_end_29 : decode cX12_end 29 = .ok (.iconst 1, 1) := by decide +kernel
theorem dX12_end_30 : decode cX12_end 30 = .ok (.ireturn, 1) := by decide +kernel
def X12_end_p12 (sh : Shp) (v0 : Nat) (Q : Int32 → Mem → Prop) (m : Mem) : Prop :=
  Ob sh v0 12 ∧ ∃ b4 : Nat, m.2.2 v0 9 = some b4 ∧ (Ix sh b4 100 (0 : Int32) ∧ (bnd (sI m b4 (0 : Int32).toNatClampNeg ((m.1 b4 (0 : Int32).toNatClampNeg) + (1 : Int32))) (fun m7 => Q (0 : Int32) m7)))
def wp_X12_end (sh : Shp) (v0 : Nat) (v1 : Int32) (Q : Int32 → Mem → Prop) (m : Mem) : Prop :=
  if v1 < 0 then (X12_end_p12 sh v0 Q m) else (Ob sh v0 12 ∧ (if v1 ≤ (m.1 v0 1) then (bnd (sI m v0 1 v1) (fun m2 => Q (1 : Int32) m2)) else (X12_end_p12 sh v0 Q m)))
abbrev M_X12_end : Mi := (cX12_end, 2, RX12, (Option.some FieldType.boolean), "end", 1, 60, 0, 0)
set_option maxHeartbeats 4000000 in
set_option maxRecDepth 100000 in
theorem v_X12_end_p12 {G : Gl} {F : Fr} {sh : Shp} {v0 : Nat} {Q : Int32 → Mem → Prop} {m : Mem} (h : X12_end_p12 sh v0 Q m) : V G F M_X12_end sh 0 0 (Zi G F sh Q) 12 [(0, .ref (G.1 + v0))] [] m := by
  unfold X12_end_p12 at h
  refine v_aload_n 0 0 dX12_end_12 rfl rfl ?_
  obtain ⟨o3, h⟩ := h
  obtain ⟨b4, e5, h⟩ := h
  refine v_gR 12 9 dX12_end_13 fg_RX12_17 o3 e5 ?_
  refine v_iconst (0 : Int32) dX12_end_16 (by decide) ?_
  refine v_dup2 dX12_end_17 rfl rfl ?_
  obtain ⟨i6, h⟩ := h
  refine v_iald dX12_end_18 i6 ?_
  refine v_iconst (1 : Int32) dX12_end_19 (by decide) ?_
  refine v_iadd dX12_end_20 ?_
  refine v_iast dX12_end_21 i6 ?_
  replace h := bnd_e h
  refine v_iconst (0 : Int32) dX12_end_22 (by decide) ?_
  exact v_iret dX12_end_23 rfl (by decide) h
set_option maxHeartbeats 4000000 in
set_option maxRecDepth 100000 in
theorem c_X12_end {l : Launch} {G : Gl} {sh : Shp} {v0 : Nat} {v1 : Int32} {Q : Int32 → Mem → Prop} {m : Mem} (h : wp_X12_end sh v0 v1 Q m) : Cni l G yX12_end cX12_end 2 (Option.some FieldType.boolean) 1 60 sh [.ref (G.1 + v0), .int v1] m Q := by
  refine con_i (ls := [(0, .ref (G.1 + v0)), (1, .int v1)]) (by decide +kernel) rfl (Nat.le_of_ble_eq_true rfl) (fun F => ?_)
  show V G F M_X12_end sh 0 0 (Zi G F sh Q) 0 [(0, .ref (G.1 + v0)), (1, .int v1)] [] m
  unfold wp_X12_end at h
  refine v_iload_n 1 1 dX12_end_0 rfl rfl ?_
  refine v_if_lt 12 dX12_end_1 (by decide) (fun hc => ?_) (fun hc => ?_)
  · replace h := Eq.mp (if_pos hc) h
    refine v_sub [0] rfl ?_
    exact v_X12_end_p12 h
  · replace h := Eq.mp (if_neg hc) h
    refine v_iload_n 1 1 dX12_end_4 rfl rfl ?_
    refine v_aload_n 0 0 dX12_end_5 rfl rfl ?_
    obtain ⟨o1, h⟩ := h
    refine v_gI 12 1 dX12_end_6 fg_RX12_282 o1 ?_
    refine v_icmp_le 24 dX12_end_9 (by decide) (fun hc => ?_) (fun hc => ?_)
    · replace h := Eq.mp (if_pos hc) h
      refine v_aload_n 0 0 dX12_end_24 rfl rfl ?_
      refine v_iload_n 1 1 dX12_end_25 rfl rfl ?_
      refine v_pI 12 1 dX12_end_26 fw_RX12_282 o1 ?_
      replace h := bnd_e h
      refine v_iconst (1 : Int32) dX12_end_29 (by decide) ?_
      exact v_iret dX12_end_30 rfl (by decide) h
    · replace h := Eq.mp (if_neg hc) h
      refine v_sub [0] rfl ?_
      exact v_X12_end_p12 h
/-! CalledRiverModel.farm -/
theorem dX12_farm_0 : decode cX12_farm 0 = .ok (.aload_n 0, 1) := by decide +kernel
theorem dX12_farm_1 : decode cX12_farm 1 = .ok (.iload_n 1, 1) := by decide +kernel
theorem dX12_farm_2 : decode cX12_farm 2 = .ok (.invokevirtual 554, 3) := by decide +kernel
theorem dX12_farm_5 : decode cX12_farm 5 = .ok (.ifCond .ne 5, 3) := by decide +kernel
theorem dX12_farm_8 : decode cX12_farm 8 = .ok (.iconst (-1), 1) := by decide +kernel
theorem dX12_farm_9 : decode cX12_farm 9 = .ok (.ireturn, 1) := by decide +kernel
theorem dX12_farm_10 : decode cX12_farm 10 = .ok (.iload_n 2, 1) := by decide +kernel
theorem dX12_farm_11 : decode cX12_farm 11 = .ok (.tableswitch 59 0 3 #[29, 38, 47, 53], 29) := by decide +kernel
theorem dX12_farm_40 : decode cX12_farm 40 = .ok (.aload_n 0, 1) := by decide +kernel
theorem dX12_farm_41 : decode cX12_farm 41 = .ok (.iload_n 1, 1) := by decide +kernel
theorem dX12_farm_42 : decode cX12_farm 42 = .ok (.invokevirtual 442, 3) := by decide +kernel
theorem dX12_farm_45 : decode cX12_farm 45 = .ok (.bipush 6, 2) := by decide +kernel
theorem dX12_farm_47 : decode cX12_farm 47 = .ok (.irem, 1) := by decide +kernel
theorem dX12_farm_48 : decode cX12_farm 48 = .ok (.ireturn, 1) := by decide +kernel
theorem dX12_farm_49 : decode cX12_farm 49 = .ok (.aload_n 0, 1) := by decide +kernel
theorem dX12_farm_50 : decode cX12_farm 50 = .ok (.iload_n 1, 1) := by decide +kernel
theorem dX12_farm_51 : decode cX12_farm 51 = .ok (.invokevirtual 442, 3) := by decide +kernel
theorem dX12_farm_54 : decode cX12_farm 54 = .ok (.bipush 6, 2) := by decide +kernel
theorem dX12_farm_56 : decode cX12_farm 56 = .ok (.idiv, 1) := by decide +kernel
theorem dX12_farm_57 : decode cX12_farm 57 = .ok (.ireturn, 1) := by decide +kernel
theorem dX12_farm_58 : decode cX12_farm 58 = .ok (.aload_n 0, 1) := by decide +kernel
theorem dX12_farm_59 : decode cX12_farm 59 = .ok (.iload_n 1, 1) := by decide +kernel
theorem dX12_farm_60 : decode cX12_farm 60 = .ok (.invokevirtual 515, 3) := by decide +kernel
theorem dX12_farm_63 : decode cX12_farm 63 = .ok (.ireturn, 1) := by decide +kernel
theorem dX12_farm_64 : decode cX12_farm 64 = .ok (.aload_n 0, 1) := by decide +kernel
theorem dX12_farm_65 : decode cX12_farm 65 = .ok (.iload_n 1, 1) := by decide +kernel
theorem dX12_farm_66 : decode cX12_farm 66 = .ok (.invokevirtual 449, 3) := by decide +kernel
theorem dX12_farm_69 : decode cX12_farm 69 = .ok (.ireturn, 1) := by decide +kernel
theorem dX12_farm_70 : decode cX12_farm 70 = .ok (.iconst (-1), 1) := by decide +kernel
theorem dX12_farm_71 : decode cX12_farm 71 = .ok (.ireturn, 1) := by decide +kernel
def wp_X12_farm (sh : Shp) (v0 : Nat) (v1 : Int32) (v2 : Int32) (Q : Int32 → Mem → Prop) (m : Mem) : Prop :=
  Ob sh v0 12 ∧ wp_X12_isFarm sh v0 v1 (fun r1 m2 => if r1 = 0 then (Q (-1 : Int32) m2) else (if v2 = (0 : Int32) then (wp_X12_cellOf sh v0 v1 (fun r4 m5 => Q (r4 - r4 / (6 : Int32) * (6 : Int32)) m5) m2) else if v2 = (1 : Int32) then (wp_X12_cellOf sh v0 v1 (fun r6 m7 => Q (r6 / (6 : Int32)) m7) m2) else if v2 = (2 : Int32) then (wp_X12_dayOf sh v0 v1 (fun r8 m9 => Q r8 m9) m2) else if v2 = (3 : Int32) then (wp_X12_pieOf sh v0 v1 (fun r10 m11 => Q r10 m11) m2) else (Q (-1 : Int32) m2))) m
abbrev M_X12_farm : Mi := (cX12_farm, 3, RX12, (Option.some FieldType.int), "farm", 3, 106, 0, 0)
set_option maxHeartbeats 4000000 in
set_option maxRecDepth 100000 in
theorem c_X12_farm {l : Launch} {G : Gl} {sh : Shp} {v0 : Nat} {v1 : Int32} {v2 : Int32} {Q : Int32 → Mem → Prop} {m : Mem} (h : wp_X12_farm sh v0 v1 v2 Q m) : Cni l G yX12_farm cX12_farm 3 (Option.some FieldType.int) 3 106 sh [.ref (G.1 + v0), .int v1, .int v2] m Q := by
  refine con_i (ls := [(0, .ref (G.1 + v0)), (1, .int v1), (2, .int v2)]) (by decide +kernel) rfl (Nat.le_of_ble_eq_true rfl) (fun F => ?_)
  show V G F M_X12_farm sh 0 0 (Zi G F sh Q) 0 [(0, .ref (G.1 + v0)), (1, .int v1), (2, .int v2)] [] m
  unfold wp_X12_farm at h
  refine v_aload_n 0 0 dX12_farm_0 rfl rfl ?_
  refine v_iload_n 1 1 dX12_farm_1 rfl rfl ?_
  obtain ⟨o3, h⟩ := h
  refine v_cVi [.int _] mv_X12_isFarm ml_RX12_554 ⟨_, _, rfl⟩ o3 rfl rfl (Nat.le_of_ble_eq_true rfl) (Nat.le_of_ble_eq_true rfl) (Nat.le_of_ble_eq_true rfl) (Nat.zero_le _) (Nat.zero_le _) dX12_farm_2 (c_X12_isFarm h) (fun r1 m2 h => ?_)
  refine v_if_ne 10 dX12_farm_5 (by decide) (fun hc => ?_) (fun hc => ?_)
  · replace h := Eq.mp (if_neg hc) h
    refine v_iload_n 2 2 dX12_farm_10 rfl rfl ?_
    by_cases hc0 : v2 = (0 : Int32)
    · replace h := Eq.mp (if_pos hc0) h
      refine v_tabK (0 : Int32) hc0 40 dX12_farm_11 (by decide) (by decide) rfl (by decide) ?_
      refine v_aload_n 0 0 dX12_farm_40 rfl rfl ?_
      refine v_iload_n 1 1 dX12_farm_41 rfl rfl ?_
      refine v_cVi [.int _] mv_X12_cellOf ml_RX12_442 ⟨_, _, rfl⟩ o3 rfl rfl (Nat.le_of_ble_eq_true rfl) (Nat.le_of_ble_eq_true rfl) (Nat.le_of_ble_eq_true rfl) (Nat.zero_le _) (Nat.zero_le _) dX12_farm_42 (c_X12_cellOf h) (fun r4 m5 h => ?_)
      refine v_bipush (6 : Int32) dX12_farm_45 (by decide) ?_
      refine v_irem dX12_farm_47 (by decide) ?_
      exact v_iret dX12_farm_48 rfl rfl h
    replace h := Eq.mp (if_neg hc0) h
    by_cases hc1 : v2 = (1 : Int32)
    · replace h := Eq.mp (if_pos hc1) h
      refine v_tabK (1 : Int32) hc1 49 dX12_farm_11 (by decide) (by decide) rfl (by decide) ?_
      refine v_aload_n 0 0 dX12_farm_49 rfl rfl ?_
      refine v_iload_n 1 1 dX12_farm_50 rfl rfl ?_
      refine v_cVi [.int _] mv_X12_cellOf ml_RX12_442 ⟨_, _, rfl⟩ o3 rfl rfl (Nat.le_of_ble_eq_true rfl) (Nat.le_of_ble_eq_true rfl) (Nat.le_of_ble_eq_true rfl) (Nat.zero_le _) (Nat.zero_le _) dX12_farm_51 (c_X12_cellOf h) (fun r6 m7 h => ?_)
      refine v_bipush (6 : Int32) dX12_farm_54 (by decide) ?_
      refine v_idiv dX12_farm_56 (by decide) ?_
      exact v_iret dX12_farm_57 rfl rfl h
    replace h := Eq.mp (if_neg hc1) h
    by_cases hc2 : v2 = (2 : Int32)
    · replace h := Eq.mp (if_pos hc2) h
      refine v_tabK (2 : Int32) hc2 58 dX12_farm_11 (by decide) (by decide) rfl (by decide) ?_
      refine v_aload_n 0 0 dX12_farm_58 rfl rfl ?_
      refine v_iload_n 1 1 dX12_farm_59 rfl rfl ?_
      refine v_cVi [.int _] mv_X12_dayOf ml_RX12_515 ⟨_, _, rfl⟩ o3 rfl rfl (Nat.le_of_ble_eq_true rfl) (Nat.le_of_ble_eq_true rfl) (Nat.le_of_ble_eq_true rfl) (Nat.zero_le _) (Nat.zero_le _) dX12_farm_60 (c_X12_dayOf h) (fun r8 m9 h => ?_)
      exact v_iret dX12_farm_63 rfl rfl h
    replace h := Eq.mp (if_neg hc2) h
    by_cases hc3 : v2 = (3 : Int32)
    · replace h := Eq.mp (if_pos hc3) h
      refine v_tabK (3 : Int32) hc3 64 dX12_farm_11 (by decide) (by decide) rfl (by decide) ?_
      refine v_aload_n 0 0 dX12_farm_64 rfl rfl ?_
      refine v_iload_n 1 1 dX12_farm_65 rfl rfl ?_
      refine v_cVi [.int _] mv_X12_pieOf ml_RX12_449 ⟨_, _, rfl⟩ o3 rfl rfl (Nat.le_of_ble_eq_true rfl) (Nat.le_of_ble_eq_true rfl) (Nat.le_of_ble_eq_true rfl) (Nat.zero_le _) (Nat.zero_le _) dX12_farm_66 (c_X12_pieOf h) (fun r10 m11 h => ?_)
      exact v_iret dX12_farm_69 rfl rfl h
    replace h := Eq.mp (if_neg hc3) h
    refine v_tabOut 70 dX12_farm_11 (by have := lv_neT hc0 (a := 0) (by decide); have := lv_neT hc1 (a := 1) (by decide); have := lv_neT hc2 (a := 2) (by decide); have := lv_neT hc3 (a := 3) (by decide); omega) (by decide) ?_
    refine v_iconst (-1 : Int32) dX12_farm_70 (by decide) ?_
    exact v_iret dX12_farm_71 rfl rfl h
  · replace h := Eq.mp (if_pos hc) h
    refine v_iconst (-1 : Int32) dX12_farm_8 (by decide) ?_
    exact v_iret dX12_farm_9 rfl rfl h
/-! CalledRiverModel.farmTold -/
theorem dX12_farmTold_0 : decode cX12_farmTold 0 = .ok (.aload_n 0, 1) := by decide +kernel
theorem dX12_farmTold_1 : decode cX12_farmTold 1 = .ok (.iconst 0, 1) := by decide +kernel
theorem dX12_farmTold_2 : decode cX12_farmTold 2 = .ok (.bipush 6, 2) := by decide +kernel
theorem dX12_farmTold_4 : decode cX12_farmTold 4 = .ok (.iload_n 1, 1) := by decide +kernel
theorem dX12_farmTold_5 : decode cX12_farmTold 5 = .ok (.invokevirtual 365, 3) := by decide +kernel
theorem dX12_farmTold_8 : decode cX12_farmTold 8 = .ok (.ifCond .eq 4, 3) := by decide +kernel
theorem dX12_farmTold_11 : decode cX12_farmTold 11 = .ok (.return_, 1) := by decide +kernel
theorem dX12_farmTold_12 : decode cX12_farmTold 12 = .ok (.aload_n 0, 1) := by decide +kernel
theorem dX12_farmTold_13 : decode cX12_farmTold 13 = .ok (.invokevirtual 369, 3) := by decide +kernel
theorem dX12_farmTold_16 : decode cX12_farmTold 16 = .ok (.lstore_n 2, 1) := by decide +kernel
theorem dX12_farmTold_17 : decode cX12_farmTold 17 = .ok (.aload_n 0, 1) := by decide +kernel
theorem dX12_farmTold_18 : decode cX12_farmTold 18 = .ok (.aload_n 0, 1) := by decide +kernel
theorem dX12_farmTold_19 : decode cX12_farmTold 19 = .ok (.getfield 39, 3) := by decide +kernel
theorem dX12_farmTold_22 : decode cX12_farmTold 22 = .ok (.invokevirtual 350, 3) := by decide +kernel
theorem dX12_farmTold_25 : decode cX12_farmTold 25 = .ok (.aload_n 0, 1) := by decide +kernel
theorem dX12_farmTold_26 : decode cX12_farmTold 26 = .ok (.invokevirtual 362, 3) := by decide +kernel
theorem dX12_farmTold_29 : decode cX12_farmTold 29 = .ok (.istore 4, 2) := by decide +kernel
theorem dX12_farmTold_31 : decode cX12_farmTold 31 = .ok (.iconst 0, 1) := by decide +kernel
theorem dX12_farmTold_32 : decode cX12_farmTold 32 = .ok (.istore 5, 2) := by decide +kernel
theorem dX12_farmTold_34 : decode cX12_farmTold 34 = .ok (.iload 5, 2) := by decide +kernel
theorem dX12_farmTold_36 : decode cX12_farmTold 36 = .ok (.aload_n 0, 1) := by decide +kernel
theorem dX12_farmTold_37 : decode cX12_farmTold 37 = .ok (.getfield 114, 3) := by decide +kernel
theorem dX12_farmTold_40 : decode cX12_farmTold 40 = .ok (.iconst 0, 1) := by decide +kernel
theorem dX12_farmTold_41 : decode cX12_farmTold 41 = .ok (.iaload, 1) := by decide +kernel
theorem dX12_farmTold_42 : decode cX12_farmTold 42 = .ok (.if_icmp .ge 39, 3) := by decide +kernel
theorem dX12_farmTold_45 : decode cX12_farmTold 45 = .ok (.aload_n 0, 1) := by decide +kernel
theorem dX12_farmTold_46 : decode cX12_farmTold 46 = .ok (.getfield 285, 3) := by decide +kernel
theorem dX12_farmTold_49 : decode cX12_farmTold 49 = .ok (.ifCond .ne 26, 3) := by decide +kernel
theorem dX12_farmTold_52 : decode cX12_farmTold 52 = .ok (.aload_n 0, 1) := by decide +kernel
theorem dX12_farmTold_53 : decode cX12_farmTold 53 = .ok (.getfield 121, 3) := by decide +kernel
theorem dX12_farmTold_56 : decode cX12_farmTold 56 = .ok (.iconst 3, 1) := by decide +kernel
theorem dX12_farmTold_57 : decode cX12_farmTold 57 = .ok (.iload 5, 2) := by decide +kernel
theorem dX12_farmTold_59 : decode cX12_farmTold 59 = .ok (.imul, 1) := by decide +kernel
theorem dX12_farmTold_60 : decode cX12_farmTold 60 = .ok (.iaload, 1) := by decide +kernel
theorem dX12_farmTold_61 : decode cX12_farmTold 61 = .ok (.iload 4, 2) := by decide +kernel
theorem dX12_farmTold_63 : decode cX12_farmTold 63 = .ok (.if_icmp .ne 12, 3) := by decide +kernel
theorem dX12_farmTold_66 : decode cX12_farmTold 66 = .ok (.aload_n 0, 1) := by decide +kernel
theorem dX12_farmTold_67 : decode cX12_farmTold 67 = .ok (.iconst 2, 1) := by decide +kernel
theorem dX12_farmTold_68 : decode cX12_farmTold 68 = .ok (.aload_n 0, 1) := by decide +kernel
theorem dX12_farmTold_69 : decode cX12_farmTold 69 = .ok (.getfield 325, 3) := by decide +kernel
theorem dX12_farmTold_72 : decode cX12_farmTold 72 = .ok (.invokevirtual 315, 3) := by decide +kernel
theorem dX12_farmTold_75 : decode cX12_farmTold 75 = .ok (.iinc 5 1, 3) := by decide +kernel
theorem dX12_farmTold_78 : decode cX12_farmTold 78 = .ok (.goto (-44), 3) := by decide +kernel
theorem dX12_farmTold_81 : decode cX12_farmTold 81 = .ok (.aload_n 0, 1) := by decide +kernel
theorem dX12_farmTold_82 : decode cX12_farmTold 82 = .ok (.aload_n 0, 1) := by decide +kernel
theorem dX12_farmTold_83 : decode cX12_farmTold 83 = .ok (.getfield 42, 3) := by decide +kernel
theorem dX12_farmTold_86 : decode cX12_farmTold 86 = .ok (.invokevirtual 350, 3) := by decide +kernel
theorem dX12_farmTold_89 : decode cX12_farmTold 89 = .ok (.aload_n 0, 1) := by decide +kernel
theorem dX12_farmTold_90 : decode cX12_farmTold 90 = .ok (.iconst 1, 1) := by decide +kernel
theorem dX12_farmTold_91 : decode cX12_farmTold 91 = .ok (.bipush 40, 2) := by decide +kernel
theorem dX12_farmTold_93 : decode cX12_farmTold 93 = .ok (.invokevirtual 354, 3) := by decide +kernel
theorem dX12_farmTold_96 : decode cX12_farmTold 96 = .ok (.istore 5, 2) := by decide +kernel
theorem dX12_farmTold_98 : decode cX12_farmTold 98 = .ok (.aload_n 0, 1) := by decide +kernel
theorem dX12_farmTold_99 : decode cX12_farmTold 99 = .ok (.aload_n 0, 1) := by decide +kernel
theorem dX12_farmTold_100 : decode cX12_farmTold 100 = .ok (.getfield 45, 3) := by decide +kernel
theorem dX12_farmTold_103 : decode cX12_farmTold 103 = .ok (.invokevirtual 350, 3) := by decide +kernel
theorem dX12_farmTold_106 : decode cX12_farmTold 106 = .ok (.aload_n 0, 1) := by decide +kernel
theorem dX12_farmTold_107 : decode cX12_farmTold 107 = .ok (.iconst 0, 1) := by decide +kernel
theorem dX12_farmTold_108 : decode cX12_farmTold 108 = .ok (.bipush 9, 2) := by decide +kernel
theorem dX12_farmTold_110 : decode cX12_farmTold 110 = .ok (.invokevirtual 354, 3) := by decide +kernel
theorem dX12_farmTold_113 : decode cX12_farmTold 113 = .ok (.istore 6, 2) := by decide +kernel
theorem dX12_farmTold_115 : decode cX12_farmTold 115 = .ok (.aload_n 0, 1) := by decide +kernel
theorem dX12_farmTold_116 : decode cX12_farmTold 116 = .ok (.getfield 285, 3) := by decide +kernel
theorem dX12_farmTold_119 : decode cX12_farmTold 119 = .ok (.ifCond .eq 4, 3) := by decide +kernel
theorem dX12_farmTold_122 : decode cX12_farmTold 122 = .ok (.return_, 1) := by decide +kernel
theorem dX12_farmTold_123 : decode cX12_farmTold 123 = .ok (.aload_n 0, 1) := by decide +kernel
theorem dX12_farmTold_124 : decode cX12_farmTold 124 = .ok (.getfield 117, 3) := by decide +kernel
theorem dX12_farmTold_127 : decode cX12_farmTold 127 = .ok (.aload_n 0, 1) := by decide +kernel
theorem dX12_farmTold_128 : decode cX12_farmTold 128 = .ok (.getfield 114, 3) := by decide +kernel
theorem dX12_farmTold_131 : decode cX12_farmTold 131 = .ok (.iconst 0, 1) := by decide +kernel
theorem dX12_farmTold_132 : decode cX12_farmTold 132 = .ok (.iaload, 1) := by decide +kernel
theorem dX12_farmTold_133 : decode cX12_farmTold 133 = .ok (.lload_n 2, 1) := by decide +kernel
theorem dX12_farmTold_134 : decode cX12_farmTold 134 = .ok (.lastore, 1) := by decide +kernel
theorem dX12_farmTold_135 : decode cX12_farmTold 135 = .ok (.aload_n 0, 1) := by decide +kernel
theorem dX12_farmTold_136 : decode cX12_farmTold 136 = .ok (.getfield 121, 3) := by decide +kernel
theorem dX12_farmTold_139 : decode cX12_farmTold 139 = .ok (.iconst 3, 1) := by decide +kernel
theorem dX12_farmTold_140 : decode cX12_farmTold 140 = .ok (.aload_n 0, 1) := by decide +kernel
theorem dX12_farmTold_141 : decode cX12_farmTold 141 = .ok (.getfield 114, 3) := by decide +kernel
theorem dX12_farmTold_144 : decode cX12_farmTold 144 = .ok (.iconst 0, 1) := by decide +kernel
theorem dX12_farmTold_145 : decode cX12_farmTold 145 = .ok (.iaload, 1) := by decide +kernel
theorem dX12_farmTold_146 : decode cX12_farmTold 146 = .ok (.imul, 1) := by decide +kernel
theorem dX12_farmTold_147 : decode cX12_farmTold 147 = .ok (.iload 4, 2) := by decide +kernel
theorem dX12_farmTold_149 : decode cX12_farmTold 149 = .ok (.iastore, 1) := by decide +kernel
theorem dX12_farmTold_150 : decode cX12_farmTold 150 = .ok (.aload_n 0, 1) := by decide +kernel
theorem dX12_farmTold_151 : decode cX12_farmTold 151 = .ok (.getfield 121, 3) := by decide +kernel
theorem dX12_farmTold_154 : decode cX12_farmTold 154 = .ok (.iconst 3, 1) := by decide +kernel
theorem dX12_farmTold_155 : decode cX12_farmTold 155 = .ok (.aload_n 0, 1) := by decide +kernel
theorem dX12_farmTold_156 : decode cX12_farmTold 156 = .ok (.getfield 114, 3) := by decide +kernel
theorem dX12_farmTold_159 : decode cX12_farmTold 159 = .ok (.iconst 0, 1) := by decide +kernel
theorem dX12_farmTold_160 : decode cX12_farmTold 160 = .ok (.iaload, 1) := by decide +kernel
theorem dX12_farmTold_161 : decode cX12_farmTold 161 = .ok (.imul, 1) := by decide +kernel
theorem dX12_farmTold_162 : decode cX12_farmTold 162 = .ok (.iconst 1, 1) := by decide +kernel
theorem dX12_farmTold_163 : decode cX12_farmTold 163 = .ok (.iadd, 1) := by decide +kernel
theorem dX12_farmTold_164 : decode cX12_farmTold 164 = .ok (.iload 5, 2) := by decide +kernel
theorem dX12_farmTold_166 : decode cX12_farmTold 166 = .ok (.iastore, 1) := by decide +kernel
theorem dX12_farmTold_167 : decode cX12_farmTold 167 = .ok (.aload_n 0, 1) := by decide +kernel
theorem dX12_farmTold_168 : decode cX12_farmTold 168 = .ok (.getfield 121, 3) := by decide +kernel
theorem dX12_farmTold_171 : decode cX12_farmTold 171 = .ok (.iconst 3, 1) := by decide +kernel
theorem dX12_farmTold_172 : decode cX12_farmTold 172 = .ok (.aload_n 0, 1) := by decide +kernel
theorem dX12_farmTold_173 : decode cX12_farmTold 173 = .ok (.getfield 114, 3) := by decide +kernel
theorem dX12_farmTold_176 : decode cX12_farmTold 176 = .ok (.iconst 0, 1) := by decide +kernel
theorem dX12_farmTold_177 : decode cX12_farmTold 177 = .ok (.iaload, 1) := by decide +kernel
theorem dX12_farmTold_178 : decode cX12_farmTold 178 = .ok (.imul, 1) := by decide +kernel
theorem dX12_farmTold_179 : decode cX12_farmTold 179 = .ok (.iconst 2, 1) := by decide +kernel
theorem dX12_farmTold_180 : decode cX12_farmTold 180 = .ok (.iadd, 1) := by decide +kernel
theorem dX12_farmTold_181 : decode cX12_farmTold 181 = .ok (.iload 6, 2) := by decide +kernel
theorem dX12_farmTold_183 : decode cX12_farmTold 183 = .ok (.iastore, 1) := by decide +kernel
theorem dX12_farmTold_184 : decode cX12_farmTold 184 = .ok (.aload_n 0, 1) := by decide +kernel
theorem dX12_farmTold_185 : decode cX12_farmTold 185 = .ok (.getfield 114, 3) := by decide +kernel
theorem dX12_farmTold_188 : decode cX12_farmTold 188 = .ok (.iconst 0, 1) := by decide +kernel
theorem dX12_farmTold_189 : decode cX12_farmTold 189 = .ok (.dup2, 1) := by decide +kernel
theorem dX12_farmTold_190 : decode cX12_farmTold 190 = .ok (.iaload, 1) := by decide +kernel
theorem dX12_farmTold_191 : decode cX12_farmTold 191 = .ok (.iconst 1, 1) := by decide +kernel
theorem dX12_farmTold_192 : decode cX12_farmTold 192 = .ok (.iadd, 1) := by decide +kernel
theorem dX12_farmTold_193 : decode cX12_farmTold 193 = .ok (.iastore, 1) := by decide +kernel
theorem dX12_farmTold_194 : decode cX12_farmTold 194 = .ok (.return_, 1) := by decide +kernel
def X12_farmTold_p75 (sh : Shp) (v0 : Nat) (v2 : Int64) (v4 : Int32) (v5 : Int32) (Q : Mem → Prop) (K34 : Int32 → Mem → Prop) (m : Mem) : Prop :=
  K34 (v5 + (1 : Int32)) m
def X12_farmTold_p34b (sh : Shp) (v0 : Nat) (v2 : Int64) (v4 : Int32) (Q : Mem → Prop) (K34 : Int32 → Mem → Prop) (v5 : Int32) (m : Mem) : Prop :=
  Ob sh v0 12 ∧ ∃ b13 : Nat, m.2.2 v0 45 = some b13 ∧ (Ix sh b13 100 (0 : Int32) ∧ (if (m.1 b13 (0 : Int32).toNatClampNeg) ≤ v5 then (∃ b16 : Nat, m.2.2 v0 18 = some b16 ∧ (wp_X12_asks sh v0 b16 (fun m19 => wp_X12_number sh v0 (1 : Int32) (40 : Int32) (fun r20 m21 => ∃ b22 : Nat, m21.2.2 v0 19 = some b22 ∧ (wp_X12_asks sh v0 b22 (fun m25 => wp_X12_number sh v0 (0 : Int32) (9 : Int32) (fun r26 m27 => if (m27.1 v0 5) = 0 then (∃ b28 : Nat, m27.2.2 v0 46 = some b28 ∧ (∃ b30 : Nat, m27.2.2 v0 45 = some b30 ∧ (Ix sh b30 100 (0 : Int32) ∧ (Ix sh b28 103 (m27.1 b30 (0 : Int32).toNatClampNeg) ∧ bnd (sL m27 b28 (m27.1 b30 (0 : Int32).toNatClampNeg).toNatClampNeg v2) (fun m34 => ∃ b35 : Nat, m34.2.2 v0 47 = some b35 ∧ (Ix sh b35 100 ((3 : Int32) * (m34.1 b30 (0 : Int32).toNatClampNeg)) ∧ bnd (sI m34 b35 ((3 : Int32) * (m34.1 b30 (0 : Int32).toNatClampNeg)).toNatClampNeg v4) (fun m38 => Ix sh b35 100 (((3 : Int32) * (m38.1 b30 (0 : Int32).toNatClampNeg)) + (1 : Int32)) ∧ bnd (sI m38 b35 (((3 : Int32) * (m38.1 b30 (0 : Int32).toNatClampNeg)) + (1 : Int32)).toNatClampNeg r20) (fun m40 => Ix sh b35 100 (((3 : Int32) * (m40.1 b30 (0 : Int32).toNatClampNeg)) + (2 : Int32)) ∧ bnd (sI m40 b35 (((3 : Int32) * (m40.1 b30 (0 : Int32).toNatClampNeg)) + (2 : Int32)).toNatClampNeg r26) (fun m42 => bnd (sI m42 b30 (0 : Int32).toNatClampNeg ((m42.1 b30 (0 : Int32).toNatClampNeg) + (1 : Int32))) (fun m43 => Q m43)))))))))) else (Q m27)) m25) m21)) m19) m)) else (if (m.1 v0 5) = 0 then (∃ b44 : Nat, m.2.2 v0 47 = some b44 ∧ (Ix sh b44 100 ((3 : Int32) * v5) ∧ (if (m.1 b44 ((3 : Int32) * v5).toNatClampNeg) = v4 then (wp_X12_fail sh v0 (2 : Int32) (m.1 v0 10) (fun m48 => X12_farmTold_p75 sh v0 v2 v4 v5 Q K34 m48) m) else (X12_farmTold_p75 sh v0 v2 v4 v5 Q K34 m)))) else (X12_farmTold_p75 sh v0 v2 v4 v5 Q K34 m))))
def X12_farmTold_p34n (sh : Shp) (v0 : Nat) (v2 : Int64) (v4 : Int32) (Q : Mem → Prop) : Nat → Int32 → Mem → Prop
  | 0 => fun _ _ => False
  | n + 1 => X12_farmTold_p34b sh v0 v2 v4 Q (X12_farmTold_p34n sh v0 v2 v4 Q n)
def X12_farmTold_p34 (sh : Shp) (v0 : Nat) (v2 : Int64) (v4 : Int32) (Q : Mem → Prop) (v5 : Int32) (m : Mem) : Prop := ∃ n, X12_farmTold_p34n sh v0 v2 v4 Q n v5 m
def wp_X12_farmTold (sh : Shp) (v0 : Nat) (v1 : Int32) (Q : Mem → Prop) (m : Mem) : Prop :=
  Ob sh v0 12 ∧ wp_X12_isFull sh v0 (0 : Int32) (6 : Int32) v1 (fun r1 m2 => if r1 = 0 then (wp_X12_newName sh v0 (fun r4 m5 => ∃ b6 : Nat, m5.2.2 v0 17 = some b6 ∧ (wp_X12_asks sh v0 b6 (fun m9 => wp_X12_cellTold sh v0 (fun r10 m11 => X12_farmTold_p34 sh v0 r4 r10 Q (0 : Int32) m11) m9) m5)) m2) else (Q m2)) m
abbrev M_X12_farmTold : Mi := (cX12_farmTold, 7, RX12, (none : Option FieldType), "farmTold", 6, 170, 0, 0)
set_option maxHeartbeats 4000000 in
set_option maxRecDepth 100000 in
theorem v_X12_farmTold_p75 {G : Gl} {F : Fr} {sh : Shp} {v0 : Nat} {v2 : Int64} {v4 : Int32} {v5 : Int32} {Q : Mem → Prop} {K34 : Int32 → Mem → Prop} {m : Mem} (hK34 : ∀ (x5 : Int32) (m : Mem), K34 x5 m → V G F M_X12_farmTold sh 0 0 (Zv G F sh Q) 34 [(0, .ref (G.1 + v0)), (2, .long v2), (4, .int v4), (5, .int x5)] [] m) (h : X12_farmTold_p75 sh v0 v2 v4 v5 Q K34 m) : V G F M_X12_farmTold sh 0 0 (Zv G F sh Q) 75 [(0, .ref (G.1 + v0)), (2, .long v2), (4, .int v4), (5, .int v5)] [] m := by
  unfold X12_farmTold_p75 at h
  refine v_iinc (ls' := [(5, .int _), (0, .ref _), (2, .long _), (4, .int _)]) 5 3 dX12_farmTold_75 rfl (congrArg (HAdd.hAdd _) (by decide : Int32.ofInt (1) = (1 : Int32))) (Nat.le_of_ble_eq_true rfl) rfl ?_
  refine v_goto 34 dX12_farmTold_78 (by decide) ?_
  refine v_sub [1, 2, 3, 0] rfl ?_
  exact hK34 _ _ h
set_option maxHeartbeats 4000000 in
set_option maxRecDepth 100000 in
theorem v_X12_farmTold_p34b {G : Gl} {F : Fr} {sh : Shp} {v0 : Nat} {v2 : Int64} {v4 : Int32} {v5 : Int32} {Q : Mem → Prop} {K34 : Int32 → Mem → Prop} {m : Mem} (hK34 : ∀ (x5 : Int32) (m : Mem), K34 x5 m → V G F M_X12_farmTold sh 0 0 (Zv G F sh Q) 34 [(0, .ref (G.1 + v0)), (2, .long v2), (4, .int v4), (5, .int x5)] [] m) (h : X12_farmTold_p34b sh v0 v2 v4 Q K34 v5 m) : V G F M_X12_farmTold sh 0 0 (Zv G F sh Q) 34 [(0, .ref (G.1 + v0)), (2, .long v2), (4, .int v4), (5, .int v5)] [] m := by
  unfold X12_farmTold_p34b at h
  refine v_iload 5 3 dX12_farmTold_34 rfl ?_
  refine v_aload_n 0 0 dX12_farmTold_36 rfl rfl ?_
  obtain ⟨o12, h⟩ := h
  obtain ⟨b13, e14, h⟩ := h
  refine v_gR 12 45 dX12_farmTold_37 fg_RX12_114 o12 e14 ?_
  refine v_iconst (0 : Int32) dX12_farmTold_40 (by decide) ?_
  obtain ⟨i15, h⟩ := h
  refine v_iald dX12_farmTold_41 i15 ?_
  refine v_icmp_ge 81 dX12_farmTold_42 (by decide) (fun hc => ?_) (fun hc => ?_)
  · replace h := Eq.mp (if_pos hc) h
    refine v_aload_n 0 0 dX12_farmTold_81 rfl rfl ?_
    refine v_aload_n 0 0 dX12_farmTold_82 rfl rfl ?_
    obtain ⟨b16, e17, h⟩ := h
    refine v_gR 12 18 dX12_farmTold_83 fg_RX12_42 o12 e17 ?_
    refine v_cVv [.ref _] mv_X12_asks ml_RX12_350 ⟨_, _, rfl⟩ o12 rfl rfl (Nat.le_of_ble_eq_true rfl) (Nat.le_of_ble_eq_true rfl) (Nat.le_of_ble_eq_true rfl) (Nat.zero_le _) (Nat.zero_le _) dX12_farmTold_86 (c_X12_asks h) (fun m19 h => ?_)
    refine v_aload_n 0 0 dX12_farmTold_89 rfl rfl ?_
    refine v_iconst (1 : Int32) dX12_farmTold_90 (by decide) ?_
    refine v_bipush (40 : Int32) dX12_farmTold_91 (by decide) ?_
    refine v_cVi [.int _, .int _] mv_X12_number ml_RX12_354 ⟨_, _, rfl⟩ o12 rfl rfl (Nat.le_of_ble_eq_true rfl) (Nat.le_of_ble_eq_true rfl) (Nat.le_of_ble_eq_true rfl) (Nat.zero_le _) (Nat.zero_le _) dX12_farmTold_93 (c_X12_number h) (fun r20 m21 h => ?_)
    refine v_istore (ls' := [(5, .int _), (0, .ref _), (2, .long _), (4, .int _)]) 5 dX12_farmTold_96 (Nat.le_of_ble_eq_true rfl) rfl ?_
    refine v_aload_n 0 1 dX12_farmTold_98 rfl rfl ?_
    refine v_aload_n 0 1 dX12_farmTold_99 rfl rfl ?_
    obtain ⟨b22, e23, h⟩ := h
    refine v_gR 12 19 dX12_farmTold_100 fg_RX12_45 o12 e23 ?_
    refine v_cVv [.ref _] mv_X12_asks ml_RX12_350 ⟨_, _, rfl⟩ o12 rfl rfl (Nat.le_of_ble_eq_true rfl) (Nat.le_of_ble_eq_true rfl) (Nat.le_of_ble_eq_true rfl) (Nat.zero_le _) (Nat.zero_le _) dX12_farmTold_103 (c_X12_asks h) (fun m25 h => ?_)
    refine v_aload_n 0 1 dX12_farmTold_106 rfl rfl ?_
    refine v_iconst (0 : Int32) dX12_farmTold_107 (by decide) ?_
    refine v_bipush (9 : Int32) dX12_farmTold_108 (by decide) ?_
    refine v_cVi [.int _, .int _] mv_X12_number ml_RX12_354 ⟨_, _, rfl⟩ o12 rfl rfl (Nat.le_of_ble_eq_true rfl) (Nat.le_of_ble_eq_true rfl) (Nat.le_of_ble_eq_true rfl) (Nat.zero_le _) (Nat.zero_le _) dX12_farmTold_110 (c_X12_number h) (fun r26 m27 h => ?_)
    refine v_istore (ls' := [(6, .int _), (5, .int _), (0, .ref _), (2, .long _), (4, .int _)]) 6 dX12_farmTold_113 (Nat.le_of_ble_eq_true rfl) rfl ?_
    refine v_aload_n 0 2 dX12_farmTold_115 rfl rfl ?_
    refine v_gI 12 5 dX12_farmTold_116 fg_RX12_285 o12 ?_
    refine v_if_eq 123 dX12_farmTold_119 (by decide) (fun hc => ?_) (fun hc => ?_)
    · replace h := Eq.mp (if_pos hc) h
      refine v_aload_n 0 2 dX12_farmTold_123 rfl rfl ?_
      obtain ⟨b28, e29, h⟩ := h
      refine v_gR 12 46 dX12_farmTold_124 fg_RX12_117 o12 e29 ?_
      refine v_aload_n 0 2 dX12_farmTold_127 rfl rfl ?_
      obtain ⟨b30, e31, h⟩ := h
      refine v_gR 12 45 dX12_farmTold_128 fg_RX12_114 o12 e31 ?_
      refine v_iconst (0 : Int32) dX12_farmTold_131 (by decide) ?_
      obtain ⟨i32, h⟩ := h
      refine v_iald dX12_farmTold_132 i32 ?_
      refine v_lload_n 2 3 dX12_farmTold_133 rfl rfl ?_
      obtain ⟨i33, h⟩ := h
      refine v_last dX12_farmTold_134 i33 ?_
      replace h := bnd_e h
      refine v_aload_n 0 2 dX12_farmTold_135 rfl rfl ?_
      obtain ⟨b35, e36, h⟩ := h
      refine v_gR 12 47 dX12_farmTold_136 fg_RX12_121 o12 e36 ?_
      refine v_iconst (3 : Int32) dX12_farmTold_139 (by decide) ?_
      refine v_aload_n 0 2 dX12_farmTold_140 rfl rfl ?_
      refine v_gR 12 45 dX12_farmTold_141 fg_RX12_114 o12 e31 ?_
      refine v_iconst (0 : Int32) dX12_farmTold_144 (by decide) ?_
      refine v_iald dX12_farmTold_145 i32 ?_
      refine v_imul dX12_farmTold_146 ?_
      refine v_iload 4 4 dX12_farmTold_147 rfl ?_
      obtain ⟨i37, h⟩ := h
      refine v_iast dX12_farmTold_149 i37 ?_
      replace h := bnd_e h
      refine v_aload_n 0 2 dX12_farmTold_150 rfl rfl ?_
      refine v_gR 12 47 dX12_farmTold_151 fg_RX12_121 o12 e36 ?_
      refine v_iconst (3 : Int32) dX12_farmTold_154 (by decide) ?_
      refine v_aload_n 0 2 dX12_farmTold_155 rfl rfl ?_
      refine v_gR 12 45 dX12_farmTold_156 fg_RX12_114 o12 e31 ?_
      refine v_iconst (0 : Int32) dX12_farmTold_159 (by decide) ?_
      refine v_iald dX12_farmTold_160 i32 ?_
      refine v_imul dX12_farmTold_161 ?_
      refine v_iconst (1 : Int32) dX12_farmTold_162 (by decide) ?_
      refine v_iadd dX12_farmTold_163 ?_
      refine v_iload 5 1 dX12_farmTold_164 rfl ?_
      obtain ⟨i39, h⟩ := h
      refine v_iast dX12_farmTold_166 i39 ?_
      replace h := bnd_e h
      refine v_aload_n 0 2 dX12_farmTold_167 rfl rfl ?_
      refine v_gR 12 47 dX12_farmTold_168 fg_RX12_121 o12 e36 ?_
      refine v_iconst (3 : Int32) dX12_farmTold_171 (by decide) ?_
      refine v_aload_n 0 2 dX12_farmTold_172 rfl rfl ?_
      refine v_gR 12 45 dX12_farmTold_173 fg_RX12_114 o12 e31 ?_
      refine v_iconst (0 : Int32) dX12_farmTold_176 (by decide) ?_
      refine v_iald dX12_farmTold_177 i32 ?_
      refine v_imul dX12_farmTold_178 ?_
      refine v_iconst (2 : Int32) dX12_farmTold_179 (by decide) ?_
      refine v_iadd dX12_farmTold_180 ?_
      refine v_iload 6 0 dX12_farmTold_181 rfl ?_
      obtain ⟨i41, h⟩ := h
      refine v_iast dX12_farmTold_183 i41 ?_
      replace h := bnd_e h
      refine v_aload_n 0 2 dX12_farmTold_184 rfl rfl ?_
      refine v_gR 12 45 dX12_farmTold_185 fg_RX12_114 o12 e31 ?_
      refine v_iconst (0 : Int32) dX12_farmTold_188 (by decide) ?_
      refine v_dup2 dX12_farmTold_189 rfl rfl ?_
      refine v_iald dX12_farmTold_190 i32 ?_
      refine v_iconst (1 : Int32) dX12_farmTold_191 (by decide) ?_
      refine v_iadd dX12_farmTold_192 ?_
      refine v_iast dX12_farmTold_193 i32 ?_
      replace h := bnd_e h
      exact v_vret dX12_farmTold_194 rfl h
    · replace h := Eq.mp (if_neg hc) h
      exact v_vret dX12_farmTold_122 rfl h
  · replace h := Eq.mp (if_neg hc) h
    refine v_aload_n 0 0 dX12_farmTold_45 rfl rfl ?_
    refine v_gI 12 5 dX12_farmTold_46 fg_RX12_285 o12 ?_
    refine v_if_ne 75 dX12_farmTold_49 (by decide) (fun hc => ?_) (fun hc => ?_)
    · replace h := Eq.mp (if_neg hc) h
      refine v_sub [0, 1, 2, 3] rfl ?_
      exact v_X12_farmTold_p75 hK34 h
    · replace h := Eq.mp (if_pos hc) h
      refine v_aload_n 0 0 dX12_farmTold_52 rfl rfl ?_
      obtain ⟨b44, e45, h⟩ := h
      refine v_gR 12 47 dX12_farmTold_53 fg_RX12_121 o12 e45 ?_
      refine v_iconst (3 : Int32) dX12_farmTold_56 (by decide) ?_
      refine v_iload 5 3 dX12_farmTold_57 rfl ?_
      refine v_imul dX12_farmTold_59 ?_
      obtain ⟨i46, h⟩ := h
      refine v_iald dX12_farmTold_60 i46 ?_
      refine v_iload 4 2 dX12_farmTold_61 rfl ?_
      refine v_icmp_ne 75 dX12_farmTold_63 (by decide) (fun hc => ?_) (fun hc => ?_)
      · replace h := Eq.mp (if_neg hc) h
        refine v_sub [0, 1, 2, 3] rfl ?_
        exact v_X12_farmTold_p75 hK34 h
      · replace h := Eq.mp (if_pos hc) h
        refine v_aload_n 0 0 dX12_farmTold_66 rfl rfl ?_
        refine v_iconst (2 : Int32) dX12_farmTold_67 (by decide) ?_
        refine v_aload_n 0 0 dX12_farmTold_68 rfl rfl ?_
        refine v_gI 12 10 dX12_farmTold_69 fg_RX12_325 o12 ?_
        refine v_cVv [.int _, .int _] mv_X12_fail ml_RX12_315 ⟨_, _, rfl⟩ o12 rfl rfl (Nat.le_of_ble_eq_true rfl) (Nat.le_of_ble_eq_true rfl) (Nat.le_of_ble_eq_true rfl) (Nat.zero_le _) (Nat.zero_le _) dX12_farmTold_72 (c_X12_fail h) (fun m48 h => ?_)
        refine v_sub [0, 1, 2, 3] rfl ?_
        exact v_X12_farmTold_p75 hK34 h
set_option maxHeartbeats 4000000 in
set_option maxRecDepth 100000 in
theorem v_X12_farmTold_p34 {G : Gl} {F : Fr} {sh : Shp} {v0 : Nat} {v2 : Int64} {v4 : Int32} {v5 : Int32} {Q : Mem → Prop} {m : Mem} (h : X12_farmTold_p34 sh v0 v2 v4 Q v5 m) : V G F M_X12_farmTold sh 0 0 (Zv G F sh Q) 34 [(0, .ref (G.1 + v0)), (2, .long v2), (4, .int v4), (5, .int v5)] [] m := by
  obtain ⟨n, h⟩ := h
  induction n generalizing v5 m with
  | zero => exact h.elim
  | succ n ih => exact v_X12_farmTold_p34b (fun _ _ h => ih h) h
set_option maxHeartbeats 4000000 in
set_option maxRecDepth 100000 in
theorem c_X12_farmTold {l : Launch} {G : Gl} {sh : Shp} {v0 : Nat} {v1 : Int32} {Q : Mem → Prop} {m : Mem} (h : wp_X12_farmTold sh v0 v1 Q m) : Cnv l G yX12_farmTold cX12_farmTold 7 (none : Option FieldType) 6 170 sh [.ref (G.1 + v0), .int v1] m Q := by
  refine con_v (ls := [(0, .ref (G.1 + v0)), (1, .int v1)]) (by decide +kernel) rfl (Nat.le_of_ble_eq_true rfl) (fun F => ?_)
  show V G F M_X12_farmTold sh 0 0 (Zv G F sh Q) 0 [(0, .ref (G.1 + v0)), (1, .int v1)] [] m
  unfold wp_X12_farmTold at h
  refine v_aload_n 0 0 dX12_farmTold_0 rfl rfl ?_
  refine v_iconst (0 : Int32) dX12_farmTold_1 (by decide) ?_
  refine v_bipush (6 : Int32) dX12_farmTold_2 (by decide) ?_
  refine v_iload_n 1 1 dX12_farmTold_4 rfl rfl ?_
  obtain ⟨o3, h⟩ := h
  refine v_cVi [.int _, .int _, .int _] mv_X12_isFull ml_RX12_365 ⟨_, _, rfl⟩ o3 rfl rfl (Nat.le_of_ble_eq_true rfl) (Nat.le_of_ble_eq_true rfl) (Nat.le_of_ble_eq_true rfl) (Nat.zero_le _) (Nat.zero_le _) dX12_farmTold_5 (c_X12_isFull h) (fun r1 m2 h => ?_)
  refine v_if_eq 12 dX12_farmTold_8 (by decide) (fun hc => ?_) (fun hc => ?_)
  · replace h := Eq.mp (if_pos hc) h
    refine v_aload_n 0 0 dX12_farmTold_12 rfl rfl ?_
    refine v_cVl [] mv_X12_newName ml_RX12_369 ⟨_, _, rfl⟩ o3 rfl rfl (Nat.le_of_ble_eq_true rfl) (Nat.le_of_ble_eq_true rfl) (Nat.le_of_ble_eq_true rfl) (Nat.zero_le _) (Nat.zero_le _) dX12_farmTold_13 (c_X12_newName h) (fun r4 m5 h => ?_)
    refine v_lstore_n (ls' := [(2, .long _), (0, .ref _), (1, .int _)]) 2 dX12_farmTold_16 rfl (Nat.le_of_ble_eq_true rfl) rfl ?_
    refine v_aload_n 0 1 dX12_farmTold_17 rfl rfl ?_
    refine v_aload_n 0 1 dX12_farmTold_18 rfl rfl ?_
    obtain ⟨b6, e7, h⟩ := h
    refine v_gR 12 17 dX12_farmTold_19 fg_RX12_39 o3 e7 ?_
    refine v_cVv [.ref _] mv_X12_asks ml_RX12_350 ⟨_, _, rfl⟩ o3 rfl rfl (Nat.le_of_ble_eq_true rfl) (Nat.le_of_ble_eq_true rfl) (Nat.le_of_ble_eq_true rfl) (Nat.zero_le _) (Nat.zero_le _) dX12_farmTold_22 (c_X12_asks h) (fun m9 h => ?_)
    refine v_aload_n 0 1 dX12_farmTold_25 rfl rfl ?_
    refine v_cVi [] mv_X12_cellTold ml_RX12_362 ⟨_, _, rfl⟩ o3 rfl rfl (Nat.le_of_ble_eq_true rfl) (Nat.le_of_ble_eq_true rfl) (Nat.le_of_ble_eq_true rfl) (Nat.zero_le _) (Nat.zero_le _) dX12_farmTold_26 (c_X12_cellTold h) (fun r10 m11 h => ?_)
    refine v_istore (ls' := [(4, .int _), (2, .long _), (0, .ref _), (1, .int _)]) 4 dX12_farmTold_29 (Nat.le_of_ble_eq_true rfl) rfl ?_
    refine v_iconst (0 : Int32) dX12_farmTold_31 (by decide) ?_
    refine v_istore (ls' := [(5, .int _), (4, .int _), (2, .long _), (0, .ref _), (1, .int _)]) 5 dX12_farmTold_32 (Nat.le_of_ble_eq_true rfl) rfl ?_
    refine v_sub [3, 2, 1, 0] rfl ?_
    exact v_X12_farmTold_p34 h
  · replace h := Eq.mp (if_neg hc) h
    exact v_vret dX12_farmTold_11 rfl h
/-! CalledRiverModel.fault -/
theorem dX12_fault_0 : decode cX12_fault 0 = .ok (.iload_n 1, 1) := by decide +kernel
theorem dX12_fault_1 : decode cX12_fault 1 = .ok (.ifCond .ne 10, 3) := by decide +kernel
theorem dX12_fault_4 : decode cX12_fault 4 = .ok (.aload_n 0, 1) := by decide +kernel
theorem dX12_fault_5 : decode cX12_fault 5 = .ok (.getfield 417, 3) := by decide +kernel
theorem dX12_fault_8 : decode cX12_fault 8 = .ok (.goto 16, 3) := by decide +kernel
theorem dX12_fault_11 : decode cX12_fault 11 = .ok (.iload_n 1, 1) := by decide +kernel
theorem dX12_fault_12 : decode cX12_fault 12 = .ok (.iconst 1, 1) := by decide +kernel
theorem dX12_fault_13 : decode cX12_fault 13 = .ok (.if_icmp .ne 10, 3) := by decide +kernel
theorem dX12_fault_16 : decode cX12_fault 16 = .ok (.aload_n 0, 1) := by decide +kernel
theorem dX12_fault_17 : decode cX12_fault 17 = .ok (.getfield 13, 3) := by decide +kernel
theorem dX12_fault_20 : decode cX12_fault 20 = .ok (.goto 4, 3) := by decide +kernel
theorem dX12_fault_23 : decode cX12_fault 23 = .ok (.iconst (-1), 1) := by decide +kernel
theorem dX12_fault_24 : decode cX12_fault 24 = .ok (.ireturn, 1) := by decide +kernel
def wp_X12_fault (sh : Shp) (v0 : Nat) (v1 : Int32) (Q : Int32 → Mem → Prop) (m : Mem) : Prop :=
  if v1 = 0 then (Ob sh v0 12 ∧ (Q (m.1 v0 7) m)) else (if v1 = (1 : Int32) then (Ob sh v0 12 ∧ (Q (m.1 v0 8) m)) else (Q (-1 : Int32) m))
abbrev M_X12_fault : Mi := (cX12_fault, 2, RX12, (Option.some FieldType.int), "fault", 1, 60, 0, 0)
set_option maxHeartbeats 4000000 in
set_option maxRecDepth 100000 in
theorem c_X12_fault {l : Launch} {G : Gl} {sh : Shp} {v0 : Nat} {v1 : Int32} {Q : Int32 → Mem → Prop} {m : Mem} (h : wp_X12_fault sh v0 v1 Q m) : Cni l G yX12_fault cX12_fault 2 (Option.some FieldType.int) 1 60 sh [.ref (G.1 + v0), .int v1] m Q := by
  refine con_i (ls := [(0, .ref (G.1 + v0)), (1, .int v1)]) (by decide +kernel) rfl (Nat.le_of_ble_eq_true rfl) (fun F => ?_)
  show V G F M_X12_fault sh 0 0 (Zi G F sh Q) 0 [(0, .ref (G.1 + v0)), (1, .int v1)] [] m
  unfold wp_X12_fault at h
  refine v_iload_n 1 1 dX12_fault_0 rfl rfl ?_
  refine v_if_ne 11 dX12_fault_1 (by decide) (fun hc => ?_) (fun hc => ?_)
  · replace h := Eq.mp (if_neg hc) h
    refine v_iload_n 1 1 dX12_fault_11 rfl rfl ?_
    refine v_iconst (1 : Int32) dX12_fault_12 (by decide) ?_
    refine v_icmp_ne 23 dX12_fault_13 (by decide) (fun hc => ?_) (fun hc => ?_)
    · replace h := Eq.mp (if_neg hc) h
      refine v_iconst (-1 : Int32) dX12_fault_23 (by decide) ?_
      exact v_iret dX12_fault_24 rfl rfl h
    · replace h := Eq.mp (if_pos hc) h
      refine v_aload_n 0 0 dX12_fault_16 rfl rfl ?_
      obtain ⟨o1, h⟩ := h
      refine v_gI 12 8 dX12_fault_17 fg_RX12_13 o1 ?_
      refine v_goto 24 dX12_fault_20 (by decide) ?_
      exact v_iret dX12_fault_24 rfl rfl h
  · replace h := Eq.mp (if_pos hc) h
    refine v_aload_n 0 0 dX12_fault_4 rfl rfl ?_
    obtain ⟨o2, h⟩ := h
    refine v_gI 12 7 dX12_fault_5 fg_RX12_417 o2 ?_
    refine v_goto 24 dX12_fault_8 (by decide) ?_
    exact v_iret dX12_fault_24 rfl rfl h
/-! CalledRiverModel.feed -/
theorem dX12_feed_0 : decode cX12_feed 0 = .ok (.aload_n 0, 1) := by decide +kernel
theorem dX12_feed_1 : decode cX12_feed 1 = .ok (.getfield 282, 3) := by decide +kernel
theorem dX12_feed_4 : decode cX12_feed 4 = .ok (.bipush 20, 2) := by decide +kernel
theorem dX12_feed_6 : decode cX12_feed 6 = .ok (.iadd, 1) := by decide +kernel
theorem dX12_feed_7 : decode cX12_feed 7 = .ok (.sipush 1600, 3) := by decide +kernel
theorem dX12_feed_10 : decode cX12_feed 10 = .ok (.if_icmp .le 15, 3) := by decide +kernel
theorem dX12_feed_13 : decode cX12_feed 13 = .ok (.aload_n 0, 1) := by decide +kernel
theorem dX12_feed_14 : decode cX12_feed 14 = .ok (.getfield 17, 3) := by decide +kernel
theorem dX12_feed_17 : decode cX12_feed 17 = .ok (.iconst 0, 1) := by decide +kernel
theorem dX12_feed_18 : decode cX12_feed 18 = .ok (.dup2, 1) := by decide +kernel
theorem dX12_feed_19 : decode cX12_feed 19 = .ok (.iaload, 1) := by decide +kernel
theorem dX12_feed_20 : decode cX12_feed 20 = .ok (.iconst 1, 1) := by decide +kernel
theorem dX12_feed_21 : decode cX12_feed 21 = .ok (.iadd, 1) := by decide +kernel
theorem dX12_feed_22 : decode cX12_feed 22 = .ok (.iastore, 1) := by decide +kernel
theorem dX12_feed_23 : decode cX12_feed 23 = .ok (.iconst (-1), 1) := by decide +kernel
theorem dX12_feed_24 : decode cX12_feed 24 = .ok (.ireturn, 1) := by decide +kernel
theorem dX12_feed_25 : decode cX12_feed 25 = .ok (.iconst 0, 1) := by decide +kernel
theorem dX12_feed_26 : decode cX12_feed 26 = .ok (.istore 6, 2) := by decide +kernel
theorem dX12_feed_28 : decode cX12_feed 28 = .ok (.iload 6, 2) := by decide +kernel
theorem dX12_feed_30 : decode cX12_feed 30 = .ok (.bipush 20, 2) := by decide +kernel
theorem dX12_feed_32 : decode cX12_feed 32 = .ok (.if_icmp .ge 92, 3) := by decide +kernel
theorem dX12_feed_35 : decode cX12_feed 35 = .ok (.iload 6, 2) := by decide +kernel
theorem dX12_feed_37 : decode cX12_feed 37 = .ok (.iconst 4, 1) := by decide +kernel
theorem dX12_feed_38 : decode cX12_feed 38 = .ok (.if_icmp .ge 7, 3) := by decide +kernel
theorem dX12_feed_41 : decode cX12_feed 41 = .ok (.iload_n 1, 1) := by decide +kernel
theorem dX12_feed_42 : decode cX12_feed 42 = .ok (.goto 39, 3) := by decide +kernel
theorem dX12_feed_45 : decode cX12_feed 45 = .ok (.iload 6, 2) := by decide +kernel
theorem dX12_feed_47 : decode cX12_feed 47 = .ok (.bipush 8, 2) := by decide +kernel
theorem dX12_feed_49 : decode cX12_feed 49 = .ok (.if_icmp .ge 7, 3) := by decide +kernel
theorem dX12_feed_52 : decode cX12_feed 52 = .ok (.iload_n 2, 1) := by decide +kernel
theorem dX12_feed_53 : decode cX12_feed 53 = .ok (.goto 28, 3) := by decide +kernel
theorem dX12_feed_56 : decode cX12_feed 56 = .ok (.iload 6, 2) := by decide +kernel
theorem dX12_feed_58 : decode cX12_feed 58 = .ok (.bipush 12, 2) := by decide +kernel
theorem dX12_feed_60 : decode cX12_feed 60 = .ok (.if_icmp .ge 7, 3) := by decide +kernel
theorem dX12_feed_63 : decode cX12_feed 63 = .ok (.iload_n 3, 1) := by decide +kernel
theorem dX12_feed_64 : decode cX12_feed 64 = .ok (.goto 17, 3) := by decide +kernel
theorem dX12_feed_67 : decode cX12_feed 67 = .ok (.iload 6, 2) := by decide +kernel
theorem dX12_feed_69 : decode cX12_feed 69 = .ok (.bipush 16, 2) := by decide +kernel
theorem dX12_feed_71 : decode cX12_feed 71 = .ok (.if_icmp .ge 8, 3) := by decide +kernel
theorem dX12_feed_74 : decode cX12_feed 74 = .ok (.iload 4, 2) := by decide +kernel
theorem dX12_feed_76 : decode cX12_feed 76 = .ok (.goto 5, 3) := by decide +kernel
theorem dX12_feed_79 : decode cX12_feed 79 = .ok (.iload 5, 2) := by decide +kernel
theorem dX12_feed_81 : decode cX12_feed 81 = .ok (.istore 7, 2) := by decide +kernel
theorem dX12_feed_83 : decode cX12_feed 83 = .ok (.aload_n 0, 1) := by decide +kernel
theorem dX12_feed_84 : decode cX12_feed 84 = .ok (.getfield 7, 3) := by decide +kernel
theorem dX12_feed_87 : decode cX12_feed 87 = .ok (.aload_n 0, 1) := by decide +kernel
theorem dX12_feed_88 : decode cX12_feed 88 = .ok (.getfield 282, 3) := by decide +kernel
theorem dX12_feed_91 : decode cX12_feed 91 = .ok (.iload 7, 2) := by decide +kernel
theorem dX12_feed_93 : decode cX12_feed 93 = .ok (.bipush 8, 2) := by decide +kernel
theorem dX12_feed_95 : decode cX12_feed 95 = .ok (.iconst 3, 1) := by decide +kernel
theorem dX12_feed_96 : decode cX12_feed 96 = .ok (.iload 6, 2) := by decide +kernel
theorem dX12_feed_98 : decode cX12_feed 98 = .ok (.iconst 4, 1) := by decide +kernel
theorem dX12_feed_99 : decode cX12_feed 99 = .ok (.irem, 1) := by decide +kernel
theorem dX12_feed_100 : decode cX12_feed 100 = .ok (.isub, 1) := by decide +kernel
theorem dX12_feed_101 : decode cX12_feed 101 = .ok (.imul, 1) := by decide +kernel
theorem dX12_feed_102 : decode cX12_feed 102 = .ok (.ishr, 1) := by decide +kernel
theorem dX12_feed_103 : decode cX12_feed 103 = .ok (.sipush 255, 3) := by decide +kernel
theorem dX12_feed_106 : decode cX12_feed 106 = .ok (.iand, 1) := by decide +kernel
theorem dX12_feed_107 : decode cX12_feed 107 = .ok (.iastore, 1) := by decide +kernel
theorem dX12_feed_108 : decode cX12_feed 108 = .ok (.aload_n 0, 1) := by decide +kernel
theorem dX12_feed_109 : decode cX12_feed 109 = .ok (.dup, 1) := by decide +kernel
theorem dX12_feed_110 : decode cX12_feed 110 = .ok (.getfield 282, 3) := by decide +kernel
theorem dX12_feed_113 : decode cX12_feed 113 = .ok (.iconst 1, 1) := by decide +kernel
theorem dX12_feed_114 : decode cX12_feed 114 = .ok (.iadd, 1) := by decide +kernel
theorem dX12_feed_115 : decode cX12_feed 115 = .ok (.putfield 282, 3) := by decide +kernel
theorem dX12_feed_118 : decode cX12_feed 118 = .ok (.iinc 6 1, 3) := by decide +kernel
theorem dX12_feed_121 : decode cX12_feed 121 = .ok (.goto (-93), 3) := by decide +kernel
theorem dX12_feed_124 : decode cX12_feed 124 = .ok (.aload_n 0, 1) := by decide +kernel
theorem dX12_feed_125 : decode cX12_feed 125 = .ok (.getfield 282, 3) := by decide +kernel
theorem dX12_feed_128 : decode cX12_feed 128 = .ok (.ireturn, 1) := by decide +kernel
def X12_feed_p81 (sh : Shp) (v0 : Nat) (v1 : Int32) (v2 : Int32) (v3 : Int32) (v4 : Int32) (v5 : Int32) (v6 : Int32) (s0 : Int32) (Q : Int32 → Mem → Prop) (K28 : Int32 → Mem → Prop) (m : Mem) : Prop :=
  Ob sh v0 12 ∧ ∃ b8 : Nat, m.2.2 v0 0 = some b8 ∧ (Ix sh b8 100 (m.1 v0 1) ∧ bnd (sI m b8 (m.1 v0 1).toNatClampNeg ((s0 >>> (((8 : Int32) * ((3 : Int32) - (v6 - v6 / (4 : Int32) * (4 : Int32)))) &&& 31)) &&& (255 : Int32))) (fun m11 => bnd (sI m11 v0 1 ((m11.1 v0 1) + (1 : Int32))) (fun m12 => K28 (v6 + (1 : Int32)) m12)))
def X12_feed_p28b (sh : Shp) (v0 : Nat) (v1 : Int32) (v2 : Int32) (v3 : Int32) (v4 : Int32) (v5 : Int32) (Q : Int32 → Mem → Prop) (K28 : Int32 → Mem → Prop) (v6 : Int32) (m : Mem) : Prop :=
  if (20 : Int32) ≤ v6 then (Ob sh v0 12 ∧ (Q (m.1 v0 1) m)) else (if (4 : Int32) ≤ v6 then (if (8 : Int32) ≤ v6 then (if (12 : Int32) ≤ v6 then (if (16 : Int32) ≤ v6 then (X12_feed_p81 sh v0 v1 v2 v3 v4 v5 v6 v5 Q K28 m) else (X12_feed_p81 sh v0 v1 v2 v3 v4 v5 v6 v4 Q K28 m)) else (X12_feed_p81 sh v0 v1 v2 v3 v4 v5 v6 v3 Q K28 m)) else (X12_feed_p81 sh v0 v1 v2 v3 v4 v5 v6 v2 Q K28 m)) else (X12_feed_p81 sh v0 v1 v2 v3 v4 v5 v6 v1 Q K28 m))
def X12_feed_p28n (sh : Shp) (v0 : Nat) (v1 : Int32) (v2 : Int32) (v3 : Int32) (v4 : Int32) (v5 : Int32) (Q : Int32 → Mem → Prop) : Nat → Int32 → Mem → Prop
  | 0 => fun _ _ => False
  | n + 1 => X12_feed_p28b sh v0 v1 v2 v3 v4 v5 Q (X12_feed_p28n sh v0 v1 v2 v3 v4 v5 Q n)
def X12_feed_p28 (sh : Shp) (v0 : Nat) (v1 : Int32) (v2 : Int32) (v3 : Int32) (v4 : Int32) (v5 : Int32) (Q : Int32 → Mem → Prop) (v6 : Int32) (m : Mem) : Prop := ∃ n, X12_feed_p28n sh v0 v1 v2 v3 v4 v5 Q n v6 m
def wp_X12_feed (sh : Shp) (v0 : Nat) (v1 : Int32) (v2 : Int32) (v3 : Int32) (v4 : Int32) (v5 : Int32) (Q : Int32 → Mem → Prop) (m : Mem) : Prop :=
  Ob sh v0 12 ∧ (if ((m.1 v0 1) + (20 : Int32)) ≤ (1600 : Int32) then (X12_feed_p28 sh v0 v1 v2 v3 v4 v5 Q (0 : Int32) m) else (∃ b2 : Nat, m.2.2 v0 9 = some b2 ∧ (Ix sh b2 100 (0 : Int32) ∧ (bnd (sI m b2 (0 : Int32).toNatClampNeg ((m.1 b2 (0 : Int32).toNatClampNeg) + (1 : Int32))) (fun m5 => Q (-1 : Int32) m5)))))
abbrev M_X12_feed : Mi := (cX12_feed, 8, RX12, (Option.some FieldType.int), "feed", 1, 60, 0, 0)
set_option maxHeartbeats 4000000 in
set_option maxRecDepth 100000 in
theorem v_X12_feed_p81 {G : Gl} {F : Fr} {sh : Shp} {v0 : Nat} {v1 : Int32} {v2 : Int32} {v3 : Int32} {v4 : Int32} {v5 : Int32} {v6 : Int32} {s0 : Int32} {Q : Int32 → Mem → Prop} {K28 : Int32 → Mem → Prop} {m : Mem} (hK28 : ∀ (x6 : Int32) (m : Mem), K28 x6 m → V G F M_X12_feed sh 0 0 (Zi G F sh Q) 28 [(0, .ref (G.1 + v0)), (1, .int v1), (2, .int v2), (3, .int v3), (4, .int v4), (5, .int v5), (6, .int x6)] [] m) (h : X12_feed_p81 sh v0 v1 v2 v3 v4 v5 v6 s0 Q K28 m) : V G F M_X12_feed sh 0 0 (Zi G F sh Q) 81 [(0, .ref (G.1 + v0)), (1, .int v1), (2, .int v2), (3, .int v3), (4, .int v4), (5, .int v5), (6, .int v6)] [.int s0] m := by
  unfold X12_feed_p81 at h
  refine v_istore (ls' := [(7, .int _), (0, .ref _), (1, .int _), (2, .int _), (3, .int _), (4, .int _), (5, .int _), (6, .int _)]) 7 dX12_feed_81 (Nat.le_of_ble_eq_true rfl) rfl ?_
  refine v_aload_n 0 1 dX12_feed_83 rfl rfl ?_
  obtain ⟨o7, h⟩ := h
  obtain ⟨b8, e9, h⟩ := h
  refine v_gR 12 0 dX12_feed_84 fg_RX12_7 o7 e9 ?_
  refine v_aload_n 0 1 dX12_feed_87 rfl rfl ?_
  refine v_gI 12 1 dX12_feed_88 fg_RX12_282 o7 ?_
  refine v_iload 7 0 dX12_feed_91 rfl ?_
  refine v_bipush (8 : Int32) dX12_feed_93 (by decide) ?_
  refine v_iconst (3 : Int32) dX12_feed_95 (by decide) ?_
  refine v_iload 6 7 dX12_feed_96 rfl ?_
  refine v_iconst (4 : Int32) dX12_feed_98 (by decide) ?_
  refine v_irem dX12_feed_99 (by decide) ?_
  refine v_isub dX12_feed_100 ?_
  refine v_imul dX12_feed_101 ?_
  refine v_ishr dX12_feed_102 ?_
  refine v_sipush (255 : Int32) dX12_feed_103 (by decide) ?_
  refine v_iand dX12_feed_106 ?_
  obtain ⟨i10, h⟩ := h
  refine v_iast dX12_feed_107 i10 ?_
  replace h := bnd_e h
  refine v_aload_n 0 1 dX12_feed_108 rfl rfl ?_
  refine v_dup dX12_feed_109 rfl ?_
  refine v_gI 12 1 dX12_feed_110 fg_RX12_282 o7 ?_
  refine v_iconst (1 : Int32) dX12_feed_113 (by decide) ?_
  refine v_iadd dX12_feed_114 ?_
  refine v_pI 12 1 dX12_feed_115 fw_RX12_282 o7 ?_
  replace h := bnd_e h
  refine v_iinc (ls' := [(6, .int _), (7, .int _), (0, .ref _), (1, .int _), (2, .int _), (3, .int _), (4, .int _), (5, .int _)]) 6 7 dX12_feed_118 rfl (congrArg (HAdd.hAdd _) (by decide : Int32.ofInt (1) = (1 : Int32))) (Nat.le_of_ble_eq_true rfl) rfl ?_
  refine v_goto 28 dX12_feed_121 (by decide) ?_
  refine v_sub [2, 3, 4, 5, 6, 7, 0] rfl ?_
  exact hK28 _ _ h
set_option maxHeartbeats 4000000 in
set_option maxRecDepth 100000 in
theorem v_X12_feed_p28b {G : Gl} {F : Fr} {sh : Shp} {v0 : Nat} {v1 : Int32} {v2 : Int32} {v3 : Int32} {v4 : Int32} {v5 : Int32} {v6 : Int32} {Q : Int32 → Mem → Prop} {K28 : Int32 → Mem → Prop} {m : Mem} (hK28 : ∀ (x6 : Int32) (m : Mem), K28 x6 m → V G F M_X12_feed sh 0 0 (Zi G F sh Q) 28 [(0, .ref (G.1 + v0)), (1, .int v1), (2, .int v2), (3, .int v3), (4, .int v4), (5, .int v5), (6, .int x6)] [] m) (h : X12_feed_p28b sh v0 v1 v2 v3 v4 v5 Q K28 v6 m) : V G F M_X12_feed sh 0 0 (Zi G F sh Q) 28 [(0, .ref (G.1 + v0)), (1, .int v1), (2, .int v2), (3, .int v3), (4, .int v4), (5, .int v5), (6, .int v6)] [] m := by
  unfold X12_feed_p28b at h
  refine v_iload 6 6 dX12_feed_28 rfl ?_
  refine v_bipush (20 : Int32) dX12_feed_30 (by decide) ?_
  refine v_icmp_ge 124 dX12_feed_32 (by decide) (fun hc => ?_) (fun hc => ?_)
  · replace h := Eq.mp (if_pos hc) h
    refine v_aload_n 0 0 dX12_feed_124 rfl rfl ?_
    obtain ⟨o6, h⟩ := h
    refine v_gI 12 1 dX12_feed_125 fg_RX12_282 o6 ?_
    exact v_iret dX12_feed_128 rfl rfl h
  · replace h := Eq.mp (if_neg hc) h
    refine v_iload 6 6 dX12_feed_35 rfl ?_
    refine v_iconst (4 : Int32) dX12_feed_37 (by decide) ?_
    refine v_icmp_ge 45 dX12_feed_38 (by decide) (fun hc => ?_) (fun hc => ?_)
    · replace h := Eq.mp (if_pos hc) h
      refine v_iload 6 6 dX12_feed_45 rfl ?_
      refine v_bipush (8 : Int32) dX12_feed_47 (by decide) ?_
      refine v_icmp_ge 56 dX12_feed_49 (by decide) (fun hc => ?_) (fun hc => ?_)
      · replace h := Eq.mp (if_pos hc) h
        refine v_iload 6 6 dX12_feed_56 rfl ?_
        refine v_bipush (12 : Int32) dX12_feed_58 (by decide) ?_
        refine v_icmp_ge 67 dX12_feed_60 (by decide) (fun hc => ?_) (fun hc => ?_)
        · replace h := Eq.mp (if_pos hc) h
          refine v_iload 6 6 dX12_feed_67 rfl ?_
          refine v_bipush (16 : Int32) dX12_feed_69 (by decide) ?_
          refine v_icmp_ge 79 dX12_feed_71 (by decide) (fun hc => ?_) (fun hc => ?_)
          · replace h := Eq.mp (if_pos hc) h
            refine v_iload 5 5 dX12_feed_79 rfl ?_
            refine v_sub [0, 1, 2, 3, 4, 5, 6] rfl ?_
            exact v_X12_feed_p81 hK28 h
          · replace h := Eq.mp (if_neg hc) h
            refine v_iload 4 4 dX12_feed_74 rfl ?_
            refine v_goto 81 dX12_feed_76 (by decide) ?_
            refine v_sub [0, 1, 2, 3, 4, 5, 6] rfl ?_
            exact v_X12_feed_p81 hK28 h
        · replace h := Eq.mp (if_neg hc) h
          refine v_iload_n 3 3 dX12_feed_63 rfl rfl ?_
          refine v_goto 81 dX12_feed_64 (by decide) ?_
          refine v_sub [0, 1, 2, 3, 4, 5, 6] rfl ?_
          exact v_X12_feed_p81 hK28 h
      · replace h := Eq.mp (if_neg hc) h
        refine v_iload_n 2 2 dX12_feed_52 rfl rfl ?_
        refine v_goto 81 dX12_feed_53 (by decide) ?_
        refine v_sub [0, 1, 2, 3, 4, 5, 6] rfl ?_
        exact v_X12_feed_p81 hK28 h
    · replace h := Eq.mp (if_neg hc) h
      refine v_iload_n 1 1 dX12_feed_41 rfl rfl ?_
      refine v_goto 81 dX12_feed_42 (by decide) ?_
      refine v_sub [0, 1, 2, 3, 4, 5, 6] rfl ?_
      exact v_X12_feed_p81 hK28 h
set_option maxHeartbeats 4000000 in
set_option maxRecDepth 100000 in
theorem v_X12_feed_p28 {G : Gl} {F : Fr} {sh : Shp} {v0 : Nat} {v1 : Int32} {v2 : Int32} {v3 : Int32} {v4 : Int32} {v5 : Int32} {v6 : Int32} {Q : Int32 → Mem → Prop} {m : Mem} (h : X12_feed_p28 sh v0 v1 v2 v3 v4 v5 Q v6 m) : V G F M_X12_feed sh 0 0 (Zi G F sh Q) 28 [(0, .ref (G.1 + v0)), (1, .int v1), (2, .int v2), (3, .int v3), (4, .int v4), (5, .int v5), (6, .int v6)] [] m := by
  obtain ⟨n, h⟩ := h
  induction n generalizing v6 m with
  | zero => exact h.elim
  | succ n ih => exact v_X12_feed_p28b (fun _ _ h => ih h) h
set_option maxHeartbeats 4000000 in
set_option maxRecDepth 100000 in
theorem c_X12_feed {l : Launch} {G : Gl} {sh : Shp} {v0 : Nat} {v1 : Int32} {v2 : Int32} {v3 : Int32} {v4 : Int32} {v5 : Int32} {Q : Int32 → Mem → Prop} {m : Mem} (h : wp_X12_feed sh v0 v1 v2 v3 v4 v5 Q m) : Cni l G yX12_feed cX12_feed 8 (Option.some FieldType.int) 1 60 sh [.ref (G.1 + v0), .int v1, .int v2, .int v3, .int v4, .int v5] m Q := by
  refine con_i (ls := [(0, .ref (G.1 + v0)), (1, .int v1), (2, .int v2), (3, .int v3), (4, .int v4), (5, .int v5)]) (by decide +kernel) rfl (Nat.le_of_ble_eq_true rfl) (fun F => ?_)
  show V G F M_X12_feed sh 0 0 (Zi G F sh Q) 0 [(0, .ref (G.1 + v0)), (1, .int v1), (2, .int v2), (3, .int v3), (4, .int v4), (5, .int v5)] [] m
  unfold wp_X12_feed at h
  refine v_aload_n 0 0 dX12_feed_0 rfl rfl ?_
  obtain ⟨o1, h⟩ := h
  refine v_gI 12 1 dX12_feed_1 fg_RX12_282 o1 ?_
  refine v_bipush (20 : Int32) dX12_feed_4 (by decide) ?_
  refine v_iadd dX12_feed_6 ?_
  refine v_sipush (1600 : Int32) dX12_feed_7 (by decide) ?_
  refine v_icmp_le 25 dX12_feed_10 (by decide) (fun hc => ?_) (fun hc => ?_)
  · replace h := Eq.mp (if_pos hc) h
    refine v_iconst (0 : Int32) dX12_feed_25 (by decide) ?_
    refine v_istore (ls' := [(6, .int _), (0, .ref _), (1, .int _), (2, .int _), (3, .int _), (4, .int _), (5, .int _)]) 6 dX12_feed_26 (Nat.le_of_ble_eq_true rfl) rfl ?_
    refine v_sub [1, 2, 3, 4, 5, 6, 0] rfl ?_
    exact v_X12_feed_p28 h
  · replace h := Eq.mp (if_neg hc) h
    refine v_aload_n 0 0 dX12_feed_13 rfl rfl ?_
    obtain ⟨b2, e3, h⟩ := h
    refine v_gR 12 9 dX12_feed_14 fg_RX12_17 o1 e3 ?_
    refine v_iconst (0 : Int32) dX12_feed_17 (by decide) ?_
    refine v_dup2 dX12_feed_18 rfl rfl ?_
    obtain ⟨i4, h⟩ := h
    refine v_iald dX12_feed_19 i4 ?_
    refine v_iconst (1 : Int32) dX12_feed_20 (by decide) ?_
    refine v_iadd dX12_feed_21 ?_
    refine v_iast dX12_feed_22 i4 ?_
    replace h := bnd_e h
    refine v_iconst (-1 : Int32) dX12_feed_23 (by decide) ?_
    exact v_iret dX12_feed_24 rfl rfl h
/-! CalledRiverModel.pieAll -/
theorem dX12_pieAll_0 : decode cX12_pieAll 0 = .ok (.iconst 0, 1) := by decide +kernel
theorem dX12_pieAll_1 : decode cX12_pieAll 1 = .ok (.istore_n 1, 1) := by decide +kernel
theorem dX12_pieAll_2 : decode cX12_pieAll 2 = .ok (.iconst 0, 1) := by decide +kernel
theorem dX12_pieAll_3 : decode cX12_pieAll 3 = .ok (.istore_n 2, 1) := by decide +kernel
theorem dX12_pieAll_4 : decode cX12_pieAll 4 = .ok (.iload_n 2, 1) := by decide +kernel
theorem dX12_pieAll_5 : decode cX12_pieAll 5 = .ok (.aload_n 0, 1) := by decide +kernel
theorem dX12_pieAll_6 : decode cX12_pieAll 6 = .ok (.invokevirtual 436, 3) := by decide +kernel
theorem dX12_pieAll_9 : decode cX12_pieAll 9 = .ok (.if_icmp .ge 17, 3) := by decide +kernel
theorem dX12_pieAll_12 : decode cX12_pieAll 12 = .ok (.iload_n 1, 1) := by decide +kernel
theorem dX12_pieAll_13 : decode cX12_pieAll 13 = .ok (.aload_n 0, 1) := by decide +kernel
theorem dX12_pieAll_14 : decode cX12_pieAll 14 = .ok (.iload_n 2, 1) := by decide +kernel
theorem dX12_pieAll_15 : decode cX12_pieAll 15 = .ok (.invokevirtual 449, 3) := by decide +kernel
theorem dX12_pieAll_18 : decode cX12_pieAll 18 = .ok (.iadd, 1) := by decide +kernel
theorem dX12_pieAll_19 : decode cX12_pieAll 19 = .ok (.istore_n 1, 1) := by decide +kernel
theorem dX12_pieAll_20 : decode cX12_pieAll 20 = .ok (.iinc 2 1, 3) := by decide +kernel
theorem dX12_pieAll_23 : decode cX12_pieAll 23 = .ok (.goto (-19), 3) := by decide +kernel
theorem dX12_pieAll_26 : decode cX12_pieAll 26 = .ok (.iload_n 1, 1) := by decide +kernel
theorem dX12_pieAll_27 : decode cX12_pieAll 27 = .ok (.ireturn, 1) := by decide +kernel
def X12_pieAll_p4b (sh : Shp) (v0 : Nat) (Q : Int32 → Mem → Prop) (K4 : Int32 → Int32 → Mem → Prop) (v1 : Int32) (v2 : Int32) (m : Mem) : Prop :=
  Ob sh v0 12 ∧ wp_X12_farmMany sh v0 (fun r1 m2 => if r1 ≤ v2 then (Q v1 m2) else (wp_X12_pieOf sh v0 v2 (fun r4 m5 => K4 (v1 + r4) (v2 + (1 : Int32)) m5) m2)) m
def X12_pieAll_p4n (sh : Shp) (v0 : Nat) (Q : Int32 → Mem → Prop) : Nat → Int32 → Int32 → Mem → Prop
  | 0 => fun _ _ _ => False
  | n + 1 => X12_pieAll_p4b sh v0 Q (X12_pieAll_p4n sh v0 Q n)
def X12_pieAll_p4 (sh : Shp) (v0 : Nat) (Q : Int32 → Mem → Prop) (v1 : Int32) (v2 : Int32) (m : Mem) : Prop := ∃ n, X12_pieAll_p4n sh v0 Q n v1 v2 m
def wp_X12_pieAll (sh : Shp) (v0 : Nat) (Q : Int32 → Mem → Prop) (m : Mem) : Prop :=
  X12_pieAll_p4 sh v0 Q (0 : Int32) (0 : Int32) m
abbrev M_X12_pieAll : Mi := (cX12_pieAll, 3, RX12, (Option.some FieldType.int), "pieAll", 2, 81, 0, 0)
set_option maxHeartbeats 4000000 in
set_option maxRecDepth 100000 in
theorem v_X12_pieAll_p4b {G : Gl} {F : Fr} {sh : Shp} {v0 : Nat} {v1 : Int32} {v2 : Int32} {Q : Int32 → Mem → Prop} {K4 : Int32 → Int32 → Mem → Prop} {m : Mem} (hK4 : ∀ (x1 : Int32) (x2 : Int32) (m : Mem), K4 x1 x2 m → V G F M_X12_pieAll sh 0 0 (Zi G F sh Q) 4 [(0, .ref (G.1 + v0)), (1, .int x1), (2, .int x2)] [] m) (h : X12_pieAll_p4b sh v0 Q K4 v1 v2 m) : V G F M_X12_pieAll sh 0 0 (Zi G F sh Q) 4 [(0, .ref (G.1 + v0)), (1, .int v1), (2, .int v2)] [] m := by
  unfold X12_pieAll_p4b at h
  refine v_iload_n 2 2 dX12_pieAll_4 rfl rfl ?_
  refine v_aload_n 0 0 dX12_pieAll_5 rfl rfl ?_
  obtain ⟨o3, h⟩ := h
  refine v_cVi [] mv_X12_farmMany ml_RX12_436 ⟨_, _, rfl⟩ o3 rfl rfl (Nat.le_of_ble_eq_true rfl) (Nat.le_of_ble_eq_true rfl) (Nat.le_of_ble_eq_true rfl) (Nat.zero_le _) (Nat.zero_le _) dX12_pieAll_6 (c_X12_farmMany h) (fun r1 m2 h => ?_)
  refine v_icmp_ge 26 dX12_pieAll_9 (by decide) (fun hc => ?_) (fun hc => ?_)
  · replace h := Eq.mp (if_pos hc) h
    refine v_iload_n 1 1 dX12_pieAll_26 rfl rfl ?_
    exact v_iret dX12_pieAll_27 rfl rfl h
  · replace h := Eq.mp (if_neg hc) h
    refine v_iload_n 1 1 dX12_pieAll_12 rfl rfl ?_
    refine v_aload_n 0 0 dX12_pieAll_13 rfl rfl ?_
    refine v_iload_n 2 2 dX12_pieAll_14 rfl rfl ?_
    refine v_cVi [.int _] mv_X12_pieOf ml_RX12_449 ⟨_, _, rfl⟩ o3 rfl rfl (Nat.le_of_ble_eq_true rfl) (Nat.le_of_ble_eq_true rfl) (Nat.le_of_ble_eq_true rfl) (Nat.zero_le _) (Nat.zero_le _) dX12_pieAll_15 (c_X12_pieOf h) (fun r4 m5 h => ?_)
    refine v_iadd dX12_pieAll_18 ?_
    refine v_istore_n (ls' := [(1, .int _), (0, .ref _), (2, .int _)]) 1 dX12_pieAll_19 rfl (Nat.le_of_ble_eq_true rfl) rfl ?_
    refine v_iinc (ls' := [(2, .int _), (1, .int _), (0, .ref _)]) 2 2 dX12_pieAll_20 rfl (congrArg (HAdd.hAdd _) (by decide : Int32.ofInt (1) = (1 : Int32))) (Nat.le_of_ble_eq_true rfl) rfl ?_
    refine v_goto 4 dX12_pieAll_23 (by decide) ?_
    refine v_sub [2, 1, 0] rfl ?_
    exact hK4 _ _ _ h
set_option maxHeartbeats 4000000 in
set_option maxRecDepth 100000 in
theorem v_X12_pieAll_p4 {G : Gl} {F : Fr} {sh : Shp} {v0 : Nat} {v1 : Int32} {v2 : Int32} {Q : Int32 → Mem → Prop} {m : Mem} (h : X12_pieAll_p4 sh v0 Q v1 v2 m) : V G F M_X12_pieAll sh 0 0 (Zi G F sh Q) 4 [(0, .ref (G.1 + v0)), (1, .int v1), (2, .int v2)] [] m := by
  obtain ⟨n, h⟩ := h
  induction n generalizing v1 v2 m with
  | zero => exact h.elim
  | succ n ih => exact v_X12_pieAll_p4b (fun _ _ _ h => ih h) h
set_option maxHeartbeats 4000000 in
set_option maxRecDepth 100000 in
theorem c_X12_pieAll {l : Launch} {G : Gl} {sh : Shp} {v0 : Nat} {Q : Int32 → Mem → Prop} {m : Mem} (h : wp_X12_pieAll sh v0 Q m) : Cni l G yX12_pieAll cX12_pieAll 3 (Option.some FieldType.int) 2 81 sh [.ref (G.1 + v0)] m Q := by
  refine con_i (ls := [(0, .ref (G.1 + v0))]) (by decide +kernel) rfl (Nat.le_of_ble_eq_true rfl) (fun F => ?_)
  show V G F M_X12_pieAll sh 0 0 (Zi G F sh Q) 0 [(0, .ref (G.1 + v0))] [] m
  unfold wp_X12_pieAll at h
  refine v_iconst (0 : Int32) dX12_pieAll_0 (by decide) ?_
  refine v_istore_n (ls' := [(1, .int _), (0, .ref _)]) 1 dX12_pieAll_1 rfl (Nat.le_of_ble_eq_true rfl) rfl ?_
  refine v_iconst (0 : Int32) dX12_pieAll_2 (by decide) ?_
  refine v_istore_n (ls' := [(2, .int _), (1, .int _), (0, .ref _)]) 2 dX12_pieAll_3 rfl (Nat.le_of_ble_eq_true rfl) rfl ?_
  refine v_sub [2, 1, 0] rfl ?_
  exact v_X12_pieAll_p4 h
/-! CalledRiverModel.stoneMany -/
theorem dX12_stoneMany_0 : decode cX12_stoneMany 0 = .ok (.iconst 0, 1) := by decide +kernel
theorem dX12_stoneMany_1 : decode cX12_stoneMany 1 = .ok (.istore_n 1, 1) := by decide +kernel
theorem dX12_stoneMany_2 : decode cX12_stoneMany 2 = .ok (.iconst 0, 1) := by decide +kernel
theorem dX12_stoneMany_3 : decode cX12_stoneMany 3 = .ok (.istore_n 2, 1) := by decide +kernel
theorem dX12_stoneMany_4 : decode cX12_stoneMany 4 = .ok (.iload_n 2, 1) := by decide +kernel
theorem dX12_stoneMany_5 : decode cX12_stoneMany 5 = .ok (.bipush 36, 2) := by decide +kernel
theorem dX12_stoneMany_7 : decode cX12_stoneMany 7 = .ok (.if_icmp .ge 22, 3) := by decide +kernel
theorem dX12_stoneMany_10 : decode cX12_stoneMany 10 = .ok (.iload_n 1, 1) := by decide +kernel
theorem dX12_stoneMany_11 : decode cX12_stoneMany 11 = .ok (.aload_n 0, 1) := by decide +kernel
theorem dX12_stoneMany_12 : decode cX12_stoneMany 12 = .ok (.getfield 143, 3) := by decide +kernel
theorem dX12_stoneMany_15 : decode cX12_stoneMany 15 = .ok (.iconst 2, 1) := by decide +kernel
theorem dX12_stoneMany_16 : decode cX12_stoneMany 16 = .ok (.iconst 3, 1) := by decide +kernel
theorem dX12_stoneMany_17 : decode cX12_stoneMany 17 = .ok (.iload_n 2, 1) := by decide +kernel
theorem dX12_stoneMany_18 : decode cX12_stoneMany 18 = .ok (.imul, 1) := by decide +kernel
theorem dX12_stoneMany_19 : decode cX12_stoneMany 19 = .ok (.iadd, 1) := by decide +kernel
theorem dX12_stoneMany_20 : decode cX12_stoneMany 20 = .ok (.iaload, 1) := by decide +kernel
theorem dX12_stoneMany_21 : decode cX12_stoneMany 21 = .ok (.iadd, 1) := by decide +kernel
theorem dX12_stoneMany_22 : decode cX12_stoneMany 22 = .ok (.istore_n 1, 1) := by decide +kernel
theorem dX12_stoneMany_23 : decode cX12_stoneMany 23 = .ok (.iinc 2 1, 3) := by decide +kernel
theorem dX12_stoneMany_26 : decode cX12_stoneMany 26 = .ok (.goto (-22), 3) := by decide +kernel
theorem dX12_stoneMany_29 : decode cX12_stoneMany 29 = .ok (.iload_n 1, 1) := by decide +kernel
theorem dX12_stoneMany_30 : decode cX12_stoneMany 30 = .ok (.ireturn, 1) := by decide +kernel
def X12_stoneMany_p4b (sh : Shp) (v0 : Nat) (Q : Int32 → Mem → Prop) (K4 : Int32 → Int32 → Mem → Prop) (v1 : Int32) (v2 : Int32) (m : Mem) : Prop :=
  if (36 : Int32) ≤ v2 then (Q v1 m) else (Ob sh v0 12 ∧ ∃ b2 : Nat, m.2.2 v0 58 = some b2 ∧ (Ix sh b2 100 ((2 : Int32) + ((3 : Int32) * v2)) ∧ (K4 (v1 + (m.1 b2 ((2 : Int32) + ((3 : Int32) * v2)).toNatClampNeg)) (v2 + (1 : Int32)) m)))
def X12_stoneMany_p4n (sh : Shp) (v0 : Nat) (Q : Int32 → Mem → Prop) : Nat → Int32 → Int32 → Mem → Prop
  | 0 => fun _ _ _ => False
  | n + 1 => X12_stoneMany_p4b sh v0 Q (X12_stoneMany_p4n sh v0 Q n)
def X12_stoneMany_p4 (sh : Shp) (v0 : Nat) (Q : Int32 → Mem → Prop) (v1 : Int32) (v2 : Int32) (m : Mem) : Prop := ∃ n, X12_stoneMany_p4n sh v0 Q n v1 v2 m
def wp_X12_stoneMany (sh : Shp) (v0 : Nat) (Q : Int32 → Mem → Prop) (m : Mem) : Prop :=
  X12_stoneMany_p4 sh v0 Q (0 : Int32) (0 : Int32) m
abbrev M_X12_stoneMany : Mi := (cX12_stoneMany, 3, RX12, (Option.some FieldType.int), "stoneMany", 1, 60, 0, 0)
set_option maxHeartbeats 4000000 in
set_option maxRecDepth 100000 in
theorem v_X12_stoneMany_p4b {G : Gl} {F : Fr} {sh : Shp} {v0 : Nat} {v1 : Int32} {v2 : Int32} {Q : Int32 → Mem → Prop} {K4 : Int32 → Int32 → Mem → Prop} {m : Mem} (hK4 : ∀ (x1 : Int32) (x2 : Int32) (m : Mem), K4 x1 x2 m → V G F M_X12_stoneMany sh 0 0 (Zi G F sh Q) 4 [(0, .ref (G.1 + v0)), (1, .int x1), (2, .int x2)] [] m) (h : X12_stoneMany_p4b sh v0 Q K4 v1 v2 m) : V G F M_X12_stoneMany sh 0 0 (Zi G F sh Q) 4 [(0, .ref (G.1 + v0)), (1, .int v1), (2, .int v2)] [] m := by
  unfold X12_stoneMany_p4b at h
  refine v_iload_n 2 2 dX12_stoneMany_4 rfl rfl ?_
  refine v_bipush (36 : Int32) dX12_stoneMany_5 (by decide) ?_
  refine v_icmp_ge 29 dX12_stoneMany_7 (by decide) (fun hc => ?_) (fun hc => ?_)
  · replace h := Eq.mp (if_pos hc) h
    refine v_iload_n 1 1 dX12_stoneMany_29 rfl rfl ?_
    exact v_iret dX12_stoneMany_30 rfl rfl h
  · replace h := Eq.mp (if_neg hc) h
    refine v_iload_n 1 1 dX12_stoneMany_10 rfl rfl ?_
    refine v_aload_n 0 0 dX12_stoneMany_11 rfl rfl ?_
    obtain ⟨o1, h⟩ := h
    obtain ⟨b2, e3, h⟩ := h
    refine v_gR 12 58 dX12_stoneMany_12 fg_RX12_143 o1 e3 ?_
    refine v_iconst (2 : Int32) dX12_stoneMany_15 (by decide) ?_
    refine v_iconst (3 : Int32) dX12_stoneMany_16 (by decide) ?_
    refine v_iload_n 2 2 dX12_stoneMany_17 rfl rfl ?_
    refine v_imul dX12_stoneMany_18 ?_
    refine v_iadd dX12_stoneMany_19 ?_
    obtain ⟨i4, h⟩ := h
    refine v_iald dX12_stoneMany_20 i4 ?_
    refine v_iadd dX12_stoneMany_21 ?_
    refine v_istore_n (ls' := [(1, .int _), (0, .ref _), (2, .int _)]) 1 dX12_stoneMany_22 rfl (Nat.le_of_ble_eq_true rfl) rfl ?_
    refine v_iinc (ls' := [(2, .int _), (1, .int _), (0, .ref _)]) 2 2 dX12_stoneMany_23 rfl (congrArg (HAdd.hAdd _) (by decide : Int32.ofInt (1) = (1 : Int32))) (Nat.le_of_ble_eq_true rfl) rfl ?_
    refine v_goto 4 dX12_stoneMany_26 (by decide) ?_
    refine v_sub [2, 1, 0] rfl ?_
    exact hK4 _ _ _ h
set_option maxHeartbeats 4000000 in
set_option maxRecDepth 100000 in
theorem v_X12_stoneMany_p4 {G : Gl} {F : Fr} {sh : Shp} {v0 : Nat} {v1 : Int32} {v2 : Int32} {Q : Int32 → Mem → Prop} {m : Mem} (h : X12_stoneMany_p4 sh v0 Q v1 v2 m) : V G F M_X12_stoneMany sh 0 0 (Zi G F sh Q) 4 [(0, .ref (G.1 + v0)), (1, .int v1), (2, .int v2)] [] m := by
  obtain ⟨n, h⟩ := h
  induction n generalizing v1 v2 m with
  | zero => exact h.elim
  | succ n ih => exact v_X12_stoneMany_p4b (fun _ _ _ h => ih h) h
set_option maxHeartbeats 4000000 in
set_option maxRecDepth 100000 in
theorem c_X12_stoneMany {l : Launch} {G : Gl} {sh : Shp} {v0 : Nat} {Q : Int32 → Mem → Prop} {m : Mem} (h : wp_X12_stoneMany sh v0 Q m) : Cni l G yX12_stoneMany cX12_stoneMany 3 (Option.some FieldType.int) 1 60 sh [.ref (G.1 + v0)] m Q := by
  refine con_i (ls := [(0, .ref (G.1 + v0))]) (by decide +kernel) rfl (Nat.le_of_ble_eq_true rfl) (fun F => ?_)
  show V G F M_X12_stoneMany sh 0 0 (Zi G F sh Q) 0 [(0, .ref (G.1 + v0))] [] m
  unfold wp_X12_stoneMany at h
  refine v_iconst (0 : Int32) dX12_stoneMany_0 (by decide) ?_
  refine v_istore_n (ls' := [(1, .int _), (0, .ref _)]) 1 dX12_stoneMany_1 rfl (Nat.le_of_ble_eq_true rfl) rfl ?_
  refine v_iconst (0 : Int32) dX12_stoneMany_2 (by decide) ?_
  refine v_istore_n (ls' := [(2, .int _), (1, .int _), (0, .ref _)]) 2 dX12_stoneMany_3 rfl (Nat.le_of_ble_eq_true rfl) rfl ?_
  refine v_sub [2, 1, 0] rfl ?_
  exact v_X12_stoneMany_p4 h
/-! CalledRiverModel.has -/
theorem dX12_has_0 : decode cX12_has 0 = .ok (.iload_n 1, 1) := by decide +kernel
theorem dX12_has_1 : decode cX12_has 1 = .ok (.tableswitch 126 0 10 #[59, 59, 68, 68, 75, 82, 87, 103, 108, 116, 121], 59) := by decide +kernel
theorem dX12_has_60 : decode cX12_has 60 = .ok (.aload_n 0, 1) := by decide +kernel
theorem dX12_has_61 : decode cX12_has 61 = .ok (.getfield 111, 3) := by decide +kernel
theorem dX12_has_64 : decode cX12_has 64 = .ok (.iconst 2, 1) := by decide +kernel
theorem dX12_has_65 : decode cX12_has 65 = .ok (.iload_n 1, 1) := by decide +kernel
theorem dX12_has_66 : decode cX12_has 66 = .ok (.iadd, 1) := by decide +kernel
theorem dX12_has_67 : decode cX12_has 67 = .ok (.iaload, 1) := by decide +kernel
theorem dX12_has_68 : decode cX12_has 68 = .ok (.ireturn, 1) := by decide +kernel
theorem dX12_has_69 : decode cX12_has 69 = .ok (.aload_n 0, 1) := by decide +kernel
theorem dX12_has_70 : decode cX12_has 70 = .ok (.getfield 114, 3) := by decide +kernel
theorem dX12_has_73 : decode cX12_has 73 = .ok (.iload_n 1, 1) := by decide +kernel
theorem dX12_has_74 : decode cX12_has 74 = .ok (.iaload, 1) := by decide +kernel
theorem dX12_has_75 : decode cX12_has 75 = .ok (.ireturn, 1) := by decide +kernel
theorem dX12_has_76 : decode cX12_has 76 = .ok (.aload_n 0, 1) := by decide +kernel
theorem dX12_has_77 : decode cX12_has 77 = .ok (.getfield 143, 3) := by decide +kernel
theorem dX12_has_80 : decode cX12_has 80 = .ok (.iconst 0, 1) := by decide +kernel
theorem dX12_has_81 : decode cX12_has 81 = .ok (.iaload, 1) := by decide +kernel
theorem dX12_has_82 : decode cX12_has 82 = .ok (.ireturn, 1) := by decide +kernel
theorem dX12_has_83 : decode cX12_has 83 = .ok (.aload_n 0, 1) := by decide +kernel
theorem dX12_has_84 : decode cX12_has 84 = .ok (.invokevirtual 544, 3) := by decide +kernel
theorem dX12_has_87 : decode cX12_has 87 = .ok (.ireturn, 1) := by decide +kernel
theorem dX12_has_88 : decode cX12_has 88 = .ok (.aload_n 0, 1) := by decide +kernel
theorem dX12_has_89 : decode cX12_has 89 = .ok (.getfield 423, 3) := by decide +kernel
theorem dX12_has_92 : decode cX12_has 92 = .ok (.ifCond .eq 10, 3) := by decide +kernel
theorem dX12_has_95 : decode cX12_has 95 = .ok (.aload_n 0, 1) := by decide +kernel
theorem dX12_has_96 : decode cX12_has 96 = .ok (.getfield 427, 3) := by decide +kernel
theorem dX12_has_99 : decode cX12_has 99 = .ok (.goto 4, 3) := by decide +kernel
theorem dX12_has_102 : decode cX12_has 102 = .ok (.iconst (-1), 1) := by decide +kernel
theorem dX12_has_103 : decode cX12_has 103 = .ok (.ireturn, 1) := by decide +kernel
theorem dX12_has_104 : decode cX12_has 104 = .ok (.aload_n 0, 1) := by decide +kernel
theorem dX12_has_105 : decode cX12_has 105 = .ok (.invokevirtual 547, 3) := by decide +kernel
theorem dX12_has_108 : decode cX12_has 108 = .ok (.ireturn, 1) := by decide +kernel
theorem dX12_has_109 : decode cX12_has 109 = .ok (.aload_n 0, 1) := by decide +kernel
theorem dX12_has_110 : decode cX12_has 110 = .ok (.getfield 143, 3) := by decide +kernel
theorem dX12_has_113 : decode cX12_has 113 = .ok (.bipush 115, 2) := by decide +kernel
theorem dX12_has_115 : decode cX12_has 115 = .ok (.iaload, 1) := by decide +kernel
theorem dX12_has_116 : decode cX12_has 116 = .ok (.ireturn, 1) := by decide +kernel
theorem dX12_has_117 : decode cX12_has 117 = .ok (.aload_n 0, 1) := by decide +kernel
theorem dX12_has_118 : decode cX12_has 118 = .ok (.getfield 433, 3) := by decide +kernel
theorem dX12_has_121 : decode cX12_has 121 = .ok (.ireturn, 1) := by decide +kernel
theorem dX12_has_122 : decode cX12_has 122 = .ok (.aload_n 0, 1) := by decide +kernel
theorem dX12_has_123 : decode cX12_has 123 = .ok (.getfield 430, 3) := by decide +kernel
theorem dX12_has_126 : decode cX12_has 126 = .ok (.ireturn, 1) := by decide +kernel
theorem dX12_has_127 : decode cX12_has 127 = .ok (.iconst (-1), 1) := by decide +kernel
theorem dX12_has_128 : decode cX12_has 128 = .ok (.ireturn, 1) := by decide +kernel
def wp_X12_has (sh : Shp) (v0 : Nat) (v1 : Int32) (Q : Int32 → Mem → Prop) (m : Mem) : Prop :=
  if v1 = (0 : Int32) then (Ob sh v0 12 ∧ ∃ b2 : Nat, m.2.2 v0 42 = some b2 ∧ (Ix sh b2 100 ((2 : Int32) + v1) ∧ (Q (m.1 b2 ((2 : Int32) + v1).toNatClampNeg) m))) else if v1 = (1 : Int32) then (Ob sh v0 12 ∧ ∃ b6 : Nat, m.2.2 v0 42 = some b6 ∧ (Ix sh b6 100 ((2 : Int32) + v1) ∧ (Q (m.1 b6 ((2 : Int32) + v1).toNatClampNeg) m))) else if v1 = (2 : Int32) then (Ob sh v0 12 ∧ ∃ b10 : Nat, m.2.2 v0 45 = some b10 ∧ (Ix sh b10 100 v1 ∧ (Q (m.1 b10 v1.toNatClampNeg) m))) else if v1 = (3 : Int32) then (Ob sh v0 12 ∧ ∃ b14 : Nat, m.2.2 v0 45 = some b14 ∧ (Ix sh b14 100 v1 ∧ (Q (m.1 b14 v1.toNatClampNeg) m))) else if v1 = (4 : Int32) then (Ob sh v0 12 ∧ ∃ b18 : Nat, m.2.2 v0 58 = some b18 ∧ (Ix sh b18 100 (0 : Int32) ∧ (Q (m.1 b18 (0 : Int32).toNatClampNeg) m))) else if v1 = (5 : Int32) then (Ob sh v0 12 ∧ wp_X12_stoneMany sh v0 (fun r21 m22 => Q r21 m22) m) else if v1 = (6 : Int32) then (Ob sh v0 12 ∧ (if (m.1 v0 56) = 0 then (Q (-1 : Int32) m) else (Q (m.1 v0 44) m))) else if v1 = (7 : Int32) then (Ob sh v0 12 ∧ wp_X12_pieAll sh v0 (fun r25 m26 => Q r25 m26) m) else if v1 = (8 : Int32) then (Ob sh v0 12 ∧ ∃ b29 : Nat, m.2.2 v0 58 = some b29 ∧ (Ix sh b29 100 (115 : Int32) ∧ (Q (m.1 b29 (115 : Int32).toNatClampNeg) m))) else if v1 = (9 : Int32) then (Ob sh v0 12 ∧ (Q (m.1 v0 74) m)) else if v1 = (10 : Int32) then (Ob sh v0 12 ∧ (Q (m.1 v0 78) m)) else (Q (-1 : Int32) m)
abbrev M_X12_has : Mi := (cX12_has, 2, RX12, (Option.some FieldType.int), "has", 3, 103, 0, 0)
set_option maxHeartbeats 4000000 in
set_option maxRecDepth 100000 in
theorem c_X12_has {l : Launch} {G : Gl} {sh : Shp} {v0 : Nat} {v1 : Int32} {Q : Int32 → Mem → Prop} {m : Mem} (h : wp_X12_has sh v0 v1 Q m) : Cni l G yX12_has cX12_has 2 (Option.some FieldType.int) 3 103 sh [.ref (G.1 + v0), .int v1] m Q := by
  refine con_i (ls := [(0, .ref (G.1 + v0)), (1, .int v1)]) (by decide +kernel) rfl (Nat.le_of_ble_eq_true rfl) (fun F => ?_)
  show V G F M_X12_has sh 0 0 (Zi G F sh Q) 0 [(0, .ref (G.1 + v0)), (1, .int v1)] [] m
  unfold wp_X12_has at h
  refine v_iload_n 1 1 dX12_has_0 rfl rfl ?_
  by_cases hc0 : v1 = (0 : Int32)
  · replace h := Eq.mp (if_pos hc0) h
    refine v_tabK (0 : Int32) hc0 60 dX12_has_1 (by decide) (by decide) rfl (by decide) ?_
    refine v_aload_n 0 0 dX12_has_60 rfl rfl ?_
    obtain ⟨o1, h⟩ := h
    obtain ⟨b2, e3, h⟩ := h
    refine v_gR 12 42 dX12_has_61 fg_RX12_111 o1 e3 ?_
    refine v_iconst (2 : Int32) dX12_has_64 (by decide) ?_
    refine v_iload_n 1 1 dX12_has_65 rfl rfl ?_
    refine v_iadd dX12_has_66 ?_
    obtain ⟨i4, h⟩ := h
    refine v_iald dX12_has_67 i4 ?_
    exact v_iret dX12_has_68 rfl rfl h
  replace h := Eq.mp (if_neg hc0) h
  by_cases hc1 : v1 = (1 : Int32)
  · replace h := Eq.mp (if_pos hc1) h
    refine v_tabK (1 : Int32) hc1 60 dX12_has_1 (by decide) (by decide) rfl (by decide) ?_
    refine v_aload_n 0 0 dX12_has_60 rfl rfl ?_
    obtain ⟨o5, h⟩ := h
    obtain ⟨b6, e7, h⟩ := h
    refine v_gR 12 42 dX12_has_61 fg_RX12_111 o5 e7 ?_
    refine v_iconst (2 : Int32) dX12_has_64 (by decide) ?_
    refine v_iload_n 1 1 dX12_has_65 rfl rfl ?_
    refine v_iadd dX12_has_66 ?_
    obtain ⟨i8, h⟩ := h
    refine v_iald dX12_has_67 i8 ?_
    exact v_iret dX12_has_68 rfl rfl h
  replace h := Eq.mp (if_neg hc1) h
  by_cases hc2 : v1 = (2 : Int32)
  · replace h := Eq.mp (if_pos hc2) h
    refine v_tabK (2 : Int32) hc2 69 dX12_has_1 (by decide) (by decide) rfl (by decide) ?_
    refine v_aload_n 0 0 dX12_has_69 rfl rfl ?_
    obtain ⟨o9, h⟩ := h
    obtain ⟨b10, e11, h⟩ := h
    refine v_gR 12 45 dX12_has_70 fg_RX12_114 o9 e11 ?_
    refine v_iload_n 1 1 dX12_has_73 rfl rfl ?_
    obtain ⟨i12, h⟩ := h
    refine v_iald dX12_has_74 i12 ?_
    exact v_iret dX12_has_75 rfl rfl h
  replace h := Eq.mp (if_neg hc2) h
  by_cases hc3 : v1 = (3 : Int32)
  · replace h := Eq.mp (if_pos hc3) h
    refine v_tabK (3 : Int32) hc3 69 dX12_has_1 (by decide) (by decide) rfl (by decide) ?_
    refine v_aload_n 0 0 dX12_has_69 rfl rfl ?_
    obtain ⟨o13, h⟩ := h
    obtain ⟨b14, e15, h⟩ := h
    refine v_gR 12 45 dX12_has_70 fg_RX12_114 o13 e15 ?_
    refine v_iload_n 1 1 dX12_has_73 rfl rfl ?_
    obtain ⟨i16, h⟩ := h
    refine v_iald dX12_has_74 i16 ?_
    exact v_iret dX12_has_75 rfl rfl h
  replace h := Eq.mp (if_neg hc3) h
  by_cases hc4 : v1 = (4 : Int32)
  · replace h := Eq.mp (if_pos hc4) h
    refine v_tabK (4 : Int32) hc4 76 dX12_has_1 (by decide) (by decide) rfl (by decide) ?_
    refine v_aload_n 0 0 dX12_has_76 rfl rfl ?_
    obtain ⟨o17, h⟩ := h
    obtain ⟨b18, e19, h⟩ := h
    refine v_gR 12 58 dX12_has_77 fg_RX12_143 o17 e19 ?_
    refine v_iconst (0 : Int32) dX12_has_80 (by decide) ?_
    obtain ⟨i20, h⟩ := h
    refine v_iald dX12_has_81 i20 ?_
    exact v_iret dX12_has_82 rfl rfl h
  replace h := Eq.mp (if_neg hc4) h
  by_cases hc5 : v1 = (5 : Int32)
  · replace h := Eq.mp (if_pos hc5) h
    refine v_tabK (5 : Int32) hc5 83 dX12_has_1 (by decide) (by decide) rfl (by decide) ?_
    refine v_aload_n 0 0 dX12_has_83 rfl rfl ?_
    obtain ⟨o23, h⟩ := h
    refine v_cVi [] mv_X12_stoneMany ml_RX12_544 ⟨_, _, rfl⟩ o23 rfl rfl (Nat.le_of_ble_eq_true rfl) (Nat.le_of_ble_eq_true rfl) (Nat.le_of_ble_eq_true rfl) (Nat.zero_le _) (Nat.zero_le _) dX12_has_84 (c_X12_stoneMany h) (fun r21 m22 h => ?_)
    exact v_iret dX12_has_87 rfl rfl h
  replace h := Eq.mp (if_neg hc5) h
  by_cases hc6 : v1 = (6 : Int32)
  · replace h := Eq.mp (if_pos hc6) h
    refine v_tabK (6 : Int32) hc6 88 dX12_has_1 (by decide) (by decide) rfl (by decide) ?_
    refine v_aload_n 0 0 dX12_has_88 rfl rfl ?_
    obtain ⟨o24, h⟩ := h
    refine v_gI 12 56 dX12_has_89 fg_RX12_423 o24 ?_
    refine v_if_eq 102 dX12_has_92 (by decide) (fun hc => ?_) (fun hc => ?_)
    · replace h := Eq.mp (if_pos hc) h
      refine v_iconst (-1 : Int32) dX12_has_102 (by decide) ?_
      exact v_iret dX12_has_103 rfl rfl h
    · replace h := Eq.mp (if_neg hc) h
      refine v_aload_n 0 0 dX12_has_95 rfl rfl ?_
      refine v_gI 12 44 dX12_has_96 fg_RX12_427 o24 ?_
      refine v_goto 103 dX12_has_99 (by decide) ?_
      exact v_iret dX12_has_103 rfl rfl h
  replace h := Eq.mp (if_neg hc6) h
  by_cases hc7 : v1 = (7 : Int32)
  · replace h := Eq.mp (if_pos hc7) h
    refine v_tabK (7 : Int32) hc7 104 dX12_has_1 (by decide) (by decide) rfl (by decide) ?_
    refine v_aload_n 0 0 dX12_has_104 rfl rfl ?_
    obtain ⟨o27, h⟩ := h
    refine v_cVi [] mv_X12_pieAll ml_RX12_547 ⟨_, _, rfl⟩ o27 rfl rfl (Nat.le_of_ble_eq_true rfl) (Nat.le_of_ble_eq_true rfl) (Nat.le_of_ble_eq_true rfl) (Nat.zero_le _) (Nat.zero_le _) dX12_has_105 (c_X12_pieAll h) (fun r25 m26 h => ?_)
    exact v_iret dX12_has_108 rfl rfl h
  replace h := Eq.mp (if_neg hc7) h
  by_cases hc8 : v1 = (8 : Int32)
  · replace h := Eq.mp (if_pos hc8) h
    refine v_tabK (8 : Int32) hc8 109 dX12_has_1 (by decide) (by decide) rfl (by decide) ?_
    refine v_aload_n 0 0 dX12_has_109 rfl rfl ?_
    obtain ⟨o28, h⟩ := h
    obtain ⟨b29, e30, h⟩ := h
    refine v_gR 12 58 dX12_has_110 fg_RX12_143 o28 e30 ?_
    refine v_bipush (115 : Int32) dX12_has_113 (by decide) ?_
    obtain ⟨i31, h⟩ := h
    refine v_iald dX12_has_115 i31 ?_
    exact v_iret dX12_has_116 rfl rfl h
  replace h := Eq.mp (if_neg hc8) h
  by_cases hc9 : v1 = (9 : Int32)
  · replace h := Eq.mp (if_pos hc9) h
    refine v_tabK (9 : Int32) hc9 117 dX12_has_1 (by decide) (by decide) rfl (by decide) ?_
    refine v_aload_n 0 0 dX12_has_117 rfl rfl ?_
    obtain ⟨o32, h⟩ := h
    refine v_gI 12 74 dX12_has_118 fg_RX12_433 o32 ?_
    exact v_iret dX12_has_121 rfl rfl h
  replace h := Eq.mp (if_neg hc9) h
  by_cases hc10 : v1 = (10 : Int32)
  · replace h := Eq.mp (if_pos hc10) h
    refine v_tabK (10 : Int32) hc10 122 dX12_has_1 (by decide) (by decide) rfl (by decide) ?_
    refine v_aload_n 0 0 dX12_has_122 rfl rfl ?_
    obtain ⟨o33, h⟩ := h
    refine v_gI 12 78 dX12_has_123 fg_RX12_430 o33 ?_
    exact v_iret dX12_has_126 rfl rfl h
  replace h := Eq.mp (if_neg hc10) h
  refine v_tabOut 127 dX12_has_1 (by have := lv_neT hc0 (a := 0) (by decide); have := lv_neT hc1 (a := 1) (by decide); have := lv_neT hc2 (a := 2) (by decide); have := lv_neT hc3 (a := 3) (by decide); have := lv_neT hc4 (a := 4) (by decide); have := lv_neT hc5 (a := 5) (by decide); have := lv_neT hc6 (a := 6) (by decide); have := lv_neT hc7 (a := 7) (by decide); have := lv_neT hc8 (a := 8) (by decide); have := lv_neT hc9 (a := 9) (by decide); have := lv_neT hc10 (a := 10) (by decide); omega) (by decide) ?_
  refine v_iconst (-1 : Int32) dX12_has_127 (by decide) ?_
  exact v_iret dX12_has_128 rfl rfl h
/-! CalledRiverModel.highTold -/
theorem dX12_highTold_0 : decode cX12_highTold 0 = .ok (.aload_n 0, 1) := by decide +kernel
theorem dX12_highTold_1 : decode cX12_highTold 1 = .ok (.invokevirtual 362, 3) := by decide +kernel
theorem dX12_highTold_4 : decode cX12_highTold 4 = .ok (.istore_n 1, 1) := by decide +kernel
theorem dX12_highTold_5 : decode cX12_highTold 5 = .ok (.aload_n 0, 1) := by decide +kernel
theorem dX12_highTold_6 : decode cX12_highTold 6 = .ok (.iconst 0, 1) := by decide +kernel
theorem dX12_highTold_7 : decode cX12_highTold 7 = .ok (.bipush 9, 2) := by decide +kernel
theorem dX12_highTold_9 : decode cX12_highTold 9 = .ok (.invokevirtual 354, 3) := by decide +kernel
theorem dX12_highTold_12 : decode cX12_highTold 12 = .ok (.istore_n 2, 1) := by decide +kernel
theorem dX12_highTold_13 : decode cX12_highTold 13 = .ok (.aload_n 0, 1) := by decide +kernel
theorem dX12_highTold_14 : decode cX12_highTold 14 = .ok (.getfield 285, 3) := by decide +kernel
theorem dX12_highTold_17 : decode cX12_highTold 17 = .ok (.ifCond .ne 10, 3) := by decide +kernel
theorem dX12_highTold_20 : decode cX12_highTold 20 = .ok (.aload_n 0, 1) := by decide +kernel
theorem dX12_highTold_21 : decode cX12_highTold 21 = .ok (.getfield 127, 3) := by decide +kernel
theorem dX12_highTold_24 : decode cX12_highTold 24 = .ok (.iload_n 1, 1) := by decide +kernel
theorem dX12_highTold_25 : decode cX12_highTold 25 = .ok (.iload_n 2, 1) := by decide +kernel
theorem dX12_highTold_26 : decode cX12_highTold 26 = .ok (.iastore, 1) := by decide +kernel
theorem dX12_highTold_27 : decode cX12_highTold 27 = .ok (.return_, 1) := by decide +kernel
def wp_X12_highTold (sh : Shp) (v0 : Nat) (Q : Mem → Prop) (m : Mem) : Prop :=
  Ob sh v0 12 ∧ wp_X12_cellTold sh v0 (fun r1 m2 => wp_X12_number sh v0 (0 : Int32) (9 : Int32) (fun r4 m5 => if (m5.1 v0 5) = 0 then (∃ b6 : Nat, m5.2.2 v0 49 = some b6 ∧ (Ix sh b6 100 r1 ∧ bnd (sI m5 b6 r1.toNatClampNeg r4) (fun m9 => Q m9))) else (Q m5)) m2) m
abbrev M_X12_highTold : Mi := (cX12_highTold, 3, RX12, (none : Option FieldType), "highTold", 4, 131, 0, 0)
set_option maxHeartbeats 4000000 in
set_option maxRecDepth 100000 in
theorem c_X12_highTold {l : Launch} {G : Gl} {sh : Shp} {v0 : Nat} {Q : Mem → Prop} {m : Mem} (h : wp_X12_highTold sh v0 Q m) : Cnv l G yX12_highTold cX12_highTold 3 (none : Option FieldType) 4 131 sh [.ref (G.1 + v0)] m Q := by
  refine con_v (ls := [(0, .ref (G.1 + v0))]) (by decide +kernel) rfl (Nat.le_of_ble_eq_true rfl) (fun F => ?_)
  show V G F M_X12_highTold sh 0 0 (Zv G F sh Q) 0 [(0, .ref (G.1 + v0))] [] m
  unfold wp_X12_highTold at h
  refine v_aload_n 0 0 dX12_highTold_0 rfl rfl ?_
  obtain ⟨o3, h⟩ := h
  refine v_cVi [] mv_X12_cellTold ml_RX12_362 ⟨_, _, rfl⟩ o3 rfl rfl (Nat.le_of_ble_eq_true rfl) (Nat.le_of_ble_eq_true rfl) (Nat.le_of_ble_eq_true rfl) (Nat.zero_le _) (Nat.zero_le _) dX12_highTold_1 (c_X12_cellTold h) (fun r1 m2 h => ?_)
  refine v_istore_n (ls' := [(1, .int _), (0, .ref _)]) 1 dX12_highTold_4 rfl (Nat.le_of_ble_eq_true rfl) rfl ?_
  refine v_aload_n 0 1 dX12_highTold_5 rfl rfl ?_
  refine v_iconst (0 : Int32) dX12_highTold_6 (by decide) ?_
  refine v_bipush (9 : Int32) dX12_highTold_7 (by decide) ?_
  refine v_cVi [.int _, .int _] mv_X12_number ml_RX12_354 ⟨_, _, rfl⟩ o3 rfl rfl (Nat.le_of_ble_eq_true rfl) (Nat.le_of_ble_eq_true rfl) (Nat.le_of_ble_eq_true rfl) (Nat.zero_le _) (Nat.zero_le _) dX12_highTold_9 (c_X12_number h) (fun r4 m5 h => ?_)
  refine v_istore_n (ls' := [(2, .int _), (1, .int _), (0, .ref _)]) 2 dX12_highTold_12 rfl (Nat.le_of_ble_eq_true rfl) rfl ?_
  refine v_aload_n 0 2 dX12_highTold_13 rfl rfl ?_
  refine v_gI 12 5 dX12_highTold_14 fg_RX12_285 o3 ?_
  refine v_if_ne 27 dX12_highTold_17 (by decide) (fun hc => ?_) (fun hc => ?_)
  · replace h := Eq.mp (if_neg hc) h
    exact v_vret dX12_highTold_27 rfl h
  · replace h := Eq.mp (if_pos hc) h
    refine v_aload_n 0 2 dX12_highTold_20 rfl rfl ?_
    obtain ⟨b6, e7, h⟩ := h
    refine v_gR 12 49 dX12_highTold_21 fg_RX12_127 o3 e7 ?_
    refine v_iload_n 1 1 dX12_highTold_24 rfl rfl ?_
    refine v_iload_n 2 0 dX12_highTold_25 rfl rfl ?_
    obtain ⟨i8, h⟩ := h
    refine v_iast dX12_highTold_26 i8 ?_
    replace h := bnd_e h
    exact v_vret dX12_highTold_27 rfl h
/-! CalledRiverModel.writes -/
theorem dX12_writes_0 : decode cX12_writes 0 = .ok (.aload_n 0, 1) := by decide +kernel
theorem dX12_writes_1 : decode cX12_writes 1 = .ok (.getfield 279, 3) := by decide +kernel
theorem dX12_writes_4 : decode cX12_writes 4 = .ok (.aload_n 0, 1) := by decide +kernel
theorem dX12_writes_5 : decode cX12_writes 5 = .ok (.getfield 721, 3) := by decide +kernel
theorem dX12_writes_8 : decode cX12_writes 8 = .ok (.iload_n 1, 1) := by decide +kernel
theorem dX12_writes_9 : decode cX12_writes 9 = .ok (.iastore, 1) := by decide +kernel
theorem dX12_writes_10 : decode cX12_writes 10 = .ok (.aload_n 0, 1) := by decide +kernel
theorem dX12_writes_11 : decode cX12_writes 11 = .ok (.dup, 1) := by decide +kernel
theorem dX12_writes_12 : decode cX12_writes 12 = .ok (.getfield 721, 3) := by decide +kernel
theorem dX12_writes_15 : decode cX12_writes 15 = .ok (.iconst 1, 1) := by decide +kernel
theorem dX12_writes_16 : decode cX12_writes 16 = .ok (.iadd, 1) := by decide +kernel
theorem dX12_writes_17 : decode cX12_writes 17 = .ok (.putfield 721, 3) := by decide +kernel
theorem dX12_writes_20 : decode cX12_writes 20 = .ok (.return_, 1) := by decide +kernel
def wp_X12_writes (sh : Shp) (v0 : Nat) (v1 : Int32) (Q : Mem → Prop) (m : Mem) : Prop :=
  Ob sh v0 12 ∧ ∃ b2 : Nat, m.2.2 v0 118 = some b2 ∧ (Ix sh b2 100 (m.1 v0 119) ∧ bnd (sI m b2 (m.1 v0 119).toNatClampNeg v1) (fun m5 => bnd (sI m5 v0 119 ((m5.1 v0 119) + (1 : Int32))) (fun m6 => Q m6)))
abbrev M_X12_writes : Mi := (cX12_writes, 2, RX12, (none : Option FieldType), "writes", 1, 60, 0, 0)
set_option maxHeartbeats 4000000 in
set_option maxRecDepth 100000 in
theorem c_X12_writes {l : Launch} {G : Gl} {sh : Shp} {v0 : Nat} {v1 : Int32} {Q : Mem → Prop} {m : Mem} (h : wp_X12_writes sh v0 v1 Q m) : Cnv l G yX12_writes cX12_writes 2 (none : Option FieldType) 1 60 sh [.ref (G.1 + v0), .int v1] m Q := by
  refine con_v (ls := [(0, .ref (G.1 + v0)), (1, .int v1)]) (by decide +kernel) rfl (Nat.le_of_ble_eq_true rfl) (fun F => ?_)
  show V G F M_X12_writes sh 0 0 (Zv G F sh Q) 0 [(0, .ref (G.1 + v0)), (1, .int v1)] [] m
  unfold wp_X12_writes at h
  refine v_aload_n 0 0 dX12_writes_0 rfl rfl ?_
  obtain ⟨o1, h⟩ := h
  obtain ⟨b2, e3, h⟩ := h
  refine v_gR 12 118 dX12_writes_1 fg_RX12_279 o1 e3 ?_
  refine v_aload_n 0 0 dX12_writes_4 rfl rfl ?_
  refine v_gI 12 119 dX12_writes_5 fg_RX12_721 o1 ?_
  refine v_iload_n 1 1 dX12_writes_8 rfl rfl ?_
  obtain ⟨i4, h⟩ := h
  refine v_iast dX12_writes_9 i4 ?_
  replace h := bnd_e h
  refine v_aload_n 0 0 dX12_writes_10 rfl rfl ?_
  refine v_dup dX12_writes_11 rfl ?_
  refine v_gI 12 119 dX12_writes_12 fg_RX12_721 o1 ?_
  refine v_iconst (1 : Int32) dX12_writes_15 (by decide) ?_
  refine v_iadd dX12_writes_16 ?_
  refine v_pI 12 119 dX12_writes_17 fw_RX12_721 o1 ?_
  replace h := bnd_e h
  exact v_vret dX12_writes_20 rfl h
/-! CalledRiverModel.image -/
theorem dX12_image_0 : decode cX12_image 0 = .ok (.aload_n 0, 1) := by decide +kernel
theorem dX12_image_1 : decode cX12_image 1 = .ok (.iconst 0, 1) := by decide +kernel
theorem dX12_image_2 : decode cX12_image 2 = .ok (.putfield 721, 3) := by decide +kernel
theorem dX12_image_5 : decode cX12_image 5 = .ok (.aload_n 0, 1) := by decide +kernel
theorem dX12_image_6 : decode cX12_image 6 = .ok (.aload_n 0, 1) := by decide +kernel
theorem dX12_image_7 : decode cX12_image 7 = .ok (.getfield 143, 3) := by decide +kernel
theorem dX12_image_10 : decode cX12_image 10 = .ok (.iconst 0, 1) := by decide +kernel
theorem dX12_image_11 : decode cX12_image 11 = .ok (.iaload, 1) := by decide +kernel
theorem dX12_image_12 : decode cX12_image 12 = .ok (.sipush 256, 3) := by decide +kernel
theorem dX12_image_15 : decode cX12_image 15 = .ok (.idiv, 1) := by decide +kernel
theorem dX12_image_16 : decode cX12_image 16 = .ok (.invokevirtual 724, 3) := by decide +kernel
theorem dX12_image_19 : decode cX12_image 19 = .ok (.aload_n 0, 1) := by decide +kernel
theorem dX12_image_20 : decode cX12_image 20 = .ok (.aload_n 0, 1) := by decide +kernel
theorem dX12_image_21 : decode cX12_image 21 = .ok (.getfield 143, 3) := by decide +kernel
theorem dX12_image_24 : decode cX12_image 24 = .ok (.iconst 0, 1) := by decide +kernel
theorem dX12_image_25 : decode cX12_image 25 = .ok (.iaload, 1) := by decide +kernel
theorem dX12_image_26 : decode cX12_image 26 = .ok (.sipush 256, 3) := by decide +kernel
theorem dX12_image_29 : decode cX12_image 29 = .ok (.irem, 1) := by decide +kernel
theorem dX12_image_30 : decode cX12_image 30 = .ok (.invokevirtual 724, 3) := by decide +kernel
theorem dX12_image_33 : decode cX12_image 33 = .ok (.iconst 0, 1) := by decide +kernel
theorem dX12_image_34 : decode cX12_image 34 = .ok (.istore_n 1, 1) := by decide +kernel
theorem dX12_image_35 : decode cX12_image 35 = .ok (.iload_n 1, 1) := by decide +kernel
theorem dX12_image_36 : decode cX12_image 36 = .ok (.aload_n 0, 1) := by decide +kernel
theorem dX12_image_37 : decode cX12_image 37 = .ok (.invokevirtual 484, 3) := by decide +kernel
theorem dX12_image_40 : decode cX12_image 40 = .ok (.if_icmp .ge 40, 3) := by decide +kernel
theorem dX12_image_43 : decode cX12_image 43 = .ok (.iconst 1, 1) := by decide +kernel
theorem dX12_image_44 : decode cX12_image 44 = .ok (.istore_n 2, 1) := by decide +kernel
theorem dX12_image_45 : decode cX12_image 45 = .ok (.iload_n 2, 1) := by decide +kernel
theorem dX12_image_46 : decode cX12_image 46 = .ok (.iconst 4, 1) := by decide +kernel
theorem dX12_image_47 : decode cX12_image 47 = .ok (.if_icmp .ge 27, 3) := by decide +kernel
theorem dX12_image_50 : decode cX12_image 50 = .ok (.aload_n 0, 1) := by decide +kernel
theorem dX12_image_51 : decode cX12_image 51 = .ok (.aload_n 0, 1) := by decide +kernel
theorem dX12_image_52 : decode cX12_image 52 = .ok (.getfield 143, 3) := by decide +kernel
theorem dX12_image_55 : decode cX12_image 55 = .ok (.iconst 3, 1) := by decide +kernel
theorem dX12_image_56 : decode cX12_image 56 = .ok (.aload_n 0, 1) := by decide +kernel
theorem dX12_image_57 : decode cX12_image 57 = .ok (.iload_n 1, 1) := by decide +kernel
theorem dX12_image_58 : decode cX12_image 58 = .ok (.invokevirtual 487, 3) := by decide +kernel
theorem dX12_image_61 : decode cX12_image 61 = .ok (.imul, 1) := by decide +kernel
theorem dX12_image_62 : decode cX12_image 62 = .ok (.iload_n 2, 1) := by decide +kernel
theorem dX12_image_63 : decode cX12_image 63 = .ok (.iadd, 1) := by decide +kernel
theorem dX12_image_64 : decode cX12_image 64 = .ok (.iaload, 1) := by decide +kernel
theorem dX12_image_65 : decode cX12_image 65 = .ok (.invokevirtual 724, 3) := by decide +kernel
theorem dX12_image_68 : decode cX12_image 68 = .ok (.iinc 2 1, 3) := by decide +kernel
theorem dX12_image_71 : decode cX12_image 71 = .ok (.goto (-26), 3) := by decide +kernel
theorem dX12_image_74 : decode cX12_image 74 = .ok (.iinc 1 1, 3) := by decide +kernel
theorem dX12_image_77 : decode cX12_image 77 = .ok (.goto (-42), 3) := by decide +kernel
theorem dX12_image_80 : decode cX12_image 80 = .ok (.iconst 0, 1) := by decide +kernel
theorem dX12_image_81 : decode cX12_image 81 = .ok (.istore_n 1, 1) := by decide +kernel
theorem dX12_image_82 : decode cX12_image 82 = .ok (.iload_n 1, 1) := by decide +kernel
theorem dX12_image_83 : decode cX12_image 83 = .ok (.aload_n 0, 1) := by decide +kernel
theorem dX12_image_84 : decode cX12_image 84 = .ok (.invokevirtual 436, 3) := by decide +kernel
theorem dX12_image_87 : decode cX12_image 87 = .ok (.if_icmp .ge 18, 3) := by decide +kernel
theorem dX12_image_90 : decode cX12_image 90 = .ok (.aload_n 0, 1) := by decide +kernel
theorem dX12_image_91 : decode cX12_image 91 = .ok (.aload_n 0, 1) := by decide +kernel
theorem dX12_image_92 : decode cX12_image 92 = .ok (.iload_n 1, 1) := by decide +kernel
theorem dX12_image_93 : decode cX12_image 93 = .ok (.invokevirtual 449, 3) := by decide +kernel
theorem dX12_image_96 : decode cX12_image 96 = .ok (.invokevirtual 724, 3) := by decide +kernel
theorem dX12_image_99 : decode cX12_image 99 = .ok (.iinc 1 1, 3) := by decide +kernel
theorem dX12_image_102 : decode cX12_image 102 = .ok (.goto (-20), 3) := by decide +kernel
theorem dX12_image_105 : decode cX12_image 105 = .ok (.aload_n 0, 1) := by decide +kernel
theorem dX12_image_106 : decode cX12_image 106 = .ok (.aload_n 0, 1) := by decide +kernel
theorem dX12_image_107 : decode cX12_image 107 = .ok (.getfield 279, 3) := by decide +kernel
theorem dX12_image_110 : decode cX12_image 110 = .ok (.aload_n 0, 1) := by decide +kernel
theorem dX12_image_111 : decode cX12_image 111 = .ok (.getfield 721, 3) := by decide +kernel
theorem dX12_image_114 : decode cX12_image 114 = .ok (.invokestatic 727, 3) := by decide +kernel
theorem dX12_image_117 : decode cX12_image 117 = .ok (.invokevirtual 724, 3) := by decide +kernel
theorem dX12_image_120 : decode cX12_image 120 = .ok (.aload_n 0, 1) := by decide +kernel
theorem dX12_image_121 : decode cX12_image 121 = .ok (.getfield 721, 3) := by decide +kernel
theorem dX12_image_124 : decode cX12_image 124 = .ok (.ireturn, 1) := by decide +kernel
def X12_image_p45b (sh : Shp) (v0 : Nat) (v1 : Int32) (Q : Int32 → Mem → Prop) (K35 : Int32 → Mem → Prop) (K45 : Int32 → Mem → Prop) (v2 : Int32) (m : Mem) : Prop :=
  if (4 : Int32) ≤ v2 then (K35 (v1 + (1 : Int32)) m) else (Ob sh v0 12 ∧ ∃ b30 : Nat, m.2.2 v0 58 = some b30 ∧ (wp_X12_cellOfNumber sh v0 v1 (fun r32 m33 => Ix sh b30 100 (((3 : Int32) * r32) + v2) ∧ (wp_X12_writes sh v0 (m33.1 b30 (((3 : Int32) * r32) + v2).toNatClampNeg) (fun m36 => K45 (v2 + (1 : Int32)) m36) m33)) m))
def X12_image_p45n (sh : Shp) (v0 : Nat) (v1 : Int32) (Q : Int32 → Mem → Prop) (K35 : Int32 → Mem → Prop) : Nat → Int32 → Mem → Prop
  | 0 => fun _ _ => False
  | n + 1 => X12_image_p45b sh v0 v1 Q K35 (X12_image_p45n sh v0 v1 Q K35 n)
def X12_image_p45 (sh : Shp) (v0 : Nat) (v1 : Int32) (Q : Int32 → Mem → Prop) (K35 : Int32 → Mem → Prop) (v2 : Int32) (m : Mem) : Prop := ∃ n, X12_image_p45n sh v0 v1 Q K35 n v2 m
def X12_image_p82b (sh : Shp) (v0 : Nat) (Q : Int32 → Mem → Prop) (K82 : Int32 → Mem → Prop) (v1 : Int32) (m : Mem) : Prop :=
  Ob sh v0 12 ∧ wp_X12_farmMany sh v0 (fun r16 m17 => if r16 ≤ v1 then (∃ b19 : Nat, m17.2.2 v0 118 = some b19 ∧ (wp_X12_checked sh b19 (m17.1 v0 119) (fun r21 m22 => wp_X12_writes sh v0 r21 (fun m24 => Q (m24.1 v0 119) m24) m22) m17)) else (wp_X12_pieOf sh v0 v1 (fun r25 m26 => wp_X12_writes sh v0 r25 (fun m28 => K82 (v1 + (1 : Int32)) m28) m26) m17)) m
def X12_image_p82n (sh : Shp) (v0 : Nat) (Q : Int32 → Mem → Prop) : Nat → Int32 → Mem → Prop
  | 0 => fun _ _ => False
  | n + 1 => X12_image_p82b sh v0 Q (X12_image_p82n sh v0 Q n)
def X12_image_p82 (sh : Shp) (v0 : Nat) (Q : Int32 → Mem → Prop) (v1 : Int32) (m : Mem) : Prop := ∃ n, X12_image_p82n sh v0 Q n v1 m
def X12_image_p35b (sh : Shp) (v0 : Nat) (Q : Int32 → Mem → Prop) (K35 : Int32 → Mem → Prop) (v1 : Int32) (m : Mem) : Prop :=
  Ob sh v0 12 ∧ wp_X12_cellMany sh v0 (fun r13 m14 => if r13 ≤ v1 then (X12_image_p82 sh v0 Q (0 : Int32) m14) else (X12_image_p45 sh v0 v1 Q K35 (1 : Int32) m14)) m
def X12_image_p35n (sh : Shp) (v0 : Nat) (Q : Int32 → Mem → Prop) : Nat → Int32 → Mem → Prop
  | 0 => fun _ _ => False
  | n + 1 => X12_image_p35b sh v0 Q (X12_image_p35n sh v0 Q n)
def X12_image_p35 (sh : Shp) (v0 : Nat) (Q : Int32 → Mem → Prop) (v1 : Int32) (m : Mem) : Prop := ∃ n, X12_image_p35n sh v0 Q n v1 m
def wp_X12_image (sh : Shp) (v0 : Nat) (Q : Int32 → Mem → Prop) (m : Mem) : Prop :=
  Ob sh v0 12 ∧ bnd (sI m v0 119 (0 : Int32)) (fun m2 => ∃ b3 : Nat, m2.2.2 v0 58 = some b3 ∧ (Ix sh b3 100 (0 : Int32) ∧ (wp_X12_writes sh v0 ((m2.1 b3 (0 : Int32).toNatClampNeg) / (256 : Int32)) (fun m7 => ∃ b8 : Nat, m7.2.2 v0 58 = some b8 ∧ (Ix sh b8 100 (0 : Int32) ∧ (wp_X12_writes sh v0 ((m7.1 b8 (0 : Int32).toNatClampNeg) - (m7.1 b8 (0 : Int32).toNatClampNeg) / (256 : Int32) * (256 : Int32)) (fun m12 => X12_image_p35 sh v0 Q (0 : Int32) m12) m7))) m2)))
abbrev M_X12_image : Mi := (cX12_image, 3, RX12, (Option.some FieldType.int), "image", 2, 83, 0, 0)
set_option maxHeartbeats 4000000 in
set_option maxRecDepth 100000 in
theorem v_X12_image_p45b {G : Gl} {F : Fr} {sh : Shp} {v0 : Nat} {v1 : Int32} {v2 : Int32} {Q : Int32 → Mem → Prop} {K35 : Int32 → Mem → Prop} {K45 : Int32 → Mem → Prop} {m : Mem} (hK35 : ∀ (x1 : Int32) (m : Mem), K35 x1 m → V G F M_X12_image sh 0 0 (Zi G F sh Q) 35 [(0, .ref (G.1 + v0)), (1, .int x1)] [] m) (hK45 : ∀ (x2 : Int32) (m : Mem), K45 x2 m → V G F M_X12_image sh 0 0 (Zi G F sh Q) 45 [(0, .ref (G.1 + v0)), (1, .int v1), (2, .int x2)] [] m) (h : X12_image_p45b sh v0 v1 Q K35 K45 v2 m) : V G F M_X12_image sh 0 0 (Zi G F sh Q) 45 [(0, .ref (G.1 + v0)), (1, .int v1), (2, .int v2)] [] m := by
  unfold X12_image_p45b at h
  refine v_iload_n 2 2 dX12_image_45 rfl rfl ?_
  refine v_iconst (4 : Int32) dX12_image_46 (by decide) ?_
  refine v_icmp_ge 74 dX12_image_47 (by decide) (fun hc => ?_) (fun hc => ?_)
  · replace h := Eq.mp (if_pos hc) h
    refine v_iinc (ls' := [(1, .int _), (0, .ref _), (2, .int _)]) 1 1 dX12_image_74 rfl (congrArg (HAdd.hAdd _) (by decide : Int32.ofInt (1) = (1 : Int32))) (Nat.le_of_ble_eq_true rfl) rfl ?_
    refine v_goto 35 dX12_image_77 (by decide) ?_
    refine v_sub [1, 0] rfl ?_
    exact hK35 _ _ h
  · replace h := Eq.mp (if_neg hc) h
    refine v_aload_n 0 0 dX12_image_50 rfl rfl ?_
    refine v_aload_n 0 0 dX12_image_51 rfl rfl ?_
    obtain ⟨o29, h⟩ := h
    obtain ⟨b30, e31, h⟩ := h
    refine v_gR 12 58 dX12_image_52 fg_RX12_143 o29 e31 ?_
    refine v_iconst (3 : Int32) dX12_image_55 (by decide) ?_
    refine v_aload_n 0 0 dX12_image_56 rfl rfl ?_
    refine v_iload_n 1 1 dX12_image_57 rfl rfl ?_
    refine v_cVi [.int _] mv_X12_cellOfNumber ml_RX12_487 ⟨_, _, rfl⟩ o29 rfl rfl (Nat.le_of_ble_eq_true rfl) (Nat.le_of_ble_eq_true rfl) (Nat.le_of_ble_eq_true rfl) (Nat.zero_le _) (Nat.zero_le _) dX12_image_58 (c_X12_cellOfNumber h) (fun r32 m33 h => ?_)
    refine v_imul dX12_image_61 ?_
    refine v_iload_n 2 2 dX12_image_62 rfl rfl ?_
    refine v_iadd dX12_image_63 ?_
    obtain ⟨i34, h⟩ := h
    refine v_iald dX12_image_64 i34 ?_
    refine v_cVv [.int _] mv_X12_writes ml_RX12_724 ⟨_, _, rfl⟩ o29 rfl rfl (Nat.le_of_ble_eq_true rfl) (Nat.le_of_ble_eq_true rfl) (Nat.le_of_ble_eq_true rfl) (Nat.zero_le _) (Nat.zero_le _) dX12_image_65 (c_X12_writes h) (fun m36 h => ?_)
    refine v_iinc (ls' := [(2, .int _), (0, .ref _), (1, .int _)]) 2 2 dX12_image_68 rfl (congrArg (HAdd.hAdd _) (by decide : Int32.ofInt (1) = (1 : Int32))) (Nat.le_of_ble_eq_true rfl) rfl ?_
    refine v_goto 45 dX12_image_71 (by decide) ?_
    refine v_sub [1, 2, 0] rfl ?_
    exact hK45 _ _ h
set_option maxHeartbeats 4000000 in
set_option maxRecDepth 100000 in
theorem v_X12_image_p45 {G : Gl} {F : Fr} {sh : Shp} {v0 : Nat} {v1 : Int32} {v2 : Int32} {Q : Int32 → Mem → Prop} {K35 : Int32 → Mem → Prop} {m : Mem} (hK35 : ∀ (x1 : Int32) (m : Mem), K35 x1 m → V G F M_X12_image sh 0 0 (Zi G F sh Q) 35 [(0, .ref (G.1 + v0)), (1, .int x1)] [] m) (h : X12_image_p45 sh v0 v1 Q K35 v2 m) : V G F M_X12_image sh 0 0 (Zi G F sh Q) 45 [(0, .ref (G.1 + v0)), (1, .int v1), (2, .int v2)] [] m := by
  obtain ⟨n, h⟩ := h
  induction n generalizing v2 m with
  | zero => exact h.elim
  | succ n ih => exact v_X12_image_p45b hK35 (fun _ _ h => ih h) h
set_option maxHeartbeats 4000000 in
set_option maxRecDepth 100000 in
theorem v_X12_image_p82b {G : Gl} {F : Fr} {sh : Shp} {v0 : Nat} {v1 : Int32} {Q : Int32 → Mem → Prop} {K82 : Int32 → Mem → Prop} {m : Mem} (hK82 : ∀ (x1 : Int32) (m : Mem), K82 x1 m → V G F M_X12_image sh 0 0 (Zi G F sh Q) 82 [(0, .ref (G.1 + v0)), (1, .int x1)] [] m) (h : X12_image_p82b sh v0 Q K82 v1 m) : V G F M_X12_image sh 0 0 (Zi G F sh Q) 82 [(0, .ref (G.1 + v0)), (1, .int v1)] [] m := by
  unfold X12_image_p82b at h
  refine v_iload_n 1 1 dX12_image_82 rfl rfl ?_
  refine v_aload_n 0 0 dX12_image_83 rfl rfl ?_
  obtain ⟨o18, h⟩ := h
  refine v_cVi [] mv_X12_farmMany ml_RX12_436 ⟨_, _, rfl⟩ o18 rfl rfl (Nat.le_of_ble_eq_true rfl) (Nat.le_of_ble_eq_true rfl) (Nat.le_of_ble_eq_true rfl) (Nat.zero_le _) (Nat.zero_le _) dX12_image_84 (c_X12_farmMany h) (fun r16 m17 h => ?_)
  refine v_icmp_ge 105 dX12_image_87 (by decide) (fun hc => ?_) (fun hc => ?_)
  · replace h := Eq.mp (if_pos hc) h
    refine v_aload_n 0 0 dX12_image_105 rfl rfl ?_
    refine v_aload_n 0 0 dX12_image_106 rfl rfl ?_
    obtain ⟨b19, e20, h⟩ := h
    refine v_gR 12 118 dX12_image_107 fg_RX12_279 o18 e20 ?_
    refine v_aload_n 0 0 dX12_image_110 rfl rfl ?_
    refine v_gI 12 119 dX12_image_111 fg_RX12_721 o18 ?_
    refine v_cSi [.ref _, .int _] mv_X12_checked ml_RX12_727 rfl rfl (Nat.le_of_ble_eq_true rfl) (Nat.le_of_ble_eq_true rfl) (Nat.le_of_ble_eq_true rfl) (Nat.zero_le _) (Nat.zero_le _) dX12_image_114 (c_X12_checked h) (fun r21 m22 h => ?_)
    refine v_cVv [.int _] mv_X12_writes ml_RX12_724 ⟨_, _, rfl⟩ o18 rfl rfl (Nat.le_of_ble_eq_true rfl) (Nat.le_of_ble_eq_true rfl) (Nat.le_of_ble_eq_true rfl) (Nat.zero_le _) (Nat.zero_le _) dX12_image_117 (c_X12_writes h) (fun m24 h => ?_)
    refine v_aload_n 0 0 dX12_image_120 rfl rfl ?_
    refine v_gI 12 119 dX12_image_121 fg_RX12_721 o18 ?_
    exact v_iret dX12_image_124 rfl rfl h
  · replace h := Eq.mp (if_neg hc) h
    refine v_aload_n 0 0 dX12_image_90 rfl rfl ?_
    refine v_aload_n 0 0 dX12_image_91 rfl rfl ?_
    refine v_iload_n 1 1 dX12_image_92 rfl rfl ?_
    refine v_cVi [.int _] mv_X12_pieOf ml_RX12_449 ⟨_, _, rfl⟩ o18 rfl rfl (Nat.le_of_ble_eq_true rfl) (Nat.le_of_ble_eq_true rfl) (Nat.le_of_ble_eq_true rfl) (Nat.zero_le _) (Nat.zero_le _) dX12_image_93 (c_X12_pieOf h) (fun r25 m26 h => ?_)
    refine v_cVv [.int _] mv_X12_writes ml_RX12_724 ⟨_, _, rfl⟩ o18 rfl rfl (Nat.le_of_ble_eq_true rfl) (Nat.le_of_ble_eq_true rfl) (Nat.le_of_ble_eq_true rfl) (Nat.zero_le _) (Nat.zero_le _) dX12_image_96 (c_X12_writes h) (fun m28 h => ?_)
    refine v_iinc (ls' := [(1, .int _), (0, .ref _)]) 1 1 dX12_image_99 rfl (congrArg (HAdd.hAdd _) (by decide : Int32.ofInt (1) = (1 : Int32))) (Nat.le_of_ble_eq_true rfl) rfl ?_
    refine v_goto 82 dX12_image_102 (by decide) ?_
    refine v_sub [1, 0] rfl ?_
    exact hK82 _ _ h
set_option maxHeartbeats 4000000 in
set_option maxRecDepth 100000 in
theorem v_X12_image_p82 {G : Gl} {F : Fr} {sh : Shp} {v0 : Nat} {v1 : Int32} {Q : Int32 → Mem → Prop} {m : Mem} (h : X12_image_p82 sh v0 Q v1 m) : V G F M_X12_image sh 0 0 (Zi G F sh Q) 82 [(0, .ref (G.1 + v0)), (1, .int v1)] [] m := by
  obtain ⟨n, h⟩ := h
  induction n generalizing v1 m with
  | zero => exact h.elim
  | succ n ih => exact v_X12_image_p82b (fun _ _ h => ih h) h
set_option maxHeartbeats 4000000 in
set_option maxRecDepth 100000 in
theorem v_X12_image_p35b {G : Gl} {F : Fr} {sh : Shp} {v0 : Nat} {v1 : Int32} {Q : Int32 → Mem → Prop} {K35 : Int32 → Mem → Prop} {m : Mem} (hK35 : ∀ (x1 : Int32) (m : Mem), K35 x1 m → V G F M_X12_image sh 0 0 (Zi G F sh Q) 35 [(0, .ref (G.1 + v0)), (1, .int x1)] [] m) (h : X12_image_p35b sh v0 Q K35 v1 m) : V G F M_X12_image sh 0 0 (Zi G F sh Q) 35 [(0, .ref (G.1 + v0)), (1, .int v1)] [] m := by
  unfold X12_image_p35b at h
  refine v_iload_n 1 1 dX12_image_35 rfl rfl ?_
  refine v_aload_n 0 0 dX12_image_36 rfl rfl ?_
  obtain ⟨o15, h⟩ := h
  refine v_cVi [] mv_X12_cellMany ml_RX12_484 ⟨_, _, rfl⟩ o15 rfl rfl (Nat.le_of_ble_eq_true rfl) (Nat.le_of_ble_eq_true rfl) (Nat.le_of_ble_eq_true rfl) (Nat.zero_le _) (Nat.zero_le _) dX12_image_37 (c_X12_cellMany h) (fun r13 m14 h => ?_)
  refine v_icmp_ge 80 dX12_image_40 (by decide) (fun hc => ?_) (fun hc => ?_)
  · replace h := Eq.mp (if_pos hc) h
    refine v_iconst (0 : Int32) dX12_image_80 (by decide) ?_
    refine v_istore_n (ls' := [(1, .int _), (0, .ref _)]) 1 dX12_image_81 rfl (Nat.le_of_ble_eq_true rfl) rfl ?_
    refine v_sub [1, 0] rfl ?_
    exact v_X12_image_p82 h
  · replace h := Eq.mp (if_neg hc) h
    refine v_iconst (1 : Int32) dX12_image_43 (by decide) ?_
    refine v_istore_n (ls' := [(2, .int _), (0, .ref _), (1, .int _)]) 2 dX12_image_44 rfl (Nat.le_of_ble_eq_true rfl) rfl ?_
    refine v_sub [1, 2, 0] rfl ?_
    exact v_X12_image_p45 hK35 h
set_option maxHeartbeats 4000000 in
set_option maxRecDepth 100000 in
theorem v_X12_image_p35 {G : Gl} {F : Fr} {sh : Shp} {v0 : Nat} {v1 : Int32} {Q : Int32 → Mem → Prop} {m : Mem} (h : X12_image_p35 sh v0 Q v1 m) : V G F M_X12_image sh 0 0 (Zi G F sh Q) 35 [(0, .ref (G.1 + v0)), (1, .int v1)] [] m := by
  obtain ⟨n, h⟩ := h
  induction n generalizing v1 m with
  | zero => exact h.elim
  | succ n ih => exact v_X12_image_p35b (fun _ _ h => ih h) h
set_option maxHeartbeats 4000000 in
set_option maxRecDepth 100000 in
theorem c_X12_image {l : Launch} {G : Gl} {sh : Shp} {v0 : Nat} {Q : Int32 → Mem → Prop} {m : Mem} (h : wp_X12_image sh v0 Q m) : Cni l G yX12_image cX12_image 3 (Option.some FieldType.int) 2 83 sh [.ref (G.1 + v0)] m Q := by
  refine con_i (ls := [(0, .ref (G.1 + v0))]) (by decide +kernel) rfl (Nat.le_of_ble_eq_true rfl) (fun F => ?_)
  show V G F M_X12_image sh 0 0 (Zi G F sh Q) 0 [(0, .ref (G.1 + v0))] [] m
  unfold wp_X12_image at h
  refine v_aload_n 0 0 dX12_image_0 rfl rfl ?_
  refine v_iconst (0 : Int32) dX12_image_1 (by decide) ?_
  obtain ⟨o1, h⟩ := h
  refine v_pI 12 119 dX12_image_2 fw_RX12_721 o1 ?_
  replace h := bnd_e h
  refine v_aload_n 0 0 dX12_image_5 rfl rfl ?_
  refine v_aload_n 0 0 dX12_image_6 rfl rfl ?_
  obtain ⟨b3, e4, h⟩ := h
  refine v_gR 12 58 dX12_image_7 fg_RX12_143 o1 e4 ?_
  refine v_iconst (0 : Int32) dX12_image_10 (by decide) ?_
  obtain ⟨i5, h⟩ := h
  refine v_iald dX12_image_11 i5 ?_
  refine v_sipush (256 : Int32) dX12_image_12 (by decide) ?_
  refine v_idiv dX12_image_15 (by decide) ?_
  refine v_cVv [.int _] mv_X12_writes ml_RX12_724 ⟨_, _, rfl⟩ o1 rfl rfl (Nat.le_of_ble_eq_true rfl) (Nat.le_of_ble_eq_true rfl) (Nat.le_of_ble_eq_true rfl) (Nat.zero_le _) (Nat.zero_le _) dX12_image_16 (c_X12_writes h) (fun m7 h => ?_)
  refine v_aload_n 0 0 dX12_image_19 rfl rfl ?_
  refine v_aload_n 0 0 dX12_image_20 rfl rfl ?_
  obtain ⟨b8, e9, h⟩ := h
  refine v_gR 12 58 dX12_image_21 fg_RX12_143 o1 e9 ?_
  refine v_iconst (0 : Int32) dX12_image_24 (by decide) ?_
  obtain ⟨i10, h⟩ := h
  refine v_iald dX12_image_25 i10 ?_
  refine v_sipush (256 : Int32) dX12_image_26 (by decide) ?_
  refine v_irem dX12_image_29 (by decide) ?_
  refine v_cVv [.int _] mv_X12_writes ml_RX12_724 ⟨_, _, rfl⟩ o1 rfl rfl (Nat.le_of_ble_eq_true rfl) (Nat.le_of_ble_eq_true rfl) (Nat.le_of_ble_eq_true rfl) (Nat.zero_le _) (Nat.zero_le _) dX12_image_30 (c_X12_writes h) (fun m12 h => ?_)
  refine v_iconst (0 : Int32) dX12_image_33 (by decide) ?_
  refine v_istore_n (ls' := [(1, .int _), (0, .ref _)]) 1 dX12_image_34 rfl (Nat.le_of_ble_eq_true rfl) rfl ?_
  refine v_sub [1, 0] rfl ?_
  exact v_X12_image_p35 h
/-! CalledRiverModel.isAsSeen -/
theorem dX12_isAsSeen_0 : decode cX12_isAsSeen 0 = .ok (.iconst 0, 1) := by decide +kernel
theorem dX12_isAsSeen_1 : decode cX12_isAsSeen 1 = .ok (.istore_n 2, 1) := by decide +kernel
theorem dX12_isAsSeen_2 : decode cX12_isAsSeen 2 = .ok (.iload_n 2, 1) := by decide +kernel
theorem dX12_isAsSeen_3 : decode cX12_isAsSeen 3 = .ok (.aload_n 0, 1) := by decide +kernel
theorem dX12_isAsSeen_4 : decode cX12_isAsSeen 4 = .ok (.getfield 433, 3) := by decide +kernel
theorem dX12_isAsSeen_7 : decode cX12_isAsSeen 7 = .ok (.if_icmp .ge 42, 3) := by decide +kernel
theorem dX12_isAsSeen_10 : decode cX12_isAsSeen 10 = .ok (.aload_n 0, 1) := by decide +kernel
theorem dX12_isAsSeen_11 : decode cX12_isAsSeen 11 = .ok (.getfield 179, 3) := by decide +kernel
theorem dX12_isAsSeen_14 : decode cX12_isAsSeen 14 = .ok (.bipush 41, 2) := by decide +kernel
theorem dX12_isAsSeen_16 : decode cX12_isAsSeen 16 = .ok (.iload_n 1, 1) := by decide +kernel
theorem dX12_isAsSeen_17 : decode cX12_isAsSeen 17 = .ok (.imul, 1) := by decide +kernel
theorem dX12_isAsSeen_18 : decode cX12_isAsSeen 18 = .ok (.aload_n 0, 1) := by decide +kernel
theorem dX12_isAsSeen_19 : decode cX12_isAsSeen 19 = .ok (.getfield 176, 3) := by decide +kernel
theorem dX12_isAsSeen_22 : decode cX12_isAsSeen 22 = .ok (.iconst 2, 1) := by decide +kernel
theorem dX12_isAsSeen_23 : decode cX12_isAsSeen 23 = .ok (.iload_n 2, 1) := by decide +kernel
theorem dX12_isAsSeen_24 : decode cX12_isAsSeen 24 = .ok (.imul, 1) := by decide +kernel
theorem dX12_isAsSeen_25 : decode cX12_isAsSeen 25 = .ok (.iaload, 1) := by decide +kernel
theorem dX12_isAsSeen_26 : decode cX12_isAsSeen 26 = .ok (.iadd, 1) := by decide +kernel
theorem dX12_isAsSeen_27 : decode cX12_isAsSeen 27 = .ok (.iaload, 1) := by decide +kernel
theorem dX12_isAsSeen_28 : decode cX12_isAsSeen 28 = .ok (.aload_n 0, 1) := by decide +kernel
theorem dX12_isAsSeen_29 : decode cX12_isAsSeen 29 = .ok (.getfield 176, 3) := by decide +kernel
theorem dX12_isAsSeen_32 : decode cX12_isAsSeen 32 = .ok (.iconst 2, 1) := by decide +kernel
theorem dX12_isAsSeen_33 : decode cX12_isAsSeen 33 = .ok (.iload_n 2, 1) := by decide +kernel
theorem dX12_isAsSeen_34 : decode cX12_isAsSeen 34 = .ok (.imul, 1) := by decide +kernel
theorem dX12_isAsSeen_35 : decode cX12_isAsSeen 35 = .ok (.iconst 1, 1) := by decide +kernel
theorem dX12_isAsSeen_36 : decode cX12_isAsSeen 36 = .ok (.iadd, 1) := by decide +kernel
theorem dX12_isAsSeen_37 : decode cX12_isAsSeen 37 = .ok (.iaload, 1) := by decide +kernel
theorem dX12_isAsSeen_38 : decode cX12_isAsSeen 38 = .ok (.if_icmp .eq 5, 3) := by decide +kernel
theorem dX12_isAsSeen_41 : decode cX12_isAsSeen 41 = .ok (.iconst 0, 1) := by decide +kernel
theorem dX12_isAsSeen_42 : decode cX12_isAsSeen 42 = .ok (.ireturn, 1) := by decide +kernel
theorem dX12_isAsSeen_43 : decode cX12_isAsSeen 43 = .ok (.iinc 2 1, 3) := by decide +kernel
theorem dX12_isAsSeen_46 : decode cX12_isAsSeen 46 = .ok (.goto (-44), 3) := by decide +kernel
theorem dX12_isAsSeen_49 : decode cX12_isAsSeen 49 = .ok (.iconst 1, 1) := by decide +kernel
theorem dX12_isAsSeen_50 : decode cX12_isAsSeen 50 = .ok (.ireturn, 1) := by decide +kernel
def X12_isAsSeen_p2b (sh : Shp) (v0 : Nat) (v1 : Int32) (Q : Int32 → Mem → Prop) (K2 : Int32 → Mem → Prop) (v2 : Int32) (m : Mem) : Prop :=
  Ob sh v0 12 ∧ (if (m.1 v0 74) ≤ v2 then (Q (1 : Int32) m) else (∃ b2 : Nat, m.2.2 v0 76 = some b2 ∧ (∃ b4 : Nat, m.2.2 v0 75 = some b4 ∧ (Ix sh b4 100 ((2 : Int32) * v2) ∧ (Ix sh b2 100 (((41 : Int32) * v1) + (m.1 b4 ((2 : Int32) * v2).toNatClampNeg)) ∧ (Ix sh b4 100 (((2 : Int32) * v2) + (1 : Int32)) ∧ (if (m.1 b2 (((41 : Int32) * v1) + (m.1 b4 ((2 : Int32) * v2).toNatClampNeg)).toNatClampNeg) = (m.1 b4 (((2 : Int32) * v2) + (1 : Int32)).toNatClampNeg) then (K2 (v2 + (1 : Int32)) m) else (Q (0 : Int32) m))))))))
def X12_isAsSeen_p2n (sh : Shp) (v0 : Nat) (v1 : Int32) (Q : Int32 → Mem → Prop) : Nat → Int32 → Mem → Prop
  | 0 => fun _ _ => False
  | n + 1 => X12_isAsSeen_p2b sh v0 v1 Q (X12_isAsSeen_p2n sh v0 v1 Q n)
def X12_isAsSeen_p2 (sh : Shp) (v0 : Nat) (v1 : Int32) (Q : Int32 → Mem → Prop) (v2 : Int32) (m : Mem) : Prop := ∃ n, X12_isAsSeen_p2n sh v0 v1 Q n v2 m
def wp_X12_isAsSeen (sh : Shp) (v0 : Nat) (v1 : Int32) (Q : Int32 → Mem → Prop) (m : Mem) : Prop :=
  X12_isAsSeen_p2 sh v0 v1 Q (0 : Int32) m
abbrev M_X12_isAsSeen : Mi := (cX12_isAsSeen, 3, RX12, (Option.some FieldType.boolean), "isAsSeen", 1, 60, 0, 0)
set_option maxHeartbeats 4000000 in
set_option maxRecDepth 100000 in
theorem v_X12_isAsSeen_p2b {G : Gl} {F : Fr} {sh : Shp} {v0 : Nat} {v1 : Int32} {v2 : Int32} {Q : Int32 → Mem → Prop} {K2 : Int32 → Mem → Prop} {m : Mem} (hK2 : ∀ (x2 : Int32) (m : Mem), K2 x2 m → V G F M_X12_isAsSeen sh 0 0 (Zi G F sh Q) 2 [(0, .ref (G.1 + v0)), (1, .int v1), (2, .int x2)] [] m) (h : X12_isAsSeen_p2b sh v0 v1 Q K2 v2 m) : V G F M_X12_isAsSeen sh 0 0 (Zi G F sh Q) 2 [(0, .ref (G.1 + v0)), (1, .int v1), (2, .int v2)] [] m := by
  unfold X12_isAsSeen_p2b at h
  refine v_iload_n 2 2 dX12_isAsSeen_2 rfl rfl ?_
  refine v_aload_n 0 0 dX12_isAsSeen_3 rfl rfl ?_
  obtain ⟨o1, h⟩ := h
  refine v_gI 12 74 dX12_isAsSeen_4 fg_RX12_433 o1 ?_
  refine v_icmp_ge 49 dX12_isAsSeen_7 (by decide) (fun hc => ?_) (fun hc => ?_)
  · replace h := Eq.mp (if_pos hc) h
    refine v_iconst (1 : Int32) dX12_isAsSeen_49 (by decide) ?_
    exact v_iret dX12_isAsSeen_50 rfl (by decide) h
  · replace h := Eq.mp (if_neg hc) h
    refine v_aload_n 0 0 dX12_isAsSeen_10 rfl rfl ?_
    obtain ⟨b2, e3, h⟩ := h
    refine v_gR 12 76 dX12_isAsSeen_11 fg_RX12_179 o1 e3 ?_
    refine v_bipush (41 : Int32) dX12_isAsSeen_14 (by decide) ?_
    refine v_iload_n 1 1 dX12_isAsSeen_16 rfl rfl ?_
    refine v_imul dX12_isAsSeen_17 ?_
    refine v_aload_n 0 0 dX12_isAsSeen_18 rfl rfl ?_
    obtain ⟨b4, e5, h⟩ := h
    refine v_gR 12 75 dX12_isAsSeen_19 fg_RX12_176 o1 e5 ?_
    refine v_iconst (2 : Int32) dX12_isAsSeen_22 (by decide) ?_
    refine v_iload_n 2 2 dX12_isAsSeen_23 rfl rfl ?_
    refine v_imul dX12_isAsSeen_24 ?_
    obtain ⟨i6, h⟩ := h
    refine v_iald dX12_isAsSeen_25 i6 ?_
    refine v_iadd dX12_isAsSeen_26 ?_
    obtain ⟨i7, h⟩ := h
    refine v_iald dX12_isAsSeen_27 i7 ?_
    refine v_aload_n 0 0 dX12_isAsSeen_28 rfl rfl ?_
    refine v_gR 12 75 dX12_isAsSeen_29 fg_RX12_176 o1 e5 ?_
    refine v_iconst (2 : Int32) dX12_isAsSeen_32 (by decide) ?_
    refine v_iload_n 2 2 dX12_isAsSeen_33 rfl rfl ?_
    refine v_imul dX12_isAsSeen_34 ?_
    refine v_iconst (1 : Int32) dX12_isAsSeen_35 (by decide) ?_
    refine v_iadd dX12_isAsSeen_36 ?_
    obtain ⟨i8, h⟩ := h
    refine v_iald dX12_isAsSeen_37 i8 ?_
    refine v_icmp_eq 43 dX12_isAsSeen_38 (by decide) (fun hc => ?_) (fun hc => ?_)
    · replace h := Eq.mp (if_pos hc) h
      refine v_iinc (ls' := [(2, .int _), (0, .ref _), (1, .int _)]) 2 2 dX12_isAsSeen_43 rfl (congrArg (HAdd.hAdd _) (by decide : Int32.ofInt (1) = (1 : Int32))) (Nat.le_of_ble_eq_true rfl) rfl ?_
      refine v_goto 2 dX12_isAsSeen_46 (by decide) ?_
      refine v_sub [1, 2, 0] rfl ?_
      exact hK2 _ _ h
    · replace h := Eq.mp (if_neg hc) h
      refine v_iconst (0 : Int32) dX12_isAsSeen_41 (by decide) ?_
      exact v_iret dX12_isAsSeen_42 rfl (by decide) h
set_option maxHeartbeats 4000000 in
set_option maxRecDepth 100000 in
theorem v_X12_isAsSeen_p2 {G : Gl} {F : Fr} {sh : Shp} {v0 : Nat} {v1 : Int32} {v2 : Int32} {Q : Int32 → Mem → Prop} {m : Mem} (h : X12_isAsSeen_p2 sh v0 v1 Q v2 m) : V G F M_X12_isAsSeen sh 0 0 (Zi G F sh Q) 2 [(0, .ref (G.1 + v0)), (1, .int v1), (2, .int v2)] [] m := by
  obtain ⟨n, h⟩ := h
  induction n generalizing v2 m with
  | zero => exact h.elim
  | succ n ih => exact v_X12_isAsSeen_p2b (fun _ _ h => ih h) h
set_option maxHeartbeats 4000000 in
set_option maxRecDepth 100000 in
theorem c_X12_isAsSeen {l : Launch} {G : Gl} {sh : Shp} {v0 : Nat} {v1 : Int32} {Q : Int32 → Mem → Prop} {m : Mem} (h : wp_X12_isAsSeen sh v0 v1 Q m) : Cni l G yX12_isAsSeen cX12_isAsSeen 3 (Option.some FieldType.boolean) 1 60 sh [.ref (G.1 + v0), .int v1] m Q := by
  refine con_i (ls := [(0, .ref (G.1 + v0)), (1, .int v1)]) (by decide +kernel) rfl (Nat.le_of_ble_eq_true rfl) (fun F => ?_)
  show V G F M_X12_isAsSeen sh 0 0 (Zi G F sh Q) 0 [(0, .ref (G.1 + v0)), (1, .int v1)] [] m
  unfold wp_X12_isAsSeen at h
  refine v_iconst (0 : Int32) dX12_isAsSeen_0 (by decide) ?_
  refine v_istore_n (ls' := [(2, .int _), (0, .ref _), (1, .int _)]) 2 dX12_isAsSeen_1 rfl (Nat.le_of_ble_eq_true rfl) rfl ?_
  refine v_sub [1, 2, 0] rfl ?_
  exact v_X12_isAsSeen_p2 h
/-! CalledRiverModel.isImage -/
theorem dX12_isImage_0 : decode cX12_isImage 0 = .ok (.iconst 2, 1) := by decide +kernel
theorem dX12_isImage_1 : decode cX12_isImage 1 = .ok (.iconst 3, 1) := by decide +kernel
theorem dX12_isImage_2 : decode cX12_isImage 2 = .ok (.aload_n 0, 1) := by decide +kernel
theorem dX12_isImage_3 : decode cX12_isImage 3 = .ok (.invokevirtual 484, 3) := by decide +kernel
theorem dX12_isImage_6 : decode cX12_isImage 6 = .ok (.imul, 1) := by decide +kernel
theorem dX12_isImage_7 : decode cX12_isImage 7 = .ok (.iadd, 1) := by decide +kernel
theorem dX12_isImage_8 : decode cX12_isImage 8 = .ok (.istore_n 2, 1) := by decide +kernel
theorem dX12_isImage_9 : decode cX12_isImage 9 = .ok (.aload_n 0, 1) := by decide +kernel
theorem dX12_isImage_10 : decode cX12_isImage 10 = .ok (.getfield 423, 3) := by decide +kernel
theorem dX12_isImage_13 : decode cX12_isImage 13 = .ok (.ifCond .eq 59, 3) := by decide +kernel
theorem dX12_isImage_16 : decode cX12_isImage 16 = .ok (.iload_n 1, 1) := by decide +kernel
theorem dX12_isImage_17 : decode cX12_isImage 17 = .ok (.iload_n 2, 1) := by decide +kernel
theorem dX12_isImage_18 : decode cX12_isImage 18 = .ok (.aload_n 0, 1) := by decide +kernel
theorem dX12_isImage_19 : decode cX12_isImage 19 = .ok (.invokevirtual 436, 3) := by decide +kernel
theorem dX12_isImage_22 : decode cX12_isImage 22 = .ok (.iadd, 1) := by decide +kernel
theorem dX12_isImage_23 : decode cX12_isImage 23 = .ok (.iconst 1, 1) := by decide +kernel
theorem dX12_isImage_24 : decode cX12_isImage 24 = .ok (.iadd, 1) := by decide +kernel
theorem dX12_isImage_25 : decode cX12_isImage 25 = .ok (.if_icmp .ne 47, 3) := by decide +kernel
theorem dX12_isImage_28 : decode cX12_isImage 28 = .ok (.aload_n 0, 1) := by decide +kernel
theorem dX12_isImage_29 : decode cX12_isImage 29 = .ok (.getfield 7, 3) := by decide +kernel
theorem dX12_isImage_32 : decode cX12_isImage 32 = .ok (.iload_n 1, 1) := by decide +kernel
theorem dX12_isImage_33 : decode cX12_isImage 33 = .ok (.iconst 1, 1) := by decide +kernel
theorem dX12_isImage_34 : decode cX12_isImage 34 = .ok (.isub, 1) := by decide +kernel
theorem dX12_isImage_35 : decode cX12_isImage 35 = .ok (.iaload, 1) := by decide +kernel
theorem dX12_isImage_36 : decode cX12_isImage 36 = .ok (.aload_n 0, 1) := by decide +kernel
theorem dX12_isImage_37 : decode cX12_isImage 37 = .ok (.getfield 7, 3) := by decide +kernel
theorem dX12_isImage_40 : decode cX12_isImage 40 = .ok (.iload_n 1, 1) := by decide +kernel
theorem dX12_isImage_41 : decode cX12_isImage 41 = .ok (.iconst 1, 1) := by decide +kernel
theorem dX12_isImage_42 : decode cX12_isImage 42 = .ok (.isub, 1) := by decide +kernel
theorem dX12_isImage_43 : decode cX12_isImage 43 = .ok (.invokestatic 727, 3) := by decide +kernel
theorem dX12_isImage_46 : decode cX12_isImage 46 = .ok (.if_icmp .ne 26, 3) := by decide +kernel
theorem dX12_isImage_49 : decode cX12_isImage 49 = .ok (.sipush 256, 3) := by decide +kernel
theorem dX12_isImage_52 : decode cX12_isImage 52 = .ok (.aload_n 0, 1) := by decide +kernel
theorem dX12_isImage_53 : decode cX12_isImage 53 = .ok (.getfield 7, 3) := by decide +kernel
theorem dX12_isImage_56 : decode cX12_isImage 56 = .ok (.iconst 0, 1) := by decide +kernel
theorem dX12_isImage_57 : decode cX12_isImage 57 = .ok (.iaload, 1) := by decide +kernel
theorem dX12_isImage_58 : decode cX12_isImage 58 = .ok (.imul, 1) := by decide +kernel
theorem dX12_isImage_59 : decode cX12_isImage 59 = .ok (.aload_n 0, 1) := by decide +kernel
theorem dX12_isImage_60 : decode cX12_isImage 60 = .ok (.getfield 7, 3) := by decide +kernel
theorem dX12_isImage_63 : decode cX12_isImage 63 = .ok (.iconst 1, 1) := by decide +kernel
theorem dX12_isImage_64 : decode cX12_isImage 64 = .ok (.iaload, 1) := by decide +kernel
theorem dX12_isImage_65 : decode cX12_isImage 65 = .ok (.iadd, 1) := by decide +kernel
theorem dX12_isImage_66 : decode cX12_isImage 66 = .ok (.sipush 999, 3) := by decide +kernel
theorem dX12_isImage_69 : decode cX12_isImage 69 = .ok (.if_icmp .le 5, 3) := by decide +kernel
theorem dX12_isImage_72 : decode cX12_isImage 72 = .ok (.iconst 0, 1) := by decide +kernel
theorem dX12_isImage_73 : decode cX12_isImage 73 = .ok (.ireturn, 1) := by decide +kernel
theorem dX12_isImage_74 : decode cX12_isImage 74 = .ok (.iconst 2, 1) := by decide +kernel
theorem dX12_isImage_75 : decode cX12_isImage 75 = .ok (.istore_n 3, 1) := by decide +kernel
theorem dX12_isImage_76 : decode cX12_isImage 76 = .ok (.iload_n 3, 1) := by decide +kernel
theorem dX12_isImage_77 : decode cX12_isImage 77 = .ok (.iload_n 2, 1) := by decide +kernel
theorem dX12_isImage_78 : decode cX12_isImage 78 = .ok (.if_icmp .ge 47, 3) := by decide +kernel
theorem dX12_isImage_81 : decode cX12_isImage 81 = .ok (.aload_n 0, 1) := by decide +kernel
theorem dX12_isImage_82 : decode cX12_isImage 82 = .ok (.getfield 7, 3) := by decide +kernel
theorem dX12_isImage_85 : decode cX12_isImage 85 = .ok (.iload_n 3, 1) := by decide +kernel
theorem dX12_isImage_86 : decode cX12_isImage 86 = .ok (.iaload, 1) := by decide +kernel
theorem dX12_isImage_87 : decode cX12_isImage 87 = .ok (.bipush 9, 2) := by decide +kernel
theorem dX12_isImage_89 : decode cX12_isImage 89 = .ok (.if_icmp .gt 28, 3) := by decide +kernel
theorem dX12_isImage_92 : decode cX12_isImage 92 = .ok (.aload_n 0, 1) := by decide +kernel
theorem dX12_isImage_93 : decode cX12_isImage 93 = .ok (.getfield 7, 3) := by decide +kernel
theorem dX12_isImage_96 : decode cX12_isImage 96 = .ok (.iload_n 3, 1) := by decide +kernel
theorem dX12_isImage_97 : decode cX12_isImage 97 = .ok (.iconst 1, 1) := by decide +kernel
theorem dX12_isImage_98 : decode cX12_isImage 98 = .ok (.iadd, 1) := by decide +kernel
theorem dX12_isImage_99 : decode cX12_isImage 99 = .ok (.iaload, 1) := by decide +kernel
theorem dX12_isImage_100 : decode cX12_isImage 100 = .ok (.iconst 1, 1) := by decide +kernel
theorem dX12_isImage_101 : decode cX12_isImage 101 = .ok (.if_icmp .gt 16, 3) := by decide +kernel
theorem dX12_isImage_104 : decode cX12_isImage 104 = .ok (.aload_n 0, 1) := by decide +kernel
theorem dX12_isImage_105 : decode cX12_isImage 105 = .ok (.getfield 7, 3) := by decide +kernel
theorem dX12_isImage_108 : decode cX12_isImage 108 = .ok (.iload_n 3, 1) := by decide +kernel
theorem dX12_isImage_109 : decode cX12_isImage 109 = .ok (.iconst 2, 1) := by decide +kernel
theorem dX12_isImage_110 : decode cX12_isImage 110 = .ok (.iadd, 1) := by decide +kernel
theorem dX12_isImage_111 : decode cX12_isImage 111 = .ok (.iaload, 1) := by decide +kernel
theorem dX12_isImage_112 : decode cX12_isImage 112 = .ok (.bipush 99, 2) := by decide +kernel
theorem dX12_isImage_114 : decode cX12_isImage 114 = .ok (.if_icmp .le 5, 3) := by decide +kernel
theorem dX12_isImage_117 : decode cX12_isImage 117 = .ok (.iconst 0, 1) := by decide +kernel
theorem dX12_isImage_118 : decode cX12_isImage 118 = .ok (.ireturn, 1) := by decide +kernel
theorem dX12_isImage_119 : decode cX12_isImage 119 = .ok (.iinc 3 3, 3) := by decide +kernel
theorem dX12_isImage_122 : decode cX12_isImage 122 = .ok (.goto (-46), 3) := by decide +kernel
theorem dX12_isImage_125 : decode cX12_isImage 125 = .ok (.iload_n 2, 1) := by decide +kernel
theorem dX12_isImage_126 : decode cX12_isImage 126 = .ok (.istore_n 3, 1) := by decide +kernel
theorem dX12_isImage_127 : decode cX12_isImage 127 = .ok (.iload_n 3, 1) := by decide +kernel
theorem dX12_isImage_128 : decode cX12_isImage 128 = .ok (.iload_n 1, 1) := by decide +kernel
theorem dX12_isImage_129 : decode cX12_isImage 129 = .ok (.iconst 1, 1) := by decide +kernel
theorem dX12_isImage_130 : decode cX12_isImage 130 = .ok (.isub, 1) := by decide +kernel
theorem dX12_isImage_131 : decode cX12_isImage 131 = .ok (.if_icmp .ge 22, 3) := by decide +kernel
theorem dX12_isImage_134 : decode cX12_isImage 134 = .ok (.aload_n 0, 1) := by decide +kernel
theorem dX12_isImage_135 : decode cX12_isImage 135 = .ok (.getfield 7, 3) := by decide +kernel
theorem dX12_isImage_138 : decode cX12_isImage 138 = .ok (.iload_n 3, 1) := by decide +kernel
theorem dX12_isImage_139 : decode cX12_isImage 139 = .ok (.iaload, 1) := by decide +kernel
theorem dX12_isImage_140 : decode cX12_isImage 140 = .ok (.bipush 9, 2) := by decide +kernel
theorem dX12_isImage_142 : decode cX12_isImage 142 = .ok (.if_icmp .le 5, 3) := by decide +kernel
theorem dX12_isImage_145 : decode cX12_isImage 145 = .ok (.iconst 0, 1) := by decide +kernel
theorem dX12_isImage_146 : decode cX12_isImage 146 = .ok (.ireturn, 1) := by decide +kernel
theorem dX12_isImage_147 : decode cX12_isImage 147 = .ok (.iinc 3 1, 3) := by decide +kernel
theorem dX12_isImage_150 : decode cX12_isImage 150 = .ok (.goto (-23), 3) := by decide +kernel
theorem dX12_isImage_153 : decode cX12_isImage 153 = .ok (.iconst 1, 1) := by decide +kernel
theorem dX12_isImage_154 : decode cX12_isImage 154 = .ok (.ireturn, 1) := by decide +kernel
def X12_isImage_p127b (sh : Shp) (v0 : Nat) (v1 : Int32) (Q : Int32 → Mem → Prop) (K127 : Int32 → Mem → Prop) (v3 : Int32) (m : Mem) : Prop :=
  if (v1 - (1 : Int32)) ≤ v3 then (Q (1 : Int32) m) else (Ob sh v0 12 ∧ ∃ b22 : Nat, m.2.2 v0 0 = some b22 ∧ (Ix sh b22 100 v3 ∧ (if (m.1 b22 v3.toNatClampNeg) ≤ (9 : Int32) then (K127 (v3 + (1 : Int32)) m) else (Q (0 : Int32) m))))
def X12_isImage_p127n (sh : Shp) (v0 : Nat) (v1 : Int32) (Q : Int32 → Mem → Prop) : Nat → Int32 → Mem → Prop
  | 0 => fun _ _ => False
  | n + 1 => X12_isImage_p127b sh v0 v1 Q (X12_isImage_p127n sh v0 v1 Q n)
def X12_isImage_p127 (sh : Shp) (v0 : Nat) (v1 : Int32) (Q : Int32 → Mem → Prop) (v3 : Int32) (m : Mem) : Prop := ∃ n, X12_isImage_p127n sh v0 v1 Q n v3 m
def X12_isImage_p76b (sh : Shp) (v0 : Nat) (v1 : Int32) (v2 : Int32) (Q : Int32 → Mem → Prop) (K76 : Int32 → Mem → Prop) (v3 : Int32) (m : Mem) : Prop :=
  if v2 ≤ v3 then (X12_isImage_p127 sh v0 v1 Q v2 m) else (Ob sh v0 12 ∧ ∃ b16 : Nat, m.2.2 v0 0 = some b16 ∧ (Ix sh b16 100 v3 ∧ (if (9 : Int32) < (m.1 b16 v3.toNatClampNeg) then (Q (0 : Int32) m) else (Ix sh b16 100 (v3 + (1 : Int32)) ∧ (if (1 : Int32) < (m.1 b16 (v3 + (1 : Int32)).toNatClampNeg) then (Q (0 : Int32) m) else (Ix sh b16 100 (v3 + (2 : Int32)) ∧ (if (m.1 b16 (v3 + (2 : Int32)).toNatClampNeg) ≤ (99 : Int32) then (K76 (v3 + (3 : Int32)) m) else (Q (0 : Int32) m))))))))
def X12_isImage_p76n (sh : Shp) (v0 : Nat) (v1 : Int32) (v2 : Int32) (Q : Int32 → Mem → Prop) : Nat → Int32 → Mem → Prop
  | 0 => fun _ _ => False
  | n + 1 => X12_isImage_p76b sh v0 v1 v2 Q (X12_isImage_p76n sh v0 v1 v2 Q n)
def X12_isImage_p76 (sh : Shp) (v0 : Nat) (v1 : Int32) (v2 : Int32) (Q : Int32 → Mem → Prop) (v3 : Int32) (m : Mem) : Prop := ∃ n, X12_isImage_p76n sh v0 v1 v2 Q n v3 m
def wp_X12_isImage (sh : Shp) (v0 : Nat) (v1 : Int32) (Q : Int32 → Mem → Prop) (m : Mem) : Prop :=
  Ob sh v0 12 ∧ wp_X12_cellMany sh v0 (fun r1 m2 => if (m2.1 v0 56) = 0 then (Q (0 : Int32) m2) else (wp_X12_farmMany sh v0 (fun r4 m5 => if v1 = ((((2 : Int32) + ((3 : Int32) * r1)) + r4) + (1 : Int32)) then (∃ b6 : Nat, m5.2.2 v0 0 = some b6 ∧ (Ix sh b6 100 (v1 - (1 : Int32)) ∧ (wp_X12_checked sh b6 (v1 - (1 : Int32)) (fun r9 m10 => if (m5.1 b6 (v1 - (1 : Int32)).toNatClampNeg) = r9 then (∃ b11 : Nat, m10.2.2 v0 0 = some b11 ∧ (Ix sh b11 100 (0 : Int32) ∧ (Ix sh b11 100 (1 : Int32) ∧ (if (((256 : Int32) * (m10.1 b11 (0 : Int32).toNatClampNeg)) + (m10.1 b11 (1 : Int32).toNatClampNeg)) ≤ (999 : Int32) then (X12_isImage_p76 sh v0 v1 ((2 : Int32) + ((3 : Int32) * r1)) Q (2 : Int32) m10) else (Q (0 : Int32) m10))))) else (Q (0 : Int32) m10)) m5))) else (Q (0 : Int32) m5)) m2)) m
abbrev M_X12_isImage : Mi := (cX12_isImage, 4, RX12, (Option.some FieldType.boolean), "isImage", 2, 83, 0, 0)
set_option maxHeartbeats 4000000 in
set_option maxRecDepth 100000 in
theorem v_X12_isImage_p127b {G : Gl} {F : Fr} {sh : Shp} {v0 : Nat} {v1 : Int32} {v3 : Int32} {Q : Int32 → Mem → Prop} {K127 : Int32 → Mem → Prop} {m : Mem} (hK127 : ∀ (x3 : Int32) (m : Mem), K127 x3 m → V G F M_X12_isImage sh 0 0 (Zi G F sh Q) 127 [(0, .ref (G.1 + v0)), (1, .int v1), (3, .int x3)] [] m) (h : X12_isImage_p127b sh v0 v1 Q K127 v3 m) : V G F M_X12_isImage sh 0 0 (Zi G F sh Q) 127 [(0, .ref (G.1 + v0)), (1, .int v1), (3, .int v3)] [] m := by
  unfold X12_isImage_p127b at h
  refine v_iload_n 3 2 dX12_isImage_127 rfl rfl ?_
  refine v_iload_n 1 1 dX12_isImage_128 rfl rfl ?_
  refine v_iconst (1 : Int32) dX12_isImage_129 (by decide) ?_
  refine v_isub dX12_isImage_130 ?_
  refine v_icmp_ge 153 dX12_isImage_131 (by decide) (fun hc => ?_) (fun hc => ?_)
  · replace h := Eq.mp (if_pos hc) h
    refine v_iconst (1 : Int32) dX12_isImage_153 (by decide) ?_
    exact v_iret dX12_isImage_154 rfl (by decide) h
  · replace h := Eq.mp (if_neg hc) h
    refine v_aload_n 0 0 dX12_isImage_134 rfl rfl ?_
    obtain ⟨o21, h⟩ := h
    obtain ⟨b22, e23, h⟩ := h
    refine v_gR 12 0 dX12_isImage_135 fg_RX12_7 o21 e23 ?_
    refine v_iload_n 3 2 dX12_isImage_138 rfl rfl ?_
    obtain ⟨i24, h⟩ := h
    refine v_iald dX12_isImage_139 i24 ?_
    refine v_bipush (9 : Int32) dX12_isImage_140 (by decide) ?_
    refine v_icmp_le 147 dX12_isImage_142 (by decide) (fun hc => ?_) (fun hc => ?_)
    · replace h := Eq.mp (if_pos hc) h
      refine v_iinc (ls' := [(3, .int _), (0, .ref _), (1, .int _)]) 3 2 dX12_isImage_147 rfl (congrArg (HAdd.hAdd _) (by decide : Int32.ofInt (1) = (1 : Int32))) (Nat.le_of_ble_eq_true rfl) rfl ?_
      refine v_goto 127 dX12_isImage_150 (by decide) ?_
      refine v_sub [1, 2, 0] rfl ?_
      exact hK127 _ _ h
    · replace h := Eq.mp (if_neg hc) h
      refine v_iconst (0 : Int32) dX12_isImage_145 (by decide) ?_
      exact v_iret dX12_isImage_146 rfl (by decide) h
set_option maxHeartbeats 4000000 in
set_option maxRecDepth 100000 in
theorem v_X12_isImage_p127 {G : Gl} {F : Fr} {sh : Shp} {v0 : Nat} {v1 : Int32} {v3 : Int32} {Q : Int32 → Mem → Prop} {m : Mem} (h : X12_isImage_p127 sh v0 v1 Q v3 m) : V G F M_X12_isImage sh 0 0 (Zi G F sh Q) 127 [(0, .ref (G.1 + v0)), (1, .int v1), (3, .int v3)] [] m := by
  obtain ⟨n, h⟩ := h
  induction n generalizing v3 m with
  | zero => exact h.elim
  | succ n ih => exact v_X12_isImage_p127b (fun _ _ h => ih h) h
set_option maxHeartbeats 4000000 in
set_option maxRecDepth 100000 in
theorem v_X12_isImage_p76b {G : Gl} {F : Fr} {sh : Shp} {v0 : Nat} {v1 : Int32} {v2 : Int32} {v3 : Int32} {Q : Int32 → Mem → Prop} {K76 : Int32 → Mem → Prop} {m : Mem} (hK76 : ∀ (x3 : Int32) (m : Mem), K76 x3 m → V G F M_X12_isImage sh 0 0 (Zi G F sh Q) 76 [(0, .ref (G.1 + v0)), (1, .int v1), (2, .int v2), (3, .int x3)] [] m) (h : X12_isImage_p76b sh v0 v1 v2 Q K76 v3 m) : V G F M_X12_isImage sh 0 0 (Zi G F sh Q) 76 [(0, .ref (G.1 + v0)), (1, .int v1), (2, .int v2), (3, .int v3)] [] m := by
  unfold X12_isImage_p76b at h
  refine v_iload_n 3 3 dX12_isImage_76 rfl rfl ?_
  refine v_iload_n 2 2 dX12_isImage_77 rfl rfl ?_
  refine v_icmp_ge 125 dX12_isImage_78 (by decide) (fun hc => ?_) (fun hc => ?_)
  · replace h := Eq.mp (if_pos hc) h
    refine v_iload_n 2 2 dX12_isImage_125 rfl rfl ?_
    refine v_istore_n (ls' := [(3, .int _), (0, .ref _), (1, .int _), (2, .int _)]) 3 dX12_isImage_126 rfl (Nat.le_of_ble_eq_true rfl) rfl ?_
    refine v_sub [1, 2, 0] rfl ?_
    exact v_X12_isImage_p127 h
  · replace h := Eq.mp (if_neg hc) h
    refine v_aload_n 0 0 dX12_isImage_81 rfl rfl ?_
    obtain ⟨o15, h⟩ := h
    obtain ⟨b16, e17, h⟩ := h
    refine v_gR 12 0 dX12_isImage_82 fg_RX12_7 o15 e17 ?_
    refine v_iload_n 3 3 dX12_isImage_85 rfl rfl ?_
    obtain ⟨i18, h⟩ := h
    refine v_iald dX12_isImage_86 i18 ?_
    refine v_bipush (9 : Int32) dX12_isImage_87 (by decide) ?_
    refine v_icmp_gt 117 dX12_isImage_89 (by decide) (fun hc => ?_) (fun hc => ?_)
    · replace h := Eq.mp (if_pos hc) h
      refine v_iconst (0 : Int32) dX12_isImage_117 (by decide) ?_
      exact v_iret dX12_isImage_118 rfl (by decide) h
    · replace h := Eq.mp (if_neg hc) h
      refine v_aload_n 0 0 dX12_isImage_92 rfl rfl ?_
      refine v_gR 12 0 dX12_isImage_93 fg_RX12_7 o15 e17 ?_
      refine v_iload_n 3 3 dX12_isImage_96 rfl rfl ?_
      refine v_iconst (1 : Int32) dX12_isImage_97 (by decide) ?_
      refine v_iadd dX12_isImage_98 ?_
      obtain ⟨i19, h⟩ := h
      refine v_iald dX12_isImage_99 i19 ?_
      refine v_iconst (1 : Int32) dX12_isImage_100 (by decide) ?_
      refine v_icmp_gt 117 dX12_isImage_101 (by decide) (fun hc => ?_) (fun hc => ?_)
      · replace h := Eq.mp (if_pos hc) h
        refine v_iconst (0 : Int32) dX12_isImage_117 (by decide) ?_
        exact v_iret dX12_isImage_118 rfl (by decide) h
      · replace h := Eq.mp (if_neg hc) h
        refine v_aload_n 0 0 dX12_isImage_104 rfl rfl ?_
        refine v_gR 12 0 dX12_isImage_105 fg_RX12_7 o15 e17 ?_
        refine v_iload_n 3 3 dX12_isImage_108 rfl rfl ?_
        refine v_iconst (2 : Int32) dX12_isImage_109 (by decide) ?_
        refine v_iadd dX12_isImage_110 ?_
        obtain ⟨i20, h⟩ := h
        refine v_iald dX12_isImage_111 i20 ?_
        refine v_bipush (99 : Int32) dX12_isImage_112 (by decide) ?_
        refine v_icmp_le 119 dX12_isImage_114 (by decide) (fun hc => ?_) (fun hc => ?_)
        · replace h := Eq.mp (if_pos hc) h
          refine v_iinc (ls' := [(3, .int _), (0, .ref _), (1, .int _), (2, .int _)]) 3 3 dX12_isImage_119 rfl (congrArg (HAdd.hAdd _) (by decide : Int32.ofInt (3) = (3 : Int32))) (Nat.le_of_ble_eq_true rfl) rfl ?_
          refine v_goto 76 dX12_isImage_122 (by decide) ?_
          refine v_sub [1, 2, 3, 0] rfl ?_
          exact hK76 _ _ h
        · replace h := Eq.mp (if_neg hc) h
          refine v_iconst (0 : Int32) dX12_isImage_117 (by decide) ?_
          exact v_iret dX12_isImage_118 rfl (by decide) h
set_option maxHeartbeats 4000000 in
set_option maxRecDepth 100000 in
theorem v_X12_isImage_p76 {G : Gl} {F : Fr} {sh : Shp} {v0 : Nat} {v1 : Int32} {v2 : Int32} {v3 : Int32} {Q : Int32 → Mem → Prop} {m : Mem} (h : X12_isImage_p76 sh v0 v1 v2 Q v3 m) : V G F M_X12_isImage sh 0 0 (Zi G F sh Q) 76 [(0, .ref (G.1 + v0)), (1, .int v1), (2, .int v2), (3, .int v3)] [] m := by
  obtain ⟨n, h⟩ := h
  induction n generalizing v3 m with
  | zero => exact h.elim
  | succ n ih => exact v_X12_isImage_p76b (fun _ _ h => ih h) h
set_option maxHeartbeats 4000000 in
set_option maxRecDepth 100000 in
theorem c_X12_isImage {l : Launch} {G : Gl} {sh : Shp} {v0 : Nat} {v1 : Int32} {Q : Int32 → Mem → Prop} {m : Mem} (h : wp_X12_isImage sh v0 v1 Q m) : Cni l G yX12_isImage cX12_isImage 4 (Option.some FieldType.boolean) 2 83 sh [.ref (G.1 + v0), .int v1] m Q := by
  refine con_i (ls := [(0, .ref (G.1 + v0)), (1, .int v1)]) (by decide +kernel) rfl (Nat.le_of_ble_eq_true rfl) (fun F => ?_)
  show V G F M_X12_isImage sh 0 0 (Zi G F sh Q) 0 [(0, .ref (G.1 + v0)), (1, .int v1)] [] m
  unfold wp_X12_isImage at h
  refine v_iconst (2 : Int32) dX12_isImage_0 (by decide) ?_
  refine v_iconst (3 : Int32) dX12_isImage_1 (by decide) ?_
  refine v_aload_n 0 0 dX12_isImage_2 rfl rfl ?_
  obtain ⟨o3, h⟩ := h
  refine v_cVi [] mv_X12_cellMany ml_RX12_484 ⟨_, _, rfl⟩ o3 rfl rfl (Nat.le_of_ble_eq_true rfl) (Nat.le_of_ble_eq_true rfl) (Nat.le_of_ble_eq_true rfl) (Nat.zero_le _) (Nat.zero_le _) dX12_isImage_3 (c_X12_cellMany h) (fun r1 m2 h => ?_)
  refine v_imul dX12_isImage_6 ?_
  refine v_iadd dX12_isImage_7 ?_
  refine v_istore_n (ls' := [(2, .int _), (0, .ref _), (1, .int _)]) 2 dX12_isImage_8 rfl (Nat.le_of_ble_eq_true rfl) rfl ?_
  refine v_aload_n 0 1 dX12_isImage_9 rfl rfl ?_
  refine v_gI 12 56 dX12_isImage_10 fg_RX12_423 o3 ?_
  refine v_if_eq 72 dX12_isImage_13 (by decide) (fun hc => ?_) (fun hc => ?_)
  · replace h := Eq.mp (if_pos hc) h
    refine v_iconst (0 : Int32) dX12_isImage_72 (by decide) ?_
    exact v_iret dX12_isImage_73 rfl (by decide) h
  · replace h := Eq.mp (if_neg hc) h
    refine v_iload_n 1 2 dX12_isImage_16 rfl rfl ?_
    refine v_iload_n 2 0 dX12_isImage_17 rfl rfl ?_
    refine v_aload_n 0 1 dX12_isImage_18 rfl rfl ?_
    refine v_cVi [] mv_X12_farmMany ml_RX12_436 ⟨_, _, rfl⟩ o3 rfl rfl (Nat.le_of_ble_eq_true rfl) (Nat.le_of_ble_eq_true rfl) (Nat.le_of_ble_eq_true rfl) (Nat.zero_le _) (Nat.zero_le _) dX12_isImage_19 (c_X12_farmMany h) (fun r4 m5 h => ?_)
    refine v_iadd dX12_isImage_22 ?_
    refine v_iconst (1 : Int32) dX12_isImage_23 (by decide) ?_
    refine v_iadd dX12_isImage_24 ?_
    refine v_icmp_ne 72 dX12_isImage_25 (by decide) (fun hc => ?_) (fun hc => ?_)
    · replace h := Eq.mp (if_neg hc) h
      refine v_iconst (0 : Int32) dX12_isImage_72 (by decide) ?_
      exact v_iret dX12_isImage_73 rfl (by decide) h
    · replace h := Eq.mp (if_pos hc) h
      refine v_aload_n 0 1 dX12_isImage_28 rfl rfl ?_
      obtain ⟨b6, e7, h⟩ := h
      refine v_gR 12 0 dX12_isImage_29 fg_RX12_7 o3 e7 ?_
      refine v_iload_n 1 2 dX12_isImage_32 rfl rfl ?_
      refine v_iconst (1 : Int32) dX12_isImage_33 (by decide) ?_
      refine v_isub dX12_isImage_34 ?_
      obtain ⟨i8, h⟩ := h
      refine v_iald dX12_isImage_35 i8 ?_
      refine v_aload_n 0 1 dX12_isImage_36 rfl rfl ?_
      refine v_gR 12 0 dX12_isImage_37 fg_RX12_7 o3 e7 ?_
      refine v_iload_n 1 2 dX12_isImage_40 rfl rfl ?_
      refine v_iconst (1 : Int32) dX12_isImage_41 (by decide) ?_
      refine v_isub dX12_isImage_42 ?_
      refine v_cSi [.ref _, .int _] mv_X12_checked ml_RX12_727 rfl rfl (Nat.le_of_ble_eq_true rfl) (Nat.le_of_ble_eq_true rfl) (Nat.le_of_ble_eq_true rfl) (Nat.zero_le _) (Nat.zero_le _) dX12_isImage_43 (c_X12_checked h) (fun r9 m10 h => ?_)
      refine v_icmp_ne 72 dX12_isImage_46 (by decide) (fun hc => ?_) (fun hc => ?_)
      · replace h := Eq.mp (if_neg hc) h
        refine v_iconst (0 : Int32) dX12_isImage_72 (by decide) ?_
        exact v_iret dX12_isImage_73 rfl (by decide) h
      · replace h := Eq.mp (if_pos hc) h
        refine v_sipush (256 : Int32) dX12_isImage_49 (by decide) ?_
        refine v_aload_n 0 1 dX12_isImage_52 rfl rfl ?_
        obtain ⟨b11, e12, h⟩ := h
        refine v_gR 12 0 dX12_isImage_53 fg_RX12_7 o3 e12 ?_
        refine v_iconst (0 : Int32) dX12_isImage_56 (by decide) ?_
        obtain ⟨i13, h⟩ := h
        refine v_iald dX12_isImage_57 i13 ?_
        refine v_imul dX12_isImage_58 ?_
        refine v_aload_n 0 1 dX12_isImage_59 rfl rfl ?_
        refine v_gR 12 0 dX12_isImage_60 fg_RX12_7 o3 e12 ?_
        refine v_iconst (1 : Int32) dX12_isImage_63 (by decide) ?_
        obtain ⟨i14, h⟩ := h
        refine v_iald dX12_isImage_64 i14 ?_
        refine v_iadd dX12_isImage_65 ?_
        refine v_sipush (999 : Int32) dX12_isImage_66 (by decide) ?_
        refine v_icmp_le 74 dX12_isImage_69 (by decide) (fun hc => ?_) (fun hc => ?_)
        · replace h := Eq.mp (if_pos hc) h
          refine v_iconst (2 : Int32) dX12_isImage_74 (by decide) ?_
          refine v_istore_n (ls' := [(3, .int _), (2, .int _), (0, .ref _), (1, .int _)]) 3 dX12_isImage_75 rfl (Nat.le_of_ble_eq_true rfl) rfl ?_
          refine v_sub [2, 3, 1, 0] rfl ?_
          exact v_X12_isImage_p76 h
        · replace h := Eq.mp (if_neg hc) h
          refine v_iconst (0 : Int32) dX12_isImage_72 (by decide) ?_
          exact v_iret dX12_isImage_73 rfl (by decide) h
/-! CalledRiverModel.isRest -/
theorem dX12_isRest_0 : decode cX12_isRest 0 = .ok (.iconst 0, 1) := by decide +kernel
theorem dX12_isRest_1 : decode cX12_isRest 1 = .ok (.istore_n 2, 1) := by decide +kernel
theorem dX12_isRest_2 : decode cX12_isRest 2 = .ok (.iload_n 2, 1) := by decide +kernel
theorem dX12_isRest_3 : decode cX12_isRest 3 = .ok (.aload_n 0, 1) := by decide +kernel
theorem dX12_isRest_4 : decode cX12_isRest 4 = .ok (.invokevirtual 436, 3) := by decide +kernel
theorem dX12_isRest_7 : decode cX12_isRest 7 = .ok (.if_icmp .ge 40, 3) := by decide +kernel
theorem dX12_isRest_10 : decode cX12_isRest 10 = .ok (.aload_n 0, 1) := by decide +kernel
theorem dX12_isRest_11 : decode cX12_isRest 11 = .ok (.getfield 164, 3) := by decide +kernel
theorem dX12_isRest_14 : decode cX12_isRest 14 = .ok (.bipush 6, 2) := by decide +kernel
theorem dX12_isRest_16 : decode cX12_isRest 16 = .ok (.iload_n 1, 1) := by decide +kernel
theorem dX12_isRest_17 : decode cX12_isRest 17 = .ok (.iconst 1, 1) := by decide +kernel
theorem dX12_isRest_18 : decode cX12_isRest 18 = .ok (.iload_n 2, 1) := by decide +kernel
theorem dX12_isRest_19 : decode cX12_isRest 19 = .ok (.ishl, 1) := by decide +kernel
theorem dX12_isRest_20 : decode cX12_isRest 20 = .ok (.ixor, 1) := by decide +kernel
theorem dX12_isRest_21 : decode cX12_isRest 21 = .ok (.imul, 1) := by decide +kernel
theorem dX12_isRest_22 : decode cX12_isRest 22 = .ok (.iload_n 2, 1) := by decide +kernel
theorem dX12_isRest_23 : decode cX12_isRest 23 = .ok (.iadd, 1) := by decide +kernel
theorem dX12_isRest_24 : decode cX12_isRest 24 = .ok (.iaload, 1) := by decide +kernel
theorem dX12_isRest_25 : decode cX12_isRest 25 = .ok (.aload_n 0, 1) := by decide +kernel
theorem dX12_isRest_26 : decode cX12_isRest 26 = .ok (.getfield 164, 3) := by decide +kernel
theorem dX12_isRest_29 : decode cX12_isRest 29 = .ok (.bipush 6, 2) := by decide +kernel
theorem dX12_isRest_31 : decode cX12_isRest 31 = .ok (.iload_n 1, 1) := by decide +kernel
theorem dX12_isRest_32 : decode cX12_isRest 32 = .ok (.imul, 1) := by decide +kernel
theorem dX12_isRest_33 : decode cX12_isRest 33 = .ok (.iload_n 2, 1) := by decide +kernel
theorem dX12_isRest_34 : decode cX12_isRest 34 = .ok (.iadd, 1) := by decide +kernel
theorem dX12_isRest_35 : decode cX12_isRest 35 = .ok (.iaload, 1) := by decide +kernel
theorem dX12_isRest_36 : decode cX12_isRest 36 = .ok (.if_icmp .le 5, 3) := by decide +kernel
theorem dX12_isRest_39 : decode cX12_isRest 39 = .ok (.iconst 0, 1) := by decide +kernel
theorem dX12_isRest_40 : decode cX12_isRest 40 = .ok (.ireturn, 1) := by decide +kernel
theorem dX12_isRest_41 : decode cX12_isRest 41 = .ok (.iinc 2 1, 3) := by decide +kernel
theorem dX12_isRest_44 : decode cX12_isRest 44 = .ok (.goto (-42), 3) := by decide +kernel
theorem dX12_isRest_47 : decode cX12_isRest 47 = .ok (.iconst 1, 1) := by decide +kernel
theorem dX12_isRest_48 : decode cX12_isRest 48 = .ok (.ireturn, 1) := by decide +kernel
def X12_isRest_p2b (sh : Shp) (v0 : Nat) (v1 : Int32) (Q : Int32 → Mem → Prop) (K2 : Int32 → Mem → Prop) (v2 : Int32) (m : Mem) : Prop :=
  Ob sh v0 12 ∧ wp_X12_farmMany sh v0 (fun r1 m2 => if r1 ≤ v2 then (Q (1 : Int32) m2) else (∃ b4 : Nat, m2.2.2 v0 70 = some b4 ∧ (Ix sh b4 100 (((6 : Int32) * (v1 ^^^ ((1 : Int32) <<< (v2 &&& 31)))) + v2) ∧ (Ix sh b4 100 (((6 : Int32) * v1) + v2) ∧ (if (m2.1 b4 (((6 : Int32) * (v1 ^^^ ((1 : Int32) <<< (v2 &&& 31)))) + v2).toNatClampNeg) ≤ (m2.1 b4 (((6 : Int32) * v1) + v2).toNatClampNeg) then (K2 (v2 + (1 : Int32)) m2) else (Q (0 : Int32) m2)))))) m
def X12_isRest_p2n (sh : Shp) (v0 : Nat) (v1 : Int32) (Q : Int32 → Mem → Prop) : Nat → Int32 → Mem → Prop
  | 0 => fun _ _ => False
  | n + 1 => X12_isRest_p2b sh v0 v1 Q (X12_isRest_p2n sh v0 v1 Q n)
def X12_isRest_p2 (sh : Shp) (v0 : Nat) (v1 : Int32) (Q : Int32 → Mem → Prop) (v2 : Int32) (m : Mem) : Prop := ∃ n, X12_isRest_p2n sh v0 v1 Q n v2 m
def wp_X12_isRest (sh : Shp) (v0 : Nat) (v1 : Int32) (Q : Int32 → Mem → Prop) (m : Mem) : Prop :=
  X12_isRest_p2 sh v0 v1 Q (0 : Int32) m
abbrev M_X12_isRest : Mi := (cX12_isRest, 3, RX12, (Option.some FieldType.boolean), "isRest", 2, 80, 0, 0)
set_option maxHeartbeats 4000000 in
set_option maxRecDepth 100000 in
theorem v_X12_isRest_p2b {G : Gl} {F : Fr} {sh : Shp} {v0 : Nat} {v1 : Int32} {v2 : Int32} {Q : Int32 → Mem → Prop} {K2 : Int32 → Mem → Prop} {m : Mem} (hK2 : ∀ (x2 : Int32) (m : Mem), K2 x2 m → V G F M_X12_isRest sh 0 0 (Zi G F sh Q) 2 [(0, .ref (G.1 + v0)), (1, .int v1), (2, .int x2)] [] m) (h : X12_isRest_p2b sh v0 v1 Q K2 v2 m) : V G F M_X12_isRest sh 0 0 (Zi G F sh Q) 2 [(0, .ref (G.1 + v0)), (1, .int v1), (2, .int v2)] [] m := by
  unfold X12_isRest_p2b at h
  refine v_iload_n 2 2 dX12_isRest_2 rfl rfl ?_
  refine v_aload_n 0 0 dX12_isRest_3 rfl rfl ?_
  obtain ⟨o3, h⟩ := h
  refine v_cVi [] mv_X12_farmMany ml_RX12_436 ⟨_, _, rfl⟩ o3 rfl rfl (Nat.le_of_ble_eq_true rfl) (Nat.le_of_ble_eq_true rfl) (Nat.le_of_ble_eq_true rfl) (Nat.zero_le _) (Nat.zero_le _) dX12_isRest_4 (c_X12_farmMany h) (fun r1 m2 h => ?_)
  refine v_icmp_ge 47 dX12_isRest_7 (by decide) (fun hc => ?_) (fun hc => ?_)
  · replace h := Eq.mp (if_pos hc) h
    refine v_iconst (1 : Int32) dX12_isRest_47 (by decide) ?_
    exact v_iret dX12_isRest_48 rfl (by decide) h
  · replace h := Eq.mp (if_neg hc) h
    refine v_aload_n 0 0 dX12_isRest_10 rfl rfl ?_
    obtain ⟨b4, e5, h⟩ := h
    refine v_gR 12 70 dX12_isRest_11 fg_RX12_164 o3 e5 ?_
    refine v_bipush (6 : Int32) dX12_isRest_14 (by decide) ?_
    refine v_iload_n 1 1 dX12_isRest_16 rfl rfl ?_
    refine v_iconst (1 : Int32) dX12_isRest_17 (by decide) ?_
    refine v_iload_n 2 2 dX12_isRest_18 rfl rfl ?_
    refine v_ishl dX12_isRest_19 ?_
    refine v_ixor dX12_isRest_20 ?_
    refine v_imul dX12_isRest_21 ?_
    refine v_iload_n 2 2 dX12_isRest_22 rfl rfl ?_
    refine v_iadd dX12_isRest_23 ?_
    obtain ⟨i6, h⟩ := h
    refine v_iald dX12_isRest_24 i6 ?_
    refine v_aload_n 0 0 dX12_isRest_25 rfl rfl ?_
    refine v_gR 12 70 dX12_isRest_26 fg_RX12_164 o3 e5 ?_
    refine v_bipush (6 : Int32) dX12_isRest_29 (by decide) ?_
    refine v_iload_n 1 1 dX12_isRest_31 rfl rfl ?_
    refine v_imul dX12_isRest_32 ?_
    refine v_iload_n 2 2 dX12_isRest_33 rfl rfl ?_
    refine v_iadd dX12_isRest_34 ?_
    obtain ⟨i7, h⟩ := h
    refine v_iald dX12_isRest_35 i7 ?_
    refine v_icmp_le 41 dX12_isRest_36 (by decide) (fun hc => ?_) (fun hc => ?_)
    · replace h := Eq.mp (if_pos hc) h
      refine v_iinc (ls' := [(2, .int _), (0, .ref _), (1, .int _)]) 2 2 dX12_isRest_41 rfl (congrArg (HAdd.hAdd _) (by decide : Int32.ofInt (1) = (1 : Int32))) (Nat.le_of_ble_eq_true rfl) rfl ?_
      refine v_goto 2 dX12_isRest_44 (by decide) ?_
      refine v_sub [1, 2, 0] rfl ?_
      exact hK2 _ _ h
    · replace h := Eq.mp (if_neg hc) h
      refine v_iconst (0 : Int32) dX12_isRest_39 (by decide) ?_
      exact v_iret dX12_isRest_40 rfl (by decide) h
set_option maxHeartbeats 4000000 in
set_option maxRecDepth 100000 in
theorem v_X12_isRest_p2 {G : Gl} {F : Fr} {sh : Shp} {v0 : Nat} {v1 : Int32} {v2 : Int32} {Q : Int32 → Mem → Prop} {m : Mem} (h : X12_isRest_p2 sh v0 v1 Q v2 m) : V G F M_X12_isRest sh 0 0 (Zi G F sh Q) 2 [(0, .ref (G.1 + v0)), (1, .int v1), (2, .int v2)] [] m := by
  obtain ⟨n, h⟩ := h
  induction n generalizing v2 m with
  | zero => exact h.elim
  | succ n ih => exact v_X12_isRest_p2b (fun _ _ h => ih h) h
set_option maxHeartbeats 4000000 in
set_option maxRecDepth 100000 in
theorem c_X12_isRest {l : Launch} {G : Gl} {sh : Shp} {v0 : Nat} {v1 : Int32} {Q : Int32 → Mem → Prop} {m : Mem} (h : wp_X12_isRest sh v0 v1 Q m) : Cni l G yX12_isRest cX12_isRest 3 (Option.some FieldType.boolean) 2 80 sh [.ref (G.1 + v0), .int v1] m Q := by
  refine con_i (ls := [(0, .ref (G.1 + v0)), (1, .int v1)]) (by decide +kernel) rfl (Nat.le_of_ble_eq_true rfl) (fun F => ?_)
  show V G F M_X12_isRest sh 0 0 (Zi G F sh Q) 0 [(0, .ref (G.1 + v0)), (1, .int v1)] [] m
  unfold wp_X12_isRest at h
  refine v_iconst (0 : Int32) dX12_isRest_0 (by decide) ?_
  refine v_istore_n (ls' := [(2, .int _), (0, .ref _), (1, .int _)]) 2 dX12_isRest_1 rfl (Nat.le_of_ble_eq_true rfl) rfl ?_
  refine v_sub [1, 2, 0] rfl ?_
  exact v_X12_isRest_p2 h
/-! CalledRiverModel.kept -/
theorem dX12_kept_0 : decode cX12_kept 0 = .ok (.iload_n 1, 1) := by decide +kernel
theorem dX12_kept_1 : decode cX12_kept 1 = .ok (.i2l, 1) := by decide +kernel
theorem dX12_kept_2 : decode cX12_kept 2 = .ok (.lconst 0, 1) := by decide +kernel
theorem dX12_kept_3 : decode cX12_kept 3 = .ok (.aload_n 0, 1) := by decide +kernel
theorem dX12_kept_4 : decode cX12_kept 4 = .ok (.getfield 143, 3) := by decide +kernel
theorem dX12_kept_7 : decode cX12_kept 7 = .ok (.bipush 115, 2) := by decide +kernel
theorem dX12_kept_9 : decode cX12_kept 9 = .ok (.iaload, 1) := by decide +kernel
theorem dX12_kept_10 : decode cX12_kept 10 = .ok (.iconst 1, 1) := by decide +kernel
theorem dX12_kept_11 : decode cX12_kept 11 = .ok (.isub, 1) := by decide +kernel
theorem dX12_kept_12 : decode cX12_kept 12 = .ok (.i2l, 1) := by decide +kernel
theorem dX12_kept_13 : decode cX12_kept 13 = .ok (.invokestatic 328, 3) := by decide +kernel
theorem dX12_kept_16 : decode cX12_kept 16 = .ok (.ifCond .eq 31, 3) := by decide +kernel
theorem dX12_kept_19 : decode cX12_kept 19 = .ok (.iload_n 2, 1) := by decide +kernel
theorem dX12_kept_20 : decode cX12_kept 20 = .ok (.i2l, 1) := by decide +kernel
theorem dX12_kept_21 : decode cX12_kept 21 = .ok (.lconst 0, 1) := by decide +kernel
theorem dX12_kept_22 : decode cX12_kept 22 = .ok (.ldc2_w 552, 3) := by decide +kernel
theorem dX12_kept_25 : decode cX12_kept 25 = .ok (.invokestatic 328, 3) := by decide +kernel
theorem dX12_kept_28 : decode cX12_kept 28 = .ok (.ifCond .eq 19, 3) := by decide +kernel
theorem dX12_kept_31 : decode cX12_kept 31 = .ok (.aload_n 0, 1) := by decide +kernel
theorem dX12_kept_32 : decode cX12_kept 32 = .ok (.getfield 143, 3) := by decide +kernel
theorem dX12_kept_35 : decode cX12_kept 35 = .ok (.bipush 116, 2) := by decide +kernel
theorem dX12_kept_37 : decode cX12_kept 37 = .ok (.iconst 3, 1) := by decide +kernel
theorem dX12_kept_38 : decode cX12_kept 38 = .ok (.iload_n 1, 1) := by decide +kernel
theorem dX12_kept_39 : decode cX12_kept 39 = .ok (.imul, 1) := by decide +kernel
theorem dX12_kept_40 : decode cX12_kept 40 = .ok (.iadd, 1) := by decide +kernel
theorem dX12_kept_41 : decode cX12_kept 41 = .ok (.iload_n 2, 1) := by decide +kernel
theorem dX12_kept_42 : decode cX12_kept 42 = .ok (.iadd, 1) := by decide +kernel
theorem dX12_kept_43 : decode cX12_kept 43 = .ok (.iaload, 1) := by decide +kernel
theorem dX12_kept_44 : decode cX12_kept 44 = .ok (.goto 4, 3) := by decide +kernel
theorem dX12_kept_47 : decode cX12_kept 47 = .ok (.iconst (-1), 1) := by decide +kernel
theorem dX12_kept_48 : decode cX12_kept 48 = .ok (.ireturn, 1) := by decide +kernel
def wp_X12_kept (sh : Shp) (v0 : Nat) (v1 : Int32) (v2 : Int32) (Q : Int32 → Mem → Prop) (m : Mem) : Prop :=
  Ob sh v0 12 ∧ ∃ b2 : Nat, m.2.2 v0 58 = some b2 ∧ (Ix sh b2 100 (115 : Int32) ∧ (wp_X12_isIn sh v1.toInt64 (0 : Int64) ((m.1 b2 (115 : Int32).toNatClampNeg) - (1 : Int32)).toInt64 (fun r5 m6 => if r5 = 0 then (Q (-1 : Int32) m6) else (wp_X12_isIn sh v2.toInt64 (0 : Int64) (2 : Int64) (fun r7 m8 => if r7 = 0 then (Q (-1 : Int32) m8) else (∃ b9 : Nat, m8.2.2 v0 58 = some b9 ∧ (Ix sh b9 100 (((116 : Int32) + ((3 : Int32) * v1)) + v2) ∧ (Q (m8.1 b9 (((116 : Int32) + ((3 : Int32) * v1)) + v2).toNatClampNeg) m8)))) m6)) m))
abbrev M_X12_kept : Mi := (cX12_kept, 3, RX12, (Option.some FieldType.int), "kept", 2, 85, 0, 0)
set_option maxHeartbeats 4000000 in
set_option maxRecDepth 100000 in
theorem c_X12_kept {l : Launch} {G : Gl} {sh : Shp} {v0 : Nat} {v1 : Int32} {v2 : Int32} {Q : Int32 → Mem → Prop} {m : Mem} (h : wp_X12_kept sh v0 v1 v2 Q m) : Cni l G yX12_kept cX12_kept 3 (Option.some FieldType.int) 2 85 sh [.ref (G.1 + v0), .int v1, .int v2] m Q := by
  refine con_i (ls := [(0, .ref (G.1 + v0)), (1, .int v1), (2, .int v2)]) (by decide +kernel) rfl (Nat.le_of_ble_eq_true rfl) (fun F => ?_)
  show V G F M_X12_kept sh 0 0 (Zi G F sh Q) 0 [(0, .ref (G.1 + v0)), (1, .int v1), (2, .int v2)] [] m
  unfold wp_X12_kept at h
  refine v_iload_n 1 1 dX12_kept_0 rfl rfl ?_
  refine v_i2l dX12_kept_1 ?_
  refine v_lconst (0 : Int64) dX12_kept_2 (by decide) ?_
  refine v_aload_n 0 0 dX12_kept_3 rfl rfl ?_
  obtain ⟨o1, h⟩ := h
  obtain ⟨b2, e3, h⟩ := h
  refine v_gR 12 58 dX12_kept_4 fg_RX12_143 o1 e3 ?_
  refine v_bipush (115 : Int32) dX12_kept_7 (by decide) ?_
  obtain ⟨i4, h⟩ := h
  refine v_iald dX12_kept_9 i4 ?_
  refine v_iconst (1 : Int32) dX12_kept_10 (by decide) ?_
  refine v_isub dX12_kept_11 ?_
  refine v_i2l dX12_kept_12 ?_
  refine v_cSi [.long _, .long _, .long _] mv_X12_isIn ml_RX12_328 rfl rfl (Nat.le_of_ble_eq_true rfl) (Nat.le_of_ble_eq_true rfl) (Nat.le_of_ble_eq_true rfl) (Nat.zero_le _) (Nat.zero_le _) dX12_kept_13 (c_X12_isIn h) (fun r5 m6 h => ?_)
  refine v_if_eq 47 dX12_kept_16 (by decide) (fun hc => ?_) (fun hc => ?_)
  · replace h := Eq.mp (if_pos hc) h
    refine v_iconst (-1 : Int32) dX12_kept_47 (by decide) ?_
    exact v_iret dX12_kept_48 rfl rfl h
  · replace h := Eq.mp (if_neg hc) h
    refine v_iload_n 2 2 dX12_kept_19 rfl rfl ?_
    refine v_i2l dX12_kept_20 ?_
    refine v_lconst (0 : Int64) dX12_kept_21 (by decide) ?_
    refine v_ldc2 (2 : Int64) dX12_kept_22 cw_RX12_552 ?_
    refine v_cSi [.long _, .long _, .long _] mv_X12_isIn ml_RX12_328 rfl rfl (Nat.le_of_ble_eq_true rfl) (Nat.le_of_ble_eq_true rfl) (Nat.le_of_ble_eq_true rfl) (Nat.zero_le _) (Nat.zero_le _) dX12_kept_25 (c_X12_isIn h) (fun r7 m8 h => ?_)
    refine v_if_eq 47 dX12_kept_28 (by decide) (fun hc => ?_) (fun hc => ?_)
    · replace h := Eq.mp (if_pos hc) h
      refine v_iconst (-1 : Int32) dX12_kept_47 (by decide) ?_
      exact v_iret dX12_kept_48 rfl rfl h
    · replace h := Eq.mp (if_neg hc) h
      refine v_aload_n 0 0 dX12_kept_31 rfl rfl ?_
      obtain ⟨b9, e10, h⟩ := h
      refine v_gR 12 58 dX12_kept_32 fg_RX12_143 o1 e10 ?_
      refine v_bipush (116 : Int32) dX12_kept_35 (by decide) ?_
      refine v_iconst (3 : Int32) dX12_kept_37 (by decide) ?_
      refine v_iload_n 1 1 dX12_kept_38 rfl rfl ?_
      refine v_imul dX12_kept_39 ?_
      refine v_iadd dX12_kept_40 ?_
      refine v_iload_n 2 2 dX12_kept_41 rfl rfl ?_
      refine v_iadd dX12_kept_42 ?_
      obtain ⟨i11, h⟩ := h
      refine v_iald dX12_kept_43 i11 ?_
      refine v_goto 48 dX12_kept_44 (by decide) ?_
      exact v_iret dX12_kept_48 rfl rfl h
/-! CalledRiverModel.laysCells -/
theorem dX12_laysCells_0 : decode cX12_laysCells 0 = .ok (.iconst 0, 1) := by decide +kernel
theorem dX12_laysCells_1 : decode cX12_laysCells 1 = .ok (.istore_n 1, 1) := by decide +kernel
theorem dX12_laysCells_2 : decode cX12_laysCells 2 = .ok (.iload_n 1, 1) := by decide +kernel
theorem dX12_laysCells_3 : decode cX12_laysCells 3 = .ok (.aload_n 0, 1) := by decide +kernel
theorem dX12_laysCells_4 : decode cX12_laysCells 4 = .ok (.invokevirtual 439, 3) := by decide +kernel
theorem dX12_laysCells_7 : decode cX12_laysCells 7 = .ok (.if_icmp .ge 57, 3) := by decide +kernel
theorem dX12_laysCells_10 : decode cX12_laysCells 10 = .ok (.aload_n 0, 1) := by decide +kernel
theorem dX12_laysCells_11 : decode cX12_laysCells 11 = .ok (.iload_n 1, 1) := by decide +kernel
theorem dX12_laysCells_12 : decode cX12_laysCells 12 = .ok (.invokevirtual 521, 3) := by decide +kernel
theorem dX12_laysCells_15 : decode cX12_laysCells 15 = .ok (.iconst 0, 1) := by decide +kernel
theorem dX12_laysCells_16 : decode cX12_laysCells 16 = .ok (.istore_n 2, 1) := by decide +kernel
theorem dX12_laysCells_17 : decode cX12_laysCells 17 = .ok (.iload_n 2, 1) := by decide +kernel
theorem dX12_laysCells_18 : decode cX12_laysCells 18 = .ok (.bipush 40, 2) := by decide +kernel
theorem dX12_laysCells_20 : decode cX12_laysCells 20 = .ok (.if_icmp .gt 38, 3) := by decide +kernel
theorem dX12_laysCells_23 : decode cX12_laysCells 23 = .ok (.aload_n 0, 1) := by decide +kernel
theorem dX12_laysCells_24 : decode cX12_laysCells 24 = .ok (.getfield 179, 3) := by decide +kernel
theorem dX12_laysCells_27 : decode cX12_laysCells 27 = .ok (.bipush 41, 2) := by decide +kernel
theorem dX12_laysCells_29 : decode cX12_laysCells 29 = .ok (.iload_n 1, 1) := by decide +kernel
theorem dX12_laysCells_30 : decode cX12_laysCells 30 = .ok (.imul, 1) := by decide +kernel
theorem dX12_laysCells_31 : decode cX12_laysCells 31 = .ok (.iload_n 2, 1) := by decide +kernel
theorem dX12_laysCells_32 : decode cX12_laysCells 32 = .ok (.iadd, 1) := by decide +kernel
theorem dX12_laysCells_33 : decode cX12_laysCells 33 = .ok (.iload_n 2, 1) := by decide +kernel
theorem dX12_laysCells_34 : decode cX12_laysCells 34 = .ok (.aload_n 0, 1) := by decide +kernel
theorem dX12_laysCells_35 : decode cX12_laysCells 35 = .ok (.getfield 497, 3) := by decide +kernel
theorem dX12_laysCells_38 : decode cX12_laysCells 38 = .ok (.if_icmp .ge 12, 3) := by decide +kernel
theorem dX12_laysCells_41 : decode cX12_laysCells 41 = .ok (.aload_n 0, 1) := by decide +kernel
theorem dX12_laysCells_42 : decode cX12_laysCells 42 = .ok (.getfield 146, 3) := by decide +kernel
theorem dX12_laysCells_45 : decode cX12_laysCells 45 = .ok (.iload_n 2, 1) := by decide +kernel
theorem dX12_laysCells_46 : decode cX12_laysCells 46 = .ok (.iaload, 1) := by decide +kernel
theorem dX12_laysCells_47 : decode cX12_laysCells 47 = .ok (.goto 4, 3) := by decide +kernel
theorem dX12_laysCells_50 : decode cX12_laysCells 50 = .ok (.iconst (-1), 1) := by decide +kernel
theorem dX12_laysCells_51 : decode cX12_laysCells 51 = .ok (.iastore, 1) := by decide +kernel
theorem dX12_laysCells_52 : decode cX12_laysCells 52 = .ok (.iinc 2 1, 3) := by decide +kernel
theorem dX12_laysCells_55 : decode cX12_laysCells 55 = .ok (.goto (-38), 3) := by decide +kernel
theorem dX12_laysCells_58 : decode cX12_laysCells 58 = .ok (.iinc 1 1, 3) := by decide +kernel
theorem dX12_laysCells_61 : decode cX12_laysCells 61 = .ok (.goto (-59), 3) := by decide +kernel
theorem dX12_laysCells_64 : decode cX12_laysCells 64 = .ok (.return_, 1) := by decide +kernel
def X12_laysCells_p51 (sh : Shp) (v0 : Nat) (v1 : Int32) (v2 : Int32) (s2 : Int32) (s1 : Int32) (s0 : Nat) (Q : Mem → Prop) (K2 : Int32 → Mem → Prop) (K17 : Int32 → Mem → Prop) (m : Mem) : Prop :=
  Ix sh s0 100 s1 ∧ bnd (sI m s0 s1.toNatClampNeg s2) (fun m13 => K17 (v2 + (1 : Int32)) m13)
def X12_laysCells_p17b (sh : Shp) (v0 : Nat) (v1 : Int32) (Q : Mem → Prop) (K2 : Int32 → Mem → Prop) (K17 : Int32 → Mem → Prop) (v2 : Int32) (m : Mem) : Prop :=
  if (40 : Int32) < v2 then (K2 (v1 + (1 : Int32)) m) else (Ob sh v0 12 ∧ ∃ b7 : Nat, m.2.2 v0 76 = some b7 ∧ (if (m.1 v0 64) ≤ v2 then (X12_laysCells_p51 sh v0 v1 v2 (-1 : Int32) (((41 : Int32) * v1) + v2) b7 Q K2 K17 m) else (∃ b9 : Nat, m.2.2 v0 63 = some b9 ∧ (Ix sh b9 100 v2 ∧ (X12_laysCells_p51 sh v0 v1 v2 (m.1 b9 v2.toNatClampNeg) (((41 : Int32) * v1) + v2) b7 Q K2 K17 m)))))
def X12_laysCells_p17n (sh : Shp) (v0 : Nat) (v1 : Int32) (Q : Mem → Prop) (K2 : Int32 → Mem → Prop) : Nat → Int32 → Mem → Prop
  | 0 => fun _ _ => False
  | n + 1 => X12_laysCells_p17b sh v0 v1 Q K2 (X12_laysCells_p17n sh v0 v1 Q K2 n)
def X12_laysCells_p17 (sh : Shp) (v0 : Nat) (v1 : Int32) (Q : Mem → Prop) (K2 : Int32 → Mem → Prop) (v2 : Int32) (m : Mem) : Prop := ∃ n, X12_laysCells_p17n sh v0 v1 Q K2 n v2 m
def X12_laysCells_p2b (sh : Shp) (v0 : Nat) (Q : Mem → Prop) (K2 : Int32 → Mem → Prop) (v1 : Int32) (m : Mem) : Prop :=
  Ob sh v0 12 ∧ wp_X12_callerMany sh v0 (fun r1 m2 => if r1 ≤ v1 then (Q m2) else (wp_X12_laysWay sh v0 v1 (fun m5 => X12_laysCells_p17 sh v0 v1 Q K2 (0 : Int32) m5) m2)) m
def X12_laysCells_p2n (sh : Shp) (v0 : Nat) (Q : Mem → Prop) : Nat → Int32 → Mem → Prop
  | 0 => fun _ _ => False
  | n + 1 => X12_laysCells_p2b sh v0 Q (X12_laysCells_p2n sh v0 Q n)
def X12_laysCells_p2 (sh : Shp) (v0 : Nat) (Q : Mem → Prop) (v1 : Int32) (m : Mem) : Prop := ∃ n, X12_laysCells_p2n sh v0 Q n v1 m
def wp_X12_laysCells (sh : Shp) (v0 : Nat) (Q : Mem → Prop) (m : Mem) : Prop :=
  X12_laysCells_p2 sh v0 Q (0 : Int32) m
abbrev M_X12_laysCells : Mi := (cX12_laysCells, 3, RX12, (none : Option FieldType), "laysCells", 9, 243, 0, 0)
set_option maxHeartbeats 4000000 in
set_option maxRecDepth 100000 in
theorem v_X12_laysCells_p51 {G : Gl} {F : Fr} {sh : Shp} {v0 : Nat} {v1 : Int32} {v2 : Int32} {s0 : Nat} {s1 : Int32} {s2 : Int32} {Q : Mem → Prop} {K2 : Int32 → Mem → Prop} {K17 : Int32 → Mem → Prop} {m : Mem} (hK2 : ∀ (x1 : Int32) (m : Mem), K2 x1 m → V G F M_X12_laysCells sh 0 0 (Zv G F sh Q) 2 [(0, .ref (G.1 + v0)), (1, .int x1)] [] m) (hK17 : ∀ (x2 : Int32) (m : Mem), K17 x2 m → V G F M_X12_laysCells sh 0 0 (Zv G F sh Q) 17 [(0, .ref (G.1 + v0)), (1, .int v1), (2, .int x2)] [] m) (h : X12_laysCells_p51 sh v0 v1 v2 s2 s1 s0 Q K2 K17 m) : V G F M_X12_laysCells sh 0 0 (Zv G F sh Q) 51 [(0, .ref (G.1 + v0)), (1, .int v1), (2, .int v2)] [.int s2, .int s1, .ref (G.1 + s0)] m := by
  unfold X12_laysCells_p51 at h
  obtain ⟨i12, h⟩ := h
  refine v_iast dX12_laysCells_51 i12 ?_
  replace h := bnd_e h
  refine v_iinc (ls' := [(2, .int _), (0, .ref _), (1, .int _)]) 2 2 dX12_laysCells_52 rfl (congrArg (HAdd.hAdd _) (by decide : Int32.ofInt (1) = (1 : Int32))) (Nat.le_of_ble_eq_true rfl) rfl ?_
  refine v_goto 17 dX12_laysCells_55 (by decide) ?_
  refine v_sub [1, 2, 0] rfl ?_
  exact hK17 _ _ h
set_option maxHeartbeats 4000000 in
set_option maxRecDepth 100000 in
theorem v_X12_laysCells_p17b {G : Gl} {F : Fr} {sh : Shp} {v0 : Nat} {v1 : Int32} {v2 : Int32} {Q : Mem → Prop} {K2 : Int32 → Mem → Prop} {K17 : Int32 → Mem → Prop} {m : Mem} (hK2 : ∀ (x1 : Int32) (m : Mem), K2 x1 m → V G F M_X12_laysCells sh 0 0 (Zv G F sh Q) 2 [(0, .ref (G.1 + v0)), (1, .int x1)] [] m) (hK17 : ∀ (x2 : Int32) (m : Mem), K17 x2 m → V G F M_X12_laysCells sh 0 0 (Zv G F sh Q) 17 [(0, .ref (G.1 + v0)), (1, .int v1), (2, .int x2)] [] m) (h : X12_laysCells_p17b sh v0 v1 Q K2 K17 v2 m) : V G F M_X12_laysCells sh 0 0 (Zv G F sh Q) 17 [(0, .ref (G.1 + v0)), (1, .int v1), (2, .int v2)] [] m := by
  unfold X12_laysCells_p17b at h
  refine v_iload_n 2 2 dX12_laysCells_17 rfl rfl ?_
  refine v_bipush (40 : Int32) dX12_laysCells_18 (by decide) ?_
  refine v_icmp_gt 58 dX12_laysCells_20 (by decide) (fun hc => ?_) (fun hc => ?_)
  · replace h := Eq.mp (if_pos hc) h
    refine v_iinc (ls' := [(1, .int _), (0, .ref _), (2, .int _)]) 1 1 dX12_laysCells_58 rfl (congrArg (HAdd.hAdd _) (by decide : Int32.ofInt (1) = (1 : Int32))) (Nat.le_of_ble_eq_true rfl) rfl ?_
    refine v_goto 2 dX12_laysCells_61 (by decide) ?_
    refine v_sub [1, 0] rfl ?_
    exact hK2 _ _ h
  · replace h := Eq.mp (if_neg hc) h
    refine v_aload_n 0 0 dX12_laysCells_23 rfl rfl ?_
    obtain ⟨o6, h⟩ := h
    obtain ⟨b7, e8, h⟩ := h
    refine v_gR 12 76 dX12_laysCells_24 fg_RX12_179 o6 e8 ?_
    refine v_bipush (41 : Int32) dX12_laysCells_27 (by decide) ?_
    refine v_iload_n 1 1 dX12_laysCells_29 rfl rfl ?_
    refine v_imul dX12_laysCells_30 ?_
    refine v_iload_n 2 2 dX12_laysCells_31 rfl rfl ?_
    refine v_iadd dX12_laysCells_32 ?_
    refine v_iload_n 2 2 dX12_laysCells_33 rfl rfl ?_
    refine v_aload_n 0 0 dX12_laysCells_34 rfl rfl ?_
    refine v_gI 12 64 dX12_laysCells_35 fg_RX12_497 o6 ?_
    refine v_icmp_ge 50 dX12_laysCells_38 (by decide) (fun hc => ?_) (fun hc => ?_)
    · replace h := Eq.mp (if_pos hc) h
      refine v_iconst (-1 : Int32) dX12_laysCells_50 (by decide) ?_
      refine v_sub [0, 1, 2] rfl ?_
      exact v_X12_laysCells_p51 hK2 hK17 h
    · replace h := Eq.mp (if_neg hc) h
      refine v_aload_n 0 0 dX12_laysCells_41 rfl rfl ?_
      obtain ⟨b9, e10, h⟩ := h
      refine v_gR 12 63 dX12_laysCells_42 fg_RX12_146 o6 e10 ?_
      refine v_iload_n 2 2 dX12_laysCells_45 rfl rfl ?_
      obtain ⟨i11, h⟩ := h
      refine v_iald dX12_laysCells_46 i11 ?_
      refine v_goto 51 dX12_laysCells_47 (by decide) ?_
      refine v_sub [0, 1, 2] rfl ?_
      exact v_X12_laysCells_p51 hK2 hK17 h
set_option maxHeartbeats 4000000 in
set_option maxRecDepth 100000 in
theorem v_X12_laysCells_p17 {G : Gl} {F : Fr} {sh : Shp} {v0 : Nat} {v1 : Int32} {v2 : Int32} {Q : Mem → Prop} {K2 : Int32 → Mem → Prop} {m : Mem} (hK2 : ∀ (x1 : Int32) (m : Mem), K2 x1 m → V G F M_X12_laysCells sh 0 0 (Zv G F sh Q) 2 [(0, .ref (G.1 + v0)), (1, .int x1)] [] m) (h : X12_laysCells_p17 sh v0 v1 Q K2 v2 m) : V G F M_X12_laysCells sh 0 0 (Zv G F sh Q) 17 [(0, .ref (G.1 + v0)), (1, .int v1), (2, .int v2)] [] m := by
  obtain ⟨n, h⟩ := h
  induction n generalizing v2 m with
  | zero => exact h.elim
  | succ n ih => exact v_X12_laysCells_p17b hK2 (fun _ _ h => ih h) h
set_option maxHeartbeats 4000000 in
set_option maxRecDepth 100000 in
theorem v_X12_laysCells_p2b {G : Gl} {F : Fr} {sh : Shp} {v0 : Nat} {v1 : Int32} {Q : Mem → Prop} {K2 : Int32 → Mem → Prop} {m : Mem} (hK2 : ∀ (x1 : Int32) (m : Mem), K2 x1 m → V G F M_X12_laysCells sh 0 0 (Zv G F sh Q) 2 [(0, .ref (G.1 + v0)), (1, .int x1)] [] m) (h : X12_laysCells_p2b sh v0 Q K2 v1 m) : V G F M_X12_laysCells sh 0 0 (Zv G F sh Q) 2 [(0, .ref (G.1 + v0)), (1, .int v1)] [] m := by
  unfold X12_laysCells_p2b at h
  refine v_iload_n 1 1 dX12_laysCells_2 rfl rfl ?_
  refine v_aload_n 0 0 dX12_laysCells_3 rfl rfl ?_
  obtain ⟨o3, h⟩ := h
  refine v_cVi [] mv_X12_callerMany ml_RX12_439 ⟨_, _, rfl⟩ o3 rfl rfl (Nat.le_of_ble_eq_true rfl) (Nat.le_of_ble_eq_true rfl) (Nat.le_of_ble_eq_true rfl) (Nat.zero_le _) (Nat.zero_le _) dX12_laysCells_4 (c_X12_callerMany h) (fun r1 m2 h => ?_)
  refine v_icmp_ge 64 dX12_laysCells_7 (by decide) (fun hc => ?_) (fun hc => ?_)
  · replace h := Eq.mp (if_pos hc) h
    exact v_vret dX12_laysCells_64 rfl h
  · replace h := Eq.mp (if_neg hc) h
    refine v_aload_n 0 0 dX12_laysCells_10 rfl rfl ?_
    refine v_iload_n 1 1 dX12_laysCells_11 rfl rfl ?_
    refine v_cVv [.int _] mv_X12_laysWay ml_RX12_521 ⟨_, _, rfl⟩ o3 rfl rfl (Nat.le_of_ble_eq_true rfl) (Nat.le_of_ble_eq_true rfl) (Nat.le_of_ble_eq_true rfl) (Nat.zero_le _) (Nat.zero_le _) dX12_laysCells_12 (c_X12_laysWay h) (fun m5 h => ?_)
    refine v_iconst (0 : Int32) dX12_laysCells_15 (by decide) ?_
    refine v_istore_n (ls' := [(2, .int _), (0, .ref _), (1, .int _)]) 2 dX12_laysCells_16 rfl (Nat.le_of_ble_eq_true rfl) rfl ?_
    refine v_sub [1, 2, 0] rfl ?_
    exact v_X12_laysCells_p17 hK2 h
set_option maxHeartbeats 4000000 in
set_option maxRecDepth 100000 in
theorem v_X12_laysCells_p2 {G : Gl} {F : Fr} {sh : Shp} {v0 : Nat} {v1 : Int32} {Q : Mem → Prop} {m : Mem} (h : X12_laysCells_p2 sh v0 Q v1 m) : V G F M_X12_laysCells sh 0 0 (Zv G F sh Q) 2 [(0, .ref (G.1 + v0)), (1, .int v1)] [] m := by
  obtain ⟨n, h⟩ := h
  induction n generalizing v1 m with
  | zero => exact h.elim
  | succ n ih => exact v_X12_laysCells_p2b (fun _ _ h => ih h) h
set_option maxHeartbeats 4000000 in
set_option maxRecDepth 100000 in
theorem c_X12_laysCells {l : Launch} {G : Gl} {sh : Shp} {v0 : Nat} {Q : Mem → Prop} {m : Mem} (h : wp_X12_laysCells sh v0 Q m) : Cnv l G yX12_laysCells cX12_laysCells 3 (none : Option FieldType) 9 243 sh [.ref (G.1 + v0)] m Q := by
  refine con_v (ls := [(0, .ref (G.1 + v0))]) (by decide +kernel) rfl (Nat.le_of_ble_eq_true rfl) (fun F => ?_)
  show V G F M_X12_laysCells sh 0 0 (Zv G F sh Q) 0 [(0, .ref (G.1 + v0))] [] m
  unfold wp_X12_laysCells at h
  refine v_iconst (0 : Int32) dX12_laysCells_0 (by decide) ?_
  refine v_istore_n (ls' := [(1, .int _), (0, .ref _)]) 1 dX12_laysCells_1 rfl (Nat.le_of_ble_eq_true rfl) rfl ?_
  refine v_sub [1, 0] rfl ?_
  exact v_X12_laysCells_p2 h
/-! CalledRiverModel.laysWells -/
theorem dX12_laysWells_0 : decode cX12_laysWells 0 = .ok (.iconst 0, 1) := by decide +kernel
theorem dX12_laysWells_1 : decode cX12_laysWells 1 = .ok (.istore_n 2, 1) := by decide +kernel
theorem dX12_laysWells_2 : decode cX12_laysWells 2 = .ok (.iload_n 2, 1) := by decide +kernel
theorem dX12_laysWells_3 : decode cX12_laysWells 3 = .ok (.aload_n 0, 1) := by decide +kernel
theorem dX12_laysWells_4 : decode cX12_laysWells 4 = .ok (.invokevirtual 436, 3) := by decide +kernel
theorem dX12_laysWells_7 : decode cX12_laysWells 7 = .ok (.if_icmp .ge 20, 3) := by decide +kernel
theorem dX12_laysWells_10 : decode cX12_laysWells 10 = .ok (.aload_n 0, 1) := by decide +kernel
theorem dX12_laysWells_11 : decode cX12_laysWells 11 = .ok (.getfield 167, 3) := by decide +kernel
theorem dX12_laysWells_14 : decode cX12_laysWells 14 = .ok (.iload_n 2, 1) := by decide +kernel
theorem dX12_laysWells_15 : decode cX12_laysWells 15 = .ok (.aload_n 0, 1) := by decide +kernel
theorem dX12_laysWells_16 : decode cX12_laysWells 16 = .ok (.iload_n 2, 1) := by decide +kernel
theorem dX12_laysWells_17 : decode cX12_laysWells 17 = .ok (.invokevirtual 449, 3) := by decide +kernel
theorem dX12_laysWells_20 : decode cX12_laysWells 20 = .ok (.iastore, 1) := by decide +kernel
theorem dX12_laysWells_21 : decode cX12_laysWells 21 = .ok (.iinc 2 1, 3) := by decide +kernel
theorem dX12_laysWells_24 : decode cX12_laysWells 24 = .ok (.goto (-22), 3) := by decide +kernel
theorem dX12_laysWells_27 : decode cX12_laysWells 27 = .ok (.iconst 0, 1) := by decide +kernel
theorem dX12_laysWells_28 : decode cX12_laysWells 28 = .ok (.istore_n 2, 1) := by decide +kernel
theorem dX12_laysWells_29 : decode cX12_laysWells 29 = .ok (.iload_n 2, 1) := by decide +kernel
theorem dX12_laysWells_30 : decode cX12_laysWells 30 = .ok (.iconst 1, 1) := by decide +kernel
theorem dX12_laysWells_31 : decode cX12_laysWells 31 = .ok (.aload_n 0, 1) := by decide +kernel
theorem dX12_laysWells_32 : decode cX12_laysWells 32 = .ok (.invokevirtual 436, 3) := by decide +kernel
theorem dX12_laysWells_35 : decode cX12_laysWells 35 = .ok (.ishl, 1) := by decide +kernel
theorem dX12_laysWells_36 : decode cX12_laysWells 36 = .ok (.if_icmp .ge 105, 3) := by decide +kernel
theorem dX12_laysWells_39 : decode cX12_laysWells 39 = .ok (.iconst 0, 1) := by decide +kernel
theorem dX12_laysWells_40 : decode cX12_laysWells 40 = .ok (.istore_n 3, 1) := by decide +kernel
theorem dX12_laysWells_41 : decode cX12_laysWells 41 = .ok (.iload_n 3, 1) := by decide +kernel
theorem dX12_laysWells_42 : decode cX12_laysWells 42 = .ok (.aload_n 0, 1) := by decide +kernel
theorem dX12_laysWells_43 : decode cX12_laysWells 43 = .ok (.invokevirtual 436, 3) := by decide +kernel
theorem dX12_laysWells_46 : decode cX12_laysWells 46 = .ok (.if_icmp .ge 37, 3) := by decide +kernel
theorem dX12_laysWells_49 : decode cX12_laysWells 49 = .ok (.aload_n 0, 1) := by decide +kernel
theorem dX12_laysWells_50 : decode cX12_laysWells 50 = .ok (.getfield 143, 3) := by decide +kernel
theorem dX12_laysWells_53 : decode cX12_laysWells 53 = .ok (.bipush 109, 2) := by decide +kernel
theorem dX12_laysWells_55 : decode cX12_laysWells 55 = .ok (.iload_n 3, 1) := by decide +kernel
theorem dX12_laysWells_56 : decode cX12_laysWells 56 = .ok (.iadd, 1) := by decide +kernel
theorem dX12_laysWells_57 : decode cX12_laysWells 57 = .ok (.iload_n 2, 1) := by decide +kernel
theorem dX12_laysWells_58 : decode cX12_laysWells 58 = .ok (.iload_n 3, 1) := by decide +kernel
theorem dX12_laysWells_59 : decode cX12_laysWells 59 = .ok (.ishr, 1) := by decide +kernel
theorem dX12_laysWells_60 : decode cX12_laysWells 60 = .ok (.iconst 1, 1) := by decide +kernel
theorem dX12_laysWells_61 : decode cX12_laysWells 61 = .ok (.iand, 1) := by decide +kernel
theorem dX12_laysWells_62 : decode cX12_laysWells 62 = .ok (.iconst 1, 1) := by decide +kernel
theorem dX12_laysWells_63 : decode cX12_laysWells 63 = .ok (.if_icmp .ne 12, 3) := by decide +kernel
theorem dX12_laysWells_66 : decode cX12_laysWells 66 = .ok (.aload_n 0, 1) := by decide +kernel
theorem dX12_laysWells_67 : decode cX12_laysWells 67 = .ok (.getfield 167, 3) := by decide +kernel
theorem dX12_laysWells_70 : decode cX12_laysWells 70 = .ok (.iload_n 3, 1) := by decide +kernel
theorem dX12_laysWells_71 : decode cX12_laysWells 71 = .ok (.iaload, 1) := by decide +kernel
theorem dX12_laysWells_72 : decode cX12_laysWells 72 = .ok (.goto 4, 3) := by decide +kernel
theorem dX12_laysWells_75 : decode cX12_laysWells 75 = .ok (.iconst 0, 1) := by decide +kernel
theorem dX12_laysWells_76 : decode cX12_laysWells 76 = .ok (.iastore, 1) := by decide +kernel
theorem dX12_laysWells_77 : decode cX12_laysWells 77 = .ok (.iinc 3 1, 3) := by decide +kernel
theorem dX12_laysWells_80 : decode cX12_laysWells 80 = .ok (.goto (-39), 3) := by decide +kernel
theorem dX12_laysWells_83 : decode cX12_laysWells 83 = .ok (.aload_n 0, 1) := by decide +kernel
theorem dX12_laysWells_84 : decode cX12_laysWells 84 = .ok (.iload_n 1, 1) := by decide +kernel
theorem dX12_laysWells_85 : decode cX12_laysWells 85 = .ok (.invokevirtual 521, 3) := by decide +kernel
theorem dX12_laysWells_88 : decode cX12_laysWells 88 = .ok (.iconst 0, 1) := by decide +kernel
theorem dX12_laysWells_89 : decode cX12_laysWells 89 = .ok (.istore_n 3, 1) := by decide +kernel
theorem dX12_laysWells_90 : decode cX12_laysWells 90 = .ok (.iload_n 3, 1) := by decide +kernel
theorem dX12_laysWells_91 : decode cX12_laysWells 91 = .ok (.aload_n 0, 1) := by decide +kernel
theorem dX12_laysWells_92 : decode cX12_laysWells 92 = .ok (.invokevirtual 436, 3) := by decide +kernel
theorem dX12_laysWells_95 : decode cX12_laysWells 95 = .ok (.if_icmp .ge 40, 3) := by decide +kernel
theorem dX12_laysWells_98 : decode cX12_laysWells 98 = .ok (.aload_n 0, 1) := by decide +kernel
theorem dX12_laysWells_99 : decode cX12_laysWells 99 = .ok (.getfield 164, 3) := by decide +kernel
theorem dX12_laysWells_102 : decode cX12_laysWells 102 = .ok (.bipush 6, 2) := by decide +kernel
theorem dX12_laysWells_104 : decode cX12_laysWells 104 = .ok (.iload_n 2, 1) := by decide +kernel
theorem dX12_laysWells_105 : decode cX12_laysWells 105 = .ok (.imul, 1) := by decide +kernel
theorem dX12_laysWells_106 : decode cX12_laysWells 106 = .ok (.iload_n 3, 1) := by decide +kernel
theorem dX12_laysWells_107 : decode cX12_laysWells 107 = .ok (.iadd, 1) := by decide +kernel
theorem dX12_laysWells_108 : decode cX12_laysWells 108 = .ok (.aload_n 0, 1) := by decide +kernel
theorem dX12_laysWells_109 : decode cX12_laysWells 109 = .ok (.iload_n 3, 1) := by decide +kernel
theorem dX12_laysWells_110 : decode cX12_laysWells 110 = .ok (.invokevirtual 518, 3) := by decide +kernel
theorem dX12_laysWells_113 : decode cX12_laysWells 113 = .ok (.ifCond .eq 8, 3) := by decide +kernel
theorem dX12_laysWells_116 : decode cX12_laysWells 116 = .ok (.bipush 10, 2) := by decide +kernel
theorem dX12_laysWells_118 : decode cX12_laysWells 118 = .ok (.goto 4, 3) := by decide +kernel
theorem dX12_laysWells_121 : decode cX12_laysWells 121 = .ok (.iconst 0, 1) := by decide +kernel
theorem dX12_laysWells_122 : decode cX12_laysWells 122 = .ok (.aload_n 0, 1) := by decide +kernel
theorem dX12_laysWells_123 : decode cX12_laysWells 123 = .ok (.iload_n 3, 1) := by decide +kernel
theorem dX12_laysWells_124 : decode cX12_laysWells 124 = .ok (.invokevirtual 449, 3) := by decide +kernel
theorem dX12_laysWells_127 : decode cX12_laysWells 127 = .ok (.isub, 1) := by decide +kernel
theorem dX12_laysWells_128 : decode cX12_laysWells 128 = .ok (.iastore, 1) := by decide +kernel
theorem dX12_laysWells_129 : decode cX12_laysWells 129 = .ok (.iinc 3 1, 3) := by decide +kernel
theorem dX12_laysWells_132 : decode cX12_laysWells 132 = .ok (.goto (-42), 3) := by decide +kernel
theorem dX12_laysWells_135 : decode cX12_laysWells 135 = .ok (.iinc 2 1, 3) := by decide +kernel
theorem dX12_laysWells_138 : decode cX12_laysWells 138 = .ok (.goto (-109), 3) := by decide +kernel
theorem dX12_laysWells_141 : decode cX12_laysWells 141 = .ok (.iconst 0, 1) := by decide +kernel
theorem dX12_laysWells_142 : decode cX12_laysWells 142 = .ok (.istore_n 2, 1) := by decide +kernel
theorem dX12_laysWells_143 : decode cX12_laysWells 143 = .ok (.iload_n 2, 1) := by decide +kernel
theorem dX12_laysWells_144 : decode cX12_laysWells 144 = .ok (.aload_n 0, 1) := by decide +kernel
theorem dX12_laysWells_145 : decode cX12_laysWells 145 = .ok (.invokevirtual 436, 3) := by decide +kernel
theorem dX12_laysWells_148 : decode cX12_laysWells 148 = .ok (.if_icmp .ge 24, 3) := by decide +kernel
theorem dX12_laysWells_151 : decode cX12_laysWells 151 = .ok (.aload_n 0, 1) := by decide +kernel
theorem dX12_laysWells_152 : decode cX12_laysWells 152 = .ok (.getfield 143, 3) := by decide +kernel
theorem dX12_laysWells_155 : decode cX12_laysWells 155 = .ok (.bipush 109, 2) := by decide +kernel
theorem dX12_laysWells_157 : decode cX12_laysWells 157 = .ok (.iload_n 2, 1) := by decide +kernel
theorem dX12_laysWells_158 : decode cX12_laysWells 158 = .ok (.iadd, 1) := by decide +kernel
theorem dX12_laysWells_159 : decode cX12_laysWells 159 = .ok (.aload_n 0, 1) := by decide +kernel
theorem dX12_laysWells_160 : decode cX12_laysWells 160 = .ok (.getfield 167, 3) := by decide +kernel
theorem dX12_laysWells_163 : decode cX12_laysWells 163 = .ok (.iload_n 2, 1) := by decide +kernel
theorem dX12_laysWells_164 : decode cX12_laysWells 164 = .ok (.iaload, 1) := by decide +kernel
theorem dX12_laysWells_165 : decode cX12_laysWells 165 = .ok (.iastore, 1) := by decide +kernel
theorem dX12_laysWells_166 : decode cX12_laysWells 166 = .ok (.iinc 2 1, 3) := by decide +kernel
theorem dX12_laysWells_169 : decode cX12_laysWells 169 = .ok (.goto (-26), 3) := by decide +kernel
theorem dX12_laysWells_172 : decode cX12_laysWells 172 = .ok (.return_, 1) := by decide +kernel
def X12_laysWells_p76 (sh : Shp) (v0 : Nat) (v1 : Int32) (v2 : Int32) (v3 : Int32) (s2 : Int32) (s1 : Int32) (s0 : Nat) (Q : Mem → Prop) (K29 : Int32 → Mem → Prop) (K41 : Int32 → Mem → Prop) (m : Mem) : Prop :=
  Ix sh s0 100 s1 ∧ bnd (sI m s0 s1.toNatClampNeg s2) (fun m41 => K41 (v3 + (1 : Int32)) m41)
def X12_laysWells_p122 (sh : Shp) (v0 : Nat) (v1 : Int32) (v2 : Int32) (v3 : Int32) (s2 : Int32) (s1 : Int32) (s0 : Nat) (Q : Mem → Prop) (K29 : Int32 → Mem → Prop) (K90 : Int32 → Mem → Prop) (m : Mem) : Prop :=
  Ob sh v0 12 ∧ wp_X12_pieOf sh v0 v3 (fun r42 m43 => Ix sh s0 100 s1 ∧ bnd (sI m43 s0 s1.toNatClampNeg (s2 - r42)) (fun m46 => K90 (v3 + (1 : Int32)) m46)) m
def X12_laysWells_p90b (sh : Shp) (v0 : Nat) (v1 : Int32) (v2 : Int32) (Q : Mem → Prop) (K29 : Int32 → Mem → Prop) (K90 : Int32 → Mem → Prop) (v3 : Int32) (m : Mem) : Prop :=
  Ob sh v0 12 ∧ wp_X12_farmMany sh v0 (fun r33 m34 => if r33 ≤ v3 then (K29 (v2 + (1 : Int32)) m34) else (∃ b36 : Nat, m34.2.2 v0 70 = some b36 ∧ (wp_X12_isWatered sh v0 v3 (fun r38 m39 => if r38 = 0 then (X12_laysWells_p122 sh v0 v1 v2 v3 (0 : Int32) (((6 : Int32) * v2) + v3) b36 Q K29 K90 m39) else (X12_laysWells_p122 sh v0 v1 v2 v3 (10 : Int32) (((6 : Int32) * v2) + v3) b36 Q K29 K90 m39)) m34))) m
def X12_laysWells_p90n (sh : Shp) (v0 : Nat) (v1 : Int32) (v2 : Int32) (Q : Mem → Prop) (K29 : Int32 → Mem → Prop) : Nat → Int32 → Mem → Prop
  | 0 => fun _ _ => False
  | n + 1 => X12_laysWells_p90b sh v0 v1 v2 Q K29 (X12_laysWells_p90n sh v0 v1 v2 Q K29 n)
def X12_laysWells_p90 (sh : Shp) (v0 : Nat) (v1 : Int32) (v2 : Int32) (Q : Mem → Prop) (K29 : Int32 → Mem → Prop) (v3 : Int32) (m : Mem) : Prop := ∃ n, X12_laysWells_p90n sh v0 v1 v2 Q K29 n v3 m
def X12_laysWells_p41b (sh : Shp) (v0 : Nat) (v1 : Int32) (v2 : Int32) (Q : Mem → Prop) (K29 : Int32 → Mem → Prop) (K41 : Int32 → Mem → Prop) (v3 : Int32) (m : Mem) : Prop :=
  Ob sh v0 12 ∧ wp_X12_farmMany sh v0 (fun r23 m24 => if r23 ≤ v3 then (wp_X12_laysWay sh v0 v1 (fun m27 => X12_laysWells_p90 sh v0 v1 v2 Q K29 (0 : Int32) m27) m24) else (∃ b28 : Nat, m24.2.2 v0 58 = some b28 ∧ (if ((v2 >>> (v3 &&& 31)) &&& (1 : Int32)) = (1 : Int32) then (∃ b30 : Nat, m24.2.2 v0 71 = some b30 ∧ (Ix sh b30 100 v3 ∧ (X12_laysWells_p76 sh v0 v1 v2 v3 (m24.1 b30 v3.toNatClampNeg) ((109 : Int32) + v3) b28 Q K29 K41 m24))) else (X12_laysWells_p76 sh v0 v1 v2 v3 (0 : Int32) ((109 : Int32) + v3) b28 Q K29 K41 m24)))) m
def X12_laysWells_p41n (sh : Shp) (v0 : Nat) (v1 : Int32) (v2 : Int32) (Q : Mem → Prop) (K29 : Int32 → Mem → Prop) : Nat → Int32 → Mem → Prop
  | 0 => fun _ _ => False
  | n + 1 => X12_laysWells_p41b sh v0 v1 v2 Q K29 (X12_laysWells_p41n sh v0 v1 v2 Q K29 n)
def X12_laysWells_p41 (sh : Shp) (v0 : Nat) (v1 : Int32) (v2 : Int32) (Q : Mem → Prop) (K29 : Int32 → Mem → Prop) (v3 : Int32) (m : Mem) : Prop := ∃ n, X12_laysWells_p41n sh v0 v1 v2 Q K29 n v3 m
def X12_laysWells_p143b (sh : Shp) (v0 : Nat) (Q : Mem → Prop) (K143 : Int32 → Mem → Prop) (v2 : Int32) (m : Mem) : Prop :=
  Ob sh v0 12 ∧ wp_X12_farmMany sh v0 (fun r13 m14 => if r13 ≤ v2 then (Q m14) else (∃ b16 : Nat, m14.2.2 v0 58 = some b16 ∧ (∃ b18 : Nat, m14.2.2 v0 71 = some b18 ∧ (Ix sh b18 100 v2 ∧ (Ix sh b16 100 ((109 : Int32) + v2) ∧ bnd (sI m14 b16 ((109 : Int32) + v2).toNatClampNeg (m14.1 b18 v2.toNatClampNeg)) (fun m22 => K143 (v2 + (1 : Int32)) m22)))))) m
def X12_laysWells_p143n (sh : Shp) (v0 : Nat) (Q : Mem → Prop) : Nat → Int32 → Mem → Prop
  | 0 => fun _ _ => False
  | n + 1 => X12_laysWells_p143b sh v0 Q (X12_laysWells_p143n sh v0 Q n)
def X12_laysWells_p143 (sh : Shp) (v0 : Nat) (Q : Mem → Prop) (v2 : Int32) (m : Mem) : Prop := ∃ n, X12_laysWells_p143n sh v0 Q n v2 m
def X12_laysWells_p29b (sh : Shp) (v0 : Nat) (v1 : Int32) (Q : Mem → Prop) (K29 : Int32 → Mem → Prop) (v2 : Int32) (m : Mem) : Prop :=
  Ob sh v0 12 ∧ wp_X12_farmMany sh v0 (fun r10 m11 => if ((1 : Int32) <<< (r10 &&& 31)) ≤ v2 then (X12_laysWells_p143 sh v0 Q (0 : Int32) m11) else (X12_laysWells_p41 sh v0 v1 v2 Q K29 (0 : Int32) m11)) m
def X12_laysWells_p29n (sh : Shp) (v0 : Nat) (v1 : Int32) (Q : Mem → Prop) : Nat → Int32 → Mem → Prop
  | 0 => fun _ _ => False
  | n + 1 => X12_laysWells_p29b sh v0 v1 Q (X12_laysWells_p29n sh v0 v1 Q n)
def X12_laysWells_p29 (sh : Shp) (v0 : Nat) (v1 : Int32) (Q : Mem → Prop) (v2 : Int32) (m : Mem) : Prop := ∃ n, X12_laysWells_p29n sh v0 v1 Q n v2 m
def X12_laysWells_p2b (sh : Shp) (v0 : Nat) (v1 : Int32) (Q : Mem → Prop) (K2 : Int32 → Mem → Prop) (v2 : Int32) (m : Mem) : Prop :=
  Ob sh v0 12 ∧ wp_X12_farmMany sh v0 (fun r1 m2 => if r1 ≤ v2 then (X12_laysWells_p29 sh v0 v1 Q (0 : Int32) m2) else (∃ b4 : Nat, m2.2.2 v0 71 = some b4 ∧ (wp_X12_pieOf sh v0 v2 (fun r6 m7 => Ix sh b4 100 v2 ∧ bnd (sI m7 b4 v2.toNatClampNeg r6) (fun m9 => K2 (v2 + (1 : Int32)) m9)) m2))) m
def X12_laysWells_p2n (sh : Shp) (v0 : Nat) (v1 : Int32) (Q : Mem → Prop) : Nat → Int32 → Mem → Prop
  | 0 => fun _ _ => False
  | n + 1 => X12_laysWells_p2b sh v0 v1 Q (X12_laysWells_p2n sh v0 v1 Q n)
def X12_laysWells_p2 (sh : Shp) (v0 : Nat) (v1 : Int32) (Q : Mem → Prop) (v2 : Int32) (m : Mem) : Prop := ∃ n, X12_laysWells_p2n sh v0 v1 Q n v2 m
def wp_X12_laysWells (sh : Shp) (v0 : Nat) (v1 : Int32) (Q : Mem → Prop) (m : Mem) : Prop :=
  X12_laysWells_p2 sh v0 v1 Q (0 : Int32) m
abbrev M_X12_laysWells : Mi := (cX12_laysWells, 4, RX12, (none : Option FieldType), "laysWells", 9, 243, 0, 0)
set_option maxHeartbeats 4000000 in
set_option maxRecDepth 100000 in
theorem v_X12_laysWells_p76 {G : Gl} {F : Fr} {sh : Shp} {v0 : Nat} {v1 : Int32} {v2 : Int32} {v3 : Int32} {s0 : Nat} {s1 : Int32} {s2 : Int32} {Q : Mem → Prop} {K29 : Int32 → Mem → Prop} {K41 : Int32 → Mem → Prop} {m : Mem} (hK29 : ∀ (x2 : Int32) (m : Mem), K29 x2 m → V G F M_X12_laysWells sh 0 0 (Zv G F sh Q) 29 [(0, .ref (G.1 + v0)), (1, .int v1), (2, .int x2)] [] m) (hK41 : ∀ (x3 : Int32) (m : Mem), K41 x3 m → V G F M_X12_laysWells sh 0 0 (Zv G F sh Q) 41 [(0, .ref (G.1 + v0)), (1, .int v1), (2, .int v2), (3, .int x3)] [] m) (h : X12_laysWells_p76 sh v0 v1 v2 v3 s2 s1 s0 Q K29 K41 m) : V G F M_X12_laysWells sh 0 0 (Zv G F sh Q) 76 [(0, .ref (G.1 + v0)), (1, .int v1), (2, .int v2), (3, .int v3)] [.int s2, .int s1, .ref (G.1 + s0)] m := by
  unfold X12_laysWells_p76 at h
  obtain ⟨i40, h⟩ := h
  refine v_iast dX12_laysWells_76 i40 ?_
  replace h := bnd_e h
  refine v_iinc (ls' := [(3, .int _), (0, .ref _), (1, .int _), (2, .int _)]) 3 3 dX12_laysWells_77 rfl (congrArg (HAdd.hAdd _) (by decide : Int32.ofInt (1) = (1 : Int32))) (Nat.le_of_ble_eq_true rfl) rfl ?_
  refine v_goto 41 dX12_laysWells_80 (by decide) ?_
  refine v_sub [1, 2, 3, 0] rfl ?_
  exact hK41 _ _ h
set_option maxHeartbeats 4000000 in
set_option maxRecDepth 100000 in
theorem v_X12_laysWells_p122 {G : Gl} {F : Fr} {sh : Shp} {v0 : Nat} {v1 : Int32} {v2 : Int32} {v3 : Int32} {s0 : Nat} {s1 : Int32} {s2 : Int32} {Q : Mem → Prop} {K29 : Int32 → Mem → Prop} {K90 : Int32 → Mem → Prop} {m : Mem} (hK29 : ∀ (x2 : Int32) (m : Mem), K29 x2 m → V G F M_X12_laysWells sh 0 0 (Zv G F sh Q) 29 [(0, .ref (G.1 + v0)), (1, .int v1), (2, .int x2)] [] m) (hK90 : ∀ (x3 : Int32) (m : Mem), K90 x3 m → V G F M_X12_laysWells sh 0 0 (Zv G F sh Q) 90 [(0, .ref (G.1 + v0)), (1, .int v1), (2, .int v2), (3, .int x3)] [] m) (h : X12_laysWells_p122 sh v0 v1 v2 v3 s2 s1 s0 Q K29 K90 m) : V G F M_X12_laysWells sh 0 0 (Zv G F sh Q) 122 [(0, .ref (G.1 + v0)), (1, .int v1), (2, .int v2), (3, .int v3)] [.int s2, .int s1, .ref (G.1 + s0)] m := by
  unfold X12_laysWells_p122 at h
  refine v_aload_n 0 0 dX12_laysWells_122 rfl rfl ?_
  refine v_iload_n 3 3 dX12_laysWells_123 rfl rfl ?_
  obtain ⟨o44, h⟩ := h
  refine v_cVi [.int _] mv_X12_pieOf ml_RX12_449 ⟨_, _, rfl⟩ o44 rfl rfl (Nat.le_of_ble_eq_true rfl) (Nat.le_of_ble_eq_true rfl) (Nat.le_of_ble_eq_true rfl) (Nat.zero_le _) (Nat.zero_le _) dX12_laysWells_124 (c_X12_pieOf h) (fun r42 m43 h => ?_)
  refine v_isub dX12_laysWells_127 ?_
  obtain ⟨i45, h⟩ := h
  refine v_iast dX12_laysWells_128 i45 ?_
  replace h := bnd_e h
  refine v_iinc (ls' := [(3, .int _), (0, .ref _), (1, .int _), (2, .int _)]) 3 3 dX12_laysWells_129 rfl (congrArg (HAdd.hAdd _) (by decide : Int32.ofInt (1) = (1 : Int32))) (Nat.le_of_ble_eq_true rfl) rfl ?_
  refine v_goto 90 dX12_laysWells_132 (by decide) ?_
  refine v_sub [1, 2, 3, 0] rfl ?_
  exact hK90 _ _ h
set_option maxHeartbeats 4000000 in
set_option maxRecDepth 100000 in
theorem v_X12_laysWells_p90b {G : Gl} {F : Fr} {sh : Shp} {v0 : Nat} {v1 : Int32} {v2 : Int32} {v3 : Int32} {Q : Mem → Prop} {K29 : Int32 → Mem → Prop} {K90 : Int32 → Mem → Prop} {m : Mem} (hK29 : ∀ (x2 : Int32) (m : Mem), K29 x2 m → V G F M_X12_laysWells sh 0 0 (Zv G F sh Q) 29 [(0, .ref (G.1 + v0)), (1, .int v1), (2, .int x2)] [] m) (hK90 : ∀ (x3 : Int32) (m : Mem), K90 x3 m → V G F M_X12_laysWells sh 0 0 (Zv G F sh Q) 90 [(0, .ref (G.1 + v0)), (1, .int v1), (2, .int v2), (3, .int x3)] [] m) (h : X12_laysWells_p90b sh v0 v1 v2 Q K29 K90 v3 m) : V G F M_X12_laysWells sh 0 0 (Zv G F sh Q) 90 [(0, .ref (G.1 + v0)), (1, .int v1), (2, .int v2), (3, .int v3)] [] m := by
  unfold X12_laysWells_p90b at h
  refine v_iload_n 3 3 dX12_laysWells_90 rfl rfl ?_
  refine v_aload_n 0 0 dX12_laysWells_91 rfl rfl ?_
  obtain ⟨o35, h⟩ := h
  refine v_cVi [] mv_X12_farmMany ml_RX12_436 ⟨_, _, rfl⟩ o35 rfl rfl (Nat.le_of_ble_eq_true rfl) (Nat.le_of_ble_eq_true rfl) (Nat.le_of_ble_eq_true rfl) (Nat.zero_le _) (Nat.zero_le _) dX12_laysWells_92 (c_X12_farmMany h) (fun r33 m34 h => ?_)
  refine v_icmp_ge 135 dX12_laysWells_95 (by decide) (fun hc => ?_) (fun hc => ?_)
  · replace h := Eq.mp (if_pos hc) h
    refine v_iinc (ls' := [(2, .int _), (0, .ref _), (1, .int _), (3, .int _)]) 2 2 dX12_laysWells_135 rfl (congrArg (HAdd.hAdd _) (by decide : Int32.ofInt (1) = (1 : Int32))) (Nat.le_of_ble_eq_true rfl) rfl ?_
    refine v_goto 29 dX12_laysWells_138 (by decide) ?_
    refine v_sub [1, 2, 0] rfl ?_
    exact hK29 _ _ h
  · replace h := Eq.mp (if_neg hc) h
    refine v_aload_n 0 0 dX12_laysWells_98 rfl rfl ?_
    obtain ⟨b36, e37, h⟩ := h
    refine v_gR 12 70 dX12_laysWells_99 fg_RX12_164 o35 e37 ?_
    refine v_bipush (6 : Int32) dX12_laysWells_102 (by decide) ?_
    refine v_iload_n 2 2 dX12_laysWells_104 rfl rfl ?_
    refine v_imul dX12_laysWells_105 ?_
    refine v_iload_n 3 3 dX12_laysWells_106 rfl rfl ?_
    refine v_iadd dX12_laysWells_107 ?_
    refine v_aload_n 0 0 dX12_laysWells_108 rfl rfl ?_
    refine v_iload_n 3 3 dX12_laysWells_109 rfl rfl ?_
    refine v_cVi [.int _] mv_X12_isWatered ml_RX12_518 ⟨_, _, rfl⟩ o35 rfl rfl (Nat.le_of_ble_eq_true rfl) (Nat.le_of_ble_eq_true rfl) (Nat.le_of_ble_eq_true rfl) (Nat.zero_le _) (Nat.zero_le _) dX12_laysWells_110 (c_X12_isWatered h) (fun r38 m39 h => ?_)
    refine v_if_eq 121 dX12_laysWells_113 (by decide) (fun hc => ?_) (fun hc => ?_)
    · replace h := Eq.mp (if_pos hc) h
      refine v_iconst (0 : Int32) dX12_laysWells_121 (by decide) ?_
      refine v_sub [0, 1, 2, 3] rfl ?_
      exact v_X12_laysWells_p122 hK29 hK90 h
    · replace h := Eq.mp (if_neg hc) h
      refine v_bipush (10 : Int32) dX12_laysWells_116 (by decide) ?_
      refine v_goto 122 dX12_laysWells_118 (by decide) ?_
      refine v_sub [0, 1, 2, 3] rfl ?_
      exact v_X12_laysWells_p122 hK29 hK90 h
set_option maxHeartbeats 4000000 in
set_option maxRecDepth 100000 in
theorem v_X12_laysWells_p90 {G : Gl} {F : Fr} {sh : Shp} {v0 : Nat} {v1 : Int32} {v2 : Int32} {v3 : Int32} {Q : Mem → Prop} {K29 : Int32 → Mem → Prop} {m : Mem} (hK29 : ∀ (x2 : Int32) (m : Mem), K29 x2 m → V G F M_X12_laysWells sh 0 0 (Zv G F sh Q) 29 [(0, .ref (G.1 + v0)), (1, .int v1), (2, .int x2)] [] m) (h : X12_laysWells_p90 sh v0 v1 v2 Q K29 v3 m) : V G F M_X12_laysWells sh 0 0 (Zv G F sh Q) 90 [(0, .ref (G.1 + v0)), (1, .int v1), (2, .int v2), (3, .int v3)] [] m := by
  obtain ⟨n, h⟩ := h
  induction n generalizing v3 m with
  | zero => exact h.elim
  | succ n ih => exact v_X12_laysWells_p90b hK29 (fun _ _ h => ih h) h
set_option maxHeartbeats 4000000 in
set_option maxRecDepth 100000 in
theorem v_X12_laysWells_p41b {G : Gl} {F : Fr} {sh : Shp} {v0 : Nat} {v1 : Int32} {v2 : Int32} {v3 : Int32} {Q : Mem → Prop} {K29 : Int32 → Mem → Prop} {K41 : Int32 → Mem → Prop} {m : Mem} (hK29 : ∀ (x2 : Int32) (m : Mem), K29 x2 m → V G F M_X12_laysWells sh 0 0 (Zv G F sh Q) 29 [(0, .ref (G.1 + v0)), (1, .int v1), (2, .int x2)] [] m) (hK41 : ∀ (x3 : Int32) (m : Mem), K41 x3 m → V G F M_X12_laysWells sh 0 0 (Zv G F sh Q) 41 [(0, .ref (G.1 + v0)), (1, .int v1), (2, .int v2), (3, .int x3)] [] m) (h : X12_laysWells_p41b sh v0 v1 v2 Q K29 K41 v3 m) : V G F M_X12_laysWells sh 0 0 (Zv G F sh Q) 41 [(0, .ref (G.1 + v0)), (1, .int v1), (2, .int v2), (3, .int v3)] [] m := by
  unfold X12_laysWells_p41b at h
  refine v_iload_n 3 3 dX12_laysWells_41 rfl rfl ?_
  refine v_aload_n 0 0 dX12_laysWells_42 rfl rfl ?_
  obtain ⟨o25, h⟩ := h
  refine v_cVi [] mv_X12_farmMany ml_RX12_436 ⟨_, _, rfl⟩ o25 rfl rfl (Nat.le_of_ble_eq_true rfl) (Nat.le_of_ble_eq_true rfl) (Nat.le_of_ble_eq_true rfl) (Nat.zero_le _) (Nat.zero_le _) dX12_laysWells_43 (c_X12_farmMany h) (fun r23 m24 h => ?_)
  refine v_icmp_ge 83 dX12_laysWells_46 (by decide) (fun hc => ?_) (fun hc => ?_)
  · replace h := Eq.mp (if_pos hc) h
    refine v_aload_n 0 0 dX12_laysWells_83 rfl rfl ?_
    refine v_iload_n 1 1 dX12_laysWells_84 rfl rfl ?_
    refine v_cVv [.int _] mv_X12_laysWay ml_RX12_521 ⟨_, _, rfl⟩ o25 rfl rfl (Nat.le_of_ble_eq_true rfl) (Nat.le_of_ble_eq_true rfl) (Nat.le_of_ble_eq_true rfl) (Nat.zero_le _) (Nat.zero_le _) dX12_laysWells_85 (c_X12_laysWay h) (fun m27 h => ?_)
    refine v_iconst (0 : Int32) dX12_laysWells_88 (by decide) ?_
    refine v_istore_n (ls' := [(3, .int _), (0, .ref _), (1, .int _), (2, .int _)]) 3 dX12_laysWells_89 rfl (Nat.le_of_ble_eq_true rfl) rfl ?_
    refine v_sub [1, 2, 3, 0] rfl ?_
    exact v_X12_laysWells_p90 hK29 h
  · replace h := Eq.mp (if_neg hc) h
    refine v_aload_n 0 0 dX12_laysWells_49 rfl rfl ?_
    obtain ⟨b28, e29, h⟩ := h
    refine v_gR 12 58 dX12_laysWells_50 fg_RX12_143 o25 e29 ?_
    refine v_bipush (109 : Int32) dX12_laysWells_53 (by decide) ?_
    refine v_iload_n 3 3 dX12_laysWells_55 rfl rfl ?_
    refine v_iadd dX12_laysWells_56 ?_
    refine v_iload_n 2 2 dX12_laysWells_57 rfl rfl ?_
    refine v_iload_n 3 3 dX12_laysWells_58 rfl rfl ?_
    refine v_ishr dX12_laysWells_59 ?_
    refine v_iconst (1 : Int32) dX12_laysWells_60 (by decide) ?_
    refine v_iand dX12_laysWells_61 ?_
    refine v_iconst (1 : Int32) dX12_laysWells_62 (by decide) ?_
    refine v_icmp_ne 75 dX12_laysWells_63 (by decide) (fun hc => ?_) (fun hc => ?_)
    · replace h := Eq.mp (if_neg hc) h
      refine v_iconst (0 : Int32) dX12_laysWells_75 (by decide) ?_
      refine v_sub [0, 1, 2, 3] rfl ?_
      exact v_X12_laysWells_p76 hK29 hK41 h
    · replace h := Eq.mp (if_pos hc) h
      refine v_aload_n 0 0 dX12_laysWells_66 rfl rfl ?_
      obtain ⟨b30, e31, h⟩ := h
      refine v_gR 12 71 dX12_laysWells_67 fg_RX12_167 o25 e31 ?_
      refine v_iload_n 3 3 dX12_laysWells_70 rfl rfl ?_
      obtain ⟨i32, h⟩ := h
      refine v_iald dX12_laysWells_71 i32 ?_
      refine v_goto 76 dX12_laysWells_72 (by decide) ?_
      refine v_sub [0, 1, 2, 3] rfl ?_
      exact v_X12_laysWells_p76 hK29 hK41 h
set_option maxHeartbeats 4000000 in
set_option maxRecDepth 100000 in
theorem v_X12_laysWells_p41 {G : Gl} {F : Fr} {sh : Shp} {v0 : Nat} {v1 : Int32} {v2 : Int32} {v3 : Int32} {Q : Mem → Prop} {K29 : Int32 → Mem → Prop} {m : Mem} (hK29 : ∀ (x2 : Int32) (m : Mem), K29 x2 m → V G F M_X12_laysWells sh 0 0 (Zv G F sh Q) 29 [(0, .ref (G.1 + v0)), (1, .int v1), (2, .int x2)] [] m) (h : X12_laysWells_p41 sh v0 v1 v2 Q K29 v3 m) : V G F M_X12_laysWells sh 0 0 (Zv G F sh Q) 41 [(0, .ref (G.1 + v0)), (1, .int v1), (2, .int v2), (3, .int v3)] [] m := by
  obtain ⟨n, h⟩ := h
  induction n generalizing v3 m with
  | zero => exact h.elim
  | succ n ih => exact v_X12_laysWells_p41b hK29 (fun _ _ h => ih h) h
set_option maxHeartbeats 4000000 in
set_option maxRecDepth 100000 in
theorem v_X12_laysWells_p143b {G : Gl} {F : Fr} {sh : Shp} {v0 : Nat} {v2 : Int32} {Q : Mem → Prop} {K143 : Int32 → Mem → Prop} {m : Mem} (hK143 : ∀ (x2 : Int32) (m : Mem), K143 x2 m → V G F M_X12_laysWells sh 0 0 (Zv G F sh Q) 143 [(0, .ref (G.1 + v0)), (2, .int x2)] [] m) (h : X12_laysWells_p143b sh v0 Q K143 v2 m) : V G F M_X12_laysWells sh 0 0 (Zv G F sh Q) 143 [(0, .ref (G.1 + v0)), (2, .int v2)] [] m := by
  unfold X12_laysWells_p143b at h
  refine v_iload_n 2 1 dX12_laysWells_143 rfl rfl ?_
  refine v_aload_n 0 0 dX12_laysWells_144 rfl rfl ?_
  obtain ⟨o15, h⟩ := h
  refine v_cVi [] mv_X12_farmMany ml_RX12_436 ⟨_, _, rfl⟩ o15 rfl rfl (Nat.le_of_ble_eq_true rfl) (Nat.le_of_ble_eq_true rfl) (Nat.le_of_ble_eq_true rfl) (Nat.zero_le _) (Nat.zero_le _) dX12_laysWells_145 (c_X12_farmMany h) (fun r13 m14 h => ?_)
  refine v_icmp_ge 172 dX12_laysWells_148 (by decide) (fun hc => ?_) (fun hc => ?_)
  · replace h := Eq.mp (if_pos hc) h
    exact v_vret dX12_laysWells_172 rfl h
  · replace h := Eq.mp (if_neg hc) h
    refine v_aload_n 0 0 dX12_laysWells_151 rfl rfl ?_
    obtain ⟨b16, e17, h⟩ := h
    refine v_gR 12 58 dX12_laysWells_152 fg_RX12_143 o15 e17 ?_
    refine v_bipush (109 : Int32) dX12_laysWells_155 (by decide) ?_
    refine v_iload_n 2 1 dX12_laysWells_157 rfl rfl ?_
    refine v_iadd dX12_laysWells_158 ?_
    refine v_aload_n 0 0 dX12_laysWells_159 rfl rfl ?_
    obtain ⟨b18, e19, h⟩ := h
    refine v_gR 12 71 dX12_laysWells_160 fg_RX12_167 o15 e19 ?_
    refine v_iload_n 2 1 dX12_laysWells_163 rfl rfl ?_
    obtain ⟨i20, h⟩ := h
    refine v_iald dX12_laysWells_164 i20 ?_
    obtain ⟨i21, h⟩ := h
    refine v_iast dX12_laysWells_165 i21 ?_
    replace h := bnd_e h
    refine v_iinc (ls' := [(2, .int _), (0, .ref _)]) 2 1 dX12_laysWells_166 rfl (congrArg (HAdd.hAdd _) (by decide : Int32.ofInt (1) = (1 : Int32))) (Nat.le_of_ble_eq_true rfl) rfl ?_
    refine v_goto 143 dX12_laysWells_169 (by decide) ?_
    refine v_sub [1, 0] rfl ?_
    exact hK143 _ _ h
set_option maxHeartbeats 4000000 in
set_option maxRecDepth 100000 in
theorem v_X12_laysWells_p143 {G : Gl} {F : Fr} {sh : Shp} {v0 : Nat} {v2 : Int32} {Q : Mem → Prop} {m : Mem} (h : X12_laysWells_p143 sh v0 Q v2 m) : V G F M_X12_laysWells sh 0 0 (Zv G F sh Q) 143 [(0, .ref (G.1 + v0)), (2, .int v2)] [] m := by
  obtain ⟨n, h⟩ := h
  induction n generalizing v2 m with
  | zero => exact h.elim
  | succ n ih => exact v_X12_laysWells_p143b (fun _ _ h => ih h) h
set_option maxHeartbeats 4000000 in
set_option maxRecDepth 100000 in
theorem v_X12_laysWells_p29b {G : Gl} {F : Fr} {sh : Shp} {v0 : Nat} {v1 : Int32} {v2 : Int32} {Q : Mem → Prop} {K29 : Int32 → Mem → Prop} {m : Mem} (hK29 : ∀ (x2 : Int32) (m : Mem), K29 x2 m → V G F M_X12_laysWells sh 0 0 (Zv G F sh Q) 29 [(0, .ref (G.1 + v0)), (1, .int v1), (2, .int x2)] [] m) (h : X12_laysWells_p29b sh v0 v1 Q K29 v2 m) : V G F M_X12_laysWells sh 0 0 (Zv G F sh Q) 29 [(0, .ref (G.1 + v0)), (1, .int v1), (2, .int v2)] [] m := by
  unfold X12_laysWells_p29b at h
  refine v_iload_n 2 2 dX12_laysWells_29 rfl rfl ?_
  refine v_iconst (1 : Int32) dX12_laysWells_30 (by decide) ?_
  refine v_aload_n 0 0 dX12_laysWells_31 rfl rfl ?_
  obtain ⟨o12, h⟩ := h
  refine v_cVi [] mv_X12_farmMany ml_RX12_436 ⟨_, _, rfl⟩ o12 rfl rfl (Nat.le_of_ble_eq_true rfl) (Nat.le_of_ble_eq_true rfl) (Nat.le_of_ble_eq_true rfl) (Nat.zero_le _) (Nat.zero_le _) dX12_laysWells_32 (c_X12_farmMany h) (fun r10 m11 h => ?_)
  refine v_ishl dX12_laysWells_35 ?_
  refine v_icmp_ge 141 dX12_laysWells_36 (by decide) (fun hc => ?_) (fun hc => ?_)
  · replace h := Eq.mp (if_pos hc) h
    refine v_iconst (0 : Int32) dX12_laysWells_141 (by decide) ?_
    refine v_istore_n (ls' := [(2, .int _), (0, .ref _), (1, .int _)]) 2 dX12_laysWells_142 rfl (Nat.le_of_ble_eq_true rfl) rfl ?_
    refine v_sub [1, 0] rfl ?_
    exact v_X12_laysWells_p143 h
  · replace h := Eq.mp (if_neg hc) h
    refine v_iconst (0 : Int32) dX12_laysWells_39 (by decide) ?_
    refine v_istore_n (ls' := [(3, .int _), (0, .ref _), (1, .int _), (2, .int _)]) 3 dX12_laysWells_40 rfl (Nat.le_of_ble_eq_true rfl) rfl ?_
    refine v_sub [1, 2, 3, 0] rfl ?_
    exact v_X12_laysWells_p41 hK29 h
set_option maxHeartbeats 4000000 in
set_option maxRecDepth 100000 in
theorem v_X12_laysWells_p29 {G : Gl} {F : Fr} {sh : Shp} {v0 : Nat} {v1 : Int32} {v2 : Int32} {Q : Mem → Prop} {m : Mem} (h : X12_laysWells_p29 sh v0 v1 Q v2 m) : V G F M_X12_laysWells sh 0 0 (Zv G F sh Q) 29 [(0, .ref (G.1 + v0)), (1, .int v1), (2, .int v2)] [] m := by
  obtain ⟨n, h⟩ := h
  induction n generalizing v2 m with
  | zero => exact h.elim
  | succ n ih => exact v_X12_laysWells_p29b (fun _ _ h => ih h) h
set_option maxHeartbeats 4000000 in
set_option maxRecDepth 100000 in
theorem v_X12_laysWells_p2b {G : Gl} {F : Fr} {sh : Shp} {v0 : Nat} {v1 : Int32} {v2 : Int32} {Q : Mem → Prop} {K2 : Int32 → Mem → Prop} {m : Mem} (hK2 : ∀ (x2 : Int32) (m : Mem), K2 x2 m → V G F M_X12_laysWells sh 0 0 (Zv G F sh Q) 2 [(0, .ref (G.1 + v0)), (1, .int v1), (2, .int x2)] [] m) (h : X12_laysWells_p2b sh v0 v1 Q K2 v2 m) : V G F M_X12_laysWells sh 0 0 (Zv G F sh Q) 2 [(0, .ref (G.1 + v0)), (1, .int v1), (2, .int v2)] [] m := by
  unfold X12_laysWells_p2b at h
  refine v_iload_n 2 2 dX12_laysWells_2 rfl rfl ?_
  refine v_aload_n 0 0 dX12_laysWells_3 rfl rfl ?_
  obtain ⟨o3, h⟩ := h
  refine v_cVi [] mv_X12_farmMany ml_RX12_436 ⟨_, _, rfl⟩ o3 rfl rfl (Nat.le_of_ble_eq_true rfl) (Nat.le_of_ble_eq_true rfl) (Nat.le_of_ble_eq_true rfl) (Nat.zero_le _) (Nat.zero_le _) dX12_laysWells_4 (c_X12_farmMany h) (fun r1 m2 h => ?_)
  refine v_icmp_ge 27 dX12_laysWells_7 (by decide) (fun hc => ?_) (fun hc => ?_)
  · replace h := Eq.mp (if_pos hc) h
    refine v_iconst (0 : Int32) dX12_laysWells_27 (by decide) ?_
    refine v_istore_n (ls' := [(2, .int _), (0, .ref _), (1, .int _)]) 2 dX12_laysWells_28 rfl (Nat.le_of_ble_eq_true rfl) rfl ?_
    refine v_sub [1, 2, 0] rfl ?_
    exact v_X12_laysWells_p29 h
  · replace h := Eq.mp (if_neg hc) h
    refine v_aload_n 0 0 dX12_laysWells_10 rfl rfl ?_
    obtain ⟨b4, e5, h⟩ := h
    refine v_gR 12 71 dX12_laysWells_11 fg_RX12_167 o3 e5 ?_
    refine v_iload_n 2 2 dX12_laysWells_14 rfl rfl ?_
    refine v_aload_n 0 0 dX12_laysWells_15 rfl rfl ?_
    refine v_iload_n 2 2 dX12_laysWells_16 rfl rfl ?_
    refine v_cVi [.int _] mv_X12_pieOf ml_RX12_449 ⟨_, _, rfl⟩ o3 rfl rfl (Nat.le_of_ble_eq_true rfl) (Nat.le_of_ble_eq_true rfl) (Nat.le_of_ble_eq_true rfl) (Nat.zero_le _) (Nat.zero_le _) dX12_laysWells_17 (c_X12_pieOf h) (fun r6 m7 h => ?_)
    obtain ⟨i8, h⟩ := h
    refine v_iast dX12_laysWells_20 i8 ?_
    replace h := bnd_e h
    refine v_iinc (ls' := [(2, .int _), (0, .ref _), (1, .int _)]) 2 2 dX12_laysWells_21 rfl (congrArg (HAdd.hAdd _) (by decide : Int32.ofInt (1) = (1 : Int32))) (Nat.le_of_ble_eq_true rfl) rfl ?_
    refine v_goto 2 dX12_laysWells_24 (by decide) ?_
    refine v_sub [1, 2, 0] rfl ?_
    exact hK2 _ _ h
set_option maxHeartbeats 4000000 in
set_option maxRecDepth 100000 in
theorem v_X12_laysWells_p2 {G : Gl} {F : Fr} {sh : Shp} {v0 : Nat} {v1 : Int32} {v2 : Int32} {Q : Mem → Prop} {m : Mem} (h : X12_laysWells_p2 sh v0 v1 Q v2 m) : V G F M_X12_laysWells sh 0 0 (Zv G F sh Q) 2 [(0, .ref (G.1 + v0)), (1, .int v1), (2, .int v2)] [] m := by
  obtain ⟨n, h⟩ := h
  induction n generalizing v2 m with
  | zero => exact h.elim
  | succ n ih => exact v_X12_laysWells_p2b (fun _ _ h => ih h) h
set_option maxHeartbeats 4000000 in
set_option maxRecDepth 100000 in
theorem c_X12_laysWells {l : Launch} {G : Gl} {sh : Shp} {v0 : Nat} {v1 : Int32} {Q : Mem → Prop} {m : Mem} (h : wp_X12_laysWells sh v0 v1 Q m) : Cnv l G yX12_laysWells cX12_laysWells 4 (none : Option FieldType) 9 243 sh [.ref (G.1 + v0), .int v1] m Q := by
  refine con_v (ls := [(0, .ref (G.1 + v0)), (1, .int v1)]) (by decide +kernel) rfl (Nat.le_of_ble_eq_true rfl) (fun F => ?_)
  show V G F M_X12_laysWells sh 0 0 (Zv G F sh Q) 0 [(0, .ref (G.1 + v0)), (1, .int v1)] [] m
  unfold wp_X12_laysWells at h
  refine v_iconst (0 : Int32) dX12_laysWells_0 (by decide) ?_
  refine v_istore_n (ls' := [(2, .int _), (0, .ref _), (1, .int _)]) 2 dX12_laysWells_1 rfl (Nat.le_of_ble_eq_true rfl) rfl ?_
  refine v_sub [1, 2, 0] rfl ?_
  exact v_X12_laysWells_p2 h
