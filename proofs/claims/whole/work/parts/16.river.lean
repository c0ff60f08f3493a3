/-! CalledRiver.wayOf -/
theorem dX11_wayOf_0 : decode cX11_wayOf 0 = .ok (.aload_n 0, 1) := by decide +kernel
theorem dX11_wayOf_1 : decode cX11_wayOf 1 = .ok (.getfield 35, 3) := by decide +kernel
theorem dX11_wayOf_4 : decode cX11_wayOf 4 = .ok (.iload_n 1, 1) := by decide +kernel
theorem dX11_wayOf_5 : decode cX11_wayOf 5 = .ok (.invokevirtual 197, 3) := by decide +kernel
theorem dX11_wayOf_8 : decode cX11_wayOf 8 = .ok (.ifCond .ne 8, 3) := by decide +kernel
theorem dX11_wayOf_11 : decode cX11_wayOf 11 = .ok (.aload_n 0, 1) := by decide +kernel
theorem dX11_wayOf_12 : decode cX11_wayOf 12 = .ok (.getfield 93, 3) := by decide +kernel
theorem dX11_wayOf_15 : decode cX11_wayOf 15 = .ok (.areturn, 1) := by decide +kernel
theorem dX11_wayOf_16 : decode cX11_wayOf 16 = .ok (.aload_n 0, 1) := by decide +kernel
theorem dX11_wayOf_17 : decode cX11_wayOf 17 = .ok (.getfield 84, 3) := by decide +kernel
theorem dX11_wayOf_20 : decode cX11_wayOf 20 = .ok (.iload_n 1, 1) := by decide +kernel
theorem dX11_wayOf_21 : decode cX11_wayOf 21 = .ok (.aaload, 1) := by decide +kernel
theorem dX11_wayOf_22 : decode cX11_wayOf 22 = .ok (.astore_n 2, 1) := by decide +kernel
theorem dX11_wayOf_23 : decode cX11_wayOf 23 = .ok (.aload_n 2, 1) := by decide +kernel
theorem dX11_wayOf_24 : decode cX11_wayOf 24 = .ok (.getfield 357, 3) := by decide +kernel
theorem dX11_wayOf_27 : decode cX11_wayOf 27 = .ok (.ifCond .ne 16, 3) := by decide +kernel
theorem dX11_wayOf_30 : decode cX11_wayOf 30 = .ok (.aload_n 2, 1) := by decide +kernel
theorem dX11_wayOf_31 : decode cX11_wayOf 31 = .ok (.aload_n 0, 1) := by decide +kernel
theorem dX11_wayOf_32 : decode cX11_wayOf 32 = .ok (.getfield 35, 3) := by decide +kernel
theorem dX11_wayOf_35 : decode cX11_wayOf 35 = .ok (.aload_n 0, 1) := by decide +kernel
theorem dX11_wayOf_36 : decode cX11_wayOf 36 = .ok (.getfield 54, 3) := by decide +kernel
theorem dX11_wayOf_39 : decode cX11_wayOf 39 = .ok (.iload_n 1, 1) := by decide +kernel
theorem dX11_wayOf_40 : decode cX11_wayOf 40 = .ok (.invokevirtual 282, 3) := by decide +kernel
theorem dX11_wayOf_43 : decode cX11_wayOf 43 = .ok (.aload_n 2, 1) := by decide +kernel
theorem dX11_wayOf_44 : decode cX11_wayOf 44 = .ok (.areturn, 1) := by decide +kernel
def wp_X11_wayOf (sh : Shp) (v0 : Nat) (v1 : Int32) (Q : Nat → Mem → Prop) (m : Mem) : Prop :=
  Ob sh v0 11 ∧ ∃ b2 : Nat, m.2.2 v0 3 = some b2 ∧ (Ob sh b2 5 ∧ wp_X5_isCaller sh b2 v1 (fun r4 m5 => if r4 = 0 then (∃ b19 : Nat, m5.2.2 v0 13 = some b19 ∧ (Q b19 m5)) else (∃ b7 : Nat, m5.2.2 v0 11 = some b7 ∧ (Ix sh b7 104 v1 ∧ ∃ b10 : Nat, m5.2.2 b7 v1.toNatClampNeg = some b10 ∧ (Ob sh b10 10 ∧ (if (m5.1 b10 5) = 0 then (∃ b13 : Nat, m5.2.2 v0 3 = some b13 ∧ (∃ b15 : Nat, m5.2.2 v0 6 = some b15 ∧ (wp_X10_lead sh b10 b13 b15 v1 (fun m18 => Q b10 m18) m5))) else (Q b10 m5)))))) m)
abbrev M_X11_wayOf : Mi := (cX11_wayOf, 3, RX11, (Option.some (FieldType.object "CalledRiver$Way")), "wayOf", 6, 187, 0, 0)
set_option maxHeartbeats 4000000 in
set_option maxRecDepth 100000 in
theorem c_X11_wayOf {l : Launch} {G : Gl} {sh : Shp} {v0 : Nat} {v1 : Int32} {Q : Nat → Mem → Prop} {m : Mem} (h : wp_X11_wayOf sh v0 v1 Q m) : Cnr l G yX11_wayOf cX11_wayOf 3 (Option.some (FieldType.object "CalledRiver$Way")) 6 187 sh [.ref (G.1 + v0), .int v1] m Q := by
  refine con_r (ls := [(0, .ref (G.1 + v0)), (1, .int v1)]) (by decide +kernel) rfl (Nat.le_of_ble_eq_true rfl) (fun F => ?_)
  show V G F M_X11_wayOf sh 0 0 (Zr G F sh Q) 0 [(0, .ref (G.1 + v0)), (1, .int v1)] [] m
  unfold wp_X11_wayOf at h
  refine v_aload_n 0 0 dX11_wayOf_0 rfl rfl ?_
  obtain ⟨o1, h⟩ := h
  obtain ⟨b2, e3, h⟩ := h
  refine v_gR 11 3 dX11_wayOf_1 fg_RX11_35 o1 e3 ?_
  refine v_iload_n 1 1 dX11_wayOf_4 rfl rfl ?_
  obtain ⟨o6, h⟩ := h
  refine v_cVi [.int _] mv_X5_isCaller ml_RX11_197 ⟨_, _, rfl⟩ o6 rfl rfl (Nat.le_of_ble_eq_true rfl) (Nat.le_of_ble_eq_true rfl) (Nat.le_of_ble_eq_true rfl) (Nat.zero_le _) (Nat.zero_le _) dX11_wayOf_5 (c_X5_isCaller h) (fun r4 m5 h => ?_)
  refine v_if_ne 16 dX11_wayOf_8 (by decide) (fun hc => ?_) (fun hc => ?_)
  · replace h := Eq.mp (if_neg hc) h
    refine v_aload_n 0 0 dX11_wayOf_16 rfl rfl ?_
    obtain ⟨b7, e8, h⟩ := h
    refine v_gR 11 11 dX11_wayOf_17 fg_RX11_84 o1 e8 ?_
    refine v_iload_n 1 1 dX11_wayOf_20 rfl rfl ?_
    obtain ⟨i9, h⟩ := h
    obtain ⟨b10, e11, h⟩ := h
    refine v_aald 104 dX11_wayOf_21 i9 (by decide) e11 ?_
    refine v_astore_n (ls' := [(2, .ref _), (0, .ref _), (1, .int _)]) 2 dX11_wayOf_22 rfl (Nat.le_of_ble_eq_true rfl) rfl ?_
    refine v_aload_n 2 0 dX11_wayOf_23 rfl rfl ?_
    obtain ⟨o12, h⟩ := h
    refine v_gI 10 5 dX11_wayOf_24 fg_RX11_357 o12 ?_
    refine v_if_ne 43 dX11_wayOf_27 (by decide) (fun hc => ?_) (fun hc => ?_)
    · replace h := Eq.mp (if_neg hc) h
      refine v_aload_n 2 0 dX11_wayOf_43 rfl rfl ?_
      exact v_aret dX11_wayOf_44 rfl h
    · replace h := Eq.mp (if_pos hc) h
      refine v_aload_n 2 0 dX11_wayOf_30 rfl rfl ?_
      refine v_aload_n 0 1 dX11_wayOf_31 rfl rfl ?_
      obtain ⟨b13, e14, h⟩ := h
      refine v_gR 11 3 dX11_wayOf_32 fg_RX11_35 o1 e14 ?_
      refine v_aload_n 0 1 dX11_wayOf_35 rfl rfl ?_
      obtain ⟨b15, e16, h⟩ := h
      refine v_gR 11 6 dX11_wayOf_36 fg_RX11_54 o1 e16 ?_
      refine v_iload_n 1 2 dX11_wayOf_39 rfl rfl ?_
      refine v_cVv [.ref _, .ref _, .int _] mv_X10_lead ml_RX11_282 ⟨_, _, rfl⟩ o12 rfl rfl (Nat.le_of_ble_eq_true rfl) (Nat.le_of_ble_eq_true rfl) (Nat.le_of_ble_eq_true rfl) (Nat.zero_le _) (Nat.zero_le _) dX11_wayOf_40 (c_X10_lead h) (fun m18 h => ?_)
      refine v_aload_n 2 0 dX11_wayOf_43 rfl rfl ?_
      exact v_aret dX11_wayOf_44 rfl h
  · replace h := Eq.mp (if_pos hc) h
    refine v_aload_n 0 0 dX11_wayOf_11 rfl rfl ?_
    obtain ⟨b19, e20, h⟩ := h
    refine v_gR 11 13 dX11_wayOf_12 fg_RX11_93 o1 e20 ?_
    exact v_aret dX11_wayOf_15 rfl h
/-! CalledRiver.gatherFacts -/
theorem dX11_gatherFacts_0 : decode cX11_gatherFacts 0 = .ok (.aload_n 0, 1) := by decide +kernel
theorem dX11_gatherFacts_1 : decode cX11_gatherFacts 1 = .ok (.getfield 35, 3) := by decide +kernel
theorem dX11_gatherFacts_4 : decode cX11_gatherFacts 4 = .ok (.getfield 218, 3) := by decide +kernel
theorem dX11_gatherFacts_7 : decode cX11_gatherFacts 7 = .ok (.iload_n 1, 1) := by decide +kernel
theorem dX11_gatherFacts_8 : decode cX11_gatherFacts 8 = .ok (.iaload, 1) := by decide +kernel
theorem dX11_gatherFacts_9 : decode cX11_gatherFacts 9 = .ok (.istore_n 2, 1) := by decide +kernel
theorem dX11_gatherFacts_10 : decode cX11_gatherFacts 10 = .ok (.aload_n 0, 1) := by decide +kernel
theorem dX11_gatherFacts_11 : decode cX11_gatherFacts 11 = .ok (.getfield 96, 3) := by decide +kernel
theorem dX11_gatherFacts_14 : decode cX11_gatherFacts 14 = .ok (.bipush 9, 2) := by decide +kernel
theorem dX11_gatherFacts_16 : decode cX11_gatherFacts 16 = .ok (.iload_n 1, 1) := by decide +kernel
theorem dX11_gatherFacts_17 : decode cX11_gatherFacts 17 = .ok (.iastore, 1) := by decide +kernel
theorem dX11_gatherFacts_18 : decode cX11_gatherFacts 18 = .ok (.aload_n 0, 1) := by decide +kernel
theorem dX11_gatherFacts_19 : decode cX11_gatherFacts 19 = .ok (.getfield 96, 3) := by decide +kernel
theorem dX11_gatherFacts_22 : decode cX11_gatherFacts 22 = .ok (.bipush 10, 2) := by decide +kernel
theorem dX11_gatherFacts_24 : decode cX11_gatherFacts 24 = .ok (.aload_n 0, 1) := by decide +kernel
theorem dX11_gatherFacts_25 : decode cX11_gatherFacts 25 = .ok (.getfield 35, 3) := by decide +kernel
theorem dX11_gatherFacts_28 : decode cX11_gatherFacts 28 = .ok (.iload_n 2, 1) := by decide +kernel
theorem dX11_gatherFacts_29 : decode cX11_gatherFacts 29 = .ok (.invokevirtual 221, 3) := by decide +kernel
theorem dX11_gatherFacts_32 : decode cX11_gatherFacts 32 = .ok (.iastore, 1) := by decide +kernel
theorem dX11_gatherFacts_33 : decode cX11_gatherFacts 33 = .ok (.aload_n 0, 1) := by decide +kernel
theorem dX11_gatherFacts_34 : decode cX11_gatherFacts 34 = .ok (.getfield 96, 3) := by decide +kernel
theorem dX11_gatherFacts_37 : decode cX11_gatherFacts 37 = .ok (.bipush 11, 2) := by decide +kernel
theorem dX11_gatherFacts_39 : decode cX11_gatherFacts 39 = .ok (.aload_n 0, 1) := by decide +kernel
theorem dX11_gatherFacts_40 : decode cX11_gatherFacts 40 = .ok (.getfield 35, 3) := by decide +kernel
theorem dX11_gatherFacts_43 : decode cX11_gatherFacts 43 = .ok (.iload_n 2, 1) := by decide +kernel
theorem dX11_gatherFacts_44 : decode cX11_gatherFacts 44 = .ok (.invokevirtual 224, 3) := by decide +kernel
theorem dX11_gatherFacts_47 : decode cX11_gatherFacts 47 = .ok (.iastore, 1) := by decide +kernel
theorem dX11_gatherFacts_48 : decode cX11_gatherFacts 48 = .ok (.aload_n 0, 1) := by decide +kernel
theorem dX11_gatherFacts_49 : decode cX11_gatherFacts 49 = .ok (.getfield 96, 3) := by decide +kernel
theorem dX11_gatherFacts_52 : decode cX11_gatherFacts 52 = .ok (.bipush 12, 2) := by decide +kernel
theorem dX11_gatherFacts_54 : decode cX11_gatherFacts 54 = .ok (.aload_n 0, 1) := by decide +kernel
theorem dX11_gatherFacts_55 : decode cX11_gatherFacts 55 = .ok (.getfield 35, 3) := by decide +kernel
theorem dX11_gatherFacts_58 : decode cX11_gatherFacts 58 = .ok (.getfield 227, 3) := by decide +kernel
theorem dX11_gatherFacts_61 : decode cX11_gatherFacts 61 = .ok (.iload_n 1, 1) := by decide +kernel
theorem dX11_gatherFacts_62 : decode cX11_gatherFacts 62 = .ok (.iaload, 1) := by decide +kernel
theorem dX11_gatherFacts_63 : decode cX11_gatherFacts 63 = .ok (.iastore, 1) := by decide +kernel
theorem dX11_gatherFacts_64 : decode cX11_gatherFacts 64 = .ok (.aload_n 0, 1) := by decide +kernel
theorem dX11_gatherFacts_65 : decode cX11_gatherFacts 65 = .ok (.getfield 96, 3) := by decide +kernel
theorem dX11_gatherFacts_68 : decode cX11_gatherFacts 68 = .ok (.iconst 1, 1) := by decide +kernel
theorem dX11_gatherFacts_69 : decode cX11_gatherFacts 69 = .ok (.aload_n 0, 1) := by decide +kernel
theorem dX11_gatherFacts_70 : decode cX11_gatherFacts 70 = .ok (.getfield 54, 3) := by decide +kernel
theorem dX11_gatherFacts_73 : decode cX11_gatherFacts 73 = .ok (.getfield 230, 3) := by decide +kernel
theorem dX11_gatherFacts_76 : decode cX11_gatherFacts 76 = .ok (.iload_n 1, 1) := by decide +kernel
theorem dX11_gatherFacts_77 : decode cX11_gatherFacts 77 = .ok (.iaload, 1) := by decide +kernel
theorem dX11_gatherFacts_78 : decode cX11_gatherFacts 78 = .ok (.iastore, 1) := by decide +kernel
theorem dX11_gatherFacts_79 : decode cX11_gatherFacts 79 = .ok (.aload_n 0, 1) := by decide +kernel
theorem dX11_gatherFacts_80 : decode cX11_gatherFacts 80 = .ok (.getfield 96, 3) := by decide +kernel
theorem dX11_gatherFacts_83 : decode cX11_gatherFacts 83 = .ok (.iconst 2, 1) := by decide +kernel
theorem dX11_gatherFacts_84 : decode cX11_gatherFacts 84 = .ok (.aload_n 0, 1) := by decide +kernel
theorem dX11_gatherFacts_85 : decode cX11_gatherFacts 85 = .ok (.getfield 54, 3) := by decide +kernel
theorem dX11_gatherFacts_88 : decode cX11_gatherFacts 88 = .ok (.getfield 212, 3) := by decide +kernel
theorem dX11_gatherFacts_91 : decode cX11_gatherFacts 91 = .ok (.iload_n 2, 1) := by decide +kernel
theorem dX11_gatherFacts_92 : decode cX11_gatherFacts 92 = .ok (.iaload, 1) := by decide +kernel
theorem dX11_gatherFacts_93 : decode cX11_gatherFacts 93 = .ok (.iastore, 1) := by decide +kernel
theorem dX11_gatherFacts_94 : decode cX11_gatherFacts 94 = .ok (.iconst 0, 1) := by decide +kernel
theorem dX11_gatherFacts_95 : decode cX11_gatherFacts 95 = .ok (.istore_n 3, 1) := by decide +kernel
theorem dX11_gatherFacts_96 : decode cX11_gatherFacts 96 = .ok (.iload_n 3, 1) := by decide +kernel
theorem dX11_gatherFacts_97 : decode cX11_gatherFacts 97 = .ok (.iconst 5, 1) := by decide +kernel
theorem dX11_gatherFacts_98 : decode cX11_gatherFacts 98 = .ok (.if_icmp .ge 55, 3) := by decide +kernel
theorem dX11_gatherFacts_101 : decode cX11_gatherFacts 101 = .ok (.aload_n 0, 1) := by decide +kernel
theorem dX11_gatherFacts_102 : decode cX11_gatherFacts 102 = .ok (.iload_n 3, 1) := by decide +kernel
theorem dX11_gatherFacts_103 : decode cX11_gatherFacts 103 = .ok (.invokevirtual 242, 3) := by decide +kernel
theorem dX11_gatherFacts_106 : decode cX11_gatherFacts 106 = .ok (.astore 4, 2) := by decide +kernel
theorem dX11_gatherFacts_108 : decode cX11_gatherFacts 108 = .ok (.aload_n 0, 1) := by decide +kernel
theorem dX11_gatherFacts_109 : decode cX11_gatherFacts 109 = .ok (.getfield 96, 3) := by decide +kernel
theorem dX11_gatherFacts_112 : decode cX11_gatherFacts 112 = .ok (.bipush 13, 2) := by decide +kernel
theorem dX11_gatherFacts_114 : decode cX11_gatherFacts 114 = .ok (.iload_n 3, 1) := by decide +kernel
theorem dX11_gatherFacts_115 : decode cX11_gatherFacts 115 = .ok (.iadd, 1) := by decide +kernel
theorem dX11_gatherFacts_116 : decode cX11_gatherFacts 116 = .ok (.aload 4, 2) := by decide +kernel
theorem dX11_gatherFacts_118 : decode cX11_gatherFacts 118 = .ok (.iload_n 1, 1) := by decide +kernel
theorem dX11_gatherFacts_119 : decode cX11_gatherFacts 119 = .ok (.invokevirtual 286, 3) := by decide +kernel
theorem dX11_gatherFacts_122 : decode cX11_gatherFacts 122 = .ok (.ifCond .eq 7, 3) := by decide +kernel
theorem dX11_gatherFacts_125 : decode cX11_gatherFacts 125 = .ok (.iconst 1, 1) := by decide +kernel
theorem dX11_gatherFacts_126 : decode cX11_gatherFacts 126 = .ok (.goto 4, 3) := by decide +kernel
theorem dX11_gatherFacts_129 : decode cX11_gatherFacts 129 = .ok (.iconst 0, 1) := by decide +kernel
theorem dX11_gatherFacts_130 : decode cX11_gatherFacts 130 = .ok (.iastore, 1) := by decide +kernel
theorem dX11_gatherFacts_131 : decode cX11_gatherFacts 131 = .ok (.aload_n 0, 1) := by decide +kernel
theorem dX11_gatherFacts_132 : decode cX11_gatherFacts 132 = .ok (.getfield 96, 3) := by decide +kernel
theorem dX11_gatherFacts_135 : decode cX11_gatherFacts 135 = .ok (.bipush 18, 2) := by decide +kernel
theorem dX11_gatherFacts_137 : decode cX11_gatherFacts 137 = .ok (.iload_n 3, 1) := by decide +kernel
theorem dX11_gatherFacts_138 : decode cX11_gatherFacts 138 = .ok (.iadd, 1) := by decide +kernel
theorem dX11_gatherFacts_139 : decode cX11_gatherFacts 139 = .ok (.aload 4, 2) := by decide +kernel
theorem dX11_gatherFacts_141 : decode cX11_gatherFacts 141 = .ok (.getfield 366, 3) := by decide +kernel
theorem dX11_gatherFacts_144 : decode cX11_gatherFacts 144 = .ok (.iload_n 2, 1) := by decide +kernel
theorem dX11_gatherFacts_145 : decode cX11_gatherFacts 145 = .ok (.iaload, 1) := by decide +kernel
theorem dX11_gatherFacts_146 : decode cX11_gatherFacts 146 = .ok (.iastore, 1) := by decide +kernel
theorem dX11_gatherFacts_147 : decode cX11_gatherFacts 147 = .ok (.iinc 3 1, 3) := by decide +kernel
theorem dX11_gatherFacts_150 : decode cX11_gatherFacts 150 = .ok (.goto (-54), 3) := by decide +kernel
theorem dX11_gatherFacts_153 : decode cX11_gatherFacts 153 = .ok (.aload_n 0, 1) := by decide +kernel
theorem dX11_gatherFacts_154 : decode cX11_gatherFacts 154 = .ok (.getfield 96, 3) := by decide +kernel
theorem dX11_gatherFacts_157 : decode cX11_gatherFacts 157 = .ok (.iconst 0, 1) := by decide +kernel
theorem dX11_gatherFacts_158 : decode cX11_gatherFacts 158 = .ok (.aload_n 0, 1) := by decide +kernel
theorem dX11_gatherFacts_159 : decode cX11_gatherFacts 159 = .ok (.getfield 54, 3) := by decide +kernel
theorem dX11_gatherFacts_162 : decode cX11_gatherFacts 162 = .ok (.getfield 164, 3) := by decide +kernel
theorem dX11_gatherFacts_165 : decode cX11_gatherFacts 165 = .ok (.iastore, 1) := by decide +kernel
theorem dX11_gatherFacts_166 : decode cX11_gatherFacts 166 = .ok (.aload_n 0, 1) := by decide +kernel
theorem dX11_gatherFacts_167 : decode cX11_gatherFacts 167 = .ok (.getfield 96, 3) := by decide +kernel
theorem dX11_gatherFacts_170 : decode cX11_gatherFacts 170 = .ok (.iconst 5, 1) := by decide +kernel
theorem dX11_gatherFacts_171 : decode cX11_gatherFacts 171 = .ok (.aload_n 0, 1) := by decide +kernel
theorem dX11_gatherFacts_172 : decode cX11_gatherFacts 172 = .ok (.getfield 54, 3) := by decide +kernel
theorem dX11_gatherFacts_175 : decode cX11_gatherFacts 175 = .ok (.getfield 206, 3) := by decide +kernel
theorem dX11_gatherFacts_178 : decode cX11_gatherFacts 178 = .ok (.iload_n 2, 1) := by decide +kernel
theorem dX11_gatherFacts_179 : decode cX11_gatherFacts 179 = .ok (.iaload, 1) := by decide +kernel
theorem dX11_gatherFacts_180 : decode cX11_gatherFacts 180 = .ok (.iastore, 1) := by decide +kernel
theorem dX11_gatherFacts_181 : decode cX11_gatherFacts 181 = .ok (.return_, 1) := by decide +kernel
def X11_gatherFacts_p130 (sh : Shp) (v0 : Nat) (v1 : Int32) (v2 : Int32) (v3 : Int32) (v4 : Nat) (s2 : Int32) (s1 : Int32) (s0 : Nat) (Q : Mem → Prop) (K96 : Int32 → Mem → Prop) (m : Mem) : Prop :=
  Ix sh s0 100 s1 ∧ bnd (sI m s0 s1.toNatClampNeg s2) (fun m70 => Ob sh v0 11 ∧ ∃ b72 : Nat, m70.2.2 v0 14 = some b72 ∧ (Ob sh v4 10 ∧ ∃ b75 : Nat, m70.2.2 v4 1 = some b75 ∧ (Ix sh b75 100 v2 ∧ (Ix sh b72 100 ((18 : Int32) + v3) ∧ bnd (sI m70 b72 ((18 : Int32) + v3).toNatClampNeg (m70.1 b75 v2.toNatClampNeg)) (fun m79 => K96 (v3 + (1 : Int32)) m79)))))
def X11_gatherFacts_p96b (sh : Shp) (v0 : Nat) (v1 : Int32) (v2 : Int32) (Q : Mem → Prop) (K96 : Int32 → Mem → Prop) (v3 : Int32) (m : Mem) : Prop :=
  if (5 : Int32) ≤ v3 then (Ob sh v0 11 ∧ ∃ b49 : Nat, m.2.2 v0 14 = some b49 ∧ (∃ b51 : Nat, m.2.2 v0 6 = some b51 ∧ (Ob sh b51 1 ∧ (Ix sh b49 100 (0 : Int32) ∧ bnd (sI m b49 (0 : Int32).toNatClampNeg (m.1 b51 0)) (fun m55 => ∃ b56 : Nat, m55.2.2 b51 2 = some b56 ∧ (Ix sh b56 100 v2 ∧ (Ix sh b49 100 (5 : Int32) ∧ bnd (sI m55 b49 (5 : Int32).toNatClampNeg (m55.1 b56 v2.toNatClampNeg)) (fun m60 => Q m60)))))))) else (Ob sh v0 11 ∧ wp_X11_wayOf sh v0 v3 (fun r61 m62 => ∃ b64 : Nat, m62.2.2 v0 14 = some b64 ∧ (Ob sh r61 10 ∧ wp_X10_waters sh r61 v1 (fun r66 m67 => if r66 = 0 then (X11_gatherFacts_p130 sh v0 v1 v2 v3 r61 (0 : Int32) ((13 : Int32) + v3) b64 Q K96 m67) else (X11_gatherFacts_p130 sh v0 v1 v2 v3 r61 (1 : Int32) ((13 : Int32) + v3) b64 Q K96 m67)) m62)) m)
def X11_gatherFacts_p96n (sh : Shp) (v0 : Nat) (v1 : Int32) (v2 : Int32) (Q : Mem → Prop) : Nat → Int32 → Mem → Prop
  | 0 => fun _ _ => False
  | n + 1 => X11_gatherFacts_p96b sh v0 v1 v2 Q (X11_gatherFacts_p96n sh v0 v1 v2 Q n)
def X11_gatherFacts_p96 (sh : Shp) (v0 : Nat) (v1 : Int32) (v2 : Int32) (Q : Mem → Prop) (v3 : Int32) (m : Mem) : Prop := ∃ n, X11_gatherFacts_p96n sh v0 v1 v2 Q n v3 m
def wp_X11_gatherFacts (sh : Shp) (v0 : Nat) (v1 : Int32) (Q : Mem → Prop) (m : Mem) : Prop :=
  Ob sh v0 11 ∧ ∃ b2 : Nat, m.2.2 v0 3 = some b2 ∧ (Ob sh b2 5 ∧ ∃ b5 : Nat, m.2.2 b2 9 = some b5 ∧ (Ix sh b5 100 v1 ∧ (∃ b8 : Nat, m.2.2 v0 14 = some b8 ∧ (Ix sh b8 100 (9 : Int32) ∧ bnd (sI m b8 (9 : Int32).toNatClampNeg v1) (fun m11 => wp_X5_columnOf sh b2 (m.1 b5 v1.toNatClampNeg) (fun r12 m13 => Ix sh b8 100 (10 : Int32) ∧ bnd (sI m13 b8 (10 : Int32).toNatClampNeg r12) (fun m15 => ∃ b16 : Nat, m15.2.2 v0 14 = some b16 ∧ (∃ b18 : Nat, m15.2.2 v0 3 = some b18 ∧ (Ob sh b18 5 ∧ wp_X5_rowOf sh b18 (m.1 b5 v1.toNatClampNeg) (fun r20 m21 => Ix sh b16 100 (11 : Int32) ∧ bnd (sI m21 b16 (11 : Int32).toNatClampNeg r20) (fun m24 => ∃ b25 : Nat, m24.2.2 v0 14 = some b25 ∧ (∃ b27 : Nat, m24.2.2 v0 3 = some b27 ∧ (Ob sh b27 5 ∧ ∃ b30 : Nat, m24.2.2 b27 10 = some b30 ∧ (Ix sh b30 100 v1 ∧ (Ix sh b25 100 (12 : Int32) ∧ bnd (sI m24 b25 (12 : Int32).toNatClampNeg (m24.1 b30 v1.toNatClampNeg)) (fun m34 => ∃ b35 : Nat, m34.2.2 v0 6 = some b35 ∧ (Ob sh b35 1 ∧ ∃ b38 : Nat, m34.2.2 b35 5 = some b38 ∧ (Ix sh b38 100 v1 ∧ (Ix sh b25 100 (1 : Int32) ∧ bnd (sI m34 b25 (1 : Int32).toNatClampNeg (m34.1 b38 v1.toNatClampNeg)) (fun m42 => ∃ b43 : Nat, m42.2.2 b35 4 = some b43 ∧ (Ix sh b43 100 (m.1 b5 v1.toNatClampNeg) ∧ (Ix sh b25 100 (2 : Int32) ∧ bnd (sI m42 b25 (2 : Int32).toNatClampNeg (m42.1 b43 (m.1 b5 v1.toNatClampNeg).toNatClampNeg)) (fun m47 => X11_gatherFacts_p96 sh v0 v1 (m.1 b5 v1.toNatClampNeg) Q (0 : Int32) m47)))))))))))))) m15)))) m11)))))
abbrev M_X11_gatherFacts : Mi := (cX11_gatherFacts, 5, RX11, (none : Option FieldType), "gatherFacts", 7, 209, 0, 0)
set_option maxHeartbeats 4000000 in
set_option maxRecDepth 100000 in
theorem v_X11_gatherFacts_p130 {G : Gl} {F : Fr} {sh : Shp} {v0 : Nat} {v1 : Int32} {v2 : Int32} {v3 : Int32} {v4 : Nat} {s0 : Nat} {s1 : Int32} {s2 : Int32} {Q : Mem → Prop} {K96 : Int32 → Mem → Prop} {m : Mem} (hK96 : ∀ (x3 : Int32) (m : Mem), K96 x3 m → V G F M_X11_gatherFacts sh 0 0 (Zv G F sh Q) 96 [(0, .ref (G.1 + v0)), (1, .int v1), (2, .int v2), (3, .int x3)] [] m) (h : X11_gatherFacts_p130 sh v0 v1 v2 v3 v4 s2 s1 s0 Q K96 m) : V G F M_X11_gatherFacts sh 0 0 (Zv G F sh Q) 130 [(0, .ref (G.1 + v0)), (1, .int v1), (2, .int v2), (3, .int v3), (4, .ref (G.1 + v4))] [.int s2, .int s1, .ref (G.1 + s0)] m := by
  unfold X11_gatherFacts_p130 at h
  obtain ⟨i69, h⟩ := h
  refine v_iast dX11_gatherFacts_130 i69 ?_
  replace h := bnd_e h
  refine v_aload_n 0 0 dX11_gatherFacts_131 rfl rfl ?_
  obtain ⟨o71, h⟩ := h
  obtain ⟨b72, e73, h⟩ := h
  refine v_gR 11 14 dX11_gatherFacts_132 fg_RX11_96 o71 e73 ?_
  refine v_bipush (18 : Int32) dX11_gatherFacts_135 (by decide) ?_
  refine v_iload_n 3 3 dX11_gatherFacts_137 rfl rfl ?_
  refine v_iadd dX11_gatherFacts_138 ?_
  refine v_aload 4 4 dX11_gatherFacts_139 rfl ?_
  obtain ⟨o74, h⟩ := h
  obtain ⟨b75, e76, h⟩ := h
  refine v_gR 10 1 dX11_gatherFacts_141 fg_RX11_366 o74 e76 ?_
  refine v_iload_n 2 2 dX11_gatherFacts_144 rfl rfl ?_
  obtain ⟨i77, h⟩ := h
  refine v_iald dX11_gatherFacts_145 i77 ?_
  obtain ⟨i78, h⟩ := h
  refine v_iast dX11_gatherFacts_146 i78 ?_
  replace h := bnd_e h
  refine v_iinc (ls' := [(3, .int _), (0, .ref _), (1, .int _), (2, .int _), (4, .ref _)]) 3 3 dX11_gatherFacts_147 rfl (congrArg (HAdd.hAdd _) (by decide : Int32.ofInt (1) = (1 : Int32))) (Nat.le_of_ble_eq_true rfl) rfl ?_
  refine v_goto 96 dX11_gatherFacts_150 (by decide) ?_
  refine v_sub [1, 2, 3, 0] rfl ?_
  exact hK96 _ _ h
set_option maxHeartbeats 4000000 in
set_option maxRecDepth 100000 in
theorem v_X11_gatherFacts_p96b {G : Gl} {F : Fr} {sh : Shp} {v0 : Nat} {v1 : Int32} {v2 : Int32} {v3 : Int32} {Q : Mem → Prop} {K96 : Int32 → Mem → Prop} {m : Mem} (hK96 : ∀ (x3 : Int32) (m : Mem), K96 x3 m → V G F M_X11_gatherFacts sh 0 0 (Zv G F sh Q) 96 [(0, .ref (G.1 + v0)), (1, .int v1), (2, .int v2), (3, .int x3)] [] m) (h : X11_gatherFacts_p96b sh v0 v1 v2 Q K96 v3 m) : V G F M_X11_gatherFacts sh 0 0 (Zv G F sh Q) 96 [(0, .ref (G.1 + v0)), (1, .int v1), (2, .int v2), (3, .int v3)] [] m := by
  unfold X11_gatherFacts_p96b at h
  refine v_iload_n 3 3 dX11_gatherFacts_96 rfl rfl ?_
  refine v_iconst (5 : Int32) dX11_gatherFacts_97 (by decide) ?_
  refine v_icmp_ge 153 dX11_gatherFacts_98 (by decide) (fun hc => ?_) (fun hc => ?_)
  · replace h := Eq.mp (if_pos hc) h
    refine v_aload_n 0 0 dX11_gatherFacts_153 rfl rfl ?_
    obtain ⟨o48, h⟩ := h
    obtain ⟨b49, e50, h⟩ := h
    refine v_gR 11 14 dX11_gatherFacts_154 fg_RX11_96 o48 e50 ?_
    refine v_iconst (0 : Int32) dX11_gatherFacts_157 (by decide) ?_
    refine v_aload_n 0 0 dX11_gatherFacts_158 rfl rfl ?_
    obtain ⟨b51, e52, h⟩ := h
    refine v_gR 11 6 dX11_gatherFacts_159 fg_RX11_54 o48 e52 ?_
    obtain ⟨o53, h⟩ := h
    refine v_gI 1 0 dX11_gatherFacts_162 fg_RX11_164 o53 ?_
    obtain ⟨i54, h⟩ := h
    refine v_iast dX11_gatherFacts_165 i54 ?_
    replace h := bnd_e h
    refine v_aload_n 0 0 dX11_gatherFacts_166 rfl rfl ?_
    refine v_gR 11 14 dX11_gatherFacts_167 fg_RX11_96 o48 e50 ?_
    refine v_iconst (5 : Int32) dX11_gatherFacts_170 (by decide) ?_
    refine v_aload_n 0 0 dX11_gatherFacts_171 rfl rfl ?_
    refine v_gR 11 6 dX11_gatherFacts_172 fg_RX11_54 o48 e52 ?_
    obtain ⟨b56, e57, h⟩ := h
    refine v_gR 1 2 dX11_gatherFacts_175 fg_RX11_206 o53 e57 ?_
    refine v_iload_n 2 2 dX11_gatherFacts_178 rfl rfl ?_
    obtain ⟨i58, h⟩ := h
    refine v_iald dX11_gatherFacts_179 i58 ?_
    obtain ⟨i59, h⟩ := h
    refine v_iast dX11_gatherFacts_180 i59 ?_
    replace h := bnd_e h
    exact v_vret dX11_gatherFacts_181 rfl h
  · replace h := Eq.mp (if_neg hc) h
    refine v_aload_n 0 0 dX11_gatherFacts_101 rfl rfl ?_
    refine v_iload_n 3 3 dX11_gatherFacts_102 rfl rfl ?_
    obtain ⟨o63, h⟩ := h
    refine v_cVr [.int _] mv_X11_wayOf ml_RX11_242 ⟨_, _, rfl⟩ o63 rfl rfl (Nat.le_of_ble_eq_true rfl) (Nat.le_of_ble_eq_true rfl) (Nat.le_of_ble_eq_true rfl) (Nat.zero_le _) (Nat.zero_le _) dX11_gatherFacts_103 (c_X11_wayOf h) (fun r61 m62 h => ?_)
    refine v_astore (ls' := [(4, .ref _), (0, .ref _), (1, .int _), (2, .int _), (3, .int _)]) 4 dX11_gatherFacts_106 (Nat.le_of_ble_eq_true rfl) rfl ?_
    refine v_aload_n 0 1 dX11_gatherFacts_108 rfl rfl ?_
    obtain ⟨b64, e65, h⟩ := h
    refine v_gR 11 14 dX11_gatherFacts_109 fg_RX11_96 o63 e65 ?_
    refine v_bipush (13 : Int32) dX11_gatherFacts_112 (by decide) ?_
    refine v_iload_n 3 4 dX11_gatherFacts_114 rfl rfl ?_
    refine v_iadd dX11_gatherFacts_115 ?_
    refine v_aload 4 0 dX11_gatherFacts_116 rfl ?_
    refine v_iload_n 1 2 dX11_gatherFacts_118 rfl rfl ?_
    obtain ⟨o68, h⟩ := h
    refine v_cVi [.int _] mv_X10_waters ml_RX11_286 ⟨_, _, rfl⟩ o68 rfl rfl (Nat.le_of_ble_eq_true rfl) (Nat.le_of_ble_eq_true rfl) (Nat.le_of_ble_eq_true rfl) (Nat.zero_le _) (Nat.zero_le _) dX11_gatherFacts_119 (c_X10_waters h) (fun r66 m67 h => ?_)
    refine v_if_eq 129 dX11_gatherFacts_122 (by decide) (fun hc => ?_) (fun hc => ?_)
    · replace h := Eq.mp (if_pos hc) h
      refine v_iconst (0 : Int32) dX11_gatherFacts_129 (by decide) ?_
      refine v_sub [1, 2, 3, 4, 0] rfl ?_
      exact v_X11_gatherFacts_p130 hK96 h
    · replace h := Eq.mp (if_neg hc) h
      refine v_iconst (1 : Int32) dX11_gatherFacts_125 (by decide) ?_
      refine v_goto 130 dX11_gatherFacts_126 (by decide) ?_
      refine v_sub [1, 2, 3, 4, 0] rfl ?_
      exact v_X11_gatherFacts_p130 hK96 h
set_option maxHeartbeats 4000000 in
set_option maxRecDepth 100000 in
theorem v_X11_gatherFacts_p96 {G : Gl} {F : Fr} {sh : Shp} {v0 : Nat} {v1 : Int32} {v2 : Int32} {v3 : Int32} {Q : Mem → Prop} {m : Mem} (h : X11_gatherFacts_p96 sh v0 v1 v2 Q v3 m) : V G F M_X11_gatherFacts sh 0 0 (Zv G F sh Q) 96 [(0, .ref (G.1 + v0)), (1, .int v1), (2, .int v2), (3, .int v3)] [] m := by
  obtain ⟨n, h⟩ := h
  induction n generalizing v3 m with
  | zero => exact h.elim
  | succ n ih => exact v_X11_gatherFacts_p96b (fun _ _ h => ih h) h
set_option maxHeartbeats 4000000 in
set_option maxRecDepth 100000 in
theorem c_X11_gatherFacts {l : Launch} {G : Gl} {sh : Shp} {v0 : Nat} {v1 : Int32} {Q : Mem → Prop} {m : Mem} (h : wp_X11_gatherFacts sh v0 v1 Q m) : Cnv l G yX11_gatherFacts cX11_gatherFacts 5 (none : Option FieldType) 7 209 sh [.ref (G.1 + v0), .int v1] m Q := by
  refine con_v (ls := [(0, .ref (G.1 + v0)), (1, .int v1)]) (by decide +kernel) rfl (Nat.le_of_ble_eq_true rfl) (fun F => ?_)
  show V G F M_X11_gatherFacts sh 0 0 (Zv G F sh Q) 0 [(0, .ref (G.1 + v0)), (1, .int v1)] [] m
  unfold wp_X11_gatherFacts at h
  refine v_aload_n 0 0 dX11_gatherFacts_0 rfl rfl ?_
  obtain ⟨o1, h⟩ := h
  obtain ⟨b2, e3, h⟩ := h
  refine v_gR 11 3 dX11_gatherFacts_1 fg_RX11_35 o1 e3 ?_
  obtain ⟨o4, h⟩ := h
  obtain ⟨b5, e6, h⟩ := h
  refine v_gR 5 9 dX11_gatherFacts_4 fg_RX11_218 o4 e6 ?_
  refine v_iload_n 1 1 dX11_gatherFacts_7 rfl rfl ?_
  obtain ⟨i7, h⟩ := h
  refine v_iald dX11_gatherFacts_8 i7 ?_
  refine v_istore_n (ls' := [(2, .int _), (0, .ref _), (1, .int _)]) 2 dX11_gatherFacts_9 rfl (Nat.le_of_ble_eq_true rfl) rfl ?_
  refine v_aload_n 0 1 dX11_gatherFacts_10 rfl rfl ?_
  obtain ⟨b8, e9, h⟩ := h
  refine v_gR 11 14 dX11_gatherFacts_11 fg_RX11_96 o1 e9 ?_
  refine v_bipush (9 : Int32) dX11_gatherFacts_14 (by decide) ?_
  refine v_iload_n 1 2 dX11_gatherFacts_16 rfl rfl ?_
  obtain ⟨i10, h⟩ := h
  refine v_iast dX11_gatherFacts_17 i10 ?_
  replace h := bnd_e h
  refine v_aload_n 0 1 dX11_gatherFacts_18 rfl rfl ?_
  refine v_gR 11 14 dX11_gatherFacts_19 fg_RX11_96 o1 e9 ?_
  refine v_bipush (10 : Int32) dX11_gatherFacts_22 (by decide) ?_
  refine v_aload_n 0 1 dX11_gatherFacts_24 rfl rfl ?_
  refine v_gR 11 3 dX11_gatherFacts_25 fg_RX11_35 o1 e3 ?_
  refine v_iload_n 2 0 dX11_gatherFacts_28 rfl rfl ?_
  refine v_cVi [.int _] mv_X5_columnOf ml_RX11_221 ⟨_, _, rfl⟩ o4 rfl rfl (Nat.le_of_ble_eq_true rfl) (Nat.le_of_ble_eq_true rfl) (Nat.le_of_ble_eq_true rfl) (Nat.zero_le _) (Nat.zero_le _) dX11_gatherFacts_29 (c_X5_columnOf h) (fun r12 m13 h => ?_)
  obtain ⟨i14, h⟩ := h
  refine v_iast dX11_gatherFacts_32 i14 ?_
  replace h := bnd_e h
  refine v_aload_n 0 1 dX11_gatherFacts_33 rfl rfl ?_
  obtain ⟨b16, e17, h⟩ := h
  refine v_gR 11 14 dX11_gatherFacts_34 fg_RX11_96 o1 e17 ?_
  refine v_bipush (11 : Int32) dX11_gatherFacts_37 (by decide) ?_
  refine v_aload_n 0 1 dX11_gatherFacts_39 rfl rfl ?_
  obtain ⟨b18, e19, h⟩ := h
  refine v_gR 11 3 dX11_gatherFacts_40 fg_RX11_35 o1 e19 ?_
  refine v_iload_n 2 0 dX11_gatherFacts_43 rfl rfl ?_
  obtain ⟨o22, h⟩ := h
  refine v_cVi [.int _] mv_X5_rowOf ml_RX11_224 ⟨_, _, rfl⟩ o22 rfl rfl (Nat.le_of_ble_eq_true rfl) (Nat.le_of_ble_eq_true rfl) (Nat.le_of_ble_eq_true rfl) (Nat.zero_le _) (Nat.zero_le _) dX11_gatherFacts_44 (c_X5_rowOf h) (fun r20 m21 h => ?_)
  obtain ⟨i23, h⟩ := h
  refine v_iast dX11_gatherFacts_47 i23 ?_
  replace h := bnd_e h
  refine v_aload_n 0 1 dX11_gatherFacts_48 rfl rfl ?_
  obtain ⟨b25, e26, h⟩ := h
  refine v_gR 11 14 dX11_gatherFacts_49 fg_RX11_96 o1 e26 ?_
  refine v_bipush (12 : Int32) dX11_gatherFacts_52 (by decide) ?_
  refine v_aload_n 0 1 dX11_gatherFacts_54 rfl rfl ?_
  obtain ⟨b27, e28, h⟩ := h
  refine v_gR 11 3 dX11_gatherFacts_55 fg_RX11_35 o1 e28 ?_
  obtain ⟨o29, h⟩ := h
  obtain ⟨b30, e31, h⟩ := h
  refine v_gR 5 10 dX11_gatherFacts_58 fg_RX11_227 o29 e31 ?_
  refine v_iload_n 1 2 dX11_gatherFacts_61 rfl rfl ?_
  obtain ⟨i32, h⟩ := h
  refine v_iald dX11_gatherFacts_62 i32 ?_
  obtain ⟨i33, h⟩ := h
  refine v_iast dX11_gatherFacts_63 i33 ?_
  replace h := bnd_e h
  refine v_aload_n 0 1 dX11_gatherFacts_64 rfl rfl ?_
  refine v_gR 11 14 dX11_gatherFacts_65 fg_RX11_96 o1 e26 ?_
  refine v_iconst (1 : Int32) dX11_gatherFacts_68 (by decide) ?_
  refine v_aload_n 0 1 dX11_gatherFacts_69 rfl rfl ?_
  obtain ⟨b35, e36, h⟩ := h
  refine v_gR 11 6 dX11_gatherFacts_70 fg_RX11_54 o1 e36 ?_
  obtain ⟨o37, h⟩ := h
  obtain ⟨b38, e39, h⟩ := h
  refine v_gR 1 5 dX11_gatherFacts_73 fg_RX11_230 o37 e39 ?_
  refine v_iload_n 1 2 dX11_gatherFacts_76 rfl rfl ?_
  obtain ⟨i40, h⟩ := h
  refine v_iald dX11_gatherFacts_77 i40 ?_
  obtain ⟨i41, h⟩ := h
  refine v_iast dX11_gatherFacts_78 i41 ?_
  replace h := bnd_e h
  refine v_aload_n 0 1 dX11_gatherFacts_79 rfl rfl ?_
  refine v_gR 11 14 dX11_gatherFacts_80 fg_RX11_96 o1 e26 ?_
  refine v_iconst (2 : Int32) dX11_gatherFacts_83 (by decide) ?_
  refine v_aload_n 0 1 dX11_gatherFacts_84 rfl rfl ?_
  refine v_gR 11 6 dX11_gatherFacts_85 fg_RX11_54 o1 e36 ?_
  obtain ⟨b43, e44, h⟩ := h
  refine v_gR 1 4 dX11_gatherFacts_88 fg_RX11_212 o37 e44 ?_
  refine v_iload_n 2 0 dX11_gatherFacts_91 rfl rfl ?_
  obtain ⟨i45, h⟩ := h
  refine v_iald dX11_gatherFacts_92 i45 ?_
  obtain ⟨i46, h⟩ := h
  refine v_iast dX11_gatherFacts_93 i46 ?_
  replace h := bnd_e h
  refine v_iconst (0 : Int32) dX11_gatherFacts_94 (by decide) ?_
  refine v_istore_n (ls' := [(3, .int _), (2, .int _), (0, .ref _), (1, .int _)]) 3 dX11_gatherFacts_95 rfl (Nat.le_of_ble_eq_true rfl) rfl ?_
  refine v_sub [2, 3, 1, 0] rfl ?_
  exact v_X11_gatherFacts_p96 h
/-! CalledRiver.answerTo -/
theorem dX11_answerTo_0 : decode cX11_answerTo 0 = .ok (.iload_n 1, 1) := by decide +kernel
theorem dX11_answerTo_1 : decode cX11_answerTo 1 = .ok (.ifCond .eq 8, 3) := by decide +kernel
theorem dX11_answerTo_4 : decode cX11_answerTo 4 = .ok (.iload_n 1, 1) := by decide +kernel
theorem dX11_answerTo_5 : decode cX11_answerTo 5 = .ok (.iconst 1, 1) := by decide +kernel
theorem dX11_answerTo_6 : decode cX11_answerTo 6 = .ok (.if_icmp .ne 9, 3) := by decide +kernel
theorem dX11_answerTo_9 : decode cX11_answerTo 9 = .ok (.ldc2_w 396, 3) := by decide +kernel
theorem dX11_answerTo_12 : decode cX11_answerTo 12 = .ok (.goto 4, 3) := by decide +kernel
theorem dX11_answerTo_15 : decode cX11_answerTo 15 = .ok (.lconst 0, 1) := by decide +kernel
theorem dX11_answerTo_16 : decode cX11_answerTo 16 = .ok (.lstore_n 2, 1) := by decide +kernel
theorem dX11_answerTo_17 : decode cX11_answerTo 17 = .ok (.iconst 0, 1) := by decide +kernel
theorem dX11_answerTo_18 : decode cX11_answerTo 18 = .ok (.istore 4, 2) := by decide +kernel
theorem dX11_answerTo_20 : decode cX11_answerTo 20 = .ok (.iload 4, 2) := by decide +kernel
theorem dX11_answerTo_22 : decode cX11_answerTo 22 = .ok (.aload_n 0, 1) := by decide +kernel
theorem dX11_answerTo_23 : decode cX11_answerTo 23 = .ok (.getfield 35, 3) := by decide +kernel
theorem dX11_answerTo_26 : decode cX11_answerTo 26 = .ok (.getfield 158, 3) := by decide +kernel
theorem dX11_answerTo_29 : decode cX11_answerTo 29 = .ok (.if_icmp .ge 164, 3) := by decide +kernel
theorem dX11_answerTo_32 : decode cX11_answerTo 32 = .ok (.aload_n 0, 1) := by decide +kernel
theorem dX11_answerTo_33 : decode cX11_answerTo 33 = .ok (.iload 4, 2) := by decide +kernel
theorem dX11_answerTo_35 : decode cX11_answerTo 35 = .ok (.invokevirtual 398, 3) := by decide +kernel
theorem dX11_answerTo_38 : decode cX11_answerTo 38 = .ok (.aload_n 0, 1) := by decide +kernel
theorem dX11_answerTo_39 : decode cX11_answerTo 39 = .ok (.getfield 19, 3) := by decide +kernel
theorem dX11_answerTo_42 : decode cX11_answerTo 42 = .ok (.aload_n 0, 1) := by decide +kernel
theorem dX11_answerTo_43 : decode cX11_answerTo 43 = .ok (.getfield 96, 3) := by decide +kernel
theorem dX11_answerTo_46 : decode cX11_answerTo 46 = .ok (.invokevirtual 388, 3) := by decide +kernel
theorem dX11_answerTo_49 : decode cX11_answerTo 49 = .ok (.istore 5, 2) := by decide +kernel
theorem dX11_answerTo_51 : decode cX11_answerTo 51 = .ok (.iload_n 1, 1) := by decide +kernel
theorem dX11_answerTo_52 : decode cX11_answerTo 52 = .ok (.tableswitch 135 0 5 #[40, 65, 82, 82, 91, 113], 40) := by decide +kernel
theorem dX11_answerTo_92 : decode cX11_answerTo 92 = .ok (.iload 5, 2) := by decide +kernel
theorem dX11_answerTo_94 : decode cX11_answerTo 94 = .ok (.iconst 1, 1) := by decide +kernel
theorem dX11_answerTo_95 : decode cX11_answerTo 95 = .ok (.if_icmp .ne 17, 3) := by decide +kernel
theorem dX11_answerTo_98 : decode cX11_answerTo 98 = .ok (.lload_n 2, 1) := by decide +kernel
theorem dX11_answerTo_99 : decode cX11_answerTo 99 = .ok (.ldc2_w 396, 3) := by decide +kernel
theorem dX11_answerTo_102 : decode cX11_answerTo 102 = .ok (.lcmp, 1) := by decide +kernel
theorem dX11_answerTo_103 : decode cX11_answerTo 103 = .ok (.ifCond .ne 9, 3) := by decide +kernel
theorem dX11_answerTo_106 : decode cX11_answerTo 106 = .ok (.iload 4, 2) := by decide +kernel
theorem dX11_answerTo_108 : decode cX11_answerTo 108 = .ok (.i2l, 1) := by decide +kernel
theorem dX11_answerTo_109 : decode cX11_answerTo 109 = .ok (.goto 4, 3) := by decide +kernel
theorem dX11_answerTo_112 : decode cX11_answerTo 112 = .ok (.lload_n 2, 1) := by decide +kernel
theorem dX11_answerTo_113 : decode cX11_answerTo 113 = .ok (.lstore_n 2, 1) := by decide +kernel
theorem dX11_answerTo_114 : decode cX11_answerTo 114 = .ok (.goto 73, 3) := by decide +kernel
theorem dX11_answerTo_117 : decode cX11_answerTo 117 = .ok (.iload 5, 2) := by decide +kernel
theorem dX11_answerTo_119 : decode cX11_answerTo 119 = .ok (.iconst 1, 1) := by decide +kernel
theorem dX11_answerTo_120 : decode cX11_answerTo 120 = .ok (.if_icmp .ne 9, 3) := by decide +kernel
theorem dX11_answerTo_123 : decode cX11_answerTo 123 = .ok (.iload 4, 2) := by decide +kernel
theorem dX11_answerTo_125 : decode cX11_answerTo 125 = .ok (.i2l, 1) := by decide +kernel
theorem dX11_answerTo_126 : decode cX11_answerTo 126 = .ok (.goto 4, 3) := by decide +kernel
theorem dX11_answerTo_129 : decode cX11_answerTo 129 = .ok (.lload_n 2, 1) := by decide +kernel
theorem dX11_answerTo_130 : decode cX11_answerTo 130 = .ok (.lstore_n 2, 1) := by decide +kernel
theorem dX11_answerTo_131 : decode cX11_answerTo 131 = .ok (.goto 56, 3) := by decide +kernel
theorem dX11_answerTo_134 : decode cX11_answerTo 134 = .ok (.lload_n 2, 1) := by decide +kernel
theorem dX11_answerTo_135 : decode cX11_answerTo 135 = .ok (.iload 5, 2) := by decide +kernel
theorem dX11_answerTo_137 : decode cX11_answerTo 137 = .ok (.i2l, 1) := by decide +kernel
theorem dX11_answerTo_138 : decode cX11_answerTo 138 = .ok (.ladd, 1) := by decide +kernel
theorem dX11_answerTo_139 : decode cX11_answerTo 139 = .ok (.lstore_n 2, 1) := by decide +kernel
theorem dX11_answerTo_140 : decode cX11_answerTo 140 = .ok (.goto 47, 3) := by decide +kernel
theorem dX11_answerTo_143 : decode cX11_answerTo 143 = .ok (.iload 4, 2) := by decide +kernel
theorem dX11_answerTo_145 : decode cX11_answerTo 145 = .ok (.ifCond .ne 9, 3) := by decide +kernel
theorem dX11_answerTo_148 : decode cX11_answerTo 148 = .ok (.iload 5, 2) := by decide +kernel
theorem dX11_answerTo_150 : decode cX11_answerTo 150 = .ok (.i2l, 1) := by decide +kernel
theorem dX11_answerTo_151 : decode cX11_answerTo 151 = .ok (.goto 10, 3) := by decide +kernel
theorem dX11_answerTo_154 : decode cX11_answerTo 154 = .ok (.lload_n 2, 1) := by decide +kernel
theorem dX11_answerTo_155 : decode cX11_answerTo 155 = .ok (.iload 5, 2) := by decide +kernel
theorem dX11_answerTo_157 : decode cX11_answerTo 157 = .ok (.i2l, 1) := by decide +kernel
theorem dX11_answerTo_158 : decode cX11_answerTo 158 = .ok (.invokestatic 401, 3) := by decide +kernel
theorem dX11_answerTo_161 : decode cX11_answerTo 161 = .ok (.lstore_n 2, 1) := by decide +kernel
theorem dX11_answerTo_162 : decode cX11_answerTo 162 = .ok (.goto 25, 3) := by decide +kernel
theorem dX11_answerTo_165 : decode cX11_answerTo 165 = .ok (.iload 4, 2) := by decide +kernel
theorem dX11_answerTo_167 : decode cX11_answerTo 167 = .ok (.ifCond .ne 9, 3) := by decide +kernel
theorem dX11_answerTo_170 : decode cX11_answerTo 170 = .ok (.iload 5, 2) := by decide +kernel
theorem dX11_answerTo_172 : decode cX11_answerTo 172 = .ok (.i2l, 1) := by decide +kernel
theorem dX11_answerTo_173 : decode cX11_answerTo 173 = .ok (.goto 10, 3) := by decide +kernel
theorem dX11_answerTo_176 : decode cX11_answerTo 176 = .ok (.lload_n 2, 1) := by decide +kernel
theorem dX11_answerTo_177 : decode cX11_answerTo 177 = .ok (.iload 5, 2) := by decide +kernel
theorem dX11_answerTo_179 : decode cX11_answerTo 179 = .ok (.i2l, 1) := by decide +kernel
theorem dX11_answerTo_180 : decode cX11_answerTo 180 = .ok (.invokestatic 404, 3) := by decide +kernel
theorem dX11_answerTo_183 : decode cX11_answerTo 183 = .ok (.lstore_n 2, 1) := by decide +kernel
theorem dX11_answerTo_184 : decode cX11_answerTo 184 = .ok (.goto 3, 3) := by decide +kernel
theorem dX11_answerTo_187 : decode cX11_answerTo 187 = .ok (.iinc 4 1, 3) := by decide +kernel
theorem dX11_answerTo_190 : decode cX11_answerTo 190 = .ok (.goto (-170), 3) := by decide +kernel
theorem dX11_answerTo_193 : decode cX11_answerTo 193 = .ok (.lload_n 2, 1) := by decide +kernel
theorem dX11_answerTo_194 : decode cX11_answerTo 194 = .ok (.lreturn, 1) := by decide +kernel
def X11_answerTo_p187 (sh : Shp) (v0 : Nat) (v1 : Int32) (v2 : Int64) (v4 : Int32) (Q : Int64 → Mem → Prop) (K20 : Int64 → Int32 → Mem → Prop) (m : Mem) : Prop :=
  K20 v2 (v4 + (1 : Int32)) m
def X11_answerTo_p113 (sh : Shp) (v0 : Nat) (v1 : Int32) (v4 : Int32) (s0 : Int64) (Q : Int64 → Mem → Prop) (K20 : Int64 → Int32 → Mem → Prop) (m : Mem) : Prop :=
  X11_answerTo_p187 sh v0 v1 s0 v4 Q K20 m
def X11_answerTo_p112 (sh : Shp) (v0 : Nat) (v1 : Int32) (v2 : Int64) (v4 : Int32) (Q : Int64 → Mem → Prop) (K20 : Int64 → Int32 → Mem → Prop) (m : Mem) : Prop :=
  X11_answerTo_p113 sh v0 v1 v4 v2 Q K20 m
def X11_answerTo_p130 (sh : Shp) (v0 : Nat) (v1 : Int32) (v4 : Int32) (s0 : Int64) (Q : Int64 → Mem → Prop) (K20 : Int64 → Int32 → Mem → Prop) (m : Mem) : Prop :=
  X11_answerTo_p187 sh v0 v1 s0 v4 Q K20 m
def X11_answerTo_p161 (sh : Shp) (v0 : Nat) (v1 : Int32) (v4 : Int32) (s0 : Int64) (Q : Int64 → Mem → Prop) (K20 : Int64 → Int32 → Mem → Prop) (m : Mem) : Prop :=
  X11_answerTo_p187 sh v0 v1 s0 v4 Q K20 m
def X11_answerTo_p183 (sh : Shp) (v0 : Nat) (v1 : Int32) (v4 : Int32) (s0 : Int64) (Q : Int64 → Mem → Prop) (K20 : Int64 → Int32 → Mem → Prop) (m : Mem) : Prop :=
  X11_answerTo_p187 sh v0 v1 s0 v4 Q K20 m
def X11_answerTo_p20b (sh : Shp) (v0 : Nat) (v1 : Int32) (Q : Int64 → Mem → Prop) (K20 : Int64 → Int32 → Mem → Prop) (v2 : Int64) (v4 : Int32) (m : Mem) : Prop :=
  Ob sh v0 11 ∧ ∃ b2 : Nat, m.2.2 v0 3 = some b2 ∧ (Ob sh b2 5 ∧ (if (m.1 b2 3) ≤ v4 then (Q v2 m) else (wp_X11_gatherFacts sh v0 v4 (fun m6 => ∃ b7 : Nat, m6.2.2 v0 1 = some b7 ∧ (∃ b9 : Nat, m6.2.2 v0 14 = some b9 ∧ (Ob sh b7 0 ∧ wp_X0_worth sh b7 b9 (fun r11 m12 => if v1 = (0 : Int32) then (if r11 = (1 : Int32) then (if (lg_cmp v2 (-1 : Int64)) = 0 then (X11_answerTo_p113 sh v0 v1 v4 v4.toInt64 Q K20 m12) else (X11_answerTo_p112 sh v0 v1 v2 v4 Q K20 m12)) else (X11_answerTo_p112 sh v0 v1 v2 v4 Q K20 m12)) else if v1 = (1 : Int32) then (if r11 = (1 : Int32) then (X11_answerTo_p130 sh v0 v1 v4 v4.toInt64 Q K20 m12) else (X11_answerTo_p130 sh v0 v1 v4 v2 Q K20 m12)) else if v1 = (2 : Int32) then (X11_answerTo_p187 sh v0 v1 (v2 + r11.toInt64) v4 Q K20 m12) else if v1 = (3 : Int32) then (X11_answerTo_p187 sh v0 v1 (v2 + r11.toInt64) v4 Q K20 m12) else if v1 = (4 : Int32) then (if v4 = 0 then (X11_answerTo_p161 sh v0 v1 v4 r11.toInt64 Q K20 m12) else (wp_J9_max_f86c9 sh v2 r11.toInt64 (fun r14 m15 => X11_answerTo_p161 sh v0 v1 v4 r14 Q K20 m15) m12)) else if v1 = (5 : Int32) then (if v4 = 0 then (X11_answerTo_p183 sh v0 v1 v4 r11.toInt64 Q K20 m12) else (wp_J9_min_f86c9 sh v2 r11.toInt64 (fun r16 m17 => X11_answerTo_p183 sh v0 v1 v4 r16 Q K20 m17) m12)) else (X11_answerTo_p187 sh v0 v1 v2 v4 Q K20 m12)) m6))) m)))
def X11_answerTo_p20n (sh : Shp) (v0 : Nat) (v1 : Int32) (Q : Int64 → Mem → Prop) : Nat → Int64 → Int32 → Mem → Prop
  | 0 => fun _ _ _ => False
  | n + 1 => X11_answerTo_p20b sh v0 v1 Q (X11_answerTo_p20n sh v0 v1 Q n)
def X11_answerTo_p20 (sh : Shp) (v0 : Nat) (v1 : Int32) (Q : Int64 → Mem → Prop) (v2 : Int64) (v4 : Int32) (m : Mem) : Prop := ∃ n, X11_answerTo_p20n sh v0 v1 Q n v2 v4 m
def X11_answerTo_p16 (sh : Shp) (v0 : Nat) (v1 : Int32) (s0 : Int64) (Q : Int64 → Mem → Prop) (m : Mem) : Prop :=
  X11_answerTo_p20 sh v0 v1 Q s0 (0 : Int32) m
def X11_answerTo_p9 (sh : Shp) (v0 : Nat) (v1 : Int32) (Q : Int64 → Mem → Prop) (m : Mem) : Prop :=
  X11_answerTo_p16 sh v0 v1 (-1 : Int64) Q m
def wp_X11_answerTo (sh : Shp) (v0 : Nat) (v1 : Int32) (Q : Int64 → Mem → Prop) (m : Mem) : Prop :=
  if v1 = 0 then (X11_answerTo_p9 sh v0 v1 Q m) else (if v1 = (1 : Int32) then (X11_answerTo_p9 sh v0 v1 Q m) else (X11_answerTo_p16 sh v0 v1 (0 : Int64) Q m))
abbrev M_X11_answerTo : Mi := (cX11_answerTo, 6, RX11, (Option.some FieldType.long), "answerTo", 8, 233, 0, 0)
set_option maxHeartbeats 4000000 in
set_option maxRecDepth 100000 in
theorem v_X11_answerTo_p187 {G : Gl} {F : Fr} {sh : Shp} {v0 : Nat} {v1 : Int32} {v2 : Int64} {v4 : Int32} {Q : Int64 → Mem → Prop} {K20 : Int64 → Int32 → Mem → Prop} {m : Mem} (hK20 : ∀ (x2 : Int64) (x4 : Int32) (m : Mem), K20 x2 x4 m → V G F M_X11_answerTo sh 0 0 (Zl G F sh Q) 20 [(0, .ref (G.1 + v0)), (1, .int v1), (2, .long x2), (4, .int x4)] [] m) (h : X11_answerTo_p187 sh v0 v1 v2 v4 Q K20 m) : V G F M_X11_answerTo sh 0 0 (Zl G F sh Q) 187 [(0, .ref (G.1 + v0)), (1, .int v1), (2, .long v2), (4, .int v4)] [] m := by
  unfold X11_answerTo_p187 at h
  refine v_iinc (ls' := [(4, .int _), (0, .ref _), (1, .int _), (2, .long _)]) 4 3 dX11_answerTo_187 rfl (congrArg (HAdd.hAdd _) (by decide : Int32.ofInt (1) = (1 : Int32))) (Nat.le_of_ble_eq_true rfl) rfl ?_
  refine v_goto 20 dX11_answerTo_190 (by decide) ?_
  refine v_sub [1, 2, 3, 0] rfl ?_
  exact hK20 _ _ _ h
set_option maxHeartbeats 4000000 in
set_option maxRecDepth 100000 in
theorem v_X11_answerTo_p113 {G : Gl} {F : Fr} {sh : Shp} {v0 : Nat} {v1 : Int32} {v4 : Int32} {s0 : Int64} {Q : Int64 → Mem → Prop} {K20 : Int64 → Int32 → Mem → Prop} {m : Mem} (hK20 : ∀ (x2 : Int64) (x4 : Int32) (m : Mem), K20 x2 x4 m → V G F M_X11_answerTo sh 0 0 (Zl G F sh Q) 20 [(0, .ref (G.1 + v0)), (1, .int v1), (2, .long x2), (4, .int x4)] [] m) (h : X11_answerTo_p113 sh v0 v1 v4 s0 Q K20 m) : V G F M_X11_answerTo sh 0 0 (Zl G F sh Q) 113 [(0, .ref (G.1 + v0)), (1, .int v1), (4, .int v4)] [.long s0] m := by
  unfold X11_answerTo_p113 at h
  refine v_lstore_n (ls' := [(2, .long _), (0, .ref _), (1, .int _), (4, .int _)]) 2 dX11_answerTo_113 rfl (Nat.le_of_ble_eq_true rfl) rfl ?_
  refine v_goto 187 dX11_answerTo_114 (by decide) ?_
  refine v_sub [1, 2, 0, 3] rfl ?_
  exact v_X11_answerTo_p187 hK20 h
set_option maxHeartbeats 4000000 in
set_option maxRecDepth 100000 in
theorem v_X11_answerTo_p112 {G : Gl} {F : Fr} {sh : Shp} {v0 : Nat} {v1 : Int32} {v2 : Int64} {v4 : Int32} {Q : Int64 → Mem → Prop} {K20 : Int64 → Int32 → Mem → Prop} {m : Mem} (hK20 : ∀ (x2 : Int64) (x4 : Int32) (m : Mem), K20 x2 x4 m → V G F M_X11_answerTo sh 0 0 (Zl G F sh Q) 20 [(0, .ref (G.1 + v0)), (1, .int v1), (2, .long x2), (4, .int x4)] [] m) (h : X11_answerTo_p112 sh v0 v1 v2 v4 Q K20 m) : V G F M_X11_answerTo sh 0 0 (Zl G F sh Q) 112 [(0, .ref (G.1 + v0)), (1, .int v1), (2, .long v2), (4, .int v4)] [] m := by
  unfold X11_answerTo_p112 at h
  refine v_lload_n 2 2 dX11_answerTo_112 rfl rfl ?_
  refine v_sub [0, 1, 3] rfl ?_
  exact v_X11_answerTo_p113 hK20 h
set_option maxHeartbeats 4000000 in
set_option maxRecDepth 100000 in
theorem v_X11_answerTo_p130 {G : Gl} {F : Fr} {sh : Shp} {v0 : Nat} {v1 : Int32} {v4 : Int32} {s0 : Int64} {Q : Int64 → Mem → Prop} {K20 : Int64 → Int32 → Mem → Prop} {m : Mem} (hK20 : ∀ (x2 : Int64) (x4 : Int32) (m : Mem), K20 x2 x4 m → V G F M_X11_answerTo sh 0 0 (Zl G F sh Q) 20 [(0, .ref (G.1 + v0)), (1, .int v1), (2, .long x2), (4, .int x4)] [] m) (h : X11_answerTo_p130 sh v0 v1 v4 s0 Q K20 m) : V G F M_X11_answerTo sh 0 0 (Zl G F sh Q) 130 [(0, .ref (G.1 + v0)), (1, .int v1), (4, .int v4)] [.long s0] m := by
  unfold X11_answerTo_p130 at h
  refine v_lstore_n (ls' := [(2, .long _), (0, .ref _), (1, .int _), (4, .int _)]) 2 dX11_answerTo_130 rfl (Nat.le_of_ble_eq_true rfl) rfl ?_
  refine v_goto 187 dX11_answerTo_131 (by decide) ?_
  refine v_sub [1, 2, 0, 3] rfl ?_
  exact v_X11_answerTo_p187 hK20 h
set_option maxHeartbeats 4000000 in
set_option maxRecDepth 100000 in
theorem v_X11_answerTo_p161 {G : Gl} {F : Fr} {sh : Shp} {v0 : Nat} {v1 : Int32} {v4 : Int32} {s0 : Int64} {Q : Int64 → Mem → Prop} {K20 : Int64 → Int32 → Mem → Prop} {m : Mem} (hK20 : ∀ (x2 : Int64) (x4 : Int32) (m : Mem), K20 x2 x4 m → V G F M_X11_answerTo sh 0 0 (Zl G F sh Q) 20 [(0, .ref (G.1 + v0)), (1, .int v1), (2, .long x2), (4, .int x4)] [] m) (h : X11_answerTo_p161 sh v0 v1 v4 s0 Q K20 m) : V G F M_X11_answerTo sh 0 0 (Zl G F sh Q) 161 [(0, .ref (G.1 + v0)), (1, .int v1), (4, .int v4)] [.long s0] m := by
  unfold X11_answerTo_p161 at h
  refine v_lstore_n (ls' := [(2, .long _), (0, .ref _), (1, .int _), (4, .int _)]) 2 dX11_answerTo_161 rfl (Nat.le_of_ble_eq_true rfl) rfl ?_
  refine v_goto 187 dX11_answerTo_162 (by decide) ?_
  refine v_sub [1, 2, 0, 3] rfl ?_
  exact v_X11_answerTo_p187 hK20 h
set_option maxHeartbeats 4000000 in
set_option maxRecDepth 100000 in
theorem v_X11_answerTo_p183 {G : Gl} {F : Fr} {sh : Shp} {v0 : Nat} {v1 : Int32} {v4 : Int32} {s0 : Int64} {Q : Int64 → Mem → Prop} {K20 : Int64 → Int32 → Mem → Prop} {m : Mem} (hK20 : ∀ (x2 : Int64) (x4 : Int32) (m : Mem), K20 x2 x4 m → V G F M_X11_answerTo sh 0 0 (Zl G F sh Q) 20 [(0, .ref (G.1 + v0)), (1, .int v1), (2, .long x2), (4, .int x4)] [] m) (h : X11_answerTo_p183 sh v0 v1 v4 s0 Q K20 m) : V G F M_X11_answerTo sh 0 0 (Zl G F sh Q) 183 [(0, .ref (G.1 + v0)), (1, .int v1), (4, .int v4)] [.long s0] m := by
  unfold X11_answerTo_p183 at h
  refine v_lstore_n (ls' := [(2, .long _), (0, .ref _), (1, .int _), (4, .int _)]) 2 dX11_answerTo_183 rfl (Nat.le_of_ble_eq_true rfl) rfl ?_
  refine v_goto 187 dX11_answerTo_184 (by decide) ?_
  refine v_sub [1, 2, 0, 3] rfl ?_
  exact v_X11_answerTo_p187 hK20 h
set_option maxHeartbeats 4000000 in
set_option maxRecDepth 100000 in
theorem v_X11_answerTo_p20b {G : Gl} {F : Fr} {sh : Shp} {v0 : Nat} {v1 : Int32} {v2 : Int64} {v4 : Int32} {Q : Int64 → Mem → Prop} {K20 : Int64 → Int32 → Mem → Prop} {m : Mem} (hK20 : ∀ (x2 : Int64) (x4 : Int32) (m : Mem), K20 x2 x4 m → V G F M_X11_answerTo sh 0 0 (Zl G F sh Q) 20 [(0, .ref (G.1 + v0)), (1, .int v1), (2, .long x2), (4, .int x4)] [] m) (h : X11_answerTo_p20b sh v0 v1 Q K20 v2 v4 m) : V G F M_X11_answerTo sh 0 0 (Zl G F sh Q) 20 [(0, .ref (G.1 + v0)), (1, .int v1), (2, .long v2), (4, .int v4)] [] m := by
  unfold X11_answerTo_p20b at h
  refine v_iload 4 3 dX11_answerTo_20 rfl ?_
  refine v_aload_n 0 0 dX11_answerTo_22 rfl rfl ?_
  obtain ⟨o1, h⟩ := h
  obtain ⟨b2, e3, h⟩ := h
  refine v_gR 11 3 dX11_answerTo_23 fg_RX11_35 o1 e3 ?_
  obtain ⟨o4, h⟩ := h
  refine v_gI 5 3 dX11_answerTo_26 fg_RX11_158 o4 ?_
  refine v_icmp_ge 193 dX11_answerTo_29 (by decide) (fun hc => ?_) (fun hc => ?_)
  · replace h := Eq.mp (if_pos hc) h
    refine v_lload_n 2 2 dX11_answerTo_193 rfl rfl ?_
    exact v_lret dX11_answerTo_194 rfl h
  · replace h := Eq.mp (if_neg hc) h
    refine v_aload_n 0 0 dX11_answerTo_32 rfl rfl ?_
    refine v_iload 4 3 dX11_answerTo_33 rfl ?_
    refine v_cVv [.int _] mv_X11_gatherFacts ml_RX11_398 ⟨_, _, rfl⟩ o1 rfl rfl (Nat.le_of_ble_eq_true rfl) (Nat.le_of_ble_eq_true rfl) (Nat.le_of_ble_eq_true rfl) (Nat.zero_le _) (Nat.zero_le _) dX11_answerTo_35 (c_X11_gatherFacts h) (fun m6 h => ?_)
    refine v_aload_n 0 0 dX11_answerTo_38 rfl rfl ?_
    obtain ⟨b7, e8, h⟩ := h
    refine v_gR 11 1 dX11_answerTo_39 fg_RX11_19 o1 e8 ?_
    refine v_aload_n 0 0 dX11_answerTo_42 rfl rfl ?_
    obtain ⟨b9, e10, h⟩ := h
    refine v_gR 11 14 dX11_answerTo_43 fg_RX11_96 o1 e10 ?_
    obtain ⟨o13, h⟩ := h
    refine v_cVi [.ref _] mv_X0_worth ml_RX11_388 ⟨_, _, rfl⟩ o13 rfl rfl (Nat.le_of_ble_eq_true rfl) (Nat.le_of_ble_eq_true rfl) (Nat.le_of_ble_eq_true rfl) (Nat.zero_le _) (Nat.zero_le _) dX11_answerTo_46 (c_X0_worth h) (fun r11 m12 h => ?_)
    refine v_istore (ls' := [(5, .int _), (0, .ref _), (1, .int _), (2, .long _), (4, .int _)]) 5 dX11_answerTo_49 (Nat.le_of_ble_eq_true rfl) rfl ?_
    refine v_iload_n 1 2 dX11_answerTo_51 rfl rfl ?_
    by_cases hc0 : v1 = (0 : Int32)
    · replace h := Eq.mp (if_pos hc0) h
      refine v_tabK (0 : Int32) hc0 92 dX11_answerTo_52 (by decide) (by decide) rfl (by decide) ?_
      refine v_iload 5 0 dX11_answerTo_92 rfl ?_
      refine v_iconst (1 : Int32) dX11_answerTo_94 (by decide) ?_
      refine v_icmp_ne 112 dX11_answerTo_95 (by decide) (fun hc => ?_) (fun hc => ?_)
      · replace h := Eq.mp (if_neg hc) h
        refine v_sub [1, 2, 3, 4] rfl ?_
        exact v_X11_answerTo_p112 hK20 h
      · replace h := Eq.mp (if_pos hc) h
        refine v_lload_n 2 3 dX11_answerTo_98 rfl rfl ?_
        refine v_ldc2 (-1 : Int64) dX11_answerTo_99 cw_RX11_396 ?_
        refine v_lcmp dX11_answerTo_102 ?_
        refine v_if_ne 112 dX11_answerTo_103 (by decide) (fun hc => ?_) (fun hc => ?_)
        · replace h := Eq.mp (if_neg hc) h
          refine v_sub [1, 2, 3, 4] rfl ?_
          exact v_X11_answerTo_p112 hK20 h
        · replace h := Eq.mp (if_pos hc) h
          refine v_iload 4 4 dX11_answerTo_106 rfl ?_
          refine v_i2l dX11_answerTo_108 ?_
          refine v_goto 113 dX11_answerTo_109 (by decide) ?_
          refine v_sub [1, 2, 4] rfl ?_
          exact v_X11_answerTo_p113 hK20 h
    replace h := Eq.mp (if_neg hc0) h
    by_cases hc1 : v1 = (1 : Int32)
    · replace h := Eq.mp (if_pos hc1) h
      refine v_tabK (1 : Int32) hc1 117 dX11_answerTo_52 (by decide) (by decide) rfl (by decide) ?_
      refine v_iload 5 0 dX11_answerTo_117 rfl ?_
      refine v_iconst (1 : Int32) dX11_answerTo_119 (by decide) ?_
      refine v_icmp_ne 129 dX11_answerTo_120 (by decide) (fun hc => ?_) (fun hc => ?_)
      · replace h := Eq.mp (if_neg hc) h
        refine v_lload_n 2 3 dX11_answerTo_129 rfl rfl ?_
        refine v_sub [1, 2, 4] rfl ?_
        exact v_X11_answerTo_p130 hK20 h
      · replace h := Eq.mp (if_pos hc) h
        refine v_iload 4 4 dX11_answerTo_123 rfl ?_
        refine v_i2l dX11_answerTo_125 ?_
        refine v_goto 130 dX11_answerTo_126 (by decide) ?_
        refine v_sub [1, 2, 4] rfl ?_
        exact v_X11_answerTo_p130 hK20 h
    replace h := Eq.mp (if_neg hc1) h
    by_cases hc2 : v1 = (2 : Int32)
    · replace h := Eq.mp (if_pos hc2) h
      refine v_tabK (2 : Int32) hc2 134 dX11_answerTo_52 (by decide) (by decide) rfl (by decide) ?_
      refine v_lload_n 2 3 dX11_answerTo_134 rfl rfl ?_
      refine v_iload 5 0 dX11_answerTo_135 rfl ?_
      refine v_i2l dX11_answerTo_137 ?_
      refine v_ladd dX11_answerTo_138 ?_
      refine v_lstore_n (ls' := [(2, .long _), (5, .int _), (0, .ref _), (1, .int _), (4, .int _)]) 2 dX11_answerTo_139 rfl (Nat.le_of_ble_eq_true rfl) rfl ?_
      refine v_goto 187 dX11_answerTo_140 (by decide) ?_
      refine v_sub [2, 3, 0, 4] rfl ?_
      exact v_X11_answerTo_p187 hK20 h
    replace h := Eq.mp (if_neg hc2) h
    by_cases hc3 : v1 = (3 : Int32)
    · replace h := Eq.mp (if_pos hc3) h
      refine v_tabK (3 : Int32) hc3 134 dX11_answerTo_52 (by decide) (by decide) rfl (by decide) ?_
      refine v_lload_n 2 3 dX11_answerTo_134 rfl rfl ?_
      refine v_iload 5 0 dX11_answerTo_135 rfl ?_
      refine v_i2l dX11_answerTo_137 ?_
      refine v_ladd dX11_answerTo_138 ?_
      refine v_lstore_n (ls' := [(2, .long _), (5, .int _), (0, .ref _), (1, .int _), (4, .int _)]) 2 dX11_answerTo_139 rfl (Nat.le_of_ble_eq_true rfl) rfl ?_
      refine v_goto 187 dX11_answerTo_140 (by decide) ?_
      refine v_sub [2, 3, 0, 4] rfl ?_
      exact v_X11_answerTo_p187 hK20 h
    replace h := Eq.mp (if_neg hc3) h
    by_cases hc4 : v1 = (4 : Int32)
    · replace h := Eq.mp (if_pos hc4) h
      refine v_tabK (4 : Int32) hc4 143 dX11_answerTo_52 (by decide) (by decide) rfl (by decide) ?_
      refine v_iload 4 4 dX11_answerTo_143 rfl ?_
      refine v_if_ne 154 dX11_answerTo_145 (by decide) (fun hc => ?_) (fun hc => ?_)
      · replace h := Eq.mp (if_neg hc) h
        refine v_lload_n 2 3 dX11_answerTo_154 rfl rfl ?_
        refine v_iload 5 0 dX11_answerTo_155 rfl ?_
        refine v_i2l dX11_answerTo_157 ?_
        refine v_cSl [.long _, .long _] mv_J9_max_f86c9 ml_RX11_401 rfl rfl (Nat.le_of_ble_eq_true rfl) (Nat.le_of_ble_eq_true rfl) (Nat.le_of_ble_eq_true rfl) (Nat.zero_le _) (Nat.zero_le _) dX11_answerTo_158 (c_J9_max_f86c9 h) (fun r14 m15 h => ?_)
        refine v_sub [1, 2, 4] rfl ?_
        exact v_X11_answerTo_p161 hK20 h
      · replace h := Eq.mp (if_pos hc) h
        refine v_iload 5 0 dX11_answerTo_148 rfl ?_
        refine v_i2l dX11_answerTo_150 ?_
        refine v_goto 161 dX11_answerTo_151 (by decide) ?_
        refine v_sub [1, 2, 4] rfl ?_
        exact v_X11_answerTo_p161 hK20 h
    replace h := Eq.mp (if_neg hc4) h
    by_cases hc5 : v1 = (5 : Int32)
    · replace h := Eq.mp (if_pos hc5) h
      refine v_tabK (5 : Int32) hc5 165 dX11_answerTo_52 (by decide) (by decide) rfl (by decide) ?_
      refine v_iload 4 4 dX11_answerTo_165 rfl ?_
      refine v_if_ne 176 dX11_answerTo_167 (by decide) (fun hc => ?_) (fun hc => ?_)
      · replace h := Eq.mp (if_neg hc) h
        refine v_lload_n 2 3 dX11_answerTo_176 rfl rfl ?_
        refine v_iload 5 0 dX11_answerTo_177 rfl ?_
        refine v_i2l dX11_answerTo_179 ?_
        refine v_cSl [.long _, .long _] mv_J9_min_f86c9 ml_RX11_404 rfl rfl (Nat.le_of_ble_eq_true rfl) (Nat.le_of_ble_eq_true rfl) (Nat.le_of_ble_eq_true rfl) (Nat.zero_le _) (Nat.zero_le _) dX11_answerTo_180 (c_J9_min_f86c9 h) (fun r16 m17 h => ?_)
        refine v_sub [1, 2, 4] rfl ?_
        exact v_X11_answerTo_p183 hK20 h
      · replace h := Eq.mp (if_pos hc) h
        refine v_iload 5 0 dX11_answerTo_170 rfl ?_
        refine v_i2l dX11_answerTo_172 ?_
        refine v_goto 183 dX11_answerTo_173 (by decide) ?_
        refine v_sub [1, 2, 4] rfl ?_
        exact v_X11_answerTo_p183 hK20 h
    replace h := Eq.mp (if_neg hc5) h
    refine v_tabOut 187 dX11_answerTo_52 (by have := lv_neT hc0 (a := 0) (by decide); have := lv_neT hc1 (a := 1) (by decide); have := lv_neT hc2 (a := 2) (by decide); have := lv_neT hc3 (a := 3) (by decide); have := lv_neT hc4 (a := 4) (by decide); have := lv_neT hc5 (a := 5) (by decide); omega) (by decide) ?_
    refine v_sub [1, 2, 3, 4] rfl ?_
    exact v_X11_answerTo_p187 hK20 h
set_option maxHeartbeats 4000000 in
set_option maxRecDepth 100000 in
theorem v_X11_answerTo_p20 {G : Gl} {F : Fr} {sh : Shp} {v0 : Nat} {v1 : Int32} {v2 : Int64} {v4 : Int32} {Q : Int64 → Mem → Prop} {m : Mem} (h : X11_answerTo_p20 sh v0 v1 Q v2 v4 m) : V G F M_X11_answerTo sh 0 0 (Zl G F sh Q) 20 [(0, .ref (G.1 + v0)), (1, .int v1), (2, .long v2), (4, .int v4)] [] m := by
  obtain ⟨n, h⟩ := h
  induction n generalizing v2 v4 m with
  | zero => exact h.elim
  | succ n ih => exact v_X11_answerTo_p20b (fun _ _ _ h => ih h) h
set_option maxHeartbeats 4000000 in
set_option maxRecDepth 100000 in
theorem v_X11_answerTo_p16 {G : Gl} {F : Fr} {sh : Shp} {v0 : Nat} {v1 : Int32} {s0 : Int64} {Q : Int64 → Mem → Prop} {m : Mem} (h : X11_answerTo_p16 sh v0 v1 s0 Q m) : V G F M_X11_answerTo sh 0 0 (Zl G F sh Q) 16 [(0, .ref (G.1 + v0)), (1, .int v1)] [.long s0] m := by
  unfold X11_answerTo_p16 at h
  refine v_lstore_n (ls' := [(2, .long _), (0, .ref _), (1, .int _)]) 2 dX11_answerTo_16 rfl (Nat.le_of_ble_eq_true rfl) rfl ?_
  refine v_iconst (0 : Int32) dX11_answerTo_17 (by decide) ?_
  refine v_istore (ls' := [(4, .int _), (2, .long _), (0, .ref _), (1, .int _)]) 4 dX11_answerTo_18 (Nat.le_of_ble_eq_true rfl) rfl ?_
  refine v_sub [2, 3, 1, 0] rfl ?_
  exact v_X11_answerTo_p20 h
set_option maxHeartbeats 4000000 in
set_option maxRecDepth 100000 in
theorem v_X11_answerTo_p9 {G : Gl} {F : Fr} {sh : Shp} {v0 : Nat} {v1 : Int32} {Q : Int64 → Mem → Prop} {m : Mem} (h : X11_answerTo_p9 sh v0 v1 Q m) : V G F M_X11_answerTo sh 0 0 (Zl G F sh Q) 9 [(0, .ref (G.1 + v0)), (1, .int v1)] [] m := by
  unfold X11_answerTo_p9 at h
  refine v_ldc2 (-1 : Int64) dX11_answerTo_9 cw_RX11_396 ?_
  refine v_goto 16 dX11_answerTo_12 (by decide) ?_
  refine v_sub [0, 1] rfl ?_
  exact v_X11_answerTo_p16 h
set_option maxHeartbeats 4000000 in
set_option maxRecDepth 100000 in
theorem c_X11_answerTo {l : Launch} {G : Gl} {sh : Shp} {v0 : Nat} {v1 : Int32} {Q : Int64 → Mem → Prop} {m : Mem} (h : wp_X11_answerTo sh v0 v1 Q m) : Cnl l G yX11_answerTo cX11_answerTo 6 (Option.some FieldType.long) 8 233 sh [.ref (G.1 + v0), .int v1] m Q := by
  refine con_l (ls := [(0, .ref (G.1 + v0)), (1, .int v1)]) (by decide +kernel) rfl (Nat.le_of_ble_eq_true rfl) (fun F => ?_)
  show V G F M_X11_answerTo sh 0 0 (Zl G F sh Q) 0 [(0, .ref (G.1 + v0)), (1, .int v1)] [] m
  unfold wp_X11_answerTo at h
  refine v_iload_n 1 1 dX11_answerTo_0 rfl rfl ?_
  refine v_if_eq 9 dX11_answerTo_1 (by decide) (fun hc => ?_) (fun hc => ?_)
  · replace h := Eq.mp (if_pos hc) h
    refine v_sub [0, 1] rfl ?_
    exact v_X11_answerTo_p9 h
  · replace h := Eq.mp (if_neg hc) h
    refine v_iload_n 1 1 dX11_answerTo_4 rfl rfl ?_
    refine v_iconst (1 : Int32) dX11_answerTo_5 (by decide) ?_
    refine v_icmp_ne 15 dX11_answerTo_6 (by decide) (fun hc => ?_) (fun hc => ?_)
    · replace h := Eq.mp (if_neg hc) h
      refine v_lconst (0 : Int64) dX11_answerTo_15 (by decide) ?_
      refine v_sub [0, 1] rfl ?_
      exact v_X11_answerTo_p16 h
    · replace h := Eq.mp (if_pos hc) h
      refine v_sub [0, 1] rfl ?_
      exact v_X11_answerTo_p9 h
/-! CalledRiver.ask -/
theorem dX11_ask_0 : decode cX11_ask 0 = .ok (.aload_n 0, 1) := by decide +kernel
theorem dX11_ask_1 : decode cX11_ask 1 = .ok (.getfield 35, 3) := by decide +kernel
theorem dX11_ask_4 : decode cX11_ask 4 = .ok (.getfield 152, 3) := by decide +kernel
theorem dX11_ask_7 : decode cX11_ask 7 = .ok (.ifCond .ne 15, 3) := by decide +kernel
theorem dX11_ask_10 : decode cX11_ask 10 = .ok (.aload_n 0, 1) := by decide +kernel
theorem dX11_ask_11 : decode cX11_ask 11 = .ok (.getfield 12, 3) := by decide +kernel
theorem dX11_ask_14 : decode cX11_ask 14 = .ok (.iconst 0, 1) := by decide +kernel
theorem dX11_ask_15 : decode cX11_ask 15 = .ok (.putfield 117, 3) := by decide +kernel
theorem dX11_ask_18 : decode cX11_ask 18 = .ok (.ldc2_w 332, 3) := by decide +kernel
theorem dX11_ask_21 : decode cX11_ask 21 = .ok (.lreturn, 1) := by decide +kernel
theorem dX11_ask_22 : decode cX11_ask 22 = .ok (.aload_n 0, 1) := by decide +kernel
theorem dX11_ask_23 : decode cX11_ask 23 = .ok (.getfield 28, 3) := by decide +kernel
theorem dX11_ask_26 : decode cX11_ask 26 = .ok (.aload_n 0, 1) := by decide +kernel
theorem dX11_ask_27 : decode cX11_ask 27 = .ok (.getfield 19, 3) := by decide +kernel
theorem dX11_ask_30 : decode cX11_ask 30 = .ok (.invokevirtual 334, 3) := by decide +kernel
theorem dX11_ask_33 : decode cX11_ask 33 = .ok (.istore_n 1, 1) := by decide +kernel
theorem dX11_ask_34 : decode cX11_ask 34 = .ok (.aload_n 0, 1) := by decide +kernel
theorem dX11_ask_35 : decode cX11_ask 35 = .ok (.getfield 12, 3) := by decide +kernel
theorem dX11_ask_38 : decode cX11_ask 38 = .ok (.iconst 0, 1) := by decide +kernel
theorem dX11_ask_39 : decode cX11_ask 39 = .ok (.putfield 117, 3) := by decide +kernel
theorem dX11_ask_42 : decode cX11_ask 42 = .ok (.aload_n 0, 1) := by decide +kernel
theorem dX11_ask_43 : decode cX11_ask 43 = .ok (.getfield 12, 3) := by decide +kernel
theorem dX11_ask_46 : decode cX11_ask 46 = .ok (.getfield 133, 3) := by decide +kernel
theorem dX11_ask_49 : decode cX11_ask 49 = .ok (.ifCond .ne 11, 3) := by decide +kernel
theorem dX11_ask_52 : decode cX11_ask 52 = .ok (.aload_n 0, 1) := by decide +kernel
theorem dX11_ask_53 : decode cX11_ask 53 = .ok (.iload_n 1, 1) := by decide +kernel
theorem dX11_ask_54 : decode cX11_ask 54 = .ok (.invokevirtual 338, 3) := by decide +kernel
theorem dX11_ask_57 : decode cX11_ask 57 = .ok (.goto 6, 3) := by decide +kernel
theorem dX11_ask_60 : decode cX11_ask 60 = .ok (.ldc2_w 332, 3) := by decide +kernel
theorem dX11_ask_63 : decode cX11_ask 63 = .ok (.lreturn, 1) := by decide +kernel
def wp_X11_ask (sh : Shp) (v0 : Nat) (Q : Int64 → Mem → Prop) (m : Mem) : Prop :=
  Ob sh v0 11 ∧ ∃ b2 : Nat, m.2.2 v0 3 = some b2 ∧ (Ob sh b2 5 ∧ (if (m.1 b2 0) = 0 then (∃ b18 : Nat, m.2.2 v0 0 = some b18 ∧ (Ob sh b18 9 ∧ bnd (sI m b18 1 (0 : Int32)) (fun m21 => Q (-1000000000000000 : Int64) m21))) else (∃ b5 : Nat, m.2.2 v0 2 = some b5 ∧ (∃ b7 : Nat, m.2.2 v0 1 = some b7 ∧ (Ob sh b5 8 ∧ wp_X8_readQuestion sh b5 b7 (fun r9 m10 => ∃ b12 : Nat, m10.2.2 v0 0 = some b12 ∧ (Ob sh b12 9 ∧ bnd (sI m10 b12 1 (0 : Int32)) (fun m15 => if (m15.1 b12 5) = 0 then (wp_X11_answerTo sh v0 r9 (fun r16 m17 => Q r16 m17) m15) else (Q (-1000000000000000 : Int64) m15)))) m)))))
abbrev M_X11_ask : Mi := (cX11_ask, 2, RX11, (Option.some FieldType.long), "ask", 76, 4245, 0, 0)
set_option maxHeartbeats 4000000 in
set_option maxRecDepth 100000 in
theorem c_X11_ask {l : Launch} {G : Gl} {sh : Shp} {v0 : Nat} {Q : Int64 → Mem → Prop} {m : Mem} (h : wp_X11_ask sh v0 Q m) : Cnl l G yX11_ask cX11_ask 2 (Option.some FieldType.long) 76 4245 sh [.ref (G.1 + v0)] m Q := by
  refine con_l (ls := [(0, .ref (G.1 + v0))]) (by decide +kernel) rfl (Nat.le_of_ble_eq_true rfl) (fun F => ?_)
  show V G F M_X11_ask sh 0 0 (Zl G F sh Q) 0 [(0, .ref (G.1 + v0))] [] m
  unfold wp_X11_ask at h
  refine v_aload_n 0 0 dX11_ask_0 rfl rfl ?_
  obtain ⟨o1, h⟩ := h
  obtain ⟨b2, e3, h⟩ := h
  refine v_gR 11 3 dX11_ask_1 fg_RX11_35 o1 e3 ?_
  obtain ⟨o4, h⟩ := h
  refine v_gI 5 0 dX11_ask_4 fg_RX11_152 o4 ?_
  refine v_if_ne 22 dX11_ask_7 (by decide) (fun hc => ?_) (fun hc => ?_)
  · replace h := Eq.mp (if_neg hc) h
    refine v_aload_n 0 0 dX11_ask_22 rfl rfl ?_
    obtain ⟨b5, e6, h⟩ := h
    refine v_gR 11 2 dX11_ask_23 fg_RX11_28 o1 e6 ?_
    refine v_aload_n 0 0 dX11_ask_26 rfl rfl ?_
    obtain ⟨b7, e8, h⟩ := h
    refine v_gR 11 1 dX11_ask_27 fg_RX11_19 o1 e8 ?_
    obtain ⟨o11, h⟩ := h
    refine v_cVi [.ref _] mv_X8_readQuestion ml_RX11_334 ⟨_, _, rfl⟩ o11 rfl rfl (Nat.le_of_ble_eq_true rfl) (Nat.le_of_ble_eq_true rfl) (Nat.le_of_ble_eq_true rfl) (Nat.zero_le _) (Nat.zero_le _) dX11_ask_30 (c_X8_readQuestion h) (fun r9 m10 h => ?_)
    refine v_istore_n (ls' := [(1, .int _), (0, .ref _)]) 1 dX11_ask_33 rfl (Nat.le_of_ble_eq_true rfl) rfl ?_
    refine v_aload_n 0 1 dX11_ask_34 rfl rfl ?_
    obtain ⟨b12, e13, h⟩ := h
    refine v_gR 11 0 dX11_ask_35 fg_RX11_12 o1 e13 ?_
    refine v_iconst (0 : Int32) dX11_ask_38 (by decide) ?_
    obtain ⟨o14, h⟩ := h
    refine v_pI 9 1 dX11_ask_39 fw_RX11_117 o14 ?_
    replace h := bnd_e h
    refine v_aload_n 0 1 dX11_ask_42 rfl rfl ?_
    refine v_gR 11 0 dX11_ask_43 fg_RX11_12 o1 e13 ?_
    refine v_gI 9 5 dX11_ask_46 fg_RX11_133 o14 ?_
    refine v_if_ne 60 dX11_ask_49 (by decide) (fun hc => ?_) (fun hc => ?_)
    · replace h := Eq.mp (if_neg hc) h
      refine v_ldc2 (-1000000000000000 : Int64) dX11_ask_60 cw_RX11_332 ?_
      exact v_lret dX11_ask_63 rfl h
    · replace h := Eq.mp (if_pos hc) h
      refine v_aload_n 0 1 dX11_ask_52 rfl rfl ?_
      refine v_iload_n 1 0 dX11_ask_53 rfl rfl ?_
      refine v_cVl [.int _] mv_X11_answerTo ml_RX11_338 ⟨_, _, rfl⟩ o1 rfl rfl (Nat.le_of_ble_eq_true rfl) (Nat.le_of_ble_eq_true rfl) (Nat.le_of_ble_eq_true rfl) (Nat.zero_le _) (Nat.zero_le _) dX11_ask_54 (c_X11_answerTo h) (fun r16 m17 h => ?_)
      refine v_goto 63 dX11_ask_57 (by decide) ?_
      exact v_lret dX11_ask_63 rfl h
  · replace h := Eq.mp (if_pos hc) h
    refine v_aload_n 0 0 dX11_ask_10 rfl rfl ?_
    obtain ⟨b18, e19, h⟩ := h
    refine v_gR 11 0 dX11_ask_11 fg_RX11_12 o1 e19 ?_
    refine v_iconst (0 : Int32) dX11_ask_14 (by decide) ?_
    obtain ⟨o20, h⟩ := h
    refine v_pI 9 1 dX11_ask_15 fw_RX11_117 o20 ?_
    replace h := bnd_e h
    refine v_ldc2 (-1000000000000000 : Int64) dX11_ask_18 cw_RX11_332 ?_
    exact v_lret dX11_ask_21 rfl h
/-! CalledRiver.forgetWays -/
theorem dX11_forgetWays_0 : decode cX11_forgetWays 0 = .ok (.iconst 0, 1) := by decide +kernel
theorem dX11_forgetWays_1 : decode cX11_forgetWays 1 = .ok (.istore_n 1, 1) := by decide +kernel
theorem dX11_forgetWays_2 : decode cX11_forgetWays 2 = .ok (.iload_n 1, 1) := by decide +kernel
theorem dX11_forgetWays_3 : decode cX11_forgetWays 3 = .ok (.iconst 5, 1) := by decide +kernel
theorem dX11_forgetWays_4 : decode cX11_forgetWays 4 = .ok (.if_icmp .ge 19, 3) := by decide +kernel
theorem dX11_forgetWays_7 : decode cX11_forgetWays 7 = .ok (.aload_n 0, 1) := by decide +kernel
theorem dX11_forgetWays_8 : decode cX11_forgetWays 8 = .ok (.getfield 84, 3) := by decide +kernel
theorem dX11_forgetWays_11 : decode cX11_forgetWays 11 = .ok (.iload_n 1, 1) := by decide +kernel
theorem dX11_forgetWays_12 : decode cX11_forgetWays 12 = .ok (.aaload, 1) := by decide +kernel
theorem dX11_forgetWays_13 : decode cX11_forgetWays 13 = .ok (.iconst 0, 1) := by decide +kernel
theorem dX11_forgetWays_14 : decode cX11_forgetWays 14 = .ok (.putfield 357, 3) := by decide +kernel
theorem dX11_forgetWays_17 : decode cX11_forgetWays 17 = .ok (.iinc 1 1, 3) := by decide +kernel
theorem dX11_forgetWays_20 : decode cX11_forgetWays 20 = .ok (.goto (-18), 3) := by decide +kernel
theorem dX11_forgetWays_23 : decode cX11_forgetWays 23 = .ok (.return_, 1) := by decide +kernel
def X11_forgetWays_p2b (sh : Shp) (v0 : Nat) (Q : Mem → Prop) (K2 : Int32 → Mem → Prop) (v1 : Int32) (m : Mem) : Prop :=
  if (5 : Int32) ≤ v1 then (Q m) else (Ob sh v0 11 ∧ ∃ b2 : Nat, m.2.2 v0 11 = some b2 ∧ (Ix sh b2 104 v1 ∧ ∃ b5 : Nat, m.2.2 b2 v1.toNatClampNeg = some b5 ∧ (Ob sh b5 10 ∧ bnd (sI m b5 5 (0 : Int32)) (fun m8 => K2 (v1 + (1 : Int32)) m8))))
def X11_forgetWays_p2n (sh : Shp) (v0 : Nat) (Q : Mem → Prop) : Nat → Int32 → Mem → Prop
  | 0 => fun _ _ => False
  | n + 1 => X11_forgetWays_p2b sh v0 Q (X11_forgetWays_p2n sh v0 Q n)
def X11_forgetWays_p2 (sh : Shp) (v0 : Nat) (Q : Mem → Prop) (v1 : Int32) (m : Mem) : Prop := ∃ n, X11_forgetWays_p2n sh v0 Q n v1 m
def wp_X11_forgetWays (sh : Shp) (v0 : Nat) (Q : Mem → Prop) (m : Mem) : Prop :=
  X11_forgetWays_p2 sh v0 Q (0 : Int32) m
abbrev M_X11_forgetWays : Mi := (cX11_forgetWays, 2, RX11, (none : Option FieldType), "forgetWays", 1, 60, 0, 0)
set_option maxHeartbeats 4000000 in
set_option maxRecDepth 100000 in
theorem v_X11_forgetWays_p2b {G : Gl} {F : Fr} {sh : Shp} {v0 : Nat} {v1 : Int32} {Q : Mem → Prop} {K2 : Int32 → Mem → Prop} {m : Mem} (hK2 : ∀ (x1 : Int32) (m : Mem), K2 x1 m → V G F M_X11_forgetWays sh 0 0 (Zv G F sh Q) 2 [(0, .ref (G.1 + v0)), (1, .int x1)] [] m) (h : X11_forgetWays_p2b sh v0 Q K2 v1 m) : V G F M_X11_forgetWays sh 0 0 (Zv G F sh Q) 2 [(0, .ref (G.1 + v0)), (1, .int v1)] [] m := by
  unfold X11_forgetWays_p2b at h
  refine v_iload_n 1 1 dX11_forgetWays_2 rfl rfl ?_
  refine v_iconst (5 : Int32) dX11_forgetWays_3 (by decide) ?_
  refine v_icmp_ge 23 dX11_forgetWays_4 (by decide) (fun hc => ?_) (fun hc => ?_)
  · replace h := Eq.mp (if_pos hc) h
    exact v_vret dX11_forgetWays_23 rfl h
  · replace h := Eq.mp (if_neg hc) h
    refine v_aload_n 0 0 dX11_forgetWays_7 rfl rfl ?_
    obtain ⟨o1, h⟩ := h
    obtain ⟨b2, e3, h⟩ := h
    refine v_gR 11 11 dX11_forgetWays_8 fg_RX11_84 o1 e3 ?_
    refine v_iload_n 1 1 dX11_forgetWays_11 rfl rfl ?_
    obtain ⟨i4, h⟩ := h
    obtain ⟨b5, e6, h⟩ := h
    refine v_aald 104 dX11_forgetWays_12 i4 (by decide) e6 ?_
    refine v_iconst (0 : Int32) dX11_forgetWays_13 (by decide) ?_
    obtain ⟨o7, h⟩ := h
    refine v_pZ 10 5 dX11_forgetWays_14 fw_RX11_357 o7 (by decide) ?_
    replace h := bnd_e h
    refine v_iinc (ls' := [(1, .int _), (0, .ref _)]) 1 1 dX11_forgetWays_17 rfl (congrArg (HAdd.hAdd _) (by decide : Int32.ofInt (1) = (1 : Int32))) (Nat.le_of_ble_eq_true rfl) rfl ?_
    refine v_goto 2 dX11_forgetWays_20 (by decide) ?_
    refine v_sub [1, 0] rfl ?_
    exact hK2 _ _ h
set_option maxHeartbeats 4000000 in
set_option maxRecDepth 100000 in
theorem v_X11_forgetWays_p2 {G : Gl} {F : Fr} {sh : Shp} {v0 : Nat} {v1 : Int32} {Q : Mem → Prop} {m : Mem} (h : X11_forgetWays_p2 sh v0 Q v1 m) : V G F M_X11_forgetWays sh 0 0 (Zv G F sh Q) 2 [(0, .ref (G.1 + v0)), (1, .int v1)] [] m := by
  obtain ⟨n, h⟩ := h
  induction n generalizing v1 m with
  | zero => exact h.elim
  | succ n ih => exact v_X11_forgetWays_p2b (fun _ _ h => ih h) h
set_option maxHeartbeats 4000000 in
set_option maxRecDepth 100000 in
theorem c_X11_forgetWays {l : Launch} {G : Gl} {sh : Shp} {v0 : Nat} {Q : Mem → Prop} {m : Mem} (h : wp_X11_forgetWays sh v0 Q m) : Cnv l G yX11_forgetWays cX11_forgetWays 2 (none : Option FieldType) 1 60 sh [.ref (G.1 + v0)] m Q := by
  refine con_v (ls := [(0, .ref (G.1 + v0))]) (by decide +kernel) rfl (Nat.le_of_ble_eq_true rfl) (fun F => ?_)
  show V G F M_X11_forgetWays sh 0 0 (Zv G F sh Q) 0 [(0, .ref (G.1 + v0))] [] m
  unfold wp_X11_forgetWays at h
  refine v_iconst (0 : Int32) dX11_forgetWays_0 (by decide) ?_
  refine v_istore_n (ls' := [(1, .int _), (0, .ref _)]) 1 dX11_forgetWays_1 rfl (Nat.le_of_ble_eq_true rfl) rfl ?_
  refine v_sub [1, 0] rfl ?_
  exact v_X11_forgetWays_p2 h
/-! CalledRiver.refuse -/
theorem dX11_refuse_0 : decode cX11_refuse 0 = .ok (.aload_n 0, 1) := by decide +kernel
theorem dX11_refuse_1 : decode cX11_refuse 1 = .ok (.getfield 110, 3) := by decide +kernel
theorem dX11_refuse_4 : decode cX11_refuse 4 = .ok (.iload_n 1, 1) := by decide +kernel
theorem dX11_refuse_5 : decode cX11_refuse 5 = .ok (.dup2, 1) := by decide +kernel
theorem dX11_refuse_6 : decode cX11_refuse 6 = .ok (.iaload, 1) := by decide +kernel
theorem dX11_refuse_7 : decode cX11_refuse 7 = .ok (.iconst 1, 1) := by decide +kernel
theorem dX11_refuse_8 : decode cX11_refuse 8 = .ok (.iadd, 1) := by decide +kernel
theorem dX11_refuse_9 : decode cX11_refuse 9 = .ok (.iastore, 1) := by decide +kernel
theorem dX11_refuse_10 : decode cX11_refuse 10 = .ok (.iconst (-1), 1) := by decide +kernel
theorem dX11_refuse_11 : decode cX11_refuse 11 = .ok (.ireturn, 1) := by decide +kernel
def wp_X11_refuse (sh : Shp) (v0 : Nat) (v1 : Int32) (Q : Int32 → Mem → Prop) (m : Mem) : Prop :=
  Ob sh v0 11 ∧ ∃ b2 : Nat, m.2.2 v0 17 = some b2 ∧ (Ix sh b2 100 v1 ∧ (bnd (sI m b2 v1.toNatClampNeg ((m.1 b2 v1.toNatClampNeg) + (1 : Int32))) (fun m5 => Q (-1 : Int32) m5)))
abbrev M_X11_refuse : Mi := (cX11_refuse, 2, RX11, (Option.some FieldType.int), "refuse", 1, 60, 0, 0)
set_option maxHeartbeats 4000000 in
set_option maxRecDepth 100000 in
theorem c_X11_refuse {l : Launch} {G : Gl} {sh : Shp} {v0 : Nat} {v1 : Int32} {Q : Int32 → Mem → Prop} {m : Mem} (h : wp_X11_refuse sh v0 v1 Q m) : Cni l G yX11_refuse cX11_refuse 2 (Option.some FieldType.int) 1 60 sh [.ref (G.1 + v0), .int v1] m Q := by
  refine con_i (ls := [(0, .ref (G.1 + v0)), (1, .int v1)]) (by decide +kernel) rfl (Nat.le_of_ble_eq_true rfl) (fun F => ?_)
  show V G F M_X11_refuse sh 0 0 (Zi G F sh Q) 0 [(0, .ref (G.1 + v0)), (1, .int v1)] [] m
  unfold wp_X11_refuse at h
  refine v_aload_n 0 0 dX11_refuse_0 rfl rfl ?_
  obtain ⟨o1, h⟩ := h
  obtain ⟨b2, e3, h⟩ := h
  refine v_gR 11 17 dX11_refuse_1 fg_RX11_110 o1 e3 ?_
  refine v_iload_n 1 1 dX11_refuse_4 rfl rfl ?_
  refine v_dup2 dX11_refuse_5 rfl rfl ?_
  obtain ⟨i4, h⟩ := h
  refine v_iald dX11_refuse_6 i4 ?_
  refine v_iconst (1 : Int32) dX11_refuse_7 (by decide) ?_
  refine v_iadd dX11_refuse_8 ?_
  refine v_iast dX11_refuse_9 i4 ?_
  replace h := bnd_e h
  refine v_iconst (-1 : Int32) dX11_refuse_10 (by decide) ?_
  exact v_iret dX11_refuse_11 rfl rfl h
/-! CalledRiver.bake -/
theorem dX11_bake_0 : decode cX11_bake 0 = .ok (.aload_n 0, 1) := by decide +kernel
theorem dX11_bake_1 : decode cX11_bake 1 = .ok (.getfield 35, 3) := by decide +kernel
theorem dX11_bake_4 : decode cX11_bake 4 = .ok (.iload_n 1, 1) := by decide +kernel
theorem dX11_bake_5 : decode cX11_bake 5 = .ok (.invokevirtual 187, 3) := by decide +kernel
theorem dX11_bake_8 : decode cX11_bake 8 = .ok (.ifCond .eq 26, 3) := by decide +kernel
theorem dX11_bake_11 : decode cX11_bake 11 = .ok (.iload_n 2, 1) := by decide +kernel
theorem dX11_bake_12 : decode cX11_bake 12 = .ok (.ifCond .lt 22, 3) := by decide +kernel
theorem dX11_bake_15 : decode cX11_bake 15 = .ok (.iload_n 2, 1) := by decide +kernel
theorem dX11_bake_16 : decode cX11_bake 16 = .ok (.bipush 9, 2) := by decide +kernel
theorem dX11_bake_18 : decode cX11_bake 18 = .ok (.if_icmp .gt 16, 3) := by decide +kernel
theorem dX11_bake_21 : decode cX11_bake 21 = .ok (.aload_n 0, 1) := by decide +kernel
theorem dX11_bake_22 : decode cX11_bake 22 = .ok (.getfield 54, 3) := by decide +kernel
theorem dX11_bake_25 : decode cX11_bake 25 = .ok (.getfield 230, 3) := by decide +kernel
theorem dX11_bake_28 : decode cX11_bake 28 = .ok (.iload_n 1, 1) := by decide +kernel
theorem dX11_bake_29 : decode cX11_bake 29 = .ok (.iaload, 1) := by decide +kernel
theorem dX11_bake_30 : decode cX11_bake 30 = .ok (.iload_n 2, 1) := by decide +kernel
theorem dX11_bake_31 : decode cX11_bake 31 = .ok (.if_icmp .ne 11, 3) := by decide +kernel
theorem dX11_bake_34 : decode cX11_bake 34 = .ok (.aload_n 0, 1) := by decide +kernel
theorem dX11_bake_35 : decode cX11_bake 35 = .ok (.iconst 3, 1) := by decide +kernel
theorem dX11_bake_36 : decode cX11_bake 36 = .ok (.invokevirtual 121, 3) := by decide +kernel
theorem dX11_bake_39 : decode cX11_bake 39 = .ok (.pop, 1) := by decide +kernel
theorem dX11_bake_40 : decode cX11_bake 40 = .ok (.iconst 0, 1) := by decide +kernel
theorem dX11_bake_41 : decode cX11_bake 41 = .ok (.ireturn, 1) := by decide +kernel
theorem dX11_bake_42 : decode cX11_bake 42 = .ok (.aload_n 0, 1) := by decide +kernel
theorem dX11_bake_43 : decode cX11_bake 43 = .ok (.getfield 64, 3) := by decide +kernel
theorem dX11_bake_46 : decode cX11_bake 46 = .ok (.aload_n 0, 1) := by decide +kernel
theorem dX11_bake_47 : decode cX11_bake 47 = .ok (.getfield 54, 3) := by decide +kernel
theorem dX11_bake_50 : decode cX11_bake 50 = .ok (.invokevirtual 319, 3) := by decide +kernel
theorem dX11_bake_53 : decode cX11_bake 53 = .ok (.aload_n 0, 1) := by decide +kernel
theorem dX11_bake_54 : decode cX11_bake 54 = .ok (.getfield 54, 3) := by decide +kernel
theorem dX11_bake_57 : decode cX11_bake 57 = .ok (.getfield 230, 3) := by decide +kernel
theorem dX11_bake_60 : decode cX11_bake 60 = .ok (.iload_n 1, 1) := by decide +kernel
theorem dX11_bake_61 : decode cX11_bake 61 = .ok (.iload_n 2, 1) := by decide +kernel
theorem dX11_bake_62 : decode cX11_bake 62 = .ok (.iastore, 1) := by decide +kernel
theorem dX11_bake_63 : decode cX11_bake 63 = .ok (.aload_n 0, 1) := by decide +kernel
theorem dX11_bake_64 : decode cX11_bake 64 = .ok (.invokevirtual 146, 3) := by decide +kernel
theorem dX11_bake_67 : decode cX11_bake 67 = .ok (.iconst 1, 1) := by decide +kernel
theorem dX11_bake_68 : decode cX11_bake 68 = .ok (.ireturn, 1) := by decide +kernel
def X11_bake_p34 (sh : Shp) (v0 : Nat) (Q : Int32 → Mem → Prop) (m : Mem) : Prop :=
  Ob sh v0 11 ∧ wp_X11_refuse sh v0 (3 : Int32) (fun r27 m28 => Q (0 : Int32) m28) m
def wp_X11_bake (sh : Shp) (v0 : Nat) (v1 : Int32) (v2 : Int32) (Q : Int32 → Mem → Prop) (m : Mem) : Prop :=
  Ob sh v0 11 ∧ ∃ b2 : Nat, m.2.2 v0 3 = some b2 ∧ (Ob sh b2 5 ∧ wp_X5_isFarm sh b2 v1 (fun r4 m5 => if r4 = 0 then (X11_bake_p34 sh v0 Q m5) else (if v2 < 0 then (X11_bake_p34 sh v0 Q m5) else (if (9 : Int32) < v2 then (X11_bake_p34 sh v0 Q m5) else (∃ b7 : Nat, m5.2.2 v0 6 = some b7 ∧ (Ob sh b7 1 ∧ ∃ b10 : Nat, m5.2.2 b7 5 = some b10 ∧ (Ix sh b10 100 v1 ∧ (if (m5.1 b10 v1.toNatClampNeg) = v2 then (X11_bake_p34 sh v0 Q m5) else (∃ b13 : Nat, m5.2.2 v0 8 = some b13 ∧ (Ob sh b13 3 ∧ wp_X3_remember sh b13 b7 (fun m16 => ∃ b18 : Nat, m16.2.2 v0 6 = some b18 ∧ (Ob sh b18 1 ∧ ∃ b21 : Nat, m16.2.2 b18 5 = some b21 ∧ (Ix sh b21 100 v1 ∧ bnd (sI m16 b21 v1.toNatClampNeg v2) (fun m24 => wp_X11_forgetWays sh v0 (fun m26 => Q (1 : Int32) m26) m24)))) m5))))))))) m)
abbrev M_X11_bake : Mi := (cX11_bake, 3, RX11, (Option.some FieldType.boolean), "bake", 4, 126, 0, 0)
set_option maxHeartbeats 4000000 in
set_option maxRecDepth 100000 in
theorem v_X11_bake_p34 {G : Gl} {F : Fr} {sh : Shp} {v0 : Nat} {Q : Int32 → Mem → Prop} {m : Mem} (h : X11_bake_p34 sh v0 Q m) : V G F M_X11_bake sh 0 0 (Zi G F sh Q) 34 [(0, .ref (G.1 + v0))] [] m := by
  unfold X11_bake_p34 at h
  refine v_aload_n 0 0 dX11_bake_34 rfl rfl ?_
  refine v_iconst (3 : Int32) dX11_bake_35 (by decide) ?_
  obtain ⟨o29, h⟩ := h
  refine v_cVi [.int _] mv_X11_refuse ml_RX11_121 ⟨_, _, rfl⟩ o29 rfl rfl (Nat.le_of_ble_eq_true rfl) (Nat.le_of_ble_eq_true rfl) (Nat.le_of_ble_eq_true rfl) (Nat.zero_le _) (Nat.zero_le _) dX11_bake_36 (c_X11_refuse h) (fun r27 m28 h => ?_)
  refine v_pop dX11_bake_39 rfl ?_
  refine v_iconst (0 : Int32) dX11_bake_40 (by decide) ?_
  exact v_iret dX11_bake_41 rfl (by decide) h
set_option maxHeartbeats 4000000 in
set_option maxRecDepth 100000 in
theorem c_X11_bake {l : Launch} {G : Gl} {sh : Shp} {v0 : Nat} {v1 : Int32} {v2 : Int32} {Q : Int32 → Mem → Prop} {m : Mem} (h : wp_X11_bake sh v0 v1 v2 Q m) : Cni l G yX11_bake cX11_bake 3 (Option.some FieldType.boolean) 4 126 sh [.ref (G.1 + v0), .int v1, .int v2] m Q := by
  refine con_i (ls := [(0, .ref (G.1 + v0)), (1, .int v1), (2, .int v2)]) (by decide +kernel) rfl (Nat.le_of_ble_eq_true rfl) (fun F => ?_)
  show V G F M_X11_bake sh 0 0 (Zi G F sh Q) 0 [(0, .ref (G.1 + v0)), (1, .int v1), (2, .int v2)] [] m
  unfold wp_X11_bake at h
  refine v_aload_n 0 0 dX11_bake_0 rfl rfl ?_
  obtain ⟨o1, h⟩ := h
  obtain ⟨b2, e3, h⟩ := h
  refine v_gR 11 3 dX11_bake_1 fg_RX11_35 o1 e3 ?_
  refine v_iload_n 1 1 dX11_bake_4 rfl rfl ?_
  obtain ⟨o6, h⟩ := h
  refine v_cVi [.int _] mv_X5_isFarm ml_RX11_187 ⟨_, _, rfl⟩ o6 rfl rfl (Nat.le_of_ble_eq_true rfl) (Nat.le_of_ble_eq_true rfl) (Nat.le_of_ble_eq_true rfl) (Nat.zero_le _) (Nat.zero_le _) dX11_bake_5 (c_X5_isFarm h) (fun r4 m5 h => ?_)
  refine v_if_eq 34 dX11_bake_8 (by decide) (fun hc => ?_) (fun hc => ?_)
  · replace h := Eq.mp (if_pos hc) h
    refine v_sub [0] rfl ?_
    exact v_X11_bake_p34 h
  · replace h := Eq.mp (if_neg hc) h
    refine v_iload_n 2 2 dX11_bake_11 rfl rfl ?_
    refine v_if_lt 34 dX11_bake_12 (by decide) (fun hc => ?_) (fun hc => ?_)
    · replace h := Eq.mp (if_pos hc) h
      refine v_sub [0] rfl ?_
      exact v_X11_bake_p34 h
    · replace h := Eq.mp (if_neg hc) h
      refine v_iload_n 2 2 dX11_bake_15 rfl rfl ?_
      refine v_bipush (9 : Int32) dX11_bake_16 (by decide) ?_
      refine v_icmp_gt 34 dX11_bake_18 (by decide) (fun hc => ?_) (fun hc => ?_)
      · replace h := Eq.mp (if_pos hc) h
        refine v_sub [0] rfl ?_
        exact v_X11_bake_p34 h
      · replace h := Eq.mp (if_neg hc) h
        refine v_aload_n 0 0 dX11_bake_21 rfl rfl ?_
        obtain ⟨b7, e8, h⟩ := h
        refine v_gR 11 6 dX11_bake_22 fg_RX11_54 o1 e8 ?_
        obtain ⟨o9, h⟩ := h
        obtain ⟨b10, e11, h⟩ := h
        refine v_gR 1 5 dX11_bake_25 fg_RX11_230 o9 e11 ?_
        refine v_iload_n 1 1 dX11_bake_28 rfl rfl ?_
        obtain ⟨i12, h⟩ := h
        refine v_iald dX11_bake_29 i12 ?_
        refine v_iload_n 2 2 dX11_bake_30 rfl rfl ?_
        refine v_icmp_ne 42 dX11_bake_31 (by decide) (fun hc => ?_) (fun hc => ?_)
        · replace h := Eq.mp (if_neg hc) h
          refine v_aload_n 0 0 dX11_bake_42 rfl rfl ?_
          obtain ⟨b13, e14, h⟩ := h
          refine v_gR 11 8 dX11_bake_43 fg_RX11_64 o1 e14 ?_
          refine v_aload_n 0 0 dX11_bake_46 rfl rfl ?_
          refine v_gR 11 6 dX11_bake_47 fg_RX11_54 o1 e8 ?_
          obtain ⟨o17, h⟩ := h
          refine v_cVv [.ref _] mv_X3_remember ml_RX11_319 ⟨_, _, rfl⟩ o17 rfl rfl (Nat.le_of_ble_eq_true rfl) (Nat.le_of_ble_eq_true rfl) (Nat.le_of_ble_eq_true rfl) (Nat.zero_le _) (Nat.zero_le _) dX11_bake_50 (c_X3_remember h) (fun m16 h => ?_)
          refine v_aload_n 0 0 dX11_bake_53 rfl rfl ?_
          obtain ⟨b18, e19, h⟩ := h
          refine v_gR 11 6 dX11_bake_54 fg_RX11_54 o1 e19 ?_
          obtain ⟨o20, h⟩ := h
          obtain ⟨b21, e22, h⟩ := h
          refine v_gR 1 5 dX11_bake_57 fg_RX11_230 o20 e22 ?_
          refine v_iload_n 1 1 dX11_bake_60 rfl rfl ?_
          refine v_iload_n 2 2 dX11_bake_61 rfl rfl ?_
          obtain ⟨i23, h⟩ := h
          refine v_iast dX11_bake_62 i23 ?_
          replace h := bnd_e h
          refine v_aload_n 0 0 dX11_bake_63 rfl rfl ?_
          refine v_cVv [] mv_X11_forgetWays ml_RX11_146 ⟨_, _, rfl⟩ o1 rfl rfl (Nat.le_of_ble_eq_true rfl) (Nat.le_of_ble_eq_true rfl) (Nat.le_of_ble_eq_true rfl) (Nat.zero_le _) (Nat.zero_le _) dX11_bake_64 (c_X11_forgetWays h) (fun m26 h => ?_)
          refine v_iconst (1 : Int32) dX11_bake_67 (by decide) ?_
          exact v_iret dX11_bake_68 rfl (by decide) h
        · replace h := Eq.mp (if_pos hc) h
          refine v_sub [0] rfl ?_
          exact v_X11_bake_p34 h
/-! CalledRiver.best -/
theorem dX11_best_0 : decode cX11_best 0 = .ok (.iconst (-1), 1) := by decide +kernel
theorem dX11_best_1 : decode cX11_best 1 = .ok (.istore_n 1, 1) := by decide +kernel
theorem dX11_best_2 : decode cX11_best 2 = .ok (.iconst 0, 1) := by decide +kernel
theorem dX11_best_3 : decode cX11_best 3 = .ok (.istore_n 2, 1) := by decide +kernel
theorem dX11_best_4 : decode cX11_best 4 = .ok (.iload_n 2, 1) := by decide +kernel
theorem dX11_best_5 : decode cX11_best 5 = .ok (.aload_n 0, 1) := by decide +kernel
theorem dX11_best_6 : decode cX11_best 6 = .ok (.getfield 35, 3) := by decide +kernel
theorem dX11_best_9 : decode cX11_best 9 = .ok (.getfield 161, 3) := by decide +kernel
theorem dX11_best_12 : decode cX11_best 12 = .ok (.if_icmp .ge 44, 3) := by decide +kernel
theorem dX11_best_15 : decode cX11_best 15 = .ok (.aload_n 0, 1) := by decide +kernel
theorem dX11_best_16 : decode cX11_best 16 = .ok (.iload_n 2, 1) := by decide +kernel
theorem dX11_best_17 : decode cX11_best 17 = .ok (.invokevirtual 242, 3) := by decide +kernel
theorem dX11_best_20 : decode cX11_best 20 = .ok (.getfield 252, 3) := by decide +kernel
theorem dX11_best_23 : decode cX11_best 23 = .ok (.iconst (-1), 1) := by decide +kernel
theorem dX11_best_24 : decode cX11_best 24 = .ok (.if_icmp .eq 26, 3) := by decide +kernel
theorem dX11_best_27 : decode cX11_best 27 = .ok (.iload_n 1, 1) := by decide +kernel
theorem dX11_best_28 : decode cX11_best 28 = .ok (.iconst (-1), 1) := by decide +kernel
theorem dX11_best_29 : decode cX11_best 29 = .ok (.if_icmp .eq 19, 3) := by decide +kernel
theorem dX11_best_32 : decode cX11_best 32 = .ok (.aload_n 0, 1) := by decide +kernel
theorem dX11_best_33 : decode cX11_best 33 = .ok (.iload_n 2, 1) := by decide +kernel
theorem dX11_best_34 : decode cX11_best 34 = .ok (.invokevirtual 242, 3) := by decide +kernel
theorem dX11_best_37 : decode cX11_best 37 = .ok (.aload_n 0, 1) := by decide +kernel
theorem dX11_best_38 : decode cX11_best 38 = .ok (.iload_n 1, 1) := by decide +kernel
theorem dX11_best_39 : decode cX11_best 39 = .ok (.invokevirtual 242, 3) := by decide +kernel
theorem dX11_best_42 : decode cX11_best 42 = .ok (.invokevirtual 262, 3) := by decide +kernel
theorem dX11_best_45 : decode cX11_best 45 = .ok (.ifCond .eq 5, 3) := by decide +kernel
theorem dX11_best_48 : decode cX11_best 48 = .ok (.iload_n 2, 1) := by decide +kernel
theorem dX11_best_49 : decode cX11_best 49 = .ok (.istore_n 1, 1) := by decide +kernel
theorem dX11_best_50 : decode cX11_best 50 = .ok (.iinc 2 1, 3) := by decide +kernel
theorem dX11_best_53 : decode cX11_best 53 = .ok (.goto (-49), 3) := by decide +kernel
theorem dX11_best_56 : decode cX11_best 56 = .ok (.iload_n 1, 1) := by decide +kernel
theorem dX11_best_57 : decode cX11_best 57 = .ok (.ireturn, 1) := by decide +kernel
def X11_best_p50 (sh : Shp) (v0 : Nat) (v1 : Int32) (v2 : Int32) (Q : Int32 → Mem → Prop) (K4 : Int32 → Int32 → Mem → Prop) (m : Mem) : Prop :=
  K4 v1 (v2 + (1 : Int32)) m
def X11_best_p48 (sh : Shp) (v0 : Nat) (v2 : Int32) (Q : Int32 → Mem → Prop) (K4 : Int32 → Int32 → Mem → Prop) (m : Mem) : Prop :=
  X11_best_p50 sh v0 v2 v2 Q K4 m
def X11_best_p4b (sh : Shp) (v0 : Nat) (Q : Int32 → Mem → Prop) (K4 : Int32 → Int32 → Mem → Prop) (v1 : Int32) (v2 : Int32) (m : Mem) : Prop :=
  Ob sh v0 11 ∧ ∃ b2 : Nat, m.2.2 v0 3 = some b2 ∧ (Ob sh b2 5 ∧ (if (m.1 b2 4) ≤ v2 then (Q v1 m) else (wp_X11_wayOf sh v0 v2 (fun r5 m6 => Ob sh r5 10 ∧ (if (m6.1 r5 2) = (-1 : Int32) then (X11_best_p50 sh v0 v1 v2 Q K4 m6) else (if v1 = (-1 : Int32) then (X11_best_p48 sh v0 v2 Q K4 m6) else (wp_X11_wayOf sh v0 v2 (fun r8 m9 => wp_X11_wayOf sh v0 v1 (fun r10 m11 => Ob sh r8 10 ∧ wp_X10_isBetterThan sh r8 r10 (fun r12 m13 => if r12 = 0 then (X11_best_p50 sh v0 v1 v2 Q K4 m13) else (X11_best_p48 sh v0 v2 Q K4 m13)) m11) m9) m6)))) m)))
def X11_best_p4n (sh : Shp) (v0 : Nat) (Q : Int32 → Mem → Prop) : Nat → Int32 → Int32 → Mem → Prop
  | 0 => fun _ _ _ => False
  | n + 1 => X11_best_p4b sh v0 Q (X11_best_p4n sh v0 Q n)
def X11_best_p4 (sh : Shp) (v0 : Nat) (Q : Int32 → Mem → Prop) (v1 : Int32) (v2 : Int32) (m : Mem) : Prop := ∃ n, X11_best_p4n sh v0 Q n v1 v2 m
def wp_X11_best (sh : Shp) (v0 : Nat) (Q : Int32 → Mem → Prop) (m : Mem) : Prop :=
  X11_best_p4 sh v0 Q (-1 : Int32) (0 : Int32) m
abbrev M_X11_best : Mi := (cX11_best, 3, RX11, (Option.some FieldType.int), "best", 7, 209, 0, 0)
set_option maxHeartbeats 4000000 in
set_option maxRecDepth 100000 in
theorem v_X11_best_p50 {G : Gl} {F : Fr} {sh : Shp} {v0 : Nat} {v1 : Int32} {v2 : Int32} {Q : Int32 → Mem → Prop} {K4 : Int32 → Int32 → Mem → Prop} {m : Mem} (hK4 : ∀ (x1 : Int32) (x2 : Int32) (m : Mem), K4 x1 x2 m → V G F M_X11_best sh 0 0 (Zi G F sh Q) 4 [(0, .ref (G.1 + v0)), (1, .int x1), (2, .int x2)] [] m) (h : X11_best_p50 sh v0 v1 v2 Q K4 m) : V G F M_X11_best sh 0 0 (Zi G F sh Q) 50 [(0, .ref (G.1 + v0)), (1, .int v1), (2, .int v2)] [] m := by
  unfold X11_best_p50 at h
  refine v_iinc (ls' := [(2, .int _), (0, .ref _), (1, .int _)]) 2 2 dX11_best_50 rfl (congrArg (HAdd.hAdd _) (by decide : Int32.ofInt (1) = (1 : Int32))) (Nat.le_of_ble_eq_true rfl) rfl ?_
  refine v_goto 4 dX11_best_53 (by decide) ?_
  refine v_sub [1, 2, 0] rfl ?_
  exact hK4 _ _ _ h
set_option maxHeartbeats 4000000 in
set_option maxRecDepth 100000 in
theorem v_X11_best_p48 {G : Gl} {F : Fr} {sh : Shp} {v0 : Nat} {v2 : Int32} {Q : Int32 → Mem → Prop} {K4 : Int32 → Int32 → Mem → Prop} {m : Mem} (hK4 : ∀ (x1 : Int32) (x2 : Int32) (m : Mem), K4 x1 x2 m → V G F M_X11_best sh 0 0 (Zi G F sh Q) 4 [(0, .ref (G.1 + v0)), (1, .int x1), (2, .int x2)] [] m) (h : X11_best_p48 sh v0 v2 Q K4 m) : V G F M_X11_best sh 0 0 (Zi G F sh Q) 48 [(0, .ref (G.1 + v0)), (2, .int v2)] [] m := by
  unfold X11_best_p48 at h
  refine v_iload_n 2 1 dX11_best_48 rfl rfl ?_
  refine v_istore_n (ls' := [(1, .int _), (0, .ref _), (2, .int _)]) 1 dX11_best_49 rfl (Nat.le_of_ble_eq_true rfl) rfl ?_
  refine v_sub [1, 0, 2] rfl ?_
  exact v_X11_best_p50 hK4 h
set_option maxHeartbeats 4000000 in
set_option maxRecDepth 100000 in
theorem v_X11_best_p4b {G : Gl} {F : Fr} {sh : Shp} {v0 : Nat} {v1 : Int32} {v2 : Int32} {Q : Int32 → Mem → Prop} {K4 : Int32 → Int32 → Mem → Prop} {m : Mem} (hK4 : ∀ (x1 : Int32) (x2 : Int32) (m : Mem), K4 x1 x2 m → V G F M_X11_best sh 0 0 (Zi G F sh Q) 4 [(0, .ref (G.1 + v0)), (1, .int x1), (2, .int x2)] [] m) (h : X11_best_p4b sh v0 Q K4 v1 v2 m) : V G F M_X11_best sh 0 0 (Zi G F sh Q) 4 [(0, .ref (G.1 + v0)), (1, .int v1), (2, .int v2)] [] m := by
  unfold X11_best_p4b at h
  refine v_iload_n 2 2 dX11_best_4 rfl rfl ?_
  refine v_aload_n 0 0 dX11_best_5 rfl rfl ?_
  obtain ⟨o1, h⟩ := h
  obtain ⟨b2, e3, h⟩ := h
  refine v_gR 11 3 dX11_best_6 fg_RX11_35 o1 e3 ?_
  obtain ⟨o4, h⟩ := h
  refine v_gI 5 4 dX11_best_9 fg_RX11_161 o4 ?_
  refine v_icmp_ge 56 dX11_best_12 (by decide) (fun hc => ?_) (fun hc => ?_)
  · replace h := Eq.mp (if_pos hc) h
    refine v_iload_n 1 1 dX11_best_56 rfl rfl ?_
    exact v_iret dX11_best_57 rfl rfl h
  · replace h := Eq.mp (if_neg hc) h
    refine v_aload_n 0 0 dX11_best_15 rfl rfl ?_
    refine v_iload_n 2 2 dX11_best_16 rfl rfl ?_
    refine v_cVr [.int _] mv_X11_wayOf ml_RX11_242 ⟨_, _, rfl⟩ o1 rfl rfl (Nat.le_of_ble_eq_true rfl) (Nat.le_of_ble_eq_true rfl) (Nat.le_of_ble_eq_true rfl) (Nat.zero_le _) (Nat.zero_le _) dX11_best_17 (c_X11_wayOf h) (fun r5 m6 h => ?_)
    obtain ⟨o7, h⟩ := h
    refine v_gI 10 2 dX11_best_20 fg_RX11_252 o7 ?_
    refine v_iconst (-1 : Int32) dX11_best_23 (by decide) ?_
    refine v_icmp_eq 50 dX11_best_24 (by decide) (fun hc => ?_) (fun hc => ?_)
    · replace h := Eq.mp (if_pos hc) h
      refine v_sub [0, 1, 2] rfl ?_
      exact v_X11_best_p50 hK4 h
    · replace h := Eq.mp (if_neg hc) h
      refine v_iload_n 1 1 dX11_best_27 rfl rfl ?_
      refine v_iconst (-1 : Int32) dX11_best_28 (by decide) ?_
      refine v_icmp_eq 48 dX11_best_29 (by decide) (fun hc => ?_) (fun hc => ?_)
      · replace h := Eq.mp (if_pos hc) h
        refine v_sub [0, 2] rfl ?_
        exact v_X11_best_p48 hK4 h
      · replace h := Eq.mp (if_neg hc) h
        refine v_aload_n 0 0 dX11_best_32 rfl rfl ?_
        refine v_iload_n 2 2 dX11_best_33 rfl rfl ?_
        refine v_cVr [.int _] mv_X11_wayOf ml_RX11_242 ⟨_, _, rfl⟩ o1 rfl rfl (Nat.le_of_ble_eq_true rfl) (Nat.le_of_ble_eq_true rfl) (Nat.le_of_ble_eq_true rfl) (Nat.zero_le _) (Nat.zero_le _) dX11_best_34 (c_X11_wayOf h) (fun r8 m9 h => ?_)
        refine v_aload_n 0 0 dX11_best_37 rfl rfl ?_
        refine v_iload_n 1 1 dX11_best_38 rfl rfl ?_
        refine v_cVr [.int _] mv_X11_wayOf ml_RX11_242 ⟨_, _, rfl⟩ o1 rfl rfl (Nat.le_of_ble_eq_true rfl) (Nat.le_of_ble_eq_true rfl) (Nat.le_of_ble_eq_true rfl) (Nat.zero_le _) (Nat.zero_le _) dX11_best_39 (c_X11_wayOf h) (fun r10 m11 h => ?_)
        obtain ⟨o14, h⟩ := h
        refine v_cVi [.ref _] mv_X10_isBetterThan ml_RX11_262 ⟨_, _, rfl⟩ o14 rfl rfl (Nat.le_of_ble_eq_true rfl) (Nat.le_of_ble_eq_true rfl) (Nat.le_of_ble_eq_true rfl) (Nat.zero_le _) (Nat.zero_le _) dX11_best_42 (c_X10_isBetterThan h) (fun r12 m13 h => ?_)
        refine v_if_eq 50 dX11_best_45 (by decide) (fun hc => ?_) (fun hc => ?_)
        · replace h := Eq.mp (if_pos hc) h
          refine v_sub [0, 1, 2] rfl ?_
          exact v_X11_best_p50 hK4 h
        · replace h := Eq.mp (if_neg hc) h
          refine v_sub [0, 2] rfl ?_
          exact v_X11_best_p48 hK4 h
set_option maxHeartbeats 4000000 in
set_option maxRecDepth 100000 in
theorem v_X11_best_p4 {G : Gl} {F : Fr} {sh : Shp} {v0 : Nat} {v1 : Int32} {v2 : Int32} {Q : Int32 → Mem → Prop} {m : Mem} (h : X11_best_p4 sh v0 Q v1 v2 m) : V G F M_X11_best sh 0 0 (Zi G F sh Q) 4 [(0, .ref (G.1 + v0)), (1, .int v1), (2, .int v2)] [] m := by
  obtain ⟨n, h⟩ := h
  induction n generalizing v1 v2 m with
  | zero => exact h.elim
  | succ n ih => exact v_X11_best_p4b (fun _ _ _ h => ih h) h
set_option maxHeartbeats 4000000 in
set_option maxRecDepth 100000 in
theorem c_X11_best {l : Launch} {G : Gl} {sh : Shp} {v0 : Nat} {Q : Int32 → Mem → Prop} {m : Mem} (h : wp_X11_best sh v0 Q m) : Cni l G yX11_best cX11_best 3 (Option.some FieldType.int) 7 209 sh [.ref (G.1 + v0)] m Q := by
  refine con_i (ls := [(0, .ref (G.1 + v0))]) (by decide +kernel) rfl (Nat.le_of_ble_eq_true rfl) (fun F => ?_)
  show V G F M_X11_best sh 0 0 (Zi G F sh Q) 0 [(0, .ref (G.1 + v0))] [] m
  unfold wp_X11_best at h
  refine v_iconst (-1 : Int32) dX11_best_0 (by decide) ?_
  refine v_istore_n (ls' := [(1, .int _), (0, .ref _)]) 1 dX11_best_1 rfl (Nat.le_of_ble_eq_true rfl) rfl ?_
  refine v_iconst (0 : Int32) dX11_best_2 (by decide) ?_
  refine v_istore_n (ls' := [(2, .int _), (1, .int _), (0, .ref _)]) 2 dX11_best_3 rfl (Nat.le_of_ble_eq_true rfl) rfl ?_
  refine v_sub [2, 1, 0] rfl ?_
  exact v_X11_best_p4 h
/-! CalledRiver.bid -/
theorem dX11_bid_0 : decode cX11_bid 0 = .ok (.aload_n 0, 1) := by decide +kernel
theorem dX11_bid_1 : decode cX11_bid 1 = .ok (.getfield 35, 3) := by decide +kernel
theorem dX11_bid_4 : decode cX11_bid 4 = .ok (.iload_n 1, 1) := by decide +kernel
theorem dX11_bid_5 : decode cX11_bid 5 = .ok (.invokevirtual 187, 3) := by decide +kernel
theorem dX11_bid_8 : decode cX11_bid 8 = .ok (.ifCond .eq 14, 3) := by decide +kernel
theorem dX11_bid_11 : decode cX11_bid 11 = .ok (.aload_n 0, 1) := by decide +kernel
theorem dX11_bid_12 : decode cX11_bid 12 = .ok (.getfield 35, 3) := by decide +kernel
theorem dX11_bid_15 : decode cX11_bid 15 = .ok (.iload_n 2, 1) := by decide +kernel
theorem dX11_bid_16 : decode cX11_bid 16 = .ok (.invokevirtual 197, 3) := by decide +kernel
theorem dX11_bid_19 : decode cX11_bid 19 = .ok (.ifCond .ne 5, 3) := by decide +kernel
theorem dX11_bid_22 : decode cX11_bid 22 = .ok (.iconst (-1), 1) := by decide +kernel
theorem dX11_bid_23 : decode cX11_bid 23 = .ok (.ireturn, 1) := by decide +kernel
theorem dX11_bid_24 : decode cX11_bid 24 = .ok (.aload_n 0, 1) := by decide +kernel
theorem dX11_bid_25 : decode cX11_bid 25 = .ok (.getfield 58, 3) := by decide +kernel
theorem dX11_bid_28 : decode cX11_bid 28 = .ok (.aload_n 0, 1) := by decide +kernel
theorem dX11_bid_29 : decode cX11_bid 29 = .ok (.getfield 54, 3) := by decide +kernel
theorem dX11_bid_32 : decode cX11_bid 32 = .ok (.invokevirtual 278, 3) := by decide +kernel
theorem dX11_bid_35 : decode cX11_bid 35 = .ok (.iconst 0, 1) := by decide +kernel
theorem dX11_bid_36 : decode cX11_bid 36 = .ok (.istore_n 3, 1) := by decide +kernel
theorem dX11_bid_37 : decode cX11_bid 37 = .ok (.iload_n 3, 1) := by decide +kernel
theorem dX11_bid_38 : decode cX11_bid 38 = .ok (.bipush 9, 2) := by decide +kernel
theorem dX11_bid_40 : decode cX11_bid 40 = .ok (.if_icmp .gt 48, 3) := by decide +kernel
theorem dX11_bid_43 : decode cX11_bid 43 = .ok (.aload_n 0, 1) := by decide +kernel
theorem dX11_bid_44 : decode cX11_bid 44 = .ok (.getfield 58, 3) := by decide +kernel
theorem dX11_bid_47 : decode cX11_bid 47 = .ok (.getfield 230, 3) := by decide +kernel
theorem dX11_bid_50 : decode cX11_bid 50 = .ok (.iload_n 1, 1) := by decide +kernel
theorem dX11_bid_51 : decode cX11_bid 51 = .ok (.iload_n 3, 1) := by decide +kernel
theorem dX11_bid_52 : decode cX11_bid 52 = .ok (.iastore, 1) := by decide +kernel
theorem dX11_bid_53 : decode cX11_bid 53 = .ok (.aload_n 0, 1) := by decide +kernel
theorem dX11_bid_54 : decode cX11_bid 54 = .ok (.getfield 89, 3) := by decide +kernel
theorem dX11_bid_57 : decode cX11_bid 57 = .ok (.aload_n 0, 1) := by decide +kernel
theorem dX11_bid_58 : decode cX11_bid 58 = .ok (.getfield 35, 3) := by decide +kernel
theorem dX11_bid_61 : decode cX11_bid 61 = .ok (.aload_n 0, 1) := by decide +kernel
theorem dX11_bid_62 : decode cX11_bid 62 = .ok (.getfield 58, 3) := by decide +kernel
theorem dX11_bid_65 : decode cX11_bid 65 = .ok (.iload_n 2, 1) := by decide +kernel
theorem dX11_bid_66 : decode cX11_bid 66 = .ok (.invokevirtual 282, 3) := by decide +kernel
theorem dX11_bid_69 : decode cX11_bid 69 = .ok (.aload_n 0, 1) := by decide +kernel
theorem dX11_bid_70 : decode cX11_bid 70 = .ok (.getfield 89, 3) := by decide +kernel
theorem dX11_bid_73 : decode cX11_bid 73 = .ok (.iload_n 1, 1) := by decide +kernel
theorem dX11_bid_74 : decode cX11_bid 74 = .ok (.invokevirtual 286, 3) := by decide +kernel
theorem dX11_bid_77 : decode cX11_bid 77 = .ok (.ifCond .eq 5, 3) := by decide +kernel
theorem dX11_bid_80 : decode cX11_bid 80 = .ok (.iload_n 3, 1) := by decide +kernel
theorem dX11_bid_81 : decode cX11_bid 81 = .ok (.ireturn, 1) := by decide +kernel
theorem dX11_bid_82 : decode cX11_bid 82 = .ok (.iinc 3 1, 3) := by decide +kernel
theorem dX11_bid_85 : decode cX11_bid 85 = .ok (.goto (-48), 3) := by decide +kernel
theorem dX11_bid_88 : decode cX11_bid 88 = .ok (.iconst (-1), 1) := by decide +kernel
theorem dX11_bid_89 : decode cX11_bid 89 = .ok (.ireturn, 1) := by decide +kernel
def X11_bid_p37b (sh : Shp) (v0 : Nat) (v1 : Int32) (v2 : Int32) (Q : Int32 → Mem → Prop) (K37 : Int32 → Mem → Prop) (v3 : Int32) (m : Mem) : Prop :=
  if (9 : Int32) < v3 then (Q (-1 : Int32) m) else (Ob sh v0 11 ∧ ∃ b20 : Nat, m.2.2 v0 7 = some b20 ∧ (Ob sh b20 1 ∧ ∃ b23 : Nat, m.2.2 b20 5 = some b23 ∧ (Ix sh b23 100 v1 ∧ bnd (sI m b23 v1.toNatClampNeg v3) (fun m26 => ∃ b27 : Nat, m26.2.2 v0 12 = some b27 ∧ (∃ b29 : Nat, m26.2.2 v0 3 = some b29 ∧ (Ob sh b27 10 ∧ wp_X10_lead sh b27 b29 b20 v2 (fun m32 => ∃ b34 : Nat, m32.2.2 v0 12 = some b34 ∧ (Ob sh b34 10 ∧ wp_X10_waters sh b34 v1 (fun r36 m37 => if r36 = 0 then (K37 (v3 + (1 : Int32)) m37) else (Q v3 m37)) m32)) m26))))))
def X11_bid_p37n (sh : Shp) (v0 : Nat) (v1 : Int32) (v2 : Int32) (Q : Int32 → Mem → Prop) : Nat → Int32 → Mem → Prop
  | 0 => fun _ _ => False
  | n + 1 => X11_bid_p37b sh v0 v1 v2 Q (X11_bid_p37n sh v0 v1 v2 Q n)
def X11_bid_p37 (sh : Shp) (v0 : Nat) (v1 : Int32) (v2 : Int32) (Q : Int32 → Mem → Prop) (v3 : Int32) (m : Mem) : Prop := ∃ n, X11_bid_p37n sh v0 v1 v2 Q n v3 m
def wp_X11_bid (sh : Shp) (v0 : Nat) (v1 : Int32) (v2 : Int32) (Q : Int32 → Mem → Prop) (m : Mem) : Prop :=
  Ob sh v0 11 ∧ ∃ b2 : Nat, m.2.2 v0 3 = some b2 ∧ (Ob sh b2 5 ∧ wp_X5_isFarm sh b2 v1 (fun r4 m5 => if r4 = 0 then (Q (-1 : Int32) m5) else (∃ b7 : Nat, m5.2.2 v0 3 = some b7 ∧ (Ob sh b7 5 ∧ wp_X5_isCaller sh b7 v2 (fun r9 m10 => if r9 = 0 then (Q (-1 : Int32) m10) else (∃ b12 : Nat, m10.2.2 v0 7 = some b12 ∧ (∃ b14 : Nat, m10.2.2 v0 6 = some b14 ∧ (Ob sh b12 1 ∧ wp_X1_copy sh b12 b14 (fun m17 => X11_bid_p37 sh v0 v1 v2 Q (0 : Int32) m17) m10)))) m5))) m)
abbrev M_X11_bid : Mi := (cX11_bid, 4, RX11, (Option.some FieldType.int), "bid", 6, 187, 0, 0)
set_option maxHeartbeats 4000000 in
set_option maxRecDepth 100000 in
theorem v_X11_bid_p37b {G : Gl} {F : Fr} {sh : Shp} {v0 : Nat} {v1 : Int32} {v2 : Int32} {v3 : Int32} {Q : Int32 → Mem → Prop} {K37 : Int32 → Mem → Prop} {m : Mem} (hK37 : ∀ (x3 : Int32) (m : Mem), K37 x3 m → V G F M_X11_bid sh 0 0 (Zi G F sh Q) 37 [(0, .ref (G.1 + v0)), (1, .int v1), (2, .int v2), (3, .int x3)] [] m) (h : X11_bid_p37b sh v0 v1 v2 Q K37 v3 m) : V G F M_X11_bid sh 0 0 (Zi G F sh Q) 37 [(0, .ref (G.1 + v0)), (1, .int v1), (2, .int v2), (3, .int v3)] [] m := by
  unfold X11_bid_p37b at h
  refine v_iload_n 3 3 dX11_bid_37 rfl rfl ?_
  refine v_bipush (9 : Int32) dX11_bid_38 (by decide) ?_
  refine v_icmp_gt 88 dX11_bid_40 (by decide) (fun hc => ?_) (fun hc => ?_)
  · replace h := Eq.mp (if_pos hc) h
    refine v_iconst (-1 : Int32) dX11_bid_88 (by decide) ?_
    exact v_iret dX11_bid_89 rfl rfl h
  · replace h := Eq.mp (if_neg hc) h
    refine v_aload_n 0 0 dX11_bid_43 rfl rfl ?_
    obtain ⟨o19, h⟩ := h
    obtain ⟨b20, e21, h⟩ := h
    refine v_gR 11 7 dX11_bid_44 fg_RX11_58 o19 e21 ?_
    obtain ⟨o22, h⟩ := h
    obtain ⟨b23, e24, h⟩ := h
    refine v_gR 1 5 dX11_bid_47 fg_RX11_230 o22 e24 ?_
    refine v_iload_n 1 1 dX11_bid_50 rfl rfl ?_
    refine v_iload_n 3 3 dX11_bid_51 rfl rfl ?_
    obtain ⟨i25, h⟩ := h
    refine v_iast dX11_bid_52 i25 ?_
    replace h := bnd_e h
    refine v_aload_n 0 0 dX11_bid_53 rfl rfl ?_
    obtain ⟨b27, e28, h⟩ := h
    refine v_gR 11 12 dX11_bid_54 fg_RX11_89 o19 e28 ?_
    refine v_aload_n 0 0 dX11_bid_57 rfl rfl ?_
    obtain ⟨b29, e30, h⟩ := h
    refine v_gR 11 3 dX11_bid_58 fg_RX11_35 o19 e30 ?_
    refine v_aload_n 0 0 dX11_bid_61 rfl rfl ?_
    refine v_gR 11 7 dX11_bid_62 fg_RX11_58 o19 e21 ?_
    refine v_iload_n 2 2 dX11_bid_65 rfl rfl ?_
    obtain ⟨o33, h⟩ := h
    refine v_cVv [.ref _, .ref _, .int _] mv_X10_lead ml_RX11_282 ⟨_, _, rfl⟩ o33 rfl rfl (Nat.le_of_ble_eq_true rfl) (Nat.le_of_ble_eq_true rfl) (Nat.le_of_ble_eq_true rfl) (Nat.zero_le _) (Nat.zero_le _) dX11_bid_66 (c_X10_lead h) (fun m32 h => ?_)
    refine v_aload_n 0 0 dX11_bid_69 rfl rfl ?_
    obtain ⟨b34, e35, h⟩ := h
    refine v_gR 11 12 dX11_bid_70 fg_RX11_89 o19 e35 ?_
    refine v_iload_n 1 1 dX11_bid_73 rfl rfl ?_
    obtain ⟨o38, h⟩ := h
    refine v_cVi [.int _] mv_X10_waters ml_RX11_286 ⟨_, _, rfl⟩ o38 rfl rfl (Nat.le_of_ble_eq_true rfl) (Nat.le_of_ble_eq_true rfl) (Nat.le_of_ble_eq_true rfl) (Nat.zero_le _) (Nat.zero_le _) dX11_bid_74 (c_X10_waters h) (fun r36 m37 h => ?_)
    refine v_if_eq 82 dX11_bid_77 (by decide) (fun hc => ?_) (fun hc => ?_)
    · replace h := Eq.mp (if_pos hc) h
      refine v_iinc (ls' := [(3, .int _), (0, .ref _), (1, .int _), (2, .int _)]) 3 3 dX11_bid_82 rfl (congrArg (HAdd.hAdd _) (by decide : Int32.ofInt (1) = (1 : Int32))) (Nat.le_of_ble_eq_true rfl) rfl ?_
      refine v_goto 37 dX11_bid_85 (by decide) ?_
      refine v_sub [1, 2, 3, 0] rfl ?_
      exact hK37 _ _ h
    · replace h := Eq.mp (if_neg hc) h
      refine v_iload_n 3 3 dX11_bid_80 rfl rfl ?_
      exact v_iret dX11_bid_81 rfl rfl h
set_option maxHeartbeats 4000000 in
set_option maxRecDepth 100000 in
theorem v_X11_bid_p37 {G : Gl} {F : Fr} {sh : Shp} {v0 : Nat} {v1 : Int32} {v2 : Int32} {v3 : Int32} {Q : Int32 → Mem → Prop} {m : Mem} (h : X11_bid_p37 sh v0 v1 v2 Q v3 m) : V G F M_X11_bid sh 0 0 (Zi G F sh Q) 37 [(0, .ref (G.1 + v0)), (1, .int v1), (2, .int v2), (3, .int v3)] [] m := by
  obtain ⟨n, h⟩ := h
  induction n generalizing v3 m with
  | zero => exact h.elim
  | succ n ih => exact v_X11_bid_p37b (fun _ _ h => ih h) h
set_option maxHeartbeats 4000000 in
set_option maxRecDepth 100000 in
theorem c_X11_bid {l : Launch} {G : Gl} {sh : Shp} {v0 : Nat} {v1 : Int32} {v2 : Int32} {Q : Int32 → Mem → Prop} {m : Mem} (h : wp_X11_bid sh v0 v1 v2 Q m) : Cni l G yX11_bid cX11_bid 4 (Option.some FieldType.int) 6 187 sh [.ref (G.1 + v0), .int v1, .int v2] m Q := by
  refine con_i (ls := [(0, .ref (G.1 + v0)), (1, .int v1), (2, .int v2)]) (by decide +kernel) rfl (Nat.le_of_ble_eq_true rfl) (fun F => ?_)
  show V G F M_X11_bid sh 0 0 (Zi G F sh Q) 0 [(0, .ref (G.1 + v0)), (1, .int v1), (2, .int v2)] [] m
  unfold wp_X11_bid at h
  refine v_aload_n 0 0 dX11_bid_0 rfl rfl ?_
  obtain ⟨o1, h⟩ := h
  obtain ⟨b2, e3, h⟩ := h
  refine v_gR 11 3 dX11_bid_1 fg_RX11_35 o1 e3 ?_
  refine v_iload_n 1 1 dX11_bid_4 rfl rfl ?_
  obtain ⟨o6, h⟩ := h
  refine v_cVi [.int _] mv_X5_isFarm ml_RX11_187 ⟨_, _, rfl⟩ o6 rfl rfl (Nat.le_of_ble_eq_true rfl) (Nat.le_of_ble_eq_true rfl) (Nat.le_of_ble_eq_true rfl) (Nat.zero_le _) (Nat.zero_le _) dX11_bid_5 (c_X5_isFarm h) (fun r4 m5 h => ?_)
  refine v_if_eq 22 dX11_bid_8 (by decide) (fun hc => ?_) (fun hc => ?_)
  · replace h := Eq.mp (if_pos hc) h
    refine v_iconst (-1 : Int32) dX11_bid_22 (by decide) ?_
    exact v_iret dX11_bid_23 rfl rfl h
  · replace h := Eq.mp (if_neg hc) h
    refine v_aload_n 0 0 dX11_bid_11 rfl rfl ?_
    obtain ⟨b7, e8, h⟩ := h
    refine v_gR 11 3 dX11_bid_12 fg_RX11_35 o1 e8 ?_
    refine v_iload_n 2 2 dX11_bid_15 rfl rfl ?_
    obtain ⟨o11, h⟩ := h
    refine v_cVi [.int _] mv_X5_isCaller ml_RX11_197 ⟨_, _, rfl⟩ o11 rfl rfl (Nat.le_of_ble_eq_true rfl) (Nat.le_of_ble_eq_true rfl) (Nat.le_of_ble_eq_true rfl) (Nat.zero_le _) (Nat.zero_le _) dX11_bid_16 (c_X5_isCaller h) (fun r9 m10 h => ?_)
    refine v_if_ne 24 dX11_bid_19 (by decide) (fun hc => ?_) (fun hc => ?_)
    · replace h := Eq.mp (if_neg hc) h
      refine v_aload_n 0 0 dX11_bid_24 rfl rfl ?_
      obtain ⟨b12, e13, h⟩ := h
      refine v_gR 11 7 dX11_bid_25 fg_RX11_58 o1 e13 ?_
      refine v_aload_n 0 0 dX11_bid_28 rfl rfl ?_
      obtain ⟨b14, e15, h⟩ := h
      refine v_gR 11 6 dX11_bid_29 fg_RX11_54 o1 e15 ?_
      obtain ⟨o18, h⟩ := h
      refine v_cVv [.ref _] mv_X1_copy ml_RX11_278 ⟨_, _, rfl⟩ o18 rfl rfl (Nat.le_of_ble_eq_true rfl) (Nat.le_of_ble_eq_true rfl) (Nat.le_of_ble_eq_true rfl) (Nat.zero_le _) (Nat.zero_le _) dX11_bid_32 (c_X1_copy h) (fun m17 h => ?_)
      refine v_iconst (0 : Int32) dX11_bid_35 (by decide) ?_
      refine v_istore_n (ls' := [(3, .int _), (0, .ref _), (1, .int _), (2, .int _)]) 3 dX11_bid_36 rfl (Nat.le_of_ble_eq_true rfl) rfl ?_
      refine v_sub [1, 2, 3, 0] rfl ?_
      exact v_X11_bid_p37 h
    · replace h := Eq.mp (if_pos hc) h
      refine v_iconst (-1 : Int32) dX11_bid_22 (by decide) ?_
      exact v_iret dX11_bid_23 rfl rfl h
/-! CalledRiver.caller -/
theorem dX11_caller_0 : decode cX11_caller 0 = .ok (.aload_n 0, 1) := by decide +kernel
theorem dX11_caller_1 : decode cX11_caller 1 = .ok (.getfield 35, 3) := by decide +kernel
theorem dX11_caller_4 : decode cX11_caller 4 = .ok (.iload_n 1, 1) := by decide +kernel
theorem dX11_caller_5 : decode cX11_caller 5 = .ok (.invokevirtual 197, 3) := by decide +kernel
theorem dX11_caller_8 : decode cX11_caller 8 = .ok (.ifCond .ne 5, 3) := by decide +kernel
theorem dX11_caller_11 : decode cX11_caller 11 = .ok (.iconst (-1), 1) := by decide +kernel
theorem dX11_caller_12 : decode cX11_caller 12 = .ok (.ireturn, 1) := by decide +kernel
theorem dX11_caller_13 : decode cX11_caller 13 = .ok (.iload_n 2, 1) := by decide +kernel
theorem dX11_caller_14 : decode cX11_caller 14 = .ok (.ifCond .ne 15, 3) := by decide +kernel
theorem dX11_caller_17 : decode cX11_caller 17 = .ok (.aload_n 0, 1) := by decide +kernel
theorem dX11_caller_18 : decode cX11_caller 18 = .ok (.getfield 35, 3) := by decide +kernel
theorem dX11_caller_21 : decode cX11_caller 21 = .ok (.getfield 233, 3) := by decide +kernel
theorem dX11_caller_24 : decode cX11_caller 24 = .ok (.iload_n 1, 1) := by decide +kernel
theorem dX11_caller_25 : decode cX11_caller 25 = .ok (.iaload, 1) := by decide +kernel
theorem dX11_caller_26 : decode cX11_caller 26 = .ok (.goto 21, 3) := by decide +kernel
theorem dX11_caller_29 : decode cX11_caller 29 = .ok (.iload_n 2, 1) := by decide +kernel
theorem dX11_caller_30 : decode cX11_caller 30 = .ok (.iconst 1, 1) := by decide +kernel
theorem dX11_caller_31 : decode cX11_caller 31 = .ok (.if_icmp .ne 15, 3) := by decide +kernel
theorem dX11_caller_34 : decode cX11_caller 34 = .ok (.aload_n 0, 1) := by decide +kernel
theorem dX11_caller_35 : decode cX11_caller 35 = .ok (.getfield 35, 3) := by decide +kernel
theorem dX11_caller_38 : decode cX11_caller 38 = .ok (.getfield 236, 3) := by decide +kernel
theorem dX11_caller_41 : decode cX11_caller 41 = .ok (.iload_n 1, 1) := by decide +kernel
theorem dX11_caller_42 : decode cX11_caller 42 = .ok (.iaload, 1) := by decide +kernel
theorem dX11_caller_43 : decode cX11_caller 43 = .ok (.goto 4, 3) := by decide +kernel
theorem dX11_caller_46 : decode cX11_caller 46 = .ok (.iconst (-1), 1) := by decide +kernel
theorem dX11_caller_47 : decode cX11_caller 47 = .ok (.ireturn, 1) := by decide +kernel
def wp_X11_caller (sh : Shp) (v0 : Nat) (v1 : Int32) (v2 : Int32) (Q : Int32 → Mem → Prop) (m : Mem) : Prop :=
  Ob sh v0 11 ∧ ∃ b2 : Nat, m.2.2 v0 3 = some b2 ∧ (Ob sh b2 5 ∧ wp_X5_isCaller sh b2 v1 (fun r4 m5 => if r4 = 0 then (Q (-1 : Int32) m5) else (if v2 = 0 then (∃ b13 : Nat, m5.2.2 v0 3 = some b13 ∧ (Ob sh b13 5 ∧ ∃ b16 : Nat, m5.2.2 b13 13 = some b16 ∧ (Ix sh b16 100 v1 ∧ (Q (m5.1 b16 v1.toNatClampNeg) m5)))) else (if v2 = (1 : Int32) then (∃ b7 : Nat, m5.2.2 v0 3 = some b7 ∧ (Ob sh b7 5 ∧ ∃ b10 : Nat, m5.2.2 b7 14 = some b10 ∧ (Ix sh b10 100 v1 ∧ (Q (m5.1 b10 v1.toNatClampNeg) m5)))) else (Q (-1 : Int32) m5)))) m)
abbrev M_X11_caller : Mi := (cX11_caller, 3, RX11, (Option.some FieldType.int), "caller", 2, 81, 0, 0)
set_option maxHeartbeats 4000000 in
set_option maxRecDepth 100000 in
theorem c_X11_caller {l : Launch} {G : Gl} {sh : Shp} {v0 : Nat} {v1 : Int32} {v2 : Int32} {Q : Int32 → Mem → Prop} {m : Mem} (h : wp_X11_caller sh v0 v1 v2 Q m) : Cni l G yX11_caller cX11_caller 3 (Option.some FieldType.int) 2 81 sh [.ref (G.1 + v0), .int v1, .int v2] m Q := by
  refine con_i (ls := [(0, .ref (G.1 + v0)), (1, .int v1), (2, .int v2)]) (by decide +kernel) rfl (Nat.le_of_ble_eq_true rfl) (fun F => ?_)
  show V G F M_X11_caller sh 0 0 (Zi G F sh Q) 0 [(0, .ref (G.1 + v0)), (1, .int v1), (2, .int v2)] [] m
  unfold wp_X11_caller at h
  refine v_aload_n 0 0 dX11_caller_0 rfl rfl ?_
  obtain ⟨o1, h⟩ := h
  obtain ⟨b2, e3, h⟩ := h
  refine v_gR 11 3 dX11_caller_1 fg_RX11_35 o1 e3 ?_
  refine v_iload_n 1 1 dX11_caller_4 rfl rfl ?_
  obtain ⟨o6, h⟩ := h
  refine v_cVi [.int _] mv_X5_isCaller ml_RX11_197 ⟨_, _, rfl⟩ o6 rfl rfl (Nat.le_of_ble_eq_true rfl) (Nat.le_of_ble_eq_true rfl) (Nat.le_of_ble_eq_true rfl) (Nat.zero_le _) (Nat.zero_le _) dX11_caller_5 (c_X5_isCaller h) (fun r4 m5 h => ?_)
  refine v_if_ne 13 dX11_caller_8 (by decide) (fun hc => ?_) (fun hc => ?_)
  · replace h := Eq.mp (if_neg hc) h
    refine v_iload_n 2 2 dX11_caller_13 rfl rfl ?_
    refine v_if_ne 29 dX11_caller_14 (by decide) (fun hc => ?_) (fun hc => ?_)
    · replace h := Eq.mp (if_neg hc) h
      refine v_iload_n 2 2 dX11_caller_29 rfl rfl ?_
      refine v_iconst (1 : Int32) dX11_caller_30 (by decide) ?_
      refine v_icmp_ne 46 dX11_caller_31 (by decide) (fun hc => ?_) (fun hc => ?_)
      · replace h := Eq.mp (if_neg hc) h
        refine v_iconst (-1 : Int32) dX11_caller_46 (by decide) ?_
        exact v_iret dX11_caller_47 rfl rfl h
      · replace h := Eq.mp (if_pos hc) h
        refine v_aload_n 0 0 dX11_caller_34 rfl rfl ?_
        obtain ⟨b7, e8, h⟩ := h
        refine v_gR 11 3 dX11_caller_35 fg_RX11_35 o1 e8 ?_
        obtain ⟨o9, h⟩ := h
        obtain ⟨b10, e11, h⟩ := h
        refine v_gR 5 14 dX11_caller_38 fg_RX11_236 o9 e11 ?_
        refine v_iload_n 1 1 dX11_caller_41 rfl rfl ?_
        obtain ⟨i12, h⟩ := h
        refine v_iald dX11_caller_42 i12 ?_
        refine v_goto 47 dX11_caller_43 (by decide) ?_
        exact v_iret dX11_caller_47 rfl rfl h
    · replace h := Eq.mp (if_pos hc) h
      refine v_aload_n 0 0 dX11_caller_17 rfl rfl ?_
      obtain ⟨b13, e14, h⟩ := h
      refine v_gR 11 3 dX11_caller_18 fg_RX11_35 o1 e14 ?_
      obtain ⟨o15, h⟩ := h
      obtain ⟨b16, e17, h⟩ := h
      refine v_gR 5 13 dX11_caller_21 fg_RX11_233 o15 e17 ?_
      refine v_iload_n 1 1 dX11_caller_24 rfl rfl ?_
      obtain ⟨i18, h⟩ := h
      refine v_iald dX11_caller_25 i18 ?_
      refine v_goto 47 dX11_caller_26 (by decide) ?_
      exact v_iret dX11_caller_47 rfl rfl h
  · replace h := Eq.mp (if_pos hc) h
    refine v_iconst (-1 : Int32) dX11_caller_11 (by decide) ?_
    exact v_iret dX11_caller_12 rfl rfl h
/-! CalledRiver.callersLeft -/
theorem dX11_callersLeft_0 : decode cX11_callersLeft 0 = .ok (.iconst 0, 1) := by decide +kernel
theorem dX11_callersLeft_1 : decode cX11_callersLeft 1 = .ok (.istore_n 1, 1) := by decide +kernel
theorem dX11_callersLeft_2 : decode cX11_callersLeft 2 = .ok (.iconst 0, 1) := by decide +kernel
theorem dX11_callersLeft_3 : decode cX11_callersLeft 3 = .ok (.istore_n 2, 1) := by decide +kernel
theorem dX11_callersLeft_4 : decode cX11_callersLeft 4 = .ok (.iload_n 2, 1) := by decide +kernel
theorem dX11_callersLeft_5 : decode cX11_callersLeft 5 = .ok (.aload_n 0, 1) := by decide +kernel
theorem dX11_callersLeft_6 : decode cX11_callersLeft 6 = .ok (.getfield 35, 3) := by decide +kernel
theorem dX11_callersLeft_9 : decode cX11_callersLeft 9 = .ok (.getfield 161, 3) := by decide +kernel
theorem dX11_callersLeft_12 : decode cX11_callersLeft 12 = .ok (.if_icmp .ge 30, 3) := by decide +kernel
theorem dX11_callersLeft_15 : decode cX11_callersLeft 15 = .ok (.aload_n 0, 1) := by decide +kernel
theorem dX11_callersLeft_16 : decode cX11_callersLeft 16 = .ok (.getfield 78, 3) := by decide +kernel
theorem dX11_callersLeft_19 : decode cX11_callersLeft 19 = .ok (.aload_n 0, 1) := by decide +kernel
theorem dX11_callersLeft_20 : decode cX11_callersLeft 20 = .ok (.iload_n 2, 1) := by decide +kernel
theorem dX11_callersLeft_21 : decode cX11_callersLeft 21 = .ok (.invokevirtual 242, 3) := by decide +kernel
theorem dX11_callersLeft_24 : decode cX11_callersLeft 24 = .ok (.invokevirtual 369, 3) := by decide +kernel
theorem dX11_callersLeft_27 : decode cX11_callersLeft 27 = .ok (.ifCond .eq 9, 3) := by decide +kernel
theorem dX11_callersLeft_30 : decode cX11_callersLeft 30 = .ok (.iload_n 1, 1) := by decide +kernel
theorem dX11_callersLeft_31 : decode cX11_callersLeft 31 = .ok (.iconst 1, 1) := by decide +kernel
theorem dX11_callersLeft_32 : decode cX11_callersLeft 32 = .ok (.iload_n 2, 1) := by decide +kernel
theorem dX11_callersLeft_33 : decode cX11_callersLeft 33 = .ok (.ishl, 1) := by decide +kernel
theorem dX11_callersLeft_34 : decode cX11_callersLeft 34 = .ok (.ior, 1) := by decide +kernel
theorem dX11_callersLeft_35 : decode cX11_callersLeft 35 = .ok (.istore_n 1, 1) := by decide +kernel
theorem dX11_callersLeft_36 : decode cX11_callersLeft 36 = .ok (.iinc 2 1, 3) := by decide +kernel
theorem dX11_callersLeft_39 : decode cX11_callersLeft 39 = .ok (.goto (-35), 3) := by decide +kernel
theorem dX11_callersLeft_42 : decode cX11_callersLeft 42 = .ok (.iload_n 1, 1) := by decide +kernel
theorem dX11_callersLeft_43 : decode cX11_callersLeft 43 = .ok (.ireturn, 1) := by decide +kernel
def X11_callersLeft_p36 (sh : Shp) (v0 : Nat) (v1 : Int32) (v2 : Int32) (Q : Int32 → Mem → Prop) (K4 : Int32 → Int32 → Mem → Prop) (m : Mem) : Prop :=
  K4 v1 (v2 + (1 : Int32)) m
def X11_callersLeft_p4b (sh : Shp) (v0 : Nat) (Q : Int32 → Mem → Prop) (K4 : Int32 → Int32 → Mem → Prop) (v1 : Int32) (v2 : Int32) (m : Mem) : Prop :=
  Ob sh v0 11 ∧ ∃ b2 : Nat, m.2.2 v0 3 = some b2 ∧ (Ob sh b2 5 ∧ (if (m.1 b2 4) ≤ v2 then (Q v1 m) else (∃ b5 : Nat, m.2.2 v0 10 = some b5 ∧ (wp_X11_wayOf sh v0 v2 (fun r7 m8 => Ob sh b5 7 ∧ wp_X7_fits sh b5 r7 (fun r9 m10 => if r9 = 0 then (X11_callersLeft_p36 sh v0 v1 v2 Q K4 m10) else (X11_callersLeft_p36 sh v0 (v1 ||| ((1 : Int32) <<< (v2 &&& 31))) v2 Q K4 m10)) m8) m))))
def X11_callersLeft_p4n (sh : Shp) (v0 : Nat) (Q : Int32 → Mem → Prop) : Nat → Int32 → Int32 → Mem → Prop
  | 0 => fun _ _ _ => False
  | n + 1 => X11_callersLeft_p4b sh v0 Q (X11_callersLeft_p4n sh v0 Q n)
def X11_callersLeft_p4 (sh : Shp) (v0 : Nat) (Q : Int32 → Mem → Prop) (v1 : Int32) (v2 : Int32) (m : Mem) : Prop := ∃ n, X11_callersLeft_p4n sh v0 Q n v1 v2 m
def wp_X11_callersLeft (sh : Shp) (v0 : Nat) (Q : Int32 → Mem → Prop) (m : Mem) : Prop :=
  X11_callersLeft_p4 sh v0 Q (0 : Int32) (0 : Int32) m
abbrev M_X11_callersLeft : Mi := (cX11_callersLeft, 3, RX11, (Option.some FieldType.int), "callersLeft", 7, 209, 0, 0)
set_option maxHeartbeats 4000000 in
set_option maxRecDepth 100000 in
theorem v_X11_callersLeft_p36 {G : Gl} {F : Fr} {sh : Shp} {v0 : Nat} {v1 : Int32} {v2 : Int32} {Q : Int32 → Mem → Prop} {K4 : Int32 → Int32 → Mem → Prop} {m : Mem} (hK4 : ∀ (x1 : Int32) (x2 : Int32) (m : Mem), K4 x1 x2 m → V G F M_X11_callersLeft sh 0 0 (Zi G F sh Q) 4 [(0, .ref (G.1 + v0)), (1, .int x1), (2, .int x2)] [] m) (h : X11_callersLeft_p36 sh v0 v1 v2 Q K4 m) : V G F M_X11_callersLeft sh 0 0 (Zi G F sh Q) 36 [(0, .ref (G.1 + v0)), (1, .int v1), (2, .int v2)] [] m := by
  unfold X11_callersLeft_p36 at h
  refine v_iinc (ls' := [(2, .int _), (0, .ref _), (1, .int _)]) 2 2 dX11_callersLeft_36 rfl (congrArg (HAdd.hAdd _) (by decide : Int32.ofInt (1) = (1 : Int32))) (Nat.le_of_ble_eq_true rfl) rfl ?_
  refine v_goto 4 dX11_callersLeft_39 (by decide) ?_
  refine v_sub [1, 2, 0] rfl ?_
  exact hK4 _ _ _ h
set_option maxHeartbeats 4000000 in
set_option maxRecDepth 100000 in
theorem v_X11_callersLeft_p4b {G : Gl} {F : Fr} {sh : Shp} {v0 : Nat} {v1 : Int32} {v2 : Int32} {Q : Int32 → Mem → Prop} {K4 : Int32 → Int32 → Mem → Prop} {m : Mem} (hK4 : ∀ (x1 : Int32) (x2 : Int32) (m : Mem), K4 x1 x2 m → V G F M_X11_callersLeft sh 0 0 (Zi G F sh Q) 4 [(0, .ref (G.1 + v0)), (1, .int x1), (2, .int x2)] [] m) (h : X11_callersLeft_p4b sh v0 Q K4 v1 v2 m) : V G F M_X11_callersLeft sh 0 0 (Zi G F sh Q) 4 [(0, .ref (G.1 + v0)), (1, .int v1), (2, .int v2)] [] m := by
  unfold X11_callersLeft_p4b at h
  refine v_iload_n 2 2 dX11_callersLeft_4 rfl rfl ?_
  refine v_aload_n 0 0 dX11_callersLeft_5 rfl rfl ?_
  obtain ⟨o1, h⟩ := h
  obtain ⟨b2, e3, h⟩ := h
  refine v_gR 11 3 dX11_callersLeft_6 fg_RX11_35 o1 e3 ?_
  obtain ⟨o4, h⟩ := h
  refine v_gI 5 4 dX11_callersLeft_9 fg_RX11_161 o4 ?_
  refine v_icmp_ge 42 dX11_callersLeft_12 (by decide) (fun hc => ?_) (fun hc => ?_)
  · replace h := Eq.mp (if_pos hc) h
    refine v_iload_n 1 1 dX11_callersLeft_42 rfl rfl ?_
    exact v_iret dX11_callersLeft_43 rfl rfl h
  · replace h := Eq.mp (if_neg hc) h
    refine v_aload_n 0 0 dX11_callersLeft_15 rfl rfl ?_
    obtain ⟨b5, e6, h⟩ := h
    refine v_gR 11 10 dX11_callersLeft_16 fg_RX11_78 o1 e6 ?_
    refine v_aload_n 0 0 dX11_callersLeft_19 rfl rfl ?_
    refine v_iload_n 2 2 dX11_callersLeft_20 rfl rfl ?_
    refine v_cVr [.int _] mv_X11_wayOf ml_RX11_242 ⟨_, _, rfl⟩ o1 rfl rfl (Nat.le_of_ble_eq_true rfl) (Nat.le_of_ble_eq_true rfl) (Nat.le_of_ble_eq_true rfl) (Nat.zero_le _) (Nat.zero_le _) dX11_callersLeft_21 (c_X11_wayOf h) (fun r7 m8 h => ?_)
    obtain ⟨o11, h⟩ := h
    refine v_cVi [.ref _] mv_X7_fits ml_RX11_369 ⟨_, _, rfl⟩ o11 rfl rfl (Nat.le_of_ble_eq_true rfl) (Nat.le_of_ble_eq_true rfl) (Nat.le_of_ble_eq_true rfl) (Nat.zero_le _) (Nat.zero_le _) dX11_callersLeft_24 (c_X7_fits h) (fun r9 m10 h => ?_)
    refine v_if_eq 36 dX11_callersLeft_27 (by decide) (fun hc => ?_) (fun hc => ?_)
    · replace h := Eq.mp (if_pos hc) h
      refine v_sub [0, 1, 2] rfl ?_
      exact v_X11_callersLeft_p36 hK4 h
    · replace h := Eq.mp (if_neg hc) h
      refine v_iload_n 1 1 dX11_callersLeft_30 rfl rfl ?_
      refine v_iconst (1 : Int32) dX11_callersLeft_31 (by decide) ?_
      refine v_iload_n 2 2 dX11_callersLeft_32 rfl rfl ?_
      refine v_ishl dX11_callersLeft_33 ?_
      refine v_ior dX11_callersLeft_34 ?_
      refine v_istore_n (ls' := [(1, .int _), (0, .ref _), (2, .int _)]) 1 dX11_callersLeft_35 rfl (Nat.le_of_ble_eq_true rfl) rfl ?_
      refine v_sub [1, 0, 2] rfl ?_
      exact v_X11_callersLeft_p36 hK4 h
set_option maxHeartbeats 4000000 in
set_option maxRecDepth 100000 in
theorem v_X11_callersLeft_p4 {G : Gl} {F : Fr} {sh : Shp} {v0 : Nat} {v1 : Int32} {v2 : Int32} {Q : Int32 → Mem → Prop} {m : Mem} (h : X11_callersLeft_p4 sh v0 Q v1 v2 m) : V G F M_X11_callersLeft sh 0 0 (Zi G F sh Q) 4 [(0, .ref (G.1 + v0)), (1, .int v1), (2, .int v2)] [] m := by
  obtain ⟨n, h⟩ := h
  induction n generalizing v1 v2 m with
  | zero => exact h.elim
  | succ n ih => exact v_X11_callersLeft_p4b (fun _ _ _ h => ih h) h
set_option maxHeartbeats 4000000 in
set_option maxRecDepth 100000 in
theorem c_X11_callersLeft {l : Launch} {G : Gl} {sh : Shp} {v0 : Nat} {Q : Int32 → Mem → Prop} {m : Mem} (h : wp_X11_callersLeft sh v0 Q m) : Cni l G yX11_callersLeft cX11_callersLeft 3 (Option.some FieldType.int) 7 209 sh [.ref (G.1 + v0)] m Q := by
  refine con_i (ls := [(0, .ref (G.1 + v0))]) (by decide +kernel) rfl (Nat.le_of_ble_eq_true rfl) (fun F => ?_)
  show V G F M_X11_callersLeft sh 0 0 (Zi G F sh Q) 0 [(0, .ref (G.1 + v0))] [] m
  unfold wp_X11_callersLeft at h
  refine v_iconst (0 : Int32) dX11_callersLeft_0 (by decide) ?_
  refine v_istore_n (ls' := [(1, .int _), (0, .ref _)]) 1 dX11_callersLeft_1 rfl (Nat.le_of_ble_eq_true rfl) rfl ?_
  refine v_iconst (0 : Int32) dX11_callersLeft_2 (by decide) ?_
  refine v_istore_n (ls' := [(2, .int _), (1, .int _), (0, .ref _)]) 2 dX11_callersLeft_3 rfl (Nat.le_of_ble_eq_true rfl) rfl ?_
  refine v_sub [2, 1, 0] rfl ?_
  exact v_X11_callersLeft_p4 h
/-! CalledRiver.cell -/
theorem dX11_cell_0 : decode cX11_cell 0 = .ok (.aload_n 0, 1) := by decide +kernel
theorem dX11_cell_1 : decode cX11_cell 1 = .ok (.getfield 35, 3) := by decide +kernel
theorem dX11_cell_4 : decode cX11_cell 4 = .ok (.iload_n 1, 1) := by decide +kernel
theorem dX11_cell_5 : decode cX11_cell 5 = .ok (.iload_n 2, 1) := by decide +kernel
theorem dX11_cell_6 : decode cX11_cell 6 = .ok (.invokevirtual 203, 3) := by decide +kernel
theorem dX11_cell_9 : decode cX11_cell 9 = .ok (.istore 4, 2) := by decide +kernel
theorem dX11_cell_11 : decode cX11_cell 11 = .ok (.iload 4, 2) := by decide +kernel
theorem dX11_cell_13 : decode cX11_cell 13 = .ok (.iconst (-1), 1) := by decide +kernel
theorem dX11_cell_14 : decode cX11_cell 14 = .ok (.if_icmp .ne 5, 3) := by decide +kernel
theorem dX11_cell_17 : decode cX11_cell 17 = .ok (.iconst (-1), 1) := by decide +kernel
theorem dX11_cell_18 : decode cX11_cell 18 = .ok (.ireturn, 1) := by decide +kernel
theorem dX11_cell_19 : decode cX11_cell 19 = .ok (.iload_n 3, 1) := by decide +kernel
theorem dX11_cell_20 : decode cX11_cell 20 = .ok (.tableswitch 76 0 3 #[32, 43, 54, 65], 32) := by decide +kernel
theorem dX11_cell_52 : decode cX11_cell 52 = .ok (.aload_n 0, 1) := by decide +kernel
theorem dX11_cell_53 : decode cX11_cell 53 = .ok (.getfield 54, 3) := by decide +kernel
theorem dX11_cell_56 : decode cX11_cell 56 = .ok (.getfield 206, 3) := by decide +kernel
theorem dX11_cell_59 : decode cX11_cell 59 = .ok (.iload 4, 2) := by decide +kernel
theorem dX11_cell_61 : decode cX11_cell 61 = .ok (.iaload, 1) := by decide +kernel
theorem dX11_cell_62 : decode cX11_cell 62 = .ok (.ireturn, 1) := by decide +kernel
theorem dX11_cell_63 : decode cX11_cell 63 = .ok (.aload_n 0, 1) := by decide +kernel
theorem dX11_cell_64 : decode cX11_cell 64 = .ok (.getfield 54, 3) := by decide +kernel
theorem dX11_cell_67 : decode cX11_cell 67 = .ok (.getfield 209, 3) := by decide +kernel
theorem dX11_cell_70 : decode cX11_cell 70 = .ok (.iload 4, 2) := by decide +kernel
theorem dX11_cell_72 : decode cX11_cell 72 = .ok (.iaload, 1) := by decide +kernel
theorem dX11_cell_73 : decode cX11_cell 73 = .ok (.ireturn, 1) := by decide +kernel
theorem dX11_cell_74 : decode cX11_cell 74 = .ok (.aload_n 0, 1) := by decide +kernel
theorem dX11_cell_75 : decode cX11_cell 75 = .ok (.getfield 54, 3) := by decide +kernel
theorem dX11_cell_78 : decode cX11_cell 78 = .ok (.getfield 212, 3) := by decide +kernel
theorem dX11_cell_81 : decode cX11_cell 81 = .ok (.iload 4, 2) := by decide +kernel
theorem dX11_cell_83 : decode cX11_cell 83 = .ok (.iaload, 1) := by decide +kernel
theorem dX11_cell_84 : decode cX11_cell 84 = .ok (.ireturn, 1) := by decide +kernel
theorem dX11_cell_85 : decode cX11_cell 85 = .ok (.aload_n 0, 1) := by decide +kernel
theorem dX11_cell_86 : decode cX11_cell 86 = .ok (.getfield 35, 3) := by decide +kernel
theorem dX11_cell_89 : decode cX11_cell 89 = .ok (.getfield 215, 3) := by decide +kernel
theorem dX11_cell_92 : decode cX11_cell 92 = .ok (.iload 4, 2) := by decide +kernel
theorem dX11_cell_94 : decode cX11_cell 94 = .ok (.iaload, 1) := by decide +kernel
theorem dX11_cell_95 : decode cX11_cell 95 = .ok (.ireturn, 1) := by decide +kernel
theorem dX11_cell_96 : decode cX11_cell 96 = .ok (.iconst (-1), 1) := by decide +kernel
theorem dX11_cell_97 : decode cX11_cell 97 = .ok (.ireturn, 1) := by decide +kernel
def wp_X11_cell (sh : Shp) (v0 : Nat) (v1 : Int32) (v2 : Int32) (v3 : Int32) (Q : Int32 → Mem → Prop) (m : Mem) : Prop :=
  Ob sh v0 11 ∧ ∃ b2 : Nat, m.2.2 v0 3 = some b2 ∧ (Ob sh b2 5 ∧ wp_X5_placeOf sh b2 v1 v2 (fun r4 m5 => if r4 = (-1 : Int32) then (Q (-1 : Int32) m5) else (if v3 = (0 : Int32) then (∃ b7 : Nat, m5.2.2 v0 6 = some b7 ∧ (Ob sh b7 1 ∧ ∃ b10 : Nat, m5.2.2 b7 2 = some b10 ∧ (Ix sh b10 100 r4 ∧ (Q (m5.1 b10 r4.toNatClampNeg) m5)))) else if v3 = (1 : Int32) then (∃ b13 : Nat, m5.2.2 v0 6 = some b13 ∧ (Ob sh b13 1 ∧ ∃ b16 : Nat, m5.2.2 b13 3 = some b16 ∧ (Ix sh b16 100 r4 ∧ (Q (m5.1 b16 r4.toNatClampNeg) m5)))) else if v3 = (2 : Int32) then (∃ b19 : Nat, m5.2.2 v0 6 = some b19 ∧ (Ob sh b19 1 ∧ ∃ b22 : Nat, m5.2.2 b19 4 = some b22 ∧ (Ix sh b22 100 r4 ∧ (Q (m5.1 b22 r4.toNatClampNeg) m5)))) else if v3 = (3 : Int32) then (∃ b25 : Nat, m5.2.2 v0 3 = some b25 ∧ (Ob sh b25 5 ∧ ∃ b28 : Nat, m5.2.2 b25 7 = some b28 ∧ (Ix sh b28 100 r4 ∧ (Q (m5.1 b28 r4.toNatClampNeg) m5)))) else (Q (-1 : Int32) m5))) m)
abbrev M_X11_cell : Mi := (cX11_cell, 5, RX11, (Option.some FieldType.int), "cell", 2, 83, 0, 0)
set_option maxHeartbeats 4000000 in
set_option maxRecDepth 100000 in
theorem c_X11_cell {l : Launch} {G : Gl} {sh : Shp} {v0 : Nat} {v1 : Int32} {v2 : Int32} {v3 : Int32} {Q : Int32 → Mem → Prop} {m : Mem} (h : wp_X11_cell sh v0 v1 v2 v3 Q m) : Cni l G yX11_cell cX11_cell 5 (Option.some FieldType.int) 2 83 sh [.ref (G.1 + v0), .int v1, .int v2, .int v3] m Q := by
  refine con_i (ls := [(0, .ref (G.1 + v0)), (1, .int v1), (2, .int v2), (3, .int v3)]) (by decide +kernel) rfl (Nat.le_of_ble_eq_true rfl) (fun F => ?_)
  show V G F M_X11_cell sh 0 0 (Zi G F sh Q) 0 [(0, .ref (G.1 + v0)), (1, .int v1), (2, .int v2), (3, .int v3)] [] m
  unfold wp_X11_cell at h
  refine v_aload_n 0 0 dX11_cell_0 rfl rfl ?_
  obtain ⟨o1, h⟩ := h
  obtain ⟨b2, e3, h⟩ := h
  refine v_gR 11 3 dX11_cell_1 fg_RX11_35 o1 e3 ?_
  refine v_iload_n 1 1 dX11_cell_4 rfl rfl ?_
  refine v_iload_n 2 2 dX11_cell_5 rfl rfl ?_
  obtain ⟨o6, h⟩ := h
  refine v_cVi [.int _, .int _] mv_X5_placeOf ml_RX11_203 ⟨_, _, rfl⟩ o6 rfl rfl (Nat.le_of_ble_eq_true rfl) (Nat.le_of_ble_eq_true rfl) (Nat.le_of_ble_eq_true rfl) (Nat.zero_le _) (Nat.zero_le _) dX11_cell_6 (c_X5_placeOf h) (fun r4 m5 h => ?_)
  refine v_istore (ls' := [(4, .int _), (0, .ref _), (1, .int _), (2, .int _), (3, .int _)]) 4 dX11_cell_9 (Nat.le_of_ble_eq_true rfl) rfl ?_
  refine v_iload 4 0 dX11_cell_11 rfl ?_
  refine v_iconst (-1 : Int32) dX11_cell_13 (by decide) ?_
  refine v_icmp_ne 19 dX11_cell_14 (by decide) (fun hc => ?_) (fun hc => ?_)
  · replace h := Eq.mp (if_neg hc) h
    refine v_iload_n 3 4 dX11_cell_19 rfl rfl ?_
    by_cases hc0 : v3 = (0 : Int32)
    · replace h := Eq.mp (if_pos hc0) h
      refine v_tabK (0 : Int32) hc0 52 dX11_cell_20 (by decide) (by decide) rfl (by decide) ?_
      refine v_aload_n 0 1 dX11_cell_52 rfl rfl ?_
      obtain ⟨b7, e8, h⟩ := h
      refine v_gR 11 6 dX11_cell_53 fg_RX11_54 o1 e8 ?_
      obtain ⟨o9, h⟩ := h
      obtain ⟨b10, e11, h⟩ := h
      refine v_gR 1 2 dX11_cell_56 fg_RX11_206 o9 e11 ?_
      refine v_iload 4 0 dX11_cell_59 rfl ?_
      obtain ⟨i12, h⟩ := h
      refine v_iald dX11_cell_61 i12 ?_
      exact v_iret dX11_cell_62 rfl rfl h
    replace h := Eq.mp (if_neg hc0) h
    by_cases hc1 : v3 = (1 : Int32)
    · replace h := Eq.mp (if_pos hc1) h
      refine v_tabK (1 : Int32) hc1 63 dX11_cell_20 (by decide) (by decide) rfl (by decide) ?_
      refine v_aload_n 0 1 dX11_cell_63 rfl rfl ?_
      obtain ⟨b13, e14, h⟩ := h
      refine v_gR 11 6 dX11_cell_64 fg_RX11_54 o1 e14 ?_
      obtain ⟨o15, h⟩ := h
      obtain ⟨b16, e17, h⟩ := h
      refine v_gR 1 3 dX11_cell_67 fg_RX11_209 o15 e17 ?_
      refine v_iload 4 0 dX11_cell_70 rfl ?_
      obtain ⟨i18, h⟩ := h
      refine v_iald dX11_cell_72 i18 ?_
      exact v_iret dX11_cell_73 rfl rfl h
    replace h := Eq.mp (if_neg hc1) h
    by_cases hc2 : v3 = (2 : Int32)
    · replace h := Eq.mp (if_pos hc2) h
      refine v_tabK (2 : Int32) hc2 74 dX11_cell_20 (by decide) (by decide) rfl (by decide) ?_
      refine v_aload_n 0 1 dX11_cell_74 rfl rfl ?_
      obtain ⟨b19, e20, h⟩ := h
      refine v_gR 11 6 dX11_cell_75 fg_RX11_54 o1 e20 ?_
      obtain ⟨o21, h⟩ := h
      obtain ⟨b22, e23, h⟩ := h
      refine v_gR 1 4 dX11_cell_78 fg_RX11_212 o21 e23 ?_
      refine v_iload 4 0 dX11_cell_81 rfl ?_
      obtain ⟨i24, h⟩ := h
      refine v_iald dX11_cell_83 i24 ?_
      exact v_iret dX11_cell_84 rfl rfl h
    replace h := Eq.mp (if_neg hc2) h
    by_cases hc3 : v3 = (3 : Int32)
    · replace h := Eq.mp (if_pos hc3) h
      refine v_tabK (3 : Int32) hc3 85 dX11_cell_20 (by decide) (by decide) rfl (by decide) ?_
      refine v_aload_n 0 1 dX11_cell_85 rfl rfl ?_
      obtain ⟨b25, e26, h⟩ := h
      refine v_gR 11 3 dX11_cell_86 fg_RX11_35 o1 e26 ?_
      obtain ⟨o27, h⟩ := h
      obtain ⟨b28, e29, h⟩ := h
      refine v_gR 5 7 dX11_cell_89 fg_RX11_215 o27 e29 ?_
      refine v_iload 4 0 dX11_cell_92 rfl ?_
      obtain ⟨i30, h⟩ := h
      refine v_iald dX11_cell_94 i30 ?_
      exact v_iret dX11_cell_95 rfl rfl h
    replace h := Eq.mp (if_neg hc3) h
    refine v_tabOut 96 dX11_cell_20 (by have := lv_neT hc0 (a := 0) (by decide); have := lv_neT hc1 (a := 1) (by decide); have := lv_neT hc2 (a := 2) (by decide); have := lv_neT hc3 (a := 3) (by decide); omega) (by decide) ?_
    refine v_iconst (-1 : Int32) dX11_cell_96 (by decide) ?_
    exact v_iret dX11_cell_97 rfl rfl h
  · replace h := Eq.mp (if_pos hc) h
    refine v_iconst (-1 : Int32) dX11_cell_17 (by decide) ?_
    exact v_iret dX11_cell_18 rfl rfl h
/-! CalledRiver.drawCaller -/
theorem dX11_drawCaller_0 : decode cX11_drawCaller 0 = .ok (.aload_n 0, 1) := by decide +kernel
theorem dX11_drawCaller_1 : decode cX11_drawCaller 1 = .ok (.ldc2_w 375, 3) := by decide +kernel
theorem dX11_drawCaller_4 : decode cX11_drawCaller 4 = .ok (.aload_n 0, 1) := by decide +kernel
theorem dX11_drawCaller_5 : decode cX11_drawCaller 5 = .ok (.getfield 113, 3) := by decide +kernel
theorem dX11_drawCaller_8 : decode cX11_drawCaller 8 = .ok (.lmul, 1) := by decide +kernel
theorem dX11_drawCaller_9 : decode cX11_drawCaller 9 = .ok (.ldc2_w 377, 3) := by decide +kernel
theorem dX11_drawCaller_12 : decode cX11_drawCaller 12 = .ok (.ladd, 1) := by decide +kernel
theorem dX11_drawCaller_13 : decode cX11_drawCaller 13 = .ok (.ldc2_w 379, 3) := by decide +kernel
theorem dX11_drawCaller_16 : decode cX11_drawCaller 16 = .ok (.land, 1) := by decide +kernel
theorem dX11_drawCaller_17 : decode cX11_drawCaller 17 = .ok (.putfield 113, 3) := by decide +kernel
theorem dX11_drawCaller_20 : decode cX11_drawCaller 20 = .ok (.aload_n 0, 1) := by decide +kernel
theorem dX11_drawCaller_21 : decode cX11_drawCaller 21 = .ok (.getfield 35, 3) := by decide +kernel
theorem dX11_drawCaller_24 : decode cX11_drawCaller 24 = .ok (.getfield 161, 3) := by decide +kernel
theorem dX11_drawCaller_27 : decode cX11_drawCaller 27 = .ok (.ifCond .ne 7, 3) := by decide +kernel
theorem dX11_drawCaller_30 : decode cX11_drawCaller 30 = .ok (.iconst (-1), 1) := by decide +kernel
theorem dX11_drawCaller_31 : decode cX11_drawCaller 31 = .ok (.goto 21, 3) := by decide +kernel
theorem dX11_drawCaller_34 : decode cX11_drawCaller 34 = .ok (.aload_n 0, 1) := by decide +kernel
theorem dX11_drawCaller_35 : decode cX11_drawCaller 35 = .ok (.getfield 113, 3) := by decide +kernel
theorem dX11_drawCaller_38 : decode cX11_drawCaller 38 = .ok (.ldc2_w 381, 3) := by decide +kernel
theorem dX11_drawCaller_41 : decode cX11_drawCaller 41 = .ok (.ldiv, 1) := by decide +kernel
theorem dX11_drawCaller_42 : decode cX11_drawCaller 42 = .ok (.aload_n 0, 1) := by decide +kernel
theorem dX11_drawCaller_43 : decode cX11_drawCaller 43 = .ok (.getfield 35, 3) := by decide +kernel
theorem dX11_drawCaller_46 : decode cX11_drawCaller 46 = .ok (.getfield 161, 3) := by decide +kernel
theorem dX11_drawCaller_49 : decode cX11_drawCaller 49 = .ok (.i2l, 1) := by decide +kernel
theorem dX11_drawCaller_50 : decode cX11_drawCaller 50 = .ok (.lrem, 1) := by decide +kernel
theorem dX11_drawCaller_51 : decode cX11_drawCaller 51 = .ok (.l2i, 1) := by decide +kernel
theorem dX11_drawCaller_52 : decode cX11_drawCaller 52 = .ok (.ireturn, 1) := by decide +kernel
def wp_X11_drawCaller (sh : Shp) (v0 : Nat) (Q : Int32 → Mem → Prop) (m : Mem) : Prop :=
  Ob sh v0 11 ∧ (bnd (sL m v0 18 ((((1103515245 : Int64) * (m.2.1 v0 18)) + (12345 : Int64)) &&& (2147483647 : Int64))) (fun m2 => ∃ b3 : Nat, m2.2.2 v0 3 = some b3 ∧ (Ob sh b3 5 ∧ (if (m2.1 b3 4) = 0 then (Q (-1 : Int32) m2) else (¬ (m2.1 b3 4).toInt64 = 0 ∧ (Q (((m2.2.1 v0 18) / (64 : Int64)) - ((m2.2.1 v0 18) / (64 : Int64)) / (m2.1 b3 4).toInt64 * (m2.1 b3 4).toInt64).toInt32 m2))))))
abbrev M_X11_drawCaller : Mi := (cX11_drawCaller, 1, RX11, (Option.some FieldType.int), "drawCaller", 1, 60, 0, 0)
set_option maxHeartbeats 4000000 in
set_option maxRecDepth 100000 in
theorem c_X11_drawCaller {l : Launch} {G : Gl} {sh : Shp} {v0 : Nat} {Q : Int32 → Mem → Prop} {m : Mem} (h : wp_X11_drawCaller sh v0 Q m) : Cni l G yX11_drawCaller cX11_drawCaller 1 (Option.some FieldType.int) 1 60 sh [.ref (G.1 + v0)] m Q := by
  refine con_i (ls := [(0, .ref (G.1 + v0))]) (by decide +kernel) rfl (Nat.le_of_ble_eq_true rfl) (fun F => ?_)
  show V G F M_X11_drawCaller sh 0 0 (Zi G F sh Q) 0 [(0, .ref (G.1 + v0))] [] m
  unfold wp_X11_drawCaller at h
  refine v_aload_n 0 0 dX11_drawCaller_0 rfl rfl ?_
  refine v_ldc2 (1103515245 : Int64) dX11_drawCaller_1 cw_RX11_375 ?_
  refine v_aload_n 0 0 dX11_drawCaller_4 rfl rfl ?_
  obtain ⟨o1, h⟩ := h
  refine v_gL 11 18 dX11_drawCaller_5 fg_RX11_113 o1 ?_
  refine v_lmul dX11_drawCaller_8 ?_
  refine v_ldc2 (12345 : Int64) dX11_drawCaller_9 cw_RX11_377 ?_
  refine v_ladd dX11_drawCaller_12 ?_
  refine v_ldc2 (2147483647 : Int64) dX11_drawCaller_13 cw_RX11_379 ?_
  refine v_land dX11_drawCaller_16 ?_
  refine v_pL 11 18 dX11_drawCaller_17 fw_RX11_113 o1 ?_
  replace h := bnd_e h
  refine v_aload_n 0 0 dX11_drawCaller_20 rfl rfl ?_
  obtain ⟨b3, e4, h⟩ := h
  refine v_gR 11 3 dX11_drawCaller_21 fg_RX11_35 o1 e4 ?_
  obtain ⟨o5, h⟩ := h
  refine v_gI 5 4 dX11_drawCaller_24 fg_RX11_161 o5 ?_
  refine v_if_ne 34 dX11_drawCaller_27 (by decide) (fun hc => ?_) (fun hc => ?_)
  · replace h := Eq.mp (if_neg hc) h
    refine v_aload_n 0 0 dX11_drawCaller_34 rfl rfl ?_
    refine v_gL 11 18 dX11_drawCaller_35 fg_RX11_113 o1 ?_
    refine v_ldc2 (64 : Int64) dX11_drawCaller_38 cw_RX11_381 ?_
    refine v_ldiv dX11_drawCaller_41 (by decide) ?_
    refine v_aload_n 0 0 dX11_drawCaller_42 rfl rfl ?_
    refine v_gR 11 3 dX11_drawCaller_43 fg_RX11_35 o1 e4 ?_
    refine v_gI 5 4 dX11_drawCaller_46 fg_RX11_161 o5 ?_
    refine v_i2l dX11_drawCaller_49 ?_
    obtain ⟨hz, h⟩ := h
    refine v_lrem dX11_drawCaller_50 hz ?_
    refine v_l2i dX11_drawCaller_51 ?_
    exact v_iret dX11_drawCaller_52 rfl rfl h
  · replace h := Eq.mp (if_pos hc) h
    refine v_iconst (-1 : Int32) dX11_drawCaller_30 (by decide) ?_
    refine v_goto 52 dX11_drawCaller_31 (by decide) ?_
    exact v_iret dX11_drawCaller_52 rfl rfl h
/-! CalledRiver.passYear -/
theorem dX11_passYear_0 : decode cX11_passYear 0 = .ok (.aload_n 0, 1) := by decide +kernel
theorem dX11_passYear_1 : decode cX11_passYear 1 = .ok (.iload_n 1, 1) := by decide +kernel
theorem dX11_passYear_2 : decode cX11_passYear 2 = .ok (.invokevirtual 242, 3) := by decide +kernel
theorem dX11_passYear_5 : decode cX11_passYear 5 = .ok (.astore_n 2, 1) := by decide +kernel
theorem dX11_passYear_6 : decode cX11_passYear 6 = .ok (.iconst 0, 1) := by decide +kernel
theorem dX11_passYear_7 : decode cX11_passYear 7 = .ok (.istore_n 3, 1) := by decide +kernel
theorem dX11_passYear_8 : decode cX11_passYear 8 = .ok (.iload_n 3, 1) := by decide +kernel
theorem dX11_passYear_9 : decode cX11_passYear 9 = .ok (.aload_n 2, 1) := by decide +kernel
theorem dX11_passYear_10 : decode cX11_passYear 10 = .ok (.getfield 252, 3) := by decide +kernel
theorem dX11_passYear_13 : decode cX11_passYear 13 = .ok (.if_icmp .gt 44, 3) := by decide +kernel
theorem dX11_passYear_16 : decode cX11_passYear 16 = .ok (.aload_n 2, 1) := by decide +kernel
theorem dX11_passYear_17 : decode cX11_passYear 17 = .ok (.getfield 383, 3) := by decide +kernel
theorem dX11_passYear_20 : decode cX11_passYear 20 = .ok (.iload_n 3, 1) := by decide +kernel
theorem dX11_passYear_21 : decode cX11_passYear 21 = .ok (.iaload, 1) := by decide +kernel
theorem dX11_passYear_22 : decode cX11_passYear 22 = .ok (.istore 4, 2) := by decide +kernel
theorem dX11_passYear_24 : decode cX11_passYear 24 = .ok (.aload_n 0, 1) := by decide +kernel
theorem dX11_passYear_25 : decode cX11_passYear 25 = .ok (.getfield 54, 3) := by decide +kernel
theorem dX11_passYear_28 : decode cX11_passYear 28 = .ok (.getfield 212, 3) := by decide +kernel
theorem dX11_passYear_31 : decode cX11_passYear 31 = .ok (.iload 4, 2) := by decide +kernel
theorem dX11_passYear_33 : decode cX11_passYear 33 = .ok (.aload_n 0, 1) := by decide +kernel
theorem dX11_passYear_34 : decode cX11_passYear 34 = .ok (.getfield 54, 3) := by decide +kernel
theorem dX11_passYear_37 : decode cX11_passYear 37 = .ok (.getfield 212, 3) := by decide +kernel
theorem dX11_passYear_40 : decode cX11_passYear 40 = .ok (.iload 4, 2) := by decide +kernel
theorem dX11_passYear_42 : decode cX11_passYear 42 = .ok (.iaload, 1) := by decide +kernel
theorem dX11_passYear_43 : decode cX11_passYear 43 = .ok (.iconst 1, 1) := by decide +kernel
theorem dX11_passYear_44 : decode cX11_passYear 44 = .ok (.iadd, 1) := by decide +kernel
theorem dX11_passYear_45 : decode cX11_passYear 45 = .ok (.bipush 99, 2) := by decide +kernel
theorem dX11_passYear_47 : decode cX11_passYear 47 = .ok (.invokestatic 180, 3) := by decide +kernel
theorem dX11_passYear_50 : decode cX11_passYear 50 = .ok (.iastore, 1) := by decide +kernel
theorem dX11_passYear_51 : decode cX11_passYear 51 = .ok (.iinc 3 1, 3) := by decide +kernel
theorem dX11_passYear_54 : decode cX11_passYear 54 = .ok (.goto (-46), 3) := by decide +kernel
theorem dX11_passYear_57 : decode cX11_passYear 57 = .ok (.iconst 0, 1) := by decide +kernel
theorem dX11_passYear_58 : decode cX11_passYear 58 = .ok (.istore_n 3, 1) := by decide +kernel
theorem dX11_passYear_59 : decode cX11_passYear 59 = .ok (.iload_n 3, 1) := by decide +kernel
theorem dX11_passYear_60 : decode cX11_passYear 60 = .ok (.aload_n 0, 1) := by decide +kernel
theorem dX11_passYear_61 : decode cX11_passYear 61 = .ok (.getfield 35, 3) := by decide +kernel
theorem dX11_passYear_64 : decode cX11_passYear 64 = .ok (.getfield 158, 3) := by decide +kernel
theorem dX11_passYear_67 : decode cX11_passYear 67 = .ok (.if_icmp .ge 112, 3) := by decide +kernel
theorem dX11_passYear_70 : decode cX11_passYear 70 = .ok (.aload_n 0, 1) := by decide +kernel
theorem dX11_passYear_71 : decode cX11_passYear 71 = .ok (.getfield 96, 3) := by decide +kernel
theorem dX11_passYear_74 : decode cX11_passYear 74 = .ok (.iconst 0, 1) := by decide +kernel
theorem dX11_passYear_75 : decode cX11_passYear 75 = .ok (.aload_n 0, 1) := by decide +kernel
theorem dX11_passYear_76 : decode cX11_passYear 76 = .ok (.getfield 54, 3) := by decide +kernel
theorem dX11_passYear_79 : decode cX11_passYear 79 = .ok (.getfield 164, 3) := by decide +kernel
theorem dX11_passYear_82 : decode cX11_passYear 82 = .ok (.iastore, 1) := by decide +kernel
theorem dX11_passYear_83 : decode cX11_passYear 83 = .ok (.aload_n 0, 1) := by decide +kernel
theorem dX11_passYear_84 : decode cX11_passYear 84 = .ok (.getfield 96, 3) := by decide +kernel
theorem dX11_passYear_87 : decode cX11_passYear 87 = .ok (.iconst 1, 1) := by decide +kernel
theorem dX11_passYear_88 : decode cX11_passYear 88 = .ok (.aload_n 0, 1) := by decide +kernel
theorem dX11_passYear_89 : decode cX11_passYear 89 = .ok (.getfield 54, 3) := by decide +kernel
theorem dX11_passYear_92 : decode cX11_passYear 92 = .ok (.getfield 230, 3) := by decide +kernel
theorem dX11_passYear_95 : decode cX11_passYear 95 = .ok (.iload_n 3, 1) := by decide +kernel
theorem dX11_passYear_96 : decode cX11_passYear 96 = .ok (.iaload, 1) := by decide +kernel
theorem dX11_passYear_97 : decode cX11_passYear 97 = .ok (.iastore, 1) := by decide +kernel
theorem dX11_passYear_98 : decode cX11_passYear 98 = .ok (.aload_n 0, 1) := by decide +kernel
theorem dX11_passYear_99 : decode cX11_passYear 99 = .ok (.getfield 96, 3) := by decide +kernel
theorem dX11_passYear_102 : decode cX11_passYear 102 = .ok (.iconst 2, 1) := by decide +kernel
theorem dX11_passYear_103 : decode cX11_passYear 103 = .ok (.aload_n 0, 1) := by decide +kernel
theorem dX11_passYear_104 : decode cX11_passYear 104 = .ok (.getfield 54, 3) := by decide +kernel
theorem dX11_passYear_107 : decode cX11_passYear 107 = .ok (.getfield 212, 3) := by decide +kernel
theorem dX11_passYear_110 : decode cX11_passYear 110 = .ok (.aload_n 0, 1) := by decide +kernel
theorem dX11_passYear_111 : decode cX11_passYear 111 = .ok (.getfield 35, 3) := by decide +kernel
theorem dX11_passYear_114 : decode cX11_passYear 114 = .ok (.getfield 218, 3) := by decide +kernel
theorem dX11_passYear_117 : decode cX11_passYear 117 = .ok (.iload_n 3, 1) := by decide +kernel
theorem dX11_passYear_118 : decode cX11_passYear 118 = .ok (.iaload, 1) := by decide +kernel
theorem dX11_passYear_119 : decode cX11_passYear 119 = .ok (.iaload, 1) := by decide +kernel
theorem dX11_passYear_120 : decode cX11_passYear 120 = .ok (.iastore, 1) := by decide +kernel
theorem dX11_passYear_121 : decode cX11_passYear 121 = .ok (.aload_n 0, 1) := by decide +kernel
theorem dX11_passYear_122 : decode cX11_passYear 122 = .ok (.getfield 96, 3) := by decide +kernel
theorem dX11_passYear_125 : decode cX11_passYear 125 = .ok (.bipush 8, 2) := by decide +kernel
theorem dX11_passYear_127 : decode cX11_passYear 127 = .ok (.aload_n 2, 1) := by decide +kernel
theorem dX11_passYear_128 : decode cX11_passYear 128 = .ok (.iload_n 3, 1) := by decide +kernel
theorem dX11_passYear_129 : decode cX11_passYear 129 = .ok (.invokevirtual 286, 3) := by decide +kernel
theorem dX11_passYear_132 : decode cX11_passYear 132 = .ok (.ifCond .eq 7, 3) := by decide +kernel
theorem dX11_passYear_135 : decode cX11_passYear 135 = .ok (.iconst 1, 1) := by decide +kernel
theorem dX11_passYear_136 : decode cX11_passYear 136 = .ok (.goto 4, 3) := by decide +kernel
theorem dX11_passYear_139 : decode cX11_passYear 139 = .ok (.iconst 0, 1) := by decide +kernel
theorem dX11_passYear_140 : decode cX11_passYear 140 = .ok (.iastore, 1) := by decide +kernel
theorem dX11_passYear_141 : decode cX11_passYear 141 = .ok (.aload_n 0, 1) := by decide +kernel
theorem dX11_passYear_142 : decode cX11_passYear 142 = .ok (.getfield 54, 3) := by decide +kernel
theorem dX11_passYear_145 : decode cX11_passYear 145 = .ok (.getfield 230, 3) := by decide +kernel
theorem dX11_passYear_148 : decode cX11_passYear 148 = .ok (.iload_n 3, 1) := by decide +kernel
theorem dX11_passYear_149 : decode cX11_passYear 149 = .ok (.iconst 0, 1) := by decide +kernel
theorem dX11_passYear_150 : decode cX11_passYear 150 = .ok (.aload_n 0, 1) := by decide +kernel
theorem dX11_passYear_151 : decode cX11_passYear 151 = .ok (.getfield 35, 3) := by decide +kernel
theorem dX11_passYear_154 : decode cX11_passYear 154 = .ok (.getfield 385, 3) := by decide +kernel
theorem dX11_passYear_157 : decode cX11_passYear 157 = .ok (.aload_n 0, 1) := by decide +kernel
theorem dX11_passYear_158 : decode cX11_passYear 158 = .ok (.getfield 96, 3) := by decide +kernel
theorem dX11_passYear_161 : decode cX11_passYear 161 = .ok (.invokevirtual 388, 3) := by decide +kernel
theorem dX11_passYear_164 : decode cX11_passYear 164 = .ok (.bipush 9, 2) := by decide +kernel
theorem dX11_passYear_166 : decode cX11_passYear 166 = .ok (.invokestatic 180, 3) := by decide +kernel
theorem dX11_passYear_169 : decode cX11_passYear 169 = .ok (.invokestatic 372, 3) := by decide +kernel
theorem dX11_passYear_172 : decode cX11_passYear 172 = .ok (.iastore, 1) := by decide +kernel
theorem dX11_passYear_173 : decode cX11_passYear 173 = .ok (.iinc 3 1, 3) := by decide +kernel
theorem dX11_passYear_176 : decode cX11_passYear 176 = .ok (.goto (-117), 3) := by decide +kernel
theorem dX11_passYear_179 : decode cX11_passYear 179 = .ok (.aload_n 2, 1) := by decide +kernel
theorem dX11_passYear_180 : decode cX11_passYear 180 = .ok (.getfield 259, 3) := by decide +kernel
theorem dX11_passYear_183 : decode cX11_passYear 183 = .ok (.invokestatic 273, 3) := by decide +kernel
theorem dX11_passYear_186 : decode cX11_passYear 186 = .ok (.istore_n 3, 1) := by decide +kernel
theorem dX11_passYear_187 : decode cX11_passYear 187 = .ok (.aload_n 0, 1) := by decide +kernel
theorem dX11_passYear_188 : decode cX11_passYear 188 = .ok (.getfield 54, 3) := by decide +kernel
theorem dX11_passYear_191 : decode cX11_passYear 191 = .ok (.aload_n 0, 1) := by decide +kernel
theorem dX11_passYear_192 : decode cX11_passYear 192 = .ok (.getfield 64, 3) := by decide +kernel
theorem dX11_passYear_195 : decode cX11_passYear 195 = .ok (.aload_n 0, 1) := by decide +kernel
theorem dX11_passYear_196 : decode cX11_passYear 196 = .ok (.getfield 54, 3) := by decide +kernel
theorem dX11_passYear_199 : decode cX11_passYear 199 = .ok (.getfield 177, 3) := by decide +kernel
theorem dX11_passYear_202 : decode cX11_passYear 202 = .ok (.aload_n 0, 1) := by decide +kernel
theorem dX11_passYear_203 : decode cX11_passYear 203 = .ok (.getfield 54, 3) := by decide +kernel
theorem dX11_passYear_206 : decode cX11_passYear 206 = .ok (.getfield 164, 3) := by decide +kernel
theorem dX11_passYear_209 : decode cX11_passYear 209 = .ok (.iload_n 1, 1) := by decide +kernel
theorem dX11_passYear_210 : decode cX11_passYear 210 = .ok (.iload_n 3, 1) := by decide +kernel
theorem dX11_passYear_211 : decode cX11_passYear 211 = .ok (.invokevirtual 392, 3) := by decide +kernel
theorem dX11_passYear_214 : decode cX11_passYear 214 = .ok (.putfield 177, 3) := by decide +kernel
theorem dX11_passYear_217 : decode cX11_passYear 217 = .ok (.aload_n 0, 1) := by decide +kernel
theorem dX11_passYear_218 : decode cX11_passYear 218 = .ok (.getfield 54, 3) := by decide +kernel
theorem dX11_passYear_221 : decode cX11_passYear 221 = .ok (.aload_n 0, 1) := by decide +kernel
theorem dX11_passYear_222 : decode cX11_passYear 222 = .ok (.getfield 54, 3) := by decide +kernel
theorem dX11_passYear_225 : decode cX11_passYear 225 = .ok (.getfield 164, 3) := by decide +kernel
theorem dX11_passYear_228 : decode cX11_passYear 228 = .ok (.iconst 1, 1) := by decide +kernel
theorem dX11_passYear_229 : decode cX11_passYear 229 = .ok (.iadd, 1) := by decide +kernel
theorem dX11_passYear_230 : decode cX11_passYear 230 = .ok (.sipush 999, 3) := by decide +kernel
theorem dX11_passYear_233 : decode cX11_passYear 233 = .ok (.invokestatic 180, 3) := by decide +kernel
theorem dX11_passYear_236 : decode cX11_passYear 236 = .ok (.putfield 164, 3) := by decide +kernel
theorem dX11_passYear_239 : decode cX11_passYear 239 = .ok (.aload_n 0, 1) := by decide +kernel
theorem dX11_passYear_240 : decode cX11_passYear 240 = .ok (.invokevirtual 146, 3) := by decide +kernel
theorem dX11_passYear_243 : decode cX11_passYear 243 = .ok (.iload_n 3, 1) := by decide +kernel
theorem dX11_passYear_244 : decode cX11_passYear 244 = .ok (.ireturn, 1) := by decide +kernel
def X11_passYear_p140 (sh : Shp) (v0 : Nat) (v1 : Int32) (v2 : Nat) (v3 : Int32) (s2 : Int32) (s1 : Int32) (s0 : Nat) (Q : Int32 → Mem → Prop) (K59 : Int32 → Mem → Prop) (m : Mem) : Prop :=
  Ix sh s0 100 s1 ∧ bnd (sI m s0 s1.toNatClampNeg s2) (fun m66 => Ob sh v0 11 ∧ ∃ b68 : Nat, m66.2.2 v0 6 = some b68 ∧ (Ob sh b68 1 ∧ ∃ b71 : Nat, m66.2.2 b68 5 = some b71 ∧ (∃ b73 : Nat, m66.2.2 v0 3 = some b73 ∧ (Ob sh b73 5 ∧ ∃ b76 : Nat, m66.2.2 b73 16 = some b76 ∧ (∃ b78 : Nat, m66.2.2 v0 14 = some b78 ∧ (Ob sh b76 0 ∧ wp_X0_worth sh b76 b78 (fun r80 m81 => wp_J9_min_7cf53 sh r80 (9 : Int32) (fun r83 m84 => wp_J9_max_7cf53 sh (0 : Int32) r83 (fun r85 m86 => Ix sh b71 100 v3 ∧ bnd (sI m86 b71 v3.toNatClampNeg r85) (fun m88 => K59 (v3 + (1 : Int32)) m88)) m84) m81) m66))))))
def X11_passYear_p59b (sh : Shp) (v0 : Nat) (v1 : Int32) (v2 : Nat) (Q : Int32 → Mem → Prop) (K59 : Int32 → Mem → Prop) (v3 : Int32) (m : Mem) : Prop :=
  Ob sh v0 11 ∧ ∃ b19 : Nat, m.2.2 v0 3 = some b19 ∧ (Ob sh b19 5 ∧ (if (m.1 b19 3) ≤ v3 then (Ob sh v2 10 ∧ (wp_J6_bitCount_0f7a4 sh (m.1 v2 4) (fun r23 m24 => ∃ b25 : Nat, m24.2.2 v0 6 = some b25 ∧ (∃ b27 : Nat, m24.2.2 v0 8 = some b27 ∧ (Ob sh b25 1 ∧ (Ob sh b27 3 ∧ wp_X3_keep sh b27 (m24.1 b25 1) (m24.1 b25 0) v1 r23 (fun r30 m31 => bnd (sI m31 b25 1 r30) (fun m33 => ∃ b34 : Nat, m33.2.2 v0 6 = some b34 ∧ (Ob sh b34 1 ∧ (wp_J9_min_7cf53 sh ((m33.1 b34 0) + (1 : Int32)) (999 : Int32) (fun r37 m38 => bnd (sI m38 b34 0 r37) (fun m39 => wp_X11_forgetWays sh v0 (fun m41 => Q r23 m41) m39)) m33)))) m24)))) m)) else (∃ b42 : Nat, m.2.2 v0 14 = some b42 ∧ (∃ b44 : Nat, m.2.2 v0 6 = some b44 ∧ (Ob sh b44 1 ∧ (Ix sh b42 100 (0 : Int32) ∧ bnd (sI m b42 (0 : Int32).toNatClampNeg (m.1 b44 0)) (fun m48 => ∃ b49 : Nat, m48.2.2 b44 5 = some b49 ∧ (Ix sh b49 100 v3 ∧ (Ix sh b42 100 (1 : Int32) ∧ bnd (sI m48 b42 (1 : Int32).toNatClampNeg (m48.1 b49 v3.toNatClampNeg)) (fun m53 => ∃ b54 : Nat, m53.2.2 b44 4 = some b54 ∧ (∃ b56 : Nat, m53.2.2 b19 9 = some b56 ∧ (Ix sh b56 100 v3 ∧ (Ix sh b54 100 (m53.1 b56 v3.toNatClampNeg) ∧ (Ix sh b42 100 (2 : Int32) ∧ bnd (sI m53 b42 (2 : Int32).toNatClampNeg (m53.1 b54 (m53.1 b56 v3.toNatClampNeg).toNatClampNeg)) (fun m61 => Ob sh v2 10 ∧ wp_X10_waters sh v2 v3 (fun r62 m63 => if r62 = 0 then (X11_passYear_p140 sh v0 v1 v2 v3 (0 : Int32) (8 : Int32) b42 Q K59 m63) else (X11_passYear_p140 sh v0 v1 v2 v3 (1 : Int32) (8 : Int32) b42 Q K59 m63)) m61)))))))))))))))
def X11_passYear_p59n (sh : Shp) (v0 : Nat) (v1 : Int32) (v2 : Nat) (Q : Int32 → Mem → Prop) : Nat → Int32 → Mem → Prop
  | 0 => fun _ _ => False
  | n + 1 => X11_passYear_p59b sh v0 v1 v2 Q (X11_passYear_p59n sh v0 v1 v2 Q n)
def X11_passYear_p59 (sh : Shp) (v0 : Nat) (v1 : Int32) (v2 : Nat) (Q : Int32 → Mem → Prop) (v3 : Int32) (m : Mem) : Prop := ∃ n, X11_passYear_p59n sh v0 v1 v2 Q n v3 m
def X11_passYear_p8b (sh : Shp) (v0 : Nat) (v1 : Int32) (v2 : Nat) (Q : Int32 → Mem → Prop) (K8 : Int32 → Mem → Prop) (v3 : Int32) (m : Mem) : Prop :=
  Ob sh v2 10 ∧ (if (m.1 v2 2) < v3 then (X11_passYear_p59 sh v0 v1 v2 Q (0 : Int32) m) else (∃ b5 : Nat, m.2.2 v2 0 = some b5 ∧ (Ix sh b5 100 v3 ∧ (Ob sh v0 11 ∧ ∃ b9 : Nat, m.2.2 v0 6 = some b9 ∧ (Ob sh b9 1 ∧ ∃ b12 : Nat, m.2.2 b9 4 = some b12 ∧ (Ix sh b12 100 (m.1 b5 v3.toNatClampNeg) ∧ (wp_J9_min_7cf53 sh ((m.1 b12 (m.1 b5 v3.toNatClampNeg).toNatClampNeg) + (1 : Int32)) (99 : Int32) (fun r15 m16 => bnd (sI m16 b12 (m.1 b5 v3.toNatClampNeg).toNatClampNeg r15) (fun m17 => K8 (v3 + (1 : Int32)) m17)) m)))))))
def X11_passYear_p8n (sh : Shp) (v0 : Nat) (v1 : Int32) (v2 : Nat) (Q : Int32 → Mem → Prop) : Nat → Int32 → Mem → Prop
  | 0 => fun _ _ => False
  | n + 1 => X11_passYear_p8b sh v0 v1 v2 Q (X11_passYear_p8n sh v0 v1 v2 Q n)
def X11_passYear_p8 (sh : Shp) (v0 : Nat) (v1 : Int32) (v2 : Nat) (Q : Int32 → Mem → Prop) (v3 : Int32) (m : Mem) : Prop := ∃ n, X11_passYear_p8n sh v0 v1 v2 Q n v3 m
def wp_X11_passYear (sh : Shp) (v0 : Nat) (v1 : Int32) (Q : Int32 → Mem → Prop) (m : Mem) : Prop :=
  Ob sh v0 11 ∧ wp_X11_wayOf sh v0 v1 (fun r1 m2 => X11_passYear_p8 sh v0 v1 r1 Q (0 : Int32) m2) m
abbrev M_X11_passYear : Mi := (cX11_passYear, 5, RX11, (Option.some FieldType.int), "passYear", 7, 209, 0, 0)
set_option maxHeartbeats 4000000 in
set_option maxRecDepth 100000 in
theorem v_X11_passYear_p140 {G : Gl} {F : Fr} {sh : Shp} {v0 : Nat} {v1 : Int32} {v2 : Nat} {v3 : Int32} {s0 : Nat} {s1 : Int32} {s2 : Int32} {Q : Int32 → Mem → Prop} {K59 : Int32 → Mem → Prop} {m : Mem} (hK59 : ∀ (x3 : Int32) (m : Mem), K59 x3 m → V G F M_X11_passYear sh 0 0 (Zi G F sh Q) 59 [(0, .ref (G.1 + v0)), (1, .int v1), (2, .ref (G.1 + v2)), (3, .int x3)] [] m) (h : X11_passYear_p140 sh v0 v1 v2 v3 s2 s1 s0 Q K59 m) : V G F M_X11_passYear sh 0 0 (Zi G F sh Q) 140 [(0, .ref (G.1 + v0)), (1, .int v1), (2, .ref (G.1 + v2)), (3, .int v3)] [.int s2, .int s1, .ref (G.1 + s0)] m := by
  unfold X11_passYear_p140 at h
  obtain ⟨i65, h⟩ := h
  refine v_iast dX11_passYear_140 i65 ?_
  replace h := bnd_e h
  refine v_aload_n 0 0 dX11_passYear_141 rfl rfl ?_
  obtain ⟨o67, h⟩ := h
  obtain ⟨b68, e69, h⟩ := h
  refine v_gR 11 6 dX11_passYear_142 fg_RX11_54 o67 e69 ?_
  obtain ⟨o70, h⟩ := h
  obtain ⟨b71, e72, h⟩ := h
  refine v_gR 1 5 dX11_passYear_145 fg_RX11_230 o70 e72 ?_
  refine v_iload_n 3 3 dX11_passYear_148 rfl rfl ?_
  refine v_iconst (0 : Int32) dX11_passYear_149 (by decide) ?_
  refine v_aload_n 0 0 dX11_passYear_150 rfl rfl ?_
  obtain ⟨b73, e74, h⟩ := h
  refine v_gR 11 3 dX11_passYear_151 fg_RX11_35 o67 e74 ?_
  obtain ⟨o75, h⟩ := h
  obtain ⟨b76, e77, h⟩ := h
  refine v_gR 5 16 dX11_passYear_154 fg_RX11_385 o75 e77 ?_
  refine v_aload_n 0 0 dX11_passYear_157 rfl rfl ?_
  obtain ⟨b78, e79, h⟩ := h
  refine v_gR 11 14 dX11_passYear_158 fg_RX11_96 o67 e79 ?_
  obtain ⟨o82, h⟩ := h
  refine v_cVi [.ref _] mv_X0_worth ml_RX11_388 ⟨_, _, rfl⟩ o82 rfl rfl (Nat.le_of_ble_eq_true rfl) (Nat.le_of_ble_eq_true rfl) (Nat.le_of_ble_eq_true rfl) (Nat.zero_le _) (Nat.zero_le _) dX11_passYear_161 (c_X0_worth h) (fun r80 m81 h => ?_)
  refine v_bipush (9 : Int32) dX11_passYear_164 (by decide) ?_
  refine v_cSi [.int _, .int _] mv_J9_min_7cf53 ml_RX11_180 rfl rfl (Nat.le_of_ble_eq_true rfl) (Nat.le_of_ble_eq_true rfl) (Nat.le_of_ble_eq_true rfl) (Nat.zero_le _) (Nat.zero_le _) dX11_passYear_166 (c_J9_min_7cf53 h) (fun r83 m84 h => ?_)
  refine v_cSi [.int _, .int _] mv_J9_max_7cf53 ml_RX11_372 rfl rfl (Nat.le_of_ble_eq_true rfl) (Nat.le_of_ble_eq_true rfl) (Nat.le_of_ble_eq_true rfl) (Nat.zero_le _) (Nat.zero_le _) dX11_passYear_169 (c_J9_max_7cf53 h) (fun r85 m86 h => ?_)
  obtain ⟨i87, h⟩ := h
  refine v_iast dX11_passYear_172 i87 ?_
  replace h := bnd_e h
  refine v_iinc (ls' := [(3, .int _), (0, .ref _), (1, .int _), (2, .ref _)]) 3 3 dX11_passYear_173 rfl (congrArg (HAdd.hAdd _) (by decide : Int32.ofInt (1) = (1 : Int32))) (Nat.le_of_ble_eq_true rfl) rfl ?_
  refine v_goto 59 dX11_passYear_176 (by decide) ?_
  refine v_sub [1, 2, 3, 0] rfl ?_
  exact hK59 _ _ h
set_option maxHeartbeats 4000000 in
set_option maxRecDepth 100000 in
theorem v_X11_passYear_p59b {G : Gl} {F : Fr} {sh : Shp} {v0 : Nat} {v1 : Int32} {v2 : Nat} {v3 : Int32} {Q : Int32 → Mem → Prop} {K59 : Int32 → Mem → Prop} {m : Mem} (hK59 : ∀ (x3 : Int32) (m : Mem), K59 x3 m → V G F M_X11_passYear sh 0 0 (Zi G F sh Q) 59 [(0, .ref (G.1 + v0)), (1, .int v1), (2, .ref (G.1 + v2)), (3, .int x3)] [] m) (h : X11_passYear_p59b sh v0 v1 v2 Q K59 v3 m) : V G F M_X11_passYear sh 0 0 (Zi G F sh Q) 59 [(0, .ref (G.1 + v0)), (1, .int v1), (2, .ref (G.1 + v2)), (3, .int v3)] [] m := by
  unfold X11_passYear_p59b at h
  refine v_iload_n 3 3 dX11_passYear_59 rfl rfl ?_
  refine v_aload_n 0 0 dX11_passYear_60 rfl rfl ?_
  obtain ⟨o18, h⟩ := h
  obtain ⟨b19, e20, h⟩ := h
  refine v_gR 11 3 dX11_passYear_61 fg_RX11_35 o18 e20 ?_
  obtain ⟨o21, h⟩ := h
  refine v_gI 5 3 dX11_passYear_64 fg_RX11_158 o21 ?_
  refine v_icmp_ge 179 dX11_passYear_67 (by decide) (fun hc => ?_) (fun hc => ?_)
  · replace h := Eq.mp (if_pos hc) h
    refine v_aload_n 2 2 dX11_passYear_179 rfl rfl ?_
    obtain ⟨o22, h⟩ := h
    refine v_gI 10 4 dX11_passYear_180 fg_RX11_259 o22 ?_
    refine v_cSi [.int _] mv_J6_bitCount_0f7a4 ml_RX11_273 rfl rfl (Nat.le_of_ble_eq_true rfl) (Nat.le_of_ble_eq_true rfl) (Nat.le_of_ble_eq_true rfl) (Nat.zero_le _) (Nat.zero_le _) dX11_passYear_183 (c_J6_bitCount_0f7a4 h) (fun r23 m24 h => ?_)
    refine v_istore_n (ls' := [(3, .int _), (0, .ref _), (1, .int _), (2, .ref _)]) 3 dX11_passYear_186 rfl (Nat.le_of_ble_eq_true rfl) rfl ?_
    refine v_aload_n 0 1 dX11_passYear_187 rfl rfl ?_
    obtain ⟨b25, e26, h⟩ := h
    refine v_gR 11 6 dX11_passYear_188 fg_RX11_54 o18 e26 ?_
    refine v_aload_n 0 1 dX11_passYear_191 rfl rfl ?_
    obtain ⟨b27, e28, h⟩ := h
    refine v_gR 11 8 dX11_passYear_192 fg_RX11_64 o18 e28 ?_
    refine v_aload_n 0 1 dX11_passYear_195 rfl rfl ?_
    refine v_gR 11 6 dX11_passYear_196 fg_RX11_54 o18 e26 ?_
    obtain ⟨o29, h⟩ := h
    refine v_gI 1 1 dX11_passYear_199 fg_RX11_177 o29 ?_
    refine v_aload_n 0 1 dX11_passYear_202 rfl rfl ?_
    refine v_gR 11 6 dX11_passYear_203 fg_RX11_54 o18 e26 ?_
    refine v_gI 1 0 dX11_passYear_206 fg_RX11_164 o29 ?_
    refine v_iload_n 1 2 dX11_passYear_209 rfl rfl ?_
    refine v_iload_n 3 0 dX11_passYear_210 rfl rfl ?_
    obtain ⟨o32, h⟩ := h
    refine v_cVi [.int _, .int _, .int _, .int _] mv_X3_keep ml_RX11_392 ⟨_, _, rfl⟩ o32 rfl rfl (Nat.le_of_ble_eq_true rfl) (Nat.le_of_ble_eq_true rfl) (Nat.le_of_ble_eq_true rfl) (Nat.zero_le _) (Nat.zero_le _) dX11_passYear_211 (c_X3_keep h) (fun r30 m31 h => ?_)
    refine v_pI 1 1 dX11_passYear_214 fw_RX11_177 o29 ?_
    replace h := bnd_e h
    refine v_aload_n 0 1 dX11_passYear_217 rfl rfl ?_
    obtain ⟨b34, e35, h⟩ := h
    refine v_gR 11 6 dX11_passYear_218 fg_RX11_54 o18 e35 ?_
    refine v_aload_n 0 1 dX11_passYear_221 rfl rfl ?_
    refine v_gR 11 6 dX11_passYear_222 fg_RX11_54 o18 e35 ?_
    obtain ⟨o36, h⟩ := h
    refine v_gI 1 0 dX11_passYear_225 fg_RX11_164 o36 ?_
    refine v_iconst (1 : Int32) dX11_passYear_228 (by decide) ?_
    refine v_iadd dX11_passYear_229 ?_
    refine v_sipush (999 : Int32) dX11_passYear_230 (by decide) ?_
    refine v_cSi [.int _, .int _] mv_J9_min_7cf53 ml_RX11_180 rfl rfl (Nat.le_of_ble_eq_true rfl) (Nat.le_of_ble_eq_true rfl) (Nat.le_of_ble_eq_true rfl) (Nat.zero_le _) (Nat.zero_le _) dX11_passYear_233 (c_J9_min_7cf53 h) (fun r37 m38 h => ?_)
    refine v_pI 1 0 dX11_passYear_236 fw_RX11_164 o36 ?_
    replace h := bnd_e h
    refine v_aload_n 0 1 dX11_passYear_239 rfl rfl ?_
    refine v_cVv [] mv_X11_forgetWays ml_RX11_146 ⟨_, _, rfl⟩ o18 rfl rfl (Nat.le_of_ble_eq_true rfl) (Nat.le_of_ble_eq_true rfl) (Nat.le_of_ble_eq_true rfl) (Nat.zero_le _) (Nat.zero_le _) dX11_passYear_240 (c_X11_forgetWays h) (fun m41 h => ?_)
    refine v_iload_n 3 0 dX11_passYear_243 rfl rfl ?_
    exact v_iret dX11_passYear_244 rfl rfl h
  · replace h := Eq.mp (if_neg hc) h
    refine v_aload_n 0 0 dX11_passYear_70 rfl rfl ?_
    obtain ⟨b42, e43, h⟩ := h
    refine v_gR 11 14 dX11_passYear_71 fg_RX11_96 o18 e43 ?_
    refine v_iconst (0 : Int32) dX11_passYear_74 (by decide) ?_
    refine v_aload_n 0 0 dX11_passYear_75 rfl rfl ?_
    obtain ⟨b44, e45, h⟩ := h
    refine v_gR 11 6 dX11_passYear_76 fg_RX11_54 o18 e45 ?_
    obtain ⟨o46, h⟩ := h
    refine v_gI 1 0 dX11_passYear_79 fg_RX11_164 o46 ?_
    obtain ⟨i47, h⟩ := h
    refine v_iast dX11_passYear_82 i47 ?_
    replace h := bnd_e h
    refine v_aload_n 0 0 dX11_passYear_83 rfl rfl ?_
    refine v_gR 11 14 dX11_passYear_84 fg_RX11_96 o18 e43 ?_
    refine v_iconst (1 : Int32) dX11_passYear_87 (by decide) ?_
    refine v_aload_n 0 0 dX11_passYear_88 rfl rfl ?_
    refine v_gR 11 6 dX11_passYear_89 fg_RX11_54 o18 e45 ?_
    obtain ⟨b49, e50, h⟩ := h
    refine v_gR 1 5 dX11_passYear_92 fg_RX11_230 o46 e50 ?_
    refine v_iload_n 3 3 dX11_passYear_95 rfl rfl ?_
    obtain ⟨i51, h⟩ := h
    refine v_iald dX11_passYear_96 i51 ?_
    obtain ⟨i52, h⟩ := h
    refine v_iast dX11_passYear_97 i52 ?_
    replace h := bnd_e h
    refine v_aload_n 0 0 dX11_passYear_98 rfl rfl ?_
    refine v_gR 11 14 dX11_passYear_99 fg_RX11_96 o18 e43 ?_
    refine v_iconst (2 : Int32) dX11_passYear_102 (by decide) ?_
    refine v_aload_n 0 0 dX11_passYear_103 rfl rfl ?_
    refine v_gR 11 6 dX11_passYear_104 fg_RX11_54 o18 e45 ?_
    obtain ⟨b54, e55, h⟩ := h
    refine v_gR 1 4 dX11_passYear_107 fg_RX11_212 o46 e55 ?_
    refine v_aload_n 0 0 dX11_passYear_110 rfl rfl ?_
    refine v_gR 11 3 dX11_passYear_111 fg_RX11_35 o18 e20 ?_
    obtain ⟨b56, e57, h⟩ := h
    refine v_gR 5 9 dX11_passYear_114 fg_RX11_218 o21 e57 ?_
    refine v_iload_n 3 3 dX11_passYear_117 rfl rfl ?_
    obtain ⟨i58, h⟩ := h
    refine v_iald dX11_passYear_118 i58 ?_
    obtain ⟨i59, h⟩ := h
    refine v_iald dX11_passYear_119 i59 ?_
    obtain ⟨i60, h⟩ := h
    refine v_iast dX11_passYear_120 i60 ?_
    replace h := bnd_e h
    refine v_aload_n 0 0 dX11_passYear_121 rfl rfl ?_
    refine v_gR 11 14 dX11_passYear_122 fg_RX11_96 o18 e43 ?_
    refine v_bipush (8 : Int32) dX11_passYear_125 (by decide) ?_
    refine v_aload_n 2 2 dX11_passYear_127 rfl rfl ?_
    refine v_iload_n 3 3 dX11_passYear_128 rfl rfl ?_
    obtain ⟨o64, h⟩ := h
    refine v_cVi [.int _] mv_X10_waters ml_RX11_286 ⟨_, _, rfl⟩ o64 rfl rfl (Nat.le_of_ble_eq_true rfl) (Nat.le_of_ble_eq_true rfl) (Nat.le_of_ble_eq_true rfl) (Nat.zero_le _) (Nat.zero_le _) dX11_passYear_129 (c_X10_waters h) (fun r62 m63 h => ?_)
    refine v_if_eq 139 dX11_passYear_132 (by decide) (fun hc => ?_) (fun hc => ?_)
    · replace h := Eq.mp (if_pos hc) h
      refine v_iconst (0 : Int32) dX11_passYear_139 (by decide) ?_
      refine v_sub [0, 1, 2, 3] rfl ?_
      exact v_X11_passYear_p140 hK59 h
    · replace h := Eq.mp (if_neg hc) h
      refine v_iconst (1 : Int32) dX11_passYear_135 (by decide) ?_
      refine v_goto 140 dX11_passYear_136 (by decide) ?_
      refine v_sub [0, 1, 2, 3] rfl ?_
      exact v_X11_passYear_p140 hK59 h
set_option maxHeartbeats 4000000 in
set_option maxRecDepth 100000 in
theorem v_X11_passYear_p59 {G : Gl} {F : Fr} {sh : Shp} {v0 : Nat} {v1 : Int32} {v2 : Nat} {v3 : Int32} {Q : Int32 → Mem → Prop} {m : Mem} (h : X11_passYear_p59 sh v0 v1 v2 Q v3 m) : V G F M_X11_passYear sh 0 0 (Zi G F sh Q) 59 [(0, .ref (G.1 + v0)), (1, .int v1), (2, .ref (G.1 + v2)), (3, .int v3)] [] m := by
  obtain ⟨n, h⟩ := h
  induction n generalizing v3 m with
  | zero => exact h.elim
  | succ n ih => exact v_X11_passYear_p59b (fun _ _ h => ih h) h
set_option maxHeartbeats 4000000 in
set_option maxRecDepth 100000 in
theorem v_X11_passYear_p8b {G : Gl} {F : Fr} {sh : Shp} {v0 : Nat} {v1 : Int32} {v2 : Nat} {v3 : Int32} {Q : Int32 → Mem → Prop} {K8 : Int32 → Mem → Prop} {m : Mem} (hK8 : ∀ (x3 : Int32) (m : Mem), K8 x3 m → V G F M_X11_passYear sh 0 0 (Zi G F sh Q) 8 [(0, .ref (G.1 + v0)), (1, .int v1), (2, .ref (G.1 + v2)), (3, .int x3)] [] m) (h : X11_passYear_p8b sh v0 v1 v2 Q K8 v3 m) : V G F M_X11_passYear sh 0 0 (Zi G F sh Q) 8 [(0, .ref (G.1 + v0)), (1, .int v1), (2, .ref (G.1 + v2)), (3, .int v3)] [] m := by
  unfold X11_passYear_p8b at h
  refine v_iload_n 3 3 dX11_passYear_8 rfl rfl ?_
  refine v_aload_n 2 2 dX11_passYear_9 rfl rfl ?_
  obtain ⟨o4, h⟩ := h
  refine v_gI 10 2 dX11_passYear_10 fg_RX11_252 o4 ?_
  refine v_icmp_gt 57 dX11_passYear_13 (by decide) (fun hc => ?_) (fun hc => ?_)
  · replace h := Eq.mp (if_pos hc) h
    refine v_iconst (0 : Int32) dX11_passYear_57 (by decide) ?_
    refine v_istore_n (ls' := [(3, .int _), (0, .ref _), (1, .int _), (2, .ref _)]) 3 dX11_passYear_58 rfl (Nat.le_of_ble_eq_true rfl) rfl ?_
    refine v_sub [1, 2, 3, 0] rfl ?_
    exact v_X11_passYear_p59 h
  · replace h := Eq.mp (if_neg hc) h
    refine v_aload_n 2 2 dX11_passYear_16 rfl rfl ?_
    obtain ⟨b5, e6, h⟩ := h
    refine v_gR 10 0 dX11_passYear_17 fg_RX11_383 o4 e6 ?_
    refine v_iload_n 3 3 dX11_passYear_20 rfl rfl ?_
    obtain ⟨i7, h⟩ := h
    refine v_iald dX11_passYear_21 i7 ?_
    refine v_istore (ls' := [(4, .int _), (0, .ref _), (1, .int _), (2, .ref _), (3, .int _)]) 4 dX11_passYear_22 (Nat.le_of_ble_eq_true rfl) rfl ?_
    refine v_aload_n 0 1 dX11_passYear_24 rfl rfl ?_
    obtain ⟨o8, h⟩ := h
    obtain ⟨b9, e10, h⟩ := h
    refine v_gR 11 6 dX11_passYear_25 fg_RX11_54 o8 e10 ?_
    obtain ⟨o11, h⟩ := h
    obtain ⟨b12, e13, h⟩ := h
    refine v_gR 1 4 dX11_passYear_28 fg_RX11_212 o11 e13 ?_
    refine v_iload 4 0 dX11_passYear_31 rfl ?_
    refine v_aload_n 0 1 dX11_passYear_33 rfl rfl ?_
    refine v_gR 11 6 dX11_passYear_34 fg_RX11_54 o8 e10 ?_
    refine v_gR 1 4 dX11_passYear_37 fg_RX11_212 o11 e13 ?_
    refine v_iload 4 0 dX11_passYear_40 rfl ?_
    obtain ⟨i14, h⟩ := h
    refine v_iald dX11_passYear_42 i14 ?_
    refine v_iconst (1 : Int32) dX11_passYear_43 (by decide) ?_
    refine v_iadd dX11_passYear_44 ?_
    refine v_bipush (99 : Int32) dX11_passYear_45 (by decide) ?_
    refine v_cSi [.int _, .int _] mv_J9_min_7cf53 ml_RX11_180 rfl rfl (Nat.le_of_ble_eq_true rfl) (Nat.le_of_ble_eq_true rfl) (Nat.le_of_ble_eq_true rfl) (Nat.zero_le _) (Nat.zero_le _) dX11_passYear_47 (c_J9_min_7cf53 h) (fun r15 m16 h => ?_)
    refine v_iast dX11_passYear_50 i14 ?_
    replace h := bnd_e h
    refine v_iinc (ls' := [(3, .int _), (4, .int _), (0, .ref _), (1, .int _), (2, .ref _)]) 3 4 dX11_passYear_51 rfl (congrArg (HAdd.hAdd _) (by decide : Int32.ofInt (1) = (1 : Int32))) (Nat.le_of_ble_eq_true rfl) rfl ?_
    refine v_goto 8 dX11_passYear_54 (by decide) ?_
    refine v_sub [2, 3, 4, 0] rfl ?_
    exact hK8 _ _ h
set_option maxHeartbeats 4000000 in
set_option maxRecDepth 100000 in
theorem v_X11_passYear_p8 {G : Gl} {F : Fr} {sh : Shp} {v0 : Nat} {v1 : Int32} {v2 : Nat} {v3 : Int32} {Q : Int32 → Mem → Prop} {m : Mem} (h : X11_passYear_p8 sh v0 v1 v2 Q v3 m) : V G F M_X11_passYear sh 0 0 (Zi G F sh Q) 8 [(0, .ref (G.1 + v0)), (1, .int v1), (2, .ref (G.1 + v2)), (3, .int v3)] [] m := by
  obtain ⟨n, h⟩ := h
  induction n generalizing v3 m with
  | zero => exact h.elim
  | succ n ih => exact v_X11_passYear_p8b (fun _ _ h => ih h) h
set_option maxHeartbeats 4000000 in
set_option maxRecDepth 100000 in
theorem c_X11_passYear {l : Launch} {G : Gl} {sh : Shp} {v0 : Nat} {v1 : Int32} {Q : Int32 → Mem → Prop} {m : Mem} (h : wp_X11_passYear sh v0 v1 Q m) : Cni l G yX11_passYear cX11_passYear 5 (Option.some FieldType.int) 7 209 sh [.ref (G.1 + v0), .int v1] m Q := by
  refine con_i (ls := [(0, .ref (G.1 + v0)), (1, .int v1)]) (by decide +kernel) rfl (Nat.le_of_ble_eq_true rfl) (fun F => ?_)
  show V G F M_X11_passYear sh 0 0 (Zi G F sh Q) 0 [(0, .ref (G.1 + v0)), (1, .int v1)] [] m
  unfold wp_X11_passYear at h
  refine v_aload_n 0 0 dX11_passYear_0 rfl rfl ?_
  refine v_iload_n 1 1 dX11_passYear_1 rfl rfl ?_
  obtain ⟨o3, h⟩ := h
  refine v_cVr [.int _] mv_X11_wayOf ml_RX11_242 ⟨_, _, rfl⟩ o3 rfl rfl (Nat.le_of_ble_eq_true rfl) (Nat.le_of_ble_eq_true rfl) (Nat.le_of_ble_eq_true rfl) (Nat.zero_le _) (Nat.zero_le _) dX11_passYear_2 (c_X11_wayOf h) (fun r1 m2 h => ?_)
  refine v_astore_n (ls' := [(2, .ref _), (0, .ref _), (1, .int _)]) 2 dX11_passYear_5 rfl (Nat.le_of_ble_eq_true rfl) rfl ?_
  refine v_iconst (0 : Int32) dX11_passYear_6 (by decide) ?_
  refine v_istore_n (ls' := [(3, .int _), (2, .ref _), (0, .ref _), (1, .int _)]) 3 dX11_passYear_7 rfl (Nat.le_of_ble_eq_true rfl) rfl ?_
  refine v_sub [2, 3, 1, 0] rfl ?_
  exact v_X11_passYear_p8 h
/-! CalledRiver.chance -/
theorem dX11_chance_0 : decode cX11_chance 0 = .ok (.iload_n 1, 1) := by decide +kernel
theorem dX11_chance_1 : decode cX11_chance 1 = .ok (.iconst 1, 1) := by decide +kernel
theorem dX11_chance_2 : decode cX11_chance 2 = .ok (.if_icmp .lt 36, 3) := by decide +kernel
theorem dX11_chance_5 : decode cX11_chance 5 = .ok (.iload_n 1, 1) := by decide +kernel
theorem dX11_chance_6 : decode cX11_chance 6 = .ok (.bipush 100, 2) := by decide +kernel
theorem dX11_chance_8 : decode cX11_chance 8 = .ok (.if_icmp .gt 30, 3) := by decide +kernel
theorem dX11_chance_11 : decode cX11_chance 11 = .ok (.aload_n 0, 1) := by decide +kernel
theorem dX11_chance_12 : decode cX11_chance 12 = .ok (.iconst 0, 1) := by decide +kernel
theorem dX11_chance_13 : decode cX11_chance 13 = .ok (.invokevirtual 242, 3) := by decide +kernel
theorem dX11_chance_16 : decode cX11_chance 16 = .ok (.getfield 252, 3) := by decide +kernel
theorem dX11_chance_19 : decode cX11_chance 19 = .ok (.iconst (-1), 1) := by decide +kernel
theorem dX11_chance_20 : decode cX11_chance 20 = .ok (.if_icmp .eq 18, 3) := by decide +kernel
theorem dX11_chance_23 : decode cX11_chance 23 = .ok (.aload_n 0, 1) := by decide +kernel
theorem dX11_chance_24 : decode cX11_chance 24 = .ok (.getfield 54, 3) := by decide +kernel
theorem dX11_chance_27 : decode cX11_chance 27 = .ok (.getfield 164, 3) := by decide +kernel
theorem dX11_chance_30 : decode cX11_chance 30 = .ok (.iload_n 1, 1) := by decide +kernel
theorem dX11_chance_31 : decode cX11_chance 31 = .ok (.iadd, 1) := by decide +kernel
theorem dX11_chance_32 : decode cX11_chance 32 = .ok (.sipush 999, 3) := by decide +kernel
theorem dX11_chance_35 : decode cX11_chance 35 = .ok (.if_icmp .le 9, 3) := by decide +kernel
theorem dX11_chance_38 : decode cX11_chance 38 = .ok (.aload_n 0, 1) := by decide +kernel
theorem dX11_chance_39 : decode cX11_chance 39 = .ok (.iconst 2, 1) := by decide +kernel
theorem dX11_chance_40 : decode cX11_chance 40 = .ok (.invokevirtual 121, 3) := by decide +kernel
theorem dX11_chance_43 : decode cX11_chance 43 = .ok (.ireturn, 1) := by decide +kernel
theorem dX11_chance_44 : decode cX11_chance 44 = .ok (.aload_n 0, 1) := by decide +kernel
theorem dX11_chance_45 : decode cX11_chance 45 = .ok (.getfield 64, 3) := by decide +kernel
theorem dX11_chance_48 : decode cX11_chance 48 = .ok (.aload_n 0, 1) := by decide +kernel
theorem dX11_chance_49 : decode cX11_chance 49 = .ok (.getfield 54, 3) := by decide +kernel
theorem dX11_chance_52 : decode cX11_chance 52 = .ok (.invokevirtual 319, 3) := by decide +kernel
theorem dX11_chance_55 : decode cX11_chance 55 = .ok (.iconst 0, 1) := by decide +kernel
theorem dX11_chance_56 : decode cX11_chance 56 = .ok (.istore_n 2, 1) := by decide +kernel
theorem dX11_chance_57 : decode cX11_chance 57 = .ok (.iconst 0, 1) := by decide +kernel
theorem dX11_chance_58 : decode cX11_chance 58 = .ok (.istore_n 3, 1) := by decide +kernel
theorem dX11_chance_59 : decode cX11_chance 59 = .ok (.iload_n 3, 1) := by decide +kernel
theorem dX11_chance_60 : decode cX11_chance 60 = .ok (.iload_n 1, 1) := by decide +kernel
theorem dX11_chance_61 : decode cX11_chance 61 = .ok (.if_icmp .ge 20, 3) := by decide +kernel
theorem dX11_chance_64 : decode cX11_chance 64 = .ok (.iload_n 2, 1) := by decide +kernel
theorem dX11_chance_65 : decode cX11_chance 65 = .ok (.aload_n 0, 1) := by decide +kernel
theorem dX11_chance_66 : decode cX11_chance 66 = .ok (.aload_n 0, 1) := by decide +kernel
theorem dX11_chance_67 : decode cX11_chance 67 = .ok (.invokevirtual 325, 3) := by decide +kernel
theorem dX11_chance_70 : decode cX11_chance 70 = .ok (.invokevirtual 322, 3) := by decide +kernel
theorem dX11_chance_73 : decode cX11_chance 73 = .ok (.iadd, 1) := by decide +kernel
theorem dX11_chance_74 : decode cX11_chance 74 = .ok (.istore_n 2, 1) := by decide +kernel
theorem dX11_chance_75 : decode cX11_chance 75 = .ok (.iinc 3 1, 3) := by decide +kernel
theorem dX11_chance_78 : decode cX11_chance 78 = .ok (.goto (-19), 3) := by decide +kernel
theorem dX11_chance_81 : decode cX11_chance 81 = .ok (.iload_n 2, 1) := by decide +kernel
theorem dX11_chance_82 : decode cX11_chance 82 = .ok (.ireturn, 1) := by decide +kernel
def X11_chance_p38 (sh : Shp) (v0 : Nat) (Q : Int32 → Mem → Prop) (m : Mem) : Prop :=
  Ob sh v0 11 ∧ wp_X11_refuse sh v0 (2 : Int32) (fun r13 m14 => Q r13 m14) m
def X11_chance_p59b (sh : Shp) (v0 : Nat) (v1 : Int32) (Q : Int32 → Mem → Prop) (K59 : Int32 → Int32 → Mem → Prop) (v2 : Int32) (v3 : Int32) (m : Mem) : Prop :=
  if v1 ≤ v3 then (Q v2 m) else (Ob sh v0 11 ∧ wp_X11_drawCaller sh v0 (fun r16 m17 => wp_X11_passYear sh v0 r16 (fun r19 m20 => K59 (v2 + r19) (v3 + (1 : Int32)) m20) m17) m)
def X11_chance_p59n (sh : Shp) (v0 : Nat) (v1 : Int32) (Q : Int32 → Mem → Prop) : Nat → Int32 → Int32 → Mem → Prop
  | 0 => fun _ _ _ => False
  | n + 1 => X11_chance_p59b sh v0 v1 Q (X11_chance_p59n sh v0 v1 Q n)
def X11_chance_p59 (sh : Shp) (v0 : Nat) (v1 : Int32) (Q : Int32 → Mem → Prop) (v2 : Int32) (v3 : Int32) (m : Mem) : Prop := ∃ n, X11_chance_p59n sh v0 v1 Q n v2 v3 m
def wp_X11_chance (sh : Shp) (v0 : Nat) (v1 : Int32) (Q : Int32 → Mem → Prop) (m : Mem) : Prop :=
  if v1 < (1 : Int32) then (X11_chance_p38 sh v0 Q m) else (if (100 : Int32) < v1 then (X11_chance_p38 sh v0 Q m) else (Ob sh v0 11 ∧ wp_X11_wayOf sh v0 (0 : Int32) (fun r1 m2 => Ob sh r1 10 ∧ (if (m2.1 r1 2) = (-1 : Int32) then (X11_chance_p38 sh v0 Q m2) else (∃ b5 : Nat, m2.2.2 v0 6 = some b5 ∧ (Ob sh b5 1 ∧ (if ((m2.1 b5 0) + v1) ≤ (999 : Int32) then (∃ b8 : Nat, m2.2.2 v0 8 = some b8 ∧ (Ob sh b8 3 ∧ wp_X3_remember sh b8 b5 (fun m11 => X11_chance_p59 sh v0 v1 Q (0 : Int32) (0 : Int32) m11) m2)) else (X11_chance_p38 sh v0 Q m2)))))) m))
abbrev M_X11_chance : Mi := (cX11_chance, 4, RX11, (Option.some FieldType.int), "chance", 8, 233, 0, 0)
set_option maxHeartbeats 4000000 in
set_option maxRecDepth 100000 in
theorem v_X11_chance_p38 {G : Gl} {F : Fr} {sh : Shp} {v0 : Nat} {Q : Int32 → Mem → Prop} {m : Mem} (h : X11_chance_p38 sh v0 Q m) : V G F M_X11_chance sh 0 0 (Zi G F sh Q) 38 [(0, .ref (G.1 + v0))] [] m := by
  unfold X11_chance_p38 at h
  refine v_aload_n 0 0 dX11_chance_38 rfl rfl ?_
  refine v_iconst (2 : Int32) dX11_chance_39 (by decide) ?_
  obtain ⟨o15, h⟩ := h
  refine v_cVi [.int _] mv_X11_refuse ml_RX11_121 ⟨_, _, rfl⟩ o15 rfl rfl (Nat.le_of_ble_eq_true rfl) (Nat.le_of_ble_eq_true rfl) (Nat.le_of_ble_eq_true rfl) (Nat.zero_le _) (Nat.zero_le _) dX11_chance_40 (c_X11_refuse h) (fun r13 m14 h => ?_)
  exact v_iret dX11_chance_43 rfl rfl h
set_option maxHeartbeats 4000000 in
set_option maxRecDepth 100000 in
theorem v_X11_chance_p59b {G : Gl} {F : Fr} {sh : Shp} {v0 : Nat} {v1 : Int32} {v2 : Int32} {v3 : Int32} {Q : Int32 → Mem → Prop} {K59 : Int32 → Int32 → Mem → Prop} {m : Mem} (hK59 : ∀ (x2 : Int32) (x3 : Int32) (m : Mem), K59 x2 x3 m → V G F M_X11_chance sh 0 0 (Zi G F sh Q) 59 [(0, .ref (G.1 + v0)), (1, .int v1), (2, .int x2), (3, .int x3)] [] m) (h : X11_chance_p59b sh v0 v1 Q K59 v2 v3 m) : V G F M_X11_chance sh 0 0 (Zi G F sh Q) 59 [(0, .ref (G.1 + v0)), (1, .int v1), (2, .int v2), (3, .int v3)] [] m := by
  unfold X11_chance_p59b at h
  refine v_iload_n 3 3 dX11_chance_59 rfl rfl ?_
  refine v_iload_n 1 1 dX11_chance_60 rfl rfl ?_
  refine v_icmp_ge 81 dX11_chance_61 (by decide) (fun hc => ?_) (fun hc => ?_)
  · replace h := Eq.mp (if_pos hc) h
    refine v_iload_n 2 2 dX11_chance_81 rfl rfl ?_
    exact v_iret dX11_chance_82 rfl rfl h
  · replace h := Eq.mp (if_neg hc) h
    refine v_iload_n 2 2 dX11_chance_64 rfl rfl ?_
    refine v_aload_n 0 0 dX11_chance_65 rfl rfl ?_
    refine v_aload_n 0 0 dX11_chance_66 rfl rfl ?_
    obtain ⟨o18, h⟩ := h
    refine v_cVi [] mv_X11_drawCaller ml_RX11_325 ⟨_, _, rfl⟩ o18 rfl rfl (Nat.le_of_ble_eq_true rfl) (Nat.le_of_ble_eq_true rfl) (Nat.le_of_ble_eq_true rfl) (Nat.zero_le _) (Nat.zero_le _) dX11_chance_67 (c_X11_drawCaller h) (fun r16 m17 h => ?_)
    refine v_cVi [.int _] mv_X11_passYear ml_RX11_322 ⟨_, _, rfl⟩ o18 rfl rfl (Nat.le_of_ble_eq_true rfl) (Nat.le_of_ble_eq_true rfl) (Nat.le_of_ble_eq_true rfl) (Nat.zero_le _) (Nat.zero_le _) dX11_chance_70 (c_X11_passYear h) (fun r19 m20 h => ?_)
    refine v_iadd dX11_chance_73 ?_
    refine v_istore_n (ls' := [(2, .int _), (0, .ref _), (1, .int _), (3, .int _)]) 2 dX11_chance_74 rfl (Nat.le_of_ble_eq_true rfl) rfl ?_
    refine v_iinc (ls' := [(3, .int _), (2, .int _), (0, .ref _), (1, .int _)]) 3 3 dX11_chance_75 rfl (congrArg (HAdd.hAdd _) (by decide : Int32.ofInt (1) = (1 : Int32))) (Nat.le_of_ble_eq_true rfl) rfl ?_
    refine v_goto 59 dX11_chance_78 (by decide) ?_
    refine v_sub [2, 3, 1, 0] rfl ?_
    exact hK59 _ _ _ h
set_option maxHeartbeats 4000000 in
set_option maxRecDepth 100000 in
theorem v_X11_chance_p59 {G : Gl} {F : Fr} {sh : Shp} {v0 : Nat} {v1 : Int32} {v2 : Int32} {v3 : Int32} {Q : Int32 → Mem → Prop} {m : Mem} (h : X11_chance_p59 sh v0 v1 Q v2 v3 m) : V G F M_X11_chance sh 0 0 (Zi G F sh Q) 59 [(0, .ref (G.1 + v0)), (1, .int v1), (2, .int v2), (3, .int v3)] [] m := by
  obtain ⟨n, h⟩ := h
  induction n generalizing v2 v3 m with
  | zero => exact h.elim
  | succ n ih => exact v_X11_chance_p59b (fun _ _ _ h => ih h) h
set_option maxHeartbeats 4000000 in
set_option maxRecDepth 100000 in
theorem c_X11_chance {l : Launch} {G : Gl} {sh : Shp} {v0 : Nat} {v1 : Int32} {Q : Int32 → Mem → Prop} {m : Mem} (h : wp_X11_chance sh v0 v1 Q m) : Cni l G yX11_chance cX11_chance 4 (Option.some FieldType.int) 8 233 sh [.ref (G.1 + v0), .int v1] m Q := by
  refine con_i (ls := [(0, .ref (G.1 + v0)), (1, .int v1)]) (by decide +kernel) rfl (Nat.le_of_ble_eq_true rfl) (fun F => ?_)
  show V G F M_X11_chance sh 0 0 (Zi G F sh Q) 0 [(0, .ref (G.1 + v0)), (1, .int v1)] [] m
  unfold wp_X11_chance at h
  refine v_iload_n 1 1 dX11_chance_0 rfl rfl ?_
  refine v_iconst (1 : Int32) dX11_chance_1 (by decide) ?_
  refine v_icmp_lt 38 dX11_chance_2 (by decide) (fun hc => ?_) (fun hc => ?_)
  · replace h := Eq.mp (if_pos hc) h
    refine v_sub [0] rfl ?_
    exact v_X11_chance_p38 h
  · replace h := Eq.mp (if_neg hc) h
    refine v_iload_n 1 1 dX11_chance_5 rfl rfl ?_
    refine v_bipush (100 : Int32) dX11_chance_6 (by decide) ?_
    refine v_icmp_gt 38 dX11_chance_8 (by decide) (fun hc => ?_) (fun hc => ?_)
    · replace h := Eq.mp (if_pos hc) h
      refine v_sub [0] rfl ?_
      exact v_X11_chance_p38 h
    · replace h := Eq.mp (if_neg hc) h
      refine v_aload_n 0 0 dX11_chance_11 rfl rfl ?_
      refine v_iconst (0 : Int32) dX11_chance_12 (by decide) ?_
      obtain ⟨o3, h⟩ := h
      refine v_cVr [.int _] mv_X11_wayOf ml_RX11_242 ⟨_, _, rfl⟩ o3 rfl rfl (Nat.le_of_ble_eq_true rfl) (Nat.le_of_ble_eq_true rfl) (Nat.le_of_ble_eq_true rfl) (Nat.zero_le _) (Nat.zero_le _) dX11_chance_13 (c_X11_wayOf h) (fun r1 m2 h => ?_)
      obtain ⟨o4, h⟩ := h
      refine v_gI 10 2 dX11_chance_16 fg_RX11_252 o4 ?_
      refine v_iconst (-1 : Int32) dX11_chance_19 (by decide) ?_
      refine v_icmp_eq 38 dX11_chance_20 (by decide) (fun hc => ?_) (fun hc => ?_)
      · replace h := Eq.mp (if_pos hc) h
        refine v_sub [0] rfl ?_
        exact v_X11_chance_p38 h
      · replace h := Eq.mp (if_neg hc) h
        refine v_aload_n 0 0 dX11_chance_23 rfl rfl ?_
        obtain ⟨b5, e6, h⟩ := h
        refine v_gR 11 6 dX11_chance_24 fg_RX11_54 o3 e6 ?_
        obtain ⟨o7, h⟩ := h
        refine v_gI 1 0 dX11_chance_27 fg_RX11_164 o7 ?_
        refine v_iload_n 1 1 dX11_chance_30 rfl rfl ?_
        refine v_iadd dX11_chance_31 ?_
        refine v_sipush (999 : Int32) dX11_chance_32 (by decide) ?_
        refine v_icmp_le 44 dX11_chance_35 (by decide) (fun hc => ?_) (fun hc => ?_)
        · replace h := Eq.mp (if_pos hc) h
          refine v_aload_n 0 0 dX11_chance_44 rfl rfl ?_
          obtain ⟨b8, e9, h⟩ := h
          refine v_gR 11 8 dX11_chance_45 fg_RX11_64 o3 e9 ?_
          refine v_aload_n 0 0 dX11_chance_48 rfl rfl ?_
          refine v_gR 11 6 dX11_chance_49 fg_RX11_54 o3 e6 ?_
          obtain ⟨o12, h⟩ := h
          refine v_cVv [.ref _] mv_X3_remember ml_RX11_319 ⟨_, _, rfl⟩ o12 rfl rfl (Nat.le_of_ble_eq_true rfl) (Nat.le_of_ble_eq_true rfl) (Nat.le_of_ble_eq_true rfl) (Nat.zero_le _) (Nat.zero_le _) dX11_chance_52 (c_X3_remember h) (fun m11 h => ?_)
          refine v_iconst (0 : Int32) dX11_chance_55 (by decide) ?_
          refine v_istore_n (ls' := [(2, .int _), (0, .ref _), (1, .int _)]) 2 dX11_chance_56 rfl (Nat.le_of_ble_eq_true rfl) rfl ?_
          refine v_iconst (0 : Int32) dX11_chance_57 (by decide) ?_
          refine v_istore_n (ls' := [(3, .int _), (2, .int _), (0, .ref _), (1, .int _)]) 3 dX11_chance_58 rfl (Nat.le_of_ble_eq_true rfl) rfl ?_
          refine v_sub [2, 3, 1, 0] rfl ?_
          exact v_X11_chance_p59 h
        · replace h := Eq.mp (if_neg hc) h
          refine v_sub [0] rfl ?_
          exact v_X11_chance_p38 h
/-! CalledRiver.dig -/
theorem dX11_dig_0 : decode cX11_dig 0 = .ok (.aload_n 0, 1) := by decide +kernel
theorem dX11_dig_1 : decode cX11_dig 1 = .ok (.getfield 35, 3) := by decide +kernel
theorem dX11_dig_4 : decode cX11_dig 4 = .ok (.iload_n 1, 1) := by decide +kernel
theorem dX11_dig_5 : decode cX11_dig 5 = .ok (.iload_n 2, 1) := by decide +kernel
theorem dX11_dig_6 : decode cX11_dig 6 = .ok (.invokevirtual 203, 3) := by decide +kernel
theorem dX11_dig_9 : decode cX11_dig 9 = .ok (.istore_n 3, 1) := by decide +kernel
theorem dX11_dig_10 : decode cX11_dig 10 = .ok (.iload_n 3, 1) := by decide +kernel
theorem dX11_dig_11 : decode cX11_dig 11 = .ok (.iconst (-1), 1) := by decide +kernel
theorem dX11_dig_12 : decode cX11_dig 12 = .ok (.if_icmp .eq 28, 3) := by decide +kernel
theorem dX11_dig_15 : decode cX11_dig 15 = .ok (.aload_n 0, 1) := by decide +kernel
theorem dX11_dig_16 : decode cX11_dig 16 = .ok (.getfield 54, 3) := by decide +kernel
theorem dX11_dig_19 : decode cX11_dig 19 = .ok (.getfield 209, 3) := by decide +kernel
theorem dX11_dig_22 : decode cX11_dig 22 = .ok (.iload_n 3, 1) := by decide +kernel
theorem dX11_dig_23 : decode cX11_dig 23 = .ok (.iaload, 1) := by decide +kernel
theorem dX11_dig_24 : decode cX11_dig 24 = .ok (.iconst 1, 1) := by decide +kernel
theorem dX11_dig_25 : decode cX11_dig 25 = .ok (.if_icmp .eq 15, 3) := by decide +kernel
theorem dX11_dig_28 : decode cX11_dig 28 = .ok (.aload_n 0, 1) := by decide +kernel
theorem dX11_dig_29 : decode cX11_dig 29 = .ok (.getfield 54, 3) := by decide +kernel
theorem dX11_dig_32 : decode cX11_dig 32 = .ok (.getfield 206, 3) := by decide +kernel
theorem dX11_dig_35 : decode cX11_dig 35 = .ok (.iload_n 3, 1) := by decide +kernel
theorem dX11_dig_36 : decode cX11_dig 36 = .ok (.iaload, 1) := by decide +kernel
theorem dX11_dig_37 : decode cX11_dig 37 = .ok (.ifCond .ne 9, 3) := by decide +kernel
theorem dX11_dig_40 : decode cX11_dig 40 = .ok (.aload_n 0, 1) := by decide +kernel
theorem dX11_dig_41 : decode cX11_dig 41 = .ok (.iconst 3, 1) := by decide +kernel
theorem dX11_dig_42 : decode cX11_dig 42 = .ok (.invokevirtual 121, 3) := by decide +kernel
theorem dX11_dig_45 : decode cX11_dig 45 = .ok (.ireturn, 1) := by decide +kernel
theorem dX11_dig_46 : decode cX11_dig 46 = .ok (.aload_n 0, 1) := by decide +kernel
theorem dX11_dig_47 : decode cX11_dig 47 = .ok (.getfield 64, 3) := by decide +kernel
theorem dX11_dig_50 : decode cX11_dig 50 = .ok (.aload_n 0, 1) := by decide +kernel
theorem dX11_dig_51 : decode cX11_dig 51 = .ok (.getfield 54, 3) := by decide +kernel
theorem dX11_dig_54 : decode cX11_dig 54 = .ok (.invokevirtual 319, 3) := by decide +kernel
theorem dX11_dig_57 : decode cX11_dig 57 = .ok (.aload_n 0, 1) := by decide +kernel
theorem dX11_dig_58 : decode cX11_dig 58 = .ok (.getfield 54, 3) := by decide +kernel
theorem dX11_dig_61 : decode cX11_dig 61 = .ok (.getfield 206, 3) := by decide +kernel
theorem dX11_dig_64 : decode cX11_dig 64 = .ok (.iload_n 3, 1) := by decide +kernel
theorem dX11_dig_65 : decode cX11_dig 65 = .ok (.dup2, 1) := by decide +kernel
theorem dX11_dig_66 : decode cX11_dig 66 = .ok (.iaload, 1) := by decide +kernel
theorem dX11_dig_67 : decode cX11_dig 67 = .ok (.iconst 1, 1) := by decide +kernel
theorem dX11_dig_68 : decode cX11_dig 68 = .ok (.isub, 1) := by decide +kernel
theorem dX11_dig_69 : decode cX11_dig 69 = .ok (.iastore, 1) := by decide +kernel
theorem dX11_dig_70 : decode cX11_dig 70 = .ok (.aload_n 0, 1) := by decide +kernel
theorem dX11_dig_71 : decode cX11_dig 71 = .ok (.invokevirtual 146, 3) := by decide +kernel
theorem dX11_dig_74 : decode cX11_dig 74 = .ok (.aload_n 0, 1) := by decide +kernel
theorem dX11_dig_75 : decode cX11_dig 75 = .ok (.getfield 54, 3) := by decide +kernel
theorem dX11_dig_78 : decode cX11_dig 78 = .ok (.getfield 206, 3) := by decide +kernel
theorem dX11_dig_81 : decode cX11_dig 81 = .ok (.iload_n 3, 1) := by decide +kernel
theorem dX11_dig_82 : decode cX11_dig 82 = .ok (.iaload, 1) := by decide +kernel
theorem dX11_dig_83 : decode cX11_dig 83 = .ok (.ireturn, 1) := by decide +kernel
def X11_dig_p40 (sh : Shp) (v0 : Nat) (Q : Int32 → Mem → Prop) (m : Mem) : Prop :=
  Ob sh v0 11 ∧ wp_X11_refuse sh v0 (3 : Int32) (fun r36 m37 => Q r36 m37) m
def wp_X11_dig (sh : Shp) (v0 : Nat) (v1 : Int32) (v2 : Int32) (Q : Int32 → Mem → Prop) (m : Mem) : Prop :=
  Ob sh v0 11 ∧ ∃ b2 : Nat, m.2.2 v0 3 = some b2 ∧ (Ob sh b2 5 ∧ wp_X5_placeOf sh b2 v1 v2 (fun r4 m5 => if r4 = (-1 : Int32) then (X11_dig_p40 sh v0 Q m5) else (∃ b7 : Nat, m5.2.2 v0 6 = some b7 ∧ (Ob sh b7 1 ∧ ∃ b10 : Nat, m5.2.2 b7 3 = some b10 ∧ (Ix sh b10 100 r4 ∧ (if (m5.1 b10 r4.toNatClampNeg) = (1 : Int32) then (X11_dig_p40 sh v0 Q m5) else (∃ b13 : Nat, m5.2.2 b7 2 = some b13 ∧ (Ix sh b13 100 r4 ∧ (if (m5.1 b13 r4.toNatClampNeg) = 0 then (X11_dig_p40 sh v0 Q m5) else (∃ b16 : Nat, m5.2.2 v0 8 = some b16 ∧ (Ob sh b16 3 ∧ wp_X3_remember sh b16 b7 (fun m19 => ∃ b21 : Nat, m19.2.2 v0 6 = some b21 ∧ (Ob sh b21 1 ∧ ∃ b24 : Nat, m19.2.2 b21 2 = some b24 ∧ (Ix sh b24 100 r4 ∧ (bnd (sI m19 b24 r4.toNatClampNeg ((m19.1 b24 r4.toNatClampNeg) - (1 : Int32))) (fun m27 => wp_X11_forgetWays sh v0 (fun m29 => ∃ b30 : Nat, m29.2.2 v0 6 = some b30 ∧ (Ob sh b30 1 ∧ ∃ b33 : Nat, m29.2.2 b30 2 = some b33 ∧ (Ix sh b33 100 r4 ∧ (Q (m29.1 b33 r4.toNatClampNeg) m29)))) m27))))) m5)))))))))) m)
abbrev M_X11_dig : Mi := (cX11_dig, 4, RX11, (Option.some FieldType.int), "dig", 4, 126, 0, 0)
set_option maxHeartbeats 4000000 in
set_option maxRecDepth 100000 in
theorem v_X11_dig_p40 {G : Gl} {F : Fr} {sh : Shp} {v0 : Nat} {Q : Int32 → Mem → Prop} {m : Mem} (h : X11_dig_p40 sh v0 Q m) : V G F M_X11_dig sh 0 0 (Zi G F sh Q) 40 [(0, .ref (G.1 + v0))] [] m := by
  unfold X11_dig_p40 at h
  refine v_aload_n 0 0 dX11_dig_40 rfl rfl ?_
  refine v_iconst (3 : Int32) dX11_dig_41 (by decide) ?_
  obtain ⟨o38, h⟩ := h
  refine v_cVi [.int _] mv_X11_refuse ml_RX11_121 ⟨_, _, rfl⟩ o38 rfl rfl (Nat.le_of_ble_eq_true rfl) (Nat.le_of_ble_eq_true rfl) (Nat.le_of_ble_eq_true rfl) (Nat.zero_le _) (Nat.zero_le _) dX11_dig_42 (c_X11_refuse h) (fun r36 m37 h => ?_)
  exact v_iret dX11_dig_45 rfl rfl h
set_option maxHeartbeats 4000000 in
set_option maxRecDepth 100000 in
theorem c_X11_dig {l : Launch} {G : Gl} {sh : Shp} {v0 : Nat} {v1 : Int32} {v2 : Int32} {Q : Int32 → Mem → Prop} {m : Mem} (h : wp_X11_dig sh v0 v1 v2 Q m) : Cni l G yX11_dig cX11_dig 4 (Option.some FieldType.int) 4 126 sh [.ref (G.1 + v0), .int v1, .int v2] m Q := by
  refine con_i (ls := [(0, .ref (G.1 + v0)), (1, .int v1), (2, .int v2)]) (by decide +kernel) rfl (Nat.le_of_ble_eq_true rfl) (fun F => ?_)
  show V G F M_X11_dig sh 0 0 (Zi G F sh Q) 0 [(0, .ref (G.1 + v0)), (1, .int v1), (2, .int v2)] [] m
  unfold wp_X11_dig at h
  refine v_aload_n 0 0 dX11_dig_0 rfl rfl ?_
  obtain ⟨o1, h⟩ := h
  obtain ⟨b2, e3, h⟩ := h
  refine v_gR 11 3 dX11_dig_1 fg_RX11_35 o1 e3 ?_
  refine v_iload_n 1 1 dX11_dig_4 rfl rfl ?_
  refine v_iload_n 2 2 dX11_dig_5 rfl rfl ?_
  obtain ⟨o6, h⟩ := h
  refine v_cVi [.int _, .int _] mv_X5_placeOf ml_RX11_203 ⟨_, _, rfl⟩ o6 rfl rfl (Nat.le_of_ble_eq_true rfl) (Nat.le_of_ble_eq_true rfl) (Nat.le_of_ble_eq_true rfl) (Nat.zero_le _) (Nat.zero_le _) dX11_dig_6 (c_X5_placeOf h) (fun r4 m5 h => ?_)
  refine v_istore_n (ls' := [(3, .int _), (0, .ref _), (1, .int _), (2, .int _)]) 3 dX11_dig_9 rfl (Nat.le_of_ble_eq_true rfl) rfl ?_
  refine v_iload_n 3 0 dX11_dig_10 rfl rfl ?_
  refine v_iconst (-1 : Int32) dX11_dig_11 (by decide) ?_
  refine v_icmp_eq 40 dX11_dig_12 (by decide) (fun hc => ?_) (fun hc => ?_)
  · replace h := Eq.mp (if_pos hc) h
    refine v_sub [1] rfl ?_
    exact v_X11_dig_p40 h
  · replace h := Eq.mp (if_neg hc) h
    refine v_aload_n 0 1 dX11_dig_15 rfl rfl ?_
    obtain ⟨b7, e8, h⟩ := h
    refine v_gR 11 6 dX11_dig_16 fg_RX11_54 o1 e8 ?_
    obtain ⟨o9, h⟩ := h
    obtain ⟨b10, e11, h⟩ := h
    refine v_gR 1 3 dX11_dig_19 fg_RX11_209 o9 e11 ?_
    refine v_iload_n 3 0 dX11_dig_22 rfl rfl ?_
    obtain ⟨i12, h⟩ := h
    refine v_iald dX11_dig_23 i12 ?_
    refine v_iconst (1 : Int32) dX11_dig_24 (by decide) ?_
    refine v_icmp_eq 40 dX11_dig_25 (by decide) (fun hc => ?_) (fun hc => ?_)
    · replace h := Eq.mp (if_pos hc) h
      refine v_sub [1] rfl ?_
      exact v_X11_dig_p40 h
    · replace h := Eq.mp (if_neg hc) h
      refine v_aload_n 0 1 dX11_dig_28 rfl rfl ?_
      refine v_gR 11 6 dX11_dig_29 fg_RX11_54 o1 e8 ?_
      obtain ⟨b13, e14, h⟩ := h
      refine v_gR 1 2 dX11_dig_32 fg_RX11_206 o9 e14 ?_
      refine v_iload_n 3 0 dX11_dig_35 rfl rfl ?_
      obtain ⟨i15, h⟩ := h
      refine v_iald dX11_dig_36 i15 ?_
      refine v_if_ne 46 dX11_dig_37 (by decide) (fun hc => ?_) (fun hc => ?_)
      · replace h := Eq.mp (if_neg hc) h
        refine v_aload_n 0 1 dX11_dig_46 rfl rfl ?_
        obtain ⟨b16, e17, h⟩ := h
        refine v_gR 11 8 dX11_dig_47 fg_RX11_64 o1 e17 ?_
        refine v_aload_n 0 1 dX11_dig_50 rfl rfl ?_
        refine v_gR 11 6 dX11_dig_51 fg_RX11_54 o1 e8 ?_
        obtain ⟨o20, h⟩ := h
        refine v_cVv [.ref _] mv_X3_remember ml_RX11_319 ⟨_, _, rfl⟩ o20 rfl rfl (Nat.le_of_ble_eq_true rfl) (Nat.le_of_ble_eq_true rfl) (Nat.le_of_ble_eq_true rfl) (Nat.zero_le _) (Nat.zero_le _) dX11_dig_54 (c_X3_remember h) (fun m19 h => ?_)
        refine v_aload_n 0 1 dX11_dig_57 rfl rfl ?_
        obtain ⟨b21, e22, h⟩ := h
        refine v_gR 11 6 dX11_dig_58 fg_RX11_54 o1 e22 ?_
        obtain ⟨o23, h⟩ := h
        obtain ⟨b24, e25, h⟩ := h
        refine v_gR 1 2 dX11_dig_61 fg_RX11_206 o23 e25 ?_
        refine v_iload_n 3 0 dX11_dig_64 rfl rfl ?_
        refine v_dup2 dX11_dig_65 rfl rfl ?_
        obtain ⟨i26, h⟩ := h
        refine v_iald dX11_dig_66 i26 ?_
        refine v_iconst (1 : Int32) dX11_dig_67 (by decide) ?_
        refine v_isub dX11_dig_68 ?_
        refine v_iast dX11_dig_69 i26 ?_
        replace h := bnd_e h
        refine v_aload_n 0 1 dX11_dig_70 rfl rfl ?_
        refine v_cVv [] mv_X11_forgetWays ml_RX11_146 ⟨_, _, rfl⟩ o1 rfl rfl (Nat.le_of_ble_eq_true rfl) (Nat.le_of_ble_eq_true rfl) (Nat.le_of_ble_eq_true rfl) (Nat.zero_le _) (Nat.zero_le _) dX11_dig_71 (c_X11_forgetWays h) (fun m29 h => ?_)
        refine v_aload_n 0 1 dX11_dig_74 rfl rfl ?_
        obtain ⟨b30, e31, h⟩ := h
        refine v_gR 11 6 dX11_dig_75 fg_RX11_54 o1 e31 ?_
        obtain ⟨o32, h⟩ := h
        obtain ⟨b33, e34, h⟩ := h
        refine v_gR 1 2 dX11_dig_78 fg_RX11_206 o32 e34 ?_
        refine v_iload_n 3 0 dX11_dig_81 rfl rfl ?_
        obtain ⟨i35, h⟩ := h
        refine v_iald dX11_dig_82 i35 ?_
        exact v_iret dX11_dig_83 rfl rfl h
      · replace h := Eq.mp (if_pos hc) h
        refine v_sub [1] rfl ?_
        exact v_X11_dig_p40 h
/-! CalledRiver.dry -/
theorem dX11_dry_0 : decode cX11_dry 0 = .ok (.aload_n 0, 1) := by decide +kernel
theorem dX11_dry_1 : decode cX11_dry 1 = .ok (.getfield 71, 3) := by decide +kernel
theorem dX11_dry_4 : decode cX11_dry 4 = .ok (.aload_n 0, 1) := by decide +kernel
theorem dX11_dry_5 : decode cX11_dry 5 = .ok (.getfield 35, 3) := by decide +kernel
theorem dX11_dry_8 : decode cX11_dry 8 = .ok (.aload_n 0, 1) := by decide +kernel
theorem dX11_dry_9 : decode cX11_dry 9 = .ok (.getfield 54, 3) := by decide +kernel
theorem dX11_dry_12 : decode cX11_dry 12 = .ok (.invokevirtual 266, 3) := by decide +kernel
theorem dX11_dry_15 : decode cX11_dry 15 = .ok (.iconst 1, 1) := by decide +kernel
theorem dX11_dry_16 : decode cX11_dry 16 = .ok (.aload_n 0, 1) := by decide +kernel
theorem dX11_dry_17 : decode cX11_dry 17 = .ok (.getfield 35, 3) := by decide +kernel
theorem dX11_dry_20 : decode cX11_dry 20 = .ok (.getfield 158, 3) := by decide +kernel
theorem dX11_dry_23 : decode cX11_dry 23 = .ok (.ishl, 1) := by decide +kernel
theorem dX11_dry_24 : decode cX11_dry 24 = .ok (.iconst 1, 1) := by decide +kernel
theorem dX11_dry_25 : decode cX11_dry 25 = .ok (.isub, 1) := by decide +kernel
theorem dX11_dry_26 : decode cX11_dry 26 = .ok (.istore_n 1, 1) := by decide +kernel
theorem dX11_dry_27 : decode cX11_dry 27 = .ok (.iconst (-1), 1) := by decide +kernel
theorem dX11_dry_28 : decode cX11_dry 28 = .ok (.istore_n 2, 1) := by decide +kernel
theorem dX11_dry_29 : decode cX11_dry 29 = .ok (.iconst 0, 1) := by decide +kernel
theorem dX11_dry_30 : decode cX11_dry 30 = .ok (.istore_n 3, 1) := by decide +kernel
theorem dX11_dry_31 : decode cX11_dry 31 = .ok (.iload_n 3, 1) := by decide +kernel
theorem dX11_dry_32 : decode cX11_dry 32 = .ok (.iload_n 1, 1) := by decide +kernel
theorem dX11_dry_33 : decode cX11_dry 33 = .ok (.if_icmp .gt 55, 3) := by decide +kernel
theorem dX11_dry_36 : decode cX11_dry 36 = .ok (.iload_n 2, 1) := by decide +kernel
theorem dX11_dry_37 : decode cX11_dry 37 = .ok (.iconst (-1), 1) := by decide +kernel
theorem dX11_dry_38 : decode cX11_dry 38 = .ok (.if_icmp .eq 14, 3) := by decide +kernel
theorem dX11_dry_41 : decode cX11_dry 41 = .ok (.iload_n 3, 1) := by decide +kernel
theorem dX11_dry_42 : decode cX11_dry 42 = .ok (.invokestatic 273, 3) := by decide +kernel
theorem dX11_dry_45 : decode cX11_dry 45 = .ok (.iload_n 2, 1) := by decide +kernel
theorem dX11_dry_46 : decode cX11_dry 46 = .ok (.invokestatic 273, 3) := by decide +kernel
theorem dX11_dry_49 : decode cX11_dry 49 = .ok (.if_icmp .ge 7, 3) := by decide +kernel
theorem dX11_dry_52 : decode cX11_dry 52 = .ok (.iconst 1, 1) := by decide +kernel
theorem dX11_dry_53 : decode cX11_dry 53 = .ok (.goto 4, 3) := by decide +kernel
theorem dX11_dry_56 : decode cX11_dry 56 = .ok (.iconst 0, 1) := by decide +kernel
theorem dX11_dry_57 : decode cX11_dry 57 = .ok (.istore 4, 2) := by decide +kernel
theorem dX11_dry_59 : decode cX11_dry 59 = .ok (.iload 4, 2) := by decide +kernel
theorem dX11_dry_61 : decode cX11_dry 61 = .ok (.ifCond .eq 21, 3) := by decide +kernel
theorem dX11_dry_64 : decode cX11_dry 64 = .ok (.aload_n 0, 1) := by decide +kernel
theorem dX11_dry_65 : decode cX11_dry 65 = .ok (.getfield 71, 3) := by decide +kernel
theorem dX11_dry_68 : decode cX11_dry 68 = .ok (.iload_n 1, 1) := by decide +kernel
theorem dX11_dry_69 : decode cX11_dry 69 = .ok (.iload_n 3, 1) := by decide +kernel
theorem dX11_dry_70 : decode cX11_dry 70 = .ok (.iconst (-1), 1) := by decide +kernel
theorem dX11_dry_71 : decode cX11_dry 71 = .ok (.ixor, 1) := by decide +kernel
theorem dX11_dry_72 : decode cX11_dry 72 = .ok (.iand, 1) := by decide +kernel
theorem dX11_dry_73 : decode cX11_dry 73 = .ok (.invokevirtual 270, 3) := by decide +kernel
theorem dX11_dry_76 : decode cX11_dry 76 = .ok (.iconst (-1), 1) := by decide +kernel
theorem dX11_dry_77 : decode cX11_dry 77 = .ok (.if_icmp .eq 5, 3) := by decide +kernel
theorem dX11_dry_80 : decode cX11_dry 80 = .ok (.iload_n 3, 1) := by decide +kernel
theorem dX11_dry_81 : decode cX11_dry 81 = .ok (.istore_n 2, 1) := by decide +kernel
theorem dX11_dry_82 : decode cX11_dry 82 = .ok (.iinc 3 1, 3) := by decide +kernel
theorem dX11_dry_85 : decode cX11_dry 85 = .ok (.goto (-54), 3) := by decide +kernel
theorem dX11_dry_88 : decode cX11_dry 88 = .ok (.iload_n 2, 1) := by decide +kernel
theorem dX11_dry_89 : decode cX11_dry 89 = .ok (.ireturn, 1) := by decide +kernel
def X11_dry_p82 (sh : Shp) (v0 : Nat) (v1 : Int32) (v2 : Int32) (v3 : Int32) (Q : Int32 → Mem → Prop) (K31 : Int32 → Int32 → Mem → Prop) (m : Mem) : Prop :=
  K31 v2 (v3 + (1 : Int32)) m
def X11_dry_p57 (sh : Shp) (v0 : Nat) (v1 : Int32) (v2 : Int32) (v3 : Int32) (s0 : Int32) (Q : Int32 → Mem → Prop) (K31 : Int32 → Int32 → Mem → Prop) (m : Mem) : Prop :=
  if s0 = 0 then (X11_dry_p82 sh v0 v1 v2 v3 Q K31 m) else (Ob sh v0 11 ∧ ∃ b19 : Nat, m.2.2 v0 9 = some b19 ∧ (Ob sh b19 2 ∧ wp_X2_fewestFor sh b19 (v1 &&& (v3 ^^^ (-1 : Int32))) (fun r21 m22 => if r21 = (-1 : Int32) then (X11_dry_p82 sh v0 v1 v2 v3 Q K31 m22) else (X11_dry_p82 sh v0 v1 v3 v3 Q K31 m22)) m))
def X11_dry_p52 (sh : Shp) (v0 : Nat) (v1 : Int32) (v2 : Int32) (v3 : Int32) (Q : Int32 → Mem → Prop) (K31 : Int32 → Int32 → Mem → Prop) (m : Mem) : Prop :=
  X11_dry_p57 sh v0 v1 v2 v3 (1 : Int32) Q K31 m
def X11_dry_p31b (sh : Shp) (v0 : Nat) (v1 : Int32) (Q : Int32 → Mem → Prop) (K31 : Int32 → Int32 → Mem → Prop) (v2 : Int32) (v3 : Int32) (m : Mem) : Prop :=
  if v1 < v3 then (Q v2 m) else (if v2 = (-1 : Int32) then (X11_dry_p52 sh v0 v1 v2 v3 Q K31 m) else (wp_J6_bitCount_0f7a4 sh v3 (fun r14 m15 => wp_J6_bitCount_0f7a4 sh v2 (fun r16 m17 => if r16 ≤ r14 then (X11_dry_p57 sh v0 v1 v2 v3 (0 : Int32) Q K31 m17) else (X11_dry_p52 sh v0 v1 v2 v3 Q K31 m17)) m15) m))
def X11_dry_p31n (sh : Shp) (v0 : Nat) (v1 : Int32) (Q : Int32 → Mem → Prop) : Nat → Int32 → Int32 → Mem → Prop
  | 0 => fun _ _ _ => False
  | n + 1 => X11_dry_p31b sh v0 v1 Q (X11_dry_p31n sh v0 v1 Q n)
def X11_dry_p31 (sh : Shp) (v0 : Nat) (v1 : Int32) (Q : Int32 → Mem → Prop) (v2 : Int32) (v3 : Int32) (m : Mem) : Prop := ∃ n, X11_dry_p31n sh v0 v1 Q n v2 v3 m
def wp_X11_dry (sh : Shp) (v0 : Nat) (Q : Int32 → Mem → Prop) (m : Mem) : Prop :=
  Ob sh v0 11 ∧ ∃ b2 : Nat, m.2.2 v0 9 = some b2 ∧ (∃ b4 : Nat, m.2.2 v0 3 = some b4 ∧ (∃ b6 : Nat, m.2.2 v0 6 = some b6 ∧ (Ob sh b2 2 ∧ wp_X2_search sh b2 b4 b6 (fun m9 => ∃ b11 : Nat, m9.2.2 v0 3 = some b11 ∧ (Ob sh b11 5 ∧ (X11_dry_p31 sh v0 (((1 : Int32) <<< ((m9.1 b11 3) &&& 31)) - (1 : Int32)) Q (-1 : Int32) (0 : Int32) m9))) m)))
abbrev M_X11_dry : Mi := (cX11_dry, 5, RX11, (Option.some FieldType.int), "dry", 5, 155, 0, 0)
set_option maxHeartbeats 4000000 in
set_option maxRecDepth 100000 in
theorem v_X11_dry_p82 {G : Gl} {F : Fr} {sh : Shp} {v0 : Nat} {v1 : Int32} {v2 : Int32} {v3 : Int32} {Q : Int32 → Mem → Prop} {K31 : Int32 → Int32 → Mem → Prop} {m : Mem} (hK31 : ∀ (x2 : Int32) (x3 : Int32) (m : Mem), K31 x2 x3 m → V G F M_X11_dry sh 0 0 (Zi G F sh Q) 31 [(0, .ref (G.1 + v0)), (1, .int v1), (2, .int x2), (3, .int x3)] [] m) (h : X11_dry_p82 sh v0 v1 v2 v3 Q K31 m) : V G F M_X11_dry sh 0 0 (Zi G F sh Q) 82 [(0, .ref (G.1 + v0)), (1, .int v1), (2, .int v2), (3, .int v3)] [] m := by
  unfold X11_dry_p82 at h
  refine v_iinc (ls' := [(3, .int _), (0, .ref _), (1, .int _), (2, .int _)]) 3 3 dX11_dry_82 rfl (congrArg (HAdd.hAdd _) (by decide : Int32.ofInt (1) = (1 : Int32))) (Nat.le_of_ble_eq_true rfl) rfl ?_
  refine v_goto 31 dX11_dry_85 (by decide) ?_
  refine v_sub [1, 2, 3, 0] rfl ?_
  exact hK31 _ _ _ h
set_option maxHeartbeats 4000000 in
set_option maxRecDepth 100000 in
theorem v_X11_dry_p57 {G : Gl} {F : Fr} {sh : Shp} {v0 : Nat} {v1 : Int32} {v2 : Int32} {v3 : Int32} {s0 : Int32} {Q : Int32 → Mem → Prop} {K31 : Int32 → Int32 → Mem → Prop} {m : Mem} (hK31 : ∀ (x2 : Int32) (x3 : Int32) (m : Mem), K31 x2 x3 m → V G F M_X11_dry sh 0 0 (Zi G F sh Q) 31 [(0, .ref (G.1 + v0)), (1, .int v1), (2, .int x2), (3, .int x3)] [] m) (h : X11_dry_p57 sh v0 v1 v2 v3 s0 Q K31 m) : V G F M_X11_dry sh 0 0 (Zi G F sh Q) 57 [(0, .ref (G.1 + v0)), (1, .int v1), (2, .int v2), (3, .int v3)] [.int s0] m := by
  unfold X11_dry_p57 at h
  refine v_istore (ls' := [(4, .int _), (0, .ref _), (1, .int _), (2, .int _), (3, .int _)]) 4 dX11_dry_57 (Nat.le_of_ble_eq_true rfl) rfl ?_
  refine v_iload 4 0 dX11_dry_59 rfl ?_
  refine v_if_eq 82 dX11_dry_61 (by decide) (fun hc => ?_) (fun hc => ?_)
  · replace h := Eq.mp (if_pos hc) h
    refine v_sub [1, 2, 3, 4] rfl ?_
    exact v_X11_dry_p82 hK31 h
  · replace h := Eq.mp (if_neg hc) h
    refine v_aload_n 0 1 dX11_dry_64 rfl rfl ?_
    obtain ⟨o18, h⟩ := h
    obtain ⟨b19, e20, h⟩ := h
    refine v_gR 11 9 dX11_dry_65 fg_RX11_71 o18 e20 ?_
    refine v_iload_n 1 2 dX11_dry_68 rfl rfl ?_
    refine v_iload_n 3 4 dX11_dry_69 rfl rfl ?_
    refine v_iconst (-1 : Int32) dX11_dry_70 (by decide) ?_
    refine v_ixor dX11_dry_71 ?_
    refine v_iand dX11_dry_72 ?_
    obtain ⟨o23, h⟩ := h
    refine v_cVi [.int _] mv_X2_fewestFor ml_RX11_270 ⟨_, _, rfl⟩ o23 rfl rfl (Nat.le_of_ble_eq_true rfl) (Nat.le_of_ble_eq_true rfl) (Nat.le_of_ble_eq_true rfl) (Nat.zero_le _) (Nat.zero_le _) dX11_dry_73 (c_X2_fewestFor h) (fun r21 m22 h => ?_)
    refine v_iconst (-1 : Int32) dX11_dry_76 (by decide) ?_
    refine v_icmp_eq 82 dX11_dry_77 (by decide) (fun hc => ?_) (fun hc => ?_)
    · replace h := Eq.mp (if_pos hc) h
      refine v_sub [1, 2, 3, 4] rfl ?_
      exact v_X11_dry_p82 hK31 h
    · replace h := Eq.mp (if_neg hc) h
      refine v_iload_n 3 4 dX11_dry_80 rfl rfl ?_
      refine v_istore_n (ls' := [(2, .int _), (4, .int _), (0, .ref _), (1, .int _), (3, .int _)]) 2 dX11_dry_81 rfl (Nat.le_of_ble_eq_true rfl) rfl ?_
      refine v_sub [2, 3, 0, 4] rfl ?_
      exact v_X11_dry_p82 hK31 h
set_option maxHeartbeats 4000000 in
set_option maxRecDepth 100000 in
theorem v_X11_dry_p52 {G : Gl} {F : Fr} {sh : Shp} {v0 : Nat} {v1 : Int32} {v2 : Int32} {v3 : Int32} {Q : Int32 → Mem → Prop} {K31 : Int32 → Int32 → Mem → Prop} {m : Mem} (hK31 : ∀ (x2 : Int32) (x3 : Int32) (m : Mem), K31 x2 x3 m → V G F M_X11_dry sh 0 0 (Zi G F sh Q) 31 [(0, .ref (G.1 + v0)), (1, .int v1), (2, .int x2), (3, .int x3)] [] m) (h : X11_dry_p52 sh v0 v1 v2 v3 Q K31 m) : V G F M_X11_dry sh 0 0 (Zi G F sh Q) 52 [(0, .ref (G.1 + v0)), (1, .int v1), (2, .int v2), (3, .int v3)] [] m := by
  unfold X11_dry_p52 at h
  refine v_iconst (1 : Int32) dX11_dry_52 (by decide) ?_
  refine v_goto 57 dX11_dry_53 (by decide) ?_
  refine v_sub [0, 1, 2, 3] rfl ?_
  exact v_X11_dry_p57 hK31 h
set_option maxHeartbeats 4000000 in
set_option maxRecDepth 100000 in
theorem v_X11_dry_p31b {G : Gl} {F : Fr} {sh : Shp} {v0 : Nat} {v1 : Int32} {v2 : Int32} {v3 : Int32} {Q : Int32 → Mem → Prop} {K31 : Int32 → Int32 → Mem → Prop} {m : Mem} (hK31 : ∀ (x2 : Int32) (x3 : Int32) (m : Mem), K31 x2 x3 m → V G F M_X11_dry sh 0 0 (Zi G F sh Q) 31 [(0, .ref (G.1 + v0)), (1, .int v1), (2, .int x2), (3, .int x3)] [] m) (h : X11_dry_p31b sh v0 v1 Q K31 v2 v3 m) : V G F M_X11_dry sh 0 0 (Zi G F sh Q) 31 [(0, .ref (G.1 + v0)), (1, .int v1), (2, .int v2), (3, .int v3)] [] m := by
  unfold X11_dry_p31b at h
  refine v_iload_n 3 3 dX11_dry_31 rfl rfl ?_
  refine v_iload_n 1 1 dX11_dry_32 rfl rfl ?_
  refine v_icmp_gt 88 dX11_dry_33 (by decide) (fun hc => ?_) (fun hc => ?_)
  · replace h := Eq.mp (if_pos hc) h
    refine v_iload_n 2 2 dX11_dry_88 rfl rfl ?_
    exact v_iret dX11_dry_89 rfl rfl h
  · replace h := Eq.mp (if_neg hc) h
    refine v_iload_n 2 2 dX11_dry_36 rfl rfl ?_
    refine v_iconst (-1 : Int32) dX11_dry_37 (by decide) ?_
    refine v_icmp_eq 52 dX11_dry_38 (by decide) (fun hc => ?_) (fun hc => ?_)
    · replace h := Eq.mp (if_pos hc) h
      refine v_sub [0, 1, 2, 3] rfl ?_
      exact v_X11_dry_p52 hK31 h
    · replace h := Eq.mp (if_neg hc) h
      refine v_iload_n 3 3 dX11_dry_41 rfl rfl ?_
      refine v_cSi [.int _] mv_J6_bitCount_0f7a4 ml_RX11_273 rfl rfl (Nat.le_of_ble_eq_true rfl) (Nat.le_of_ble_eq_true rfl) (Nat.le_of_ble_eq_true rfl) (Nat.zero_le _) (Nat.zero_le _) dX11_dry_42 (c_J6_bitCount_0f7a4 h) (fun r14 m15 h => ?_)
      refine v_iload_n 2 2 dX11_dry_45 rfl rfl ?_
      refine v_cSi [.int _] mv_J6_bitCount_0f7a4 ml_RX11_273 rfl rfl (Nat.le_of_ble_eq_true rfl) (Nat.le_of_ble_eq_true rfl) (Nat.le_of_ble_eq_true rfl) (Nat.zero_le _) (Nat.zero_le _) dX11_dry_46 (c_J6_bitCount_0f7a4 h) (fun r16 m17 h => ?_)
      refine v_icmp_ge 56 dX11_dry_49 (by decide) (fun hc => ?_) (fun hc => ?_)
      · replace h := Eq.mp (if_pos hc) h
        refine v_iconst (0 : Int32) dX11_dry_56 (by decide) ?_
        refine v_sub [0, 1, 2, 3] rfl ?_
        exact v_X11_dry_p57 hK31 h
      · replace h := Eq.mp (if_neg hc) h
        refine v_sub [0, 1, 2, 3] rfl ?_
        exact v_X11_dry_p52 hK31 h
set_option maxHeartbeats 4000000 in
set_option maxRecDepth 100000 in
theorem v_X11_dry_p31 {G : Gl} {F : Fr} {sh : Shp} {v0 : Nat} {v1 : Int32} {v2 : Int32} {v3 : Int32} {Q : Int32 → Mem → Prop} {m : Mem} (h : X11_dry_p31 sh v0 v1 Q v2 v3 m) : V G F M_X11_dry sh 0 0 (Zi G F sh Q) 31 [(0, .ref (G.1 + v0)), (1, .int v1), (2, .int v2), (3, .int v3)] [] m := by
  obtain ⟨n, h⟩ := h
  induction n generalizing v2 v3 m with
  | zero => exact h.elim
  | succ n ih => exact v_X11_dry_p31b (fun _ _ _ h => ih h) h
set_option maxHeartbeats 4000000 in
set_option maxRecDepth 100000 in
theorem c_X11_dry {l : Launch} {G : Gl} {sh : Shp} {v0 : Nat} {Q : Int32 → Mem → Prop} {m : Mem} (h : wp_X11_dry sh v0 Q m) : Cni l G yX11_dry cX11_dry 5 (Option.some FieldType.int) 5 155 sh [.ref (G.1 + v0)] m Q := by
  refine con_i (ls := [(0, .ref (G.1 + v0))]) (by decide +kernel) rfl (Nat.le_of_ble_eq_true rfl) (fun F => ?_)
  show V G F M_X11_dry sh 0 0 (Zi G F sh Q) 0 [(0, .ref (G.1 + v0))] [] m
  unfold wp_X11_dry at h
  refine v_aload_n 0 0 dX11_dry_0 rfl rfl ?_
  obtain ⟨o1, h⟩ := h
  obtain ⟨b2, e3, h⟩ := h
  refine v_gR 11 9 dX11_dry_1 fg_RX11_71 o1 e3 ?_
  refine v_aload_n 0 0 dX11_dry_4 rfl rfl ?_
  obtain ⟨b4, e5, h⟩ := h
  refine v_gR 11 3 dX11_dry_5 fg_RX11_35 o1 e5 ?_
  refine v_aload_n 0 0 dX11_dry_8 rfl rfl ?_
  obtain ⟨b6, e7, h⟩ := h
  refine v_gR 11 6 dX11_dry_9 fg_RX11_54 o1 e7 ?_
  obtain ⟨o10, h⟩ := h
  refine v_cVv [.ref _, .ref _] mv_X2_search ml_RX11_266 ⟨_, _, rfl⟩ o10 rfl rfl (Nat.le_of_ble_eq_true rfl) (Nat.le_of_ble_eq_true rfl) (Nat.le_of_ble_eq_true rfl) (Nat.zero_le _) (Nat.zero_le _) dX11_dry_12 (c_X2_search h) (fun m9 h => ?_)
  refine v_iconst (1 : Int32) dX11_dry_15 (by decide) ?_
  refine v_aload_n 0 0 dX11_dry_16 rfl rfl ?_
  obtain ⟨b11, e12, h⟩ := h
  refine v_gR 11 3 dX11_dry_17 fg_RX11_35 o1 e12 ?_
  obtain ⟨o13, h⟩ := h
  refine v_gI 5 3 dX11_dry_20 fg_RX11_158 o13 ?_
  refine v_ishl dX11_dry_23 ?_
  refine v_iconst (1 : Int32) dX11_dry_24 (by decide) ?_
  refine v_isub dX11_dry_25 ?_
  refine v_istore_n (ls' := [(1, .int _), (0, .ref _)]) 1 dX11_dry_26 rfl (Nat.le_of_ble_eq_true rfl) rfl ?_
  refine v_iconst (-1 : Int32) dX11_dry_27 (by decide) ?_
  refine v_istore_n (ls' := [(2, .int _), (1, .int _), (0, .ref _)]) 2 dX11_dry_28 rfl (Nat.le_of_ble_eq_true rfl) rfl ?_
  refine v_iconst (0 : Int32) dX11_dry_29 (by decide) ?_
  refine v_istore_n (ls' := [(3, .int _), (2, .int _), (1, .int _), (0, .ref _)]) 3 dX11_dry_30 rfl (Nat.le_of_ble_eq_true rfl) rfl ?_
  refine v_sub [3, 2, 1, 0] rfl ?_
  exact v_X11_dry_p31 h
/-! CalledRiver.end -/
theorem dX11_end_0 : decode cX11_end 0 = .ok (.iload_n 1, 1) := by decide +kernel
theorem dX11_end_1 : decode cX11_end 1 = .ok (.ifCond .lt 14, 3) := by decide +kernel
theorem dX11_end_4 : decode cX11_end 4 = .ok (.iload_n 1, 1) := by decide +kernel
theorem dX11_end_5 : decode cX11_end 5 = .ok (.aload_n 0, 1) := by decide +kernel
theorem dX11_end_6 : decode cX11_end 6 = .ok (.getfield 12, 3) := by decide +kernel
theorem dX11_end_9 : decode cX11_end 9 = .ok (.getfield 117, 3) := by decide +kernel
theorem dX11_end_12 : decode cX11_end 12 = .ok (.if_icmp .le 11, 3) := by decide +kernel
theorem dX11_end_15 : decode cX11_end 15 = .ok (.aload_n 0, 1) := by decide +kernel
theorem dX11_end_16 : decode cX11_end 16 = .ok (.iconst 0, 1) := by decide +kernel
theorem dX11_end_17 : decode cX11_end 17 = .ok (.invokevirtual 121, 3) := by decide +kernel
theorem dX11_end_20 : decode cX11_end 20 = .ok (.pop, 1) := by decide +kernel
theorem dX11_end_21 : decode cX11_end 21 = .ok (.iconst 0, 1) := by decide +kernel
theorem dX11_end_22 : decode cX11_end 22 = .ok (.ireturn, 1) := by decide +kernel
theorem dX11_end_23 : decode cX11_end 23 = .ok (.aload_n 0, 1) := by decide +kernel
theorem dX11_end_24 : decode cX11_end 24 = .ok (.getfield 12, 3) := by decide +kernel
theorem dX11_end_27 : decode cX11_end 27 = .ok (.iload_n 1, 1) := by decide +kernel
theorem dX11_end_28 : decode cX11_end 28 = .ok (.putfield 117, 3) := by decide +kernel
theorem dX11_end_31 : decode cX11_end 31 = .ok (.iconst 1, 1) := by decide +kernel
theorem dX11_end_32 : decode cX11_end 32 = .ok (.ireturn, 1) := by decide +kernel
def X11_end_p15 (sh : Shp) (v0 : Nat) (Q : Int32 → Mem → Prop) (m : Mem) : Prop :=
  Ob sh v0 11 ∧ wp_X11_refuse sh v0 (0 : Int32) (fun r6 m7 => Q (0 : Int32) m7) m
def wp_X11_end (sh : Shp) (v0 : Nat) (v1 : Int32) (Q : Int32 → Mem → Prop) (m : Mem) : Prop :=
  if v1 < 0 then (X11_end_p15 sh v0 Q m) else (Ob sh v0 11 ∧ ∃ b2 : Nat, m.2.2 v0 0 = some b2 ∧ (Ob sh b2 9 ∧ (if v1 ≤ (m.1 b2 1) then (bnd (sI m b2 1 v1) (fun m5 => Q (1 : Int32) m5)) else (X11_end_p15 sh v0 Q m))))
abbrev M_X11_end : Mi := (cX11_end, 2, RX11, (Option.some FieldType.boolean), "end", 2, 81, 0, 0)
set_option maxHeartbeats 4000000 in
set_option maxRecDepth 100000 in
theorem v_X11_end_p15 {G : Gl} {F : Fr} {sh : Shp} {v0 : Nat} {Q : Int32 → Mem → Prop} {m : Mem} (h : X11_end_p15 sh v0 Q m) : V G F M_X11_end sh 0 0 (Zi G F sh Q) 15 [(0, .ref (G.1 + v0))] [] m := by
  unfold X11_end_p15 at h
  refine v_aload_n 0 0 dX11_end_15 rfl rfl ?_
  refine v_iconst (0 : Int32) dX11_end_16 (by decide) ?_
  obtain ⟨o8, h⟩ := h
  refine v_cVi [.int _] mv_X11_refuse ml_RX11_121 ⟨_, _, rfl⟩ o8 rfl rfl (Nat.le_of_ble_eq_true rfl) (Nat.le_of_ble_eq_true rfl) (Nat.le_of_ble_eq_true rfl) (Nat.zero_le _) (Nat.zero_le _) dX11_end_17 (c_X11_refuse h) (fun r6 m7 h => ?_)
  refine v_pop dX11_end_20 rfl ?_
  refine v_iconst (0 : Int32) dX11_end_21 (by decide) ?_
  exact v_iret dX11_end_22 rfl (by decide) h
set_option maxHeartbeats 4000000 in
set_option maxRecDepth 100000 in
theorem c_X11_end {l : Launch} {G : Gl} {sh : Shp} {v0 : Nat} {v1 : Int32} {Q : Int32 → Mem → Prop} {m : Mem} (h : wp_X11_end sh v0 v1 Q m) : Cni l G yX11_end cX11_end 2 (Option.some FieldType.boolean) 2 81 sh [.ref (G.1 + v0), .int v1] m Q := by
  refine con_i (ls := [(0, .ref (G.1 + v0)), (1, .int v1)]) (by decide +kernel) rfl (Nat.le_of_ble_eq_true rfl) (fun F => ?_)
  show V G F M_X11_end sh 0 0 (Zi G F sh Q) 0 [(0, .ref (G.1 + v0)), (1, .int v1)] [] m
  unfold wp_X11_end at h
  refine v_iload_n 1 1 dX11_end_0 rfl rfl ?_
  refine v_if_lt 15 dX11_end_1 (by decide) (fun hc => ?_) (fun hc => ?_)
  · replace h := Eq.mp (if_pos hc) h
    refine v_sub [0] rfl ?_
    exact v_X11_end_p15 h
  · replace h := Eq.mp (if_neg hc) h
    refine v_iload_n 1 1 dX11_end_4 rfl rfl ?_
    refine v_aload_n 0 0 dX11_end_5 rfl rfl ?_
    obtain ⟨o1, h⟩ := h
    obtain ⟨b2, e3, h⟩ := h
    refine v_gR 11 0 dX11_end_6 fg_RX11_12 o1 e3 ?_
    obtain ⟨o4, h⟩ := h
    refine v_gI 9 1 dX11_end_9 fg_RX11_117 o4 ?_
    refine v_icmp_le 23 dX11_end_12 (by decide) (fun hc => ?_) (fun hc => ?_)
    · replace h := Eq.mp (if_pos hc) h
      refine v_aload_n 0 0 dX11_end_23 rfl rfl ?_
      refine v_gR 11 0 dX11_end_24 fg_RX11_12 o1 e3 ?_
      refine v_iload_n 1 1 dX11_end_27 rfl rfl ?_
      refine v_pI 9 1 dX11_end_28 fw_RX11_117 o4 ?_
      replace h := bnd_e h
      refine v_iconst (1 : Int32) dX11_end_31 (by decide) ?_
      exact v_iret dX11_end_32 rfl (by decide) h
    · replace h := Eq.mp (if_neg hc) h
      refine v_sub [0] rfl ?_
      exact v_X11_end_p15 h
/-! CalledRiver.farm -/
theorem dX11_farm_0 : decode cX11_farm 0 = .ok (.aload_n 0, 1) := by decide +kernel
theorem dX11_farm_1 : decode cX11_farm 1 = .ok (.getfield 35, 3) := by decide +kernel
theorem dX11_farm_4 : decode cX11_farm 4 = .ok (.iload_n 1, 1) := by decide +kernel
theorem dX11_farm_5 : decode cX11_farm 5 = .ok (.invokevirtual 187, 3) := by decide +kernel
theorem dX11_farm_8 : decode cX11_farm 8 = .ok (.ifCond .ne 5, 3) := by decide +kernel
theorem dX11_farm_11 : decode cX11_farm 11 = .ok (.iconst (-1), 1) := by decide +kernel
theorem dX11_farm_12 : decode cX11_farm 12 = .ok (.ireturn, 1) := by decide +kernel
theorem dX11_farm_13 : decode cX11_farm 13 = .ok (.iload_n 2, 1) := by decide +kernel
theorem dX11_farm_14 : decode cX11_farm 14 = .ok (.tableswitch 84 0 3 #[30, 47, 64, 74], 30) := by decide +kernel
theorem dX11_farm_44 : decode cX11_farm 44 = .ok (.aload_n 0, 1) := by decide +kernel
theorem dX11_farm_45 : decode cX11_farm 45 = .ok (.getfield 35, 3) := by decide +kernel
theorem dX11_farm_48 : decode cX11_farm 48 = .ok (.aload_n 0, 1) := by decide +kernel
theorem dX11_farm_49 : decode cX11_farm 49 = .ok (.getfield 35, 3) := by decide +kernel
theorem dX11_farm_52 : decode cX11_farm 52 = .ok (.getfield 218, 3) := by decide +kernel
theorem dX11_farm_55 : decode cX11_farm 55 = .ok (.iload_n 1, 1) := by decide +kernel
theorem dX11_farm_56 : decode cX11_farm 56 = .ok (.iaload, 1) := by decide +kernel
theorem dX11_farm_57 : decode cX11_farm 57 = .ok (.invokevirtual 221, 3) := by decide +kernel
theorem dX11_farm_60 : decode cX11_farm 60 = .ok (.ireturn, 1) := by decide +kernel
theorem dX11_farm_61 : decode cX11_farm 61 = .ok (.aload_n 0, 1) := by decide +kernel
theorem dX11_farm_62 : decode cX11_farm 62 = .ok (.getfield 35, 3) := by decide +kernel
theorem dX11_farm_65 : decode cX11_farm 65 = .ok (.aload_n 0, 1) := by decide +kernel
theorem dX11_farm_66 : decode cX11_farm 66 = .ok (.getfield 35, 3) := by decide +kernel
theorem dX11_farm_69 : decode cX11_farm 69 = .ok (.getfield 218, 3) := by decide +kernel
theorem dX11_farm_72 : decode cX11_farm 72 = .ok (.iload_n 1, 1) := by decide +kernel
theorem dX11_farm_73 : decode cX11_farm 73 = .ok (.iaload, 1) := by decide +kernel
theorem dX11_farm_74 : decode cX11_farm 74 = .ok (.invokevirtual 224, 3) := by decide +kernel
theorem dX11_farm_77 : decode cX11_farm 77 = .ok (.ireturn, 1) := by decide +kernel
theorem dX11_farm_78 : decode cX11_farm 78 = .ok (.aload_n 0, 1) := by decide +kernel
theorem dX11_farm_79 : decode cX11_farm 79 = .ok (.getfield 35, 3) := by decide +kernel
theorem dX11_farm_82 : decode cX11_farm 82 = .ok (.getfield 227, 3) := by decide +kernel
theorem dX11_farm_85 : decode cX11_farm 85 = .ok (.iload_n 1, 1) := by decide +kernel
theorem dX11_farm_86 : decode cX11_farm 86 = .ok (.iaload, 1) := by decide +kernel
theorem dX11_farm_87 : decode cX11_farm 87 = .ok (.ireturn, 1) := by decide +kernel
theorem dX11_farm_88 : decode cX11_farm 88 = .ok (.aload_n 0, 1) := by decide +kernel
theorem dX11_farm_89 : decode cX11_farm 89 = .ok (.getfield 54, 3) := by decide +kernel
theorem dX11_farm_92 : decode cX11_farm 92 = .ok (.getfield 230, 3) := by decide +kernel
theorem dX11_farm_95 : decode cX11_farm 95 = .ok (.iload_n 1, 1) := by decide +kernel
theorem dX11_farm_96 : decode cX11_farm 96 = .ok (.iaload, 1) := by decide +kernel
theorem dX11_farm_97 : decode cX11_farm 97 = .ok (.ireturn, 1) := by decide +kernel
theorem dX11_farm_98 : decode cX11_farm 98 = .ok (.iconst (-1), 1) := by decide +kernel
theorem dX11_farm_99 : decode cX11_farm 99 = .ok (.ireturn, 1) := by decide +kernel
def wp_X11_farm (sh : Shp) (v0 : Nat) (v1 : Int32) (v2 : Int32) (Q : Int32 → Mem → Prop) (m : Mem) : Prop :=
  Ob sh v0 11 ∧ ∃ b2 : Nat, m.2.2 v0 3 = some b2 ∧ (Ob sh b2 5 ∧ wp_X5_isFarm sh b2 v1 (fun r4 m5 => if r4 = 0 then (Q (-1 : Int32) m5) else (if v2 = (0 : Int32) then (∃ b7 : Nat, m5.2.2 v0 3 = some b7 ∧ (Ob sh b7 5 ∧ ∃ b10 : Nat, m5.2.2 b7 9 = some b10 ∧ (Ix sh b10 100 v1 ∧ (wp_X5_columnOf sh b7 (m5.1 b10 v1.toNatClampNeg) (fun r13 m14 => Q r13 m14) m5)))) else if v2 = (1 : Int32) then (∃ b15 : Nat, m5.2.2 v0 3 = some b15 ∧ (Ob sh b15 5 ∧ ∃ b18 : Nat, m5.2.2 b15 9 = some b18 ∧ (Ix sh b18 100 v1 ∧ (wp_X5_rowOf sh b15 (m5.1 b18 v1.toNatClampNeg) (fun r21 m22 => Q r21 m22) m5)))) else if v2 = (2 : Int32) then (∃ b23 : Nat, m5.2.2 v0 3 = some b23 ∧ (Ob sh b23 5 ∧ ∃ b26 : Nat, m5.2.2 b23 10 = some b26 ∧ (Ix sh b26 100 v1 ∧ (Q (m5.1 b26 v1.toNatClampNeg) m5)))) else if v2 = (3 : Int32) then (∃ b29 : Nat, m5.2.2 v0 6 = some b29 ∧ (Ob sh b29 1 ∧ ∃ b32 : Nat, m5.2.2 b29 5 = some b32 ∧ (Ix sh b32 100 v1 ∧ (Q (m5.1 b32 v1.toNatClampNeg) m5)))) else (Q (-1 : Int32) m5))) m)
abbrev M_X11_farm : Mi := (cX11_farm, 3, RX11, (Option.some FieldType.int), "farm", 2, 81, 0, 0)
set_option maxHeartbeats 4000000 in
set_option maxRecDepth 100000 in
theorem c_X11_farm {l : Launch} {G : Gl} {sh : Shp} {v0 : Nat} {v1 : Int32} {v2 : Int32} {Q : Int32 → Mem → Prop} {m : Mem} (h : wp_X11_farm sh v0 v1 v2 Q m) : Cni l G yX11_farm cX11_farm 3 (Option.some FieldType.int) 2 81 sh [.ref (G.1 + v0), .int v1, .int v2] m Q := by
  refine con_i (ls := [(0, .ref (G.1 + v0)), (1, .int v1), (2, .int v2)]) (by decide +kernel) rfl (Nat.le_of_ble_eq_true rfl) (fun F => ?_)
  show V G F M_X11_farm sh 0 0 (Zi G F sh Q) 0 [(0, .ref (G.1 + v0)), (1, .int v1), (2, .int v2)] [] m
  unfold wp_X11_farm at h
  refine v_aload_n 0 0 dX11_farm_0 rfl rfl ?_
  obtain ⟨o1, h⟩ := h
  obtain ⟨b2, e3, h⟩ := h
  refine v_gR 11 3 dX11_farm_1 fg_RX11_35 o1 e3 ?_
  refine v_iload_n 1 1 dX11_farm_4 rfl rfl ?_
  obtain ⟨o6, h⟩ := h
  refine v_cVi [.int _] mv_X5_isFarm ml_RX11_187 ⟨_, _, rfl⟩ o6 rfl rfl (Nat.le_of_ble_eq_true rfl) (Nat.le_of_ble_eq_true rfl) (Nat.le_of_ble_eq_true rfl) (Nat.zero_le _) (Nat.zero_le _) dX11_farm_5 (c_X5_isFarm h) (fun r4 m5 h => ?_)
  refine v_if_ne 13 dX11_farm_8 (by decide) (fun hc => ?_) (fun hc => ?_)
  · replace h := Eq.mp (if_neg hc) h
    refine v_iload_n 2 2 dX11_farm_13 rfl rfl ?_
    by_cases hc0 : v2 = (0 : Int32)
    · replace h := Eq.mp (if_pos hc0) h
      refine v_tabK (0 : Int32) hc0 44 dX11_farm_14 (by decide) (by decide) rfl (by decide) ?_
      refine v_aload_n 0 0 dX11_farm_44 rfl rfl ?_
      obtain ⟨b7, e8, h⟩ := h
      refine v_gR 11 3 dX11_farm_45 fg_RX11_35 o1 e8 ?_
      refine v_aload_n 0 0 dX11_farm_48 rfl rfl ?_
      refine v_gR 11 3 dX11_farm_49 fg_RX11_35 o1 e8 ?_
      obtain ⟨o9, h⟩ := h
      obtain ⟨b10, e11, h⟩ := h
      refine v_gR 5 9 dX11_farm_52 fg_RX11_218 o9 e11 ?_
      refine v_iload_n 1 1 dX11_farm_55 rfl rfl ?_
      obtain ⟨i12, h⟩ := h
      refine v_iald dX11_farm_56 i12 ?_
      refine v_cVi [.int _] mv_X5_columnOf ml_RX11_221 ⟨_, _, rfl⟩ o9 rfl rfl (Nat.le_of_ble_eq_true rfl) (Nat.le_of_ble_eq_true rfl) (Nat.le_of_ble_eq_true rfl) (Nat.zero_le _) (Nat.zero_le _) dX11_farm_57 (c_X5_columnOf h) (fun r13 m14 h => ?_)
      exact v_iret dX11_farm_60 rfl rfl h
    replace h := Eq.mp (if_neg hc0) h
    by_cases hc1 : v2 = (1 : Int32)
    · replace h := Eq.mp (if_pos hc1) h
      refine v_tabK (1 : Int32) hc1 61 dX11_farm_14 (by decide) (by decide) rfl (by decide) ?_
      refine v_aload_n 0 0 dX11_farm_61 rfl rfl ?_
      obtain ⟨b15, e16, h⟩ := h
      refine v_gR 11 3 dX11_farm_62 fg_RX11_35 o1 e16 ?_
      refine v_aload_n 0 0 dX11_farm_65 rfl rfl ?_
      refine v_gR 11 3 dX11_farm_66 fg_RX11_35 o1 e16 ?_
      obtain ⟨o17, h⟩ := h
      obtain ⟨b18, e19, h⟩ := h
      refine v_gR 5 9 dX11_farm_69 fg_RX11_218 o17 e19 ?_
      refine v_iload_n 1 1 dX11_farm_72 rfl rfl ?_
      obtain ⟨i20, h⟩ := h
      refine v_iald dX11_farm_73 i20 ?_
      refine v_cVi [.int _] mv_X5_rowOf ml_RX11_224 ⟨_, _, rfl⟩ o17 rfl rfl (Nat.le_of_ble_eq_true rfl) (Nat.le_of_ble_eq_true rfl) (Nat.le_of_ble_eq_true rfl) (Nat.zero_le _) (Nat.zero_le _) dX11_farm_74 (c_X5_rowOf h) (fun r21 m22 h => ?_)
      exact v_iret dX11_farm_77 rfl rfl h
    replace h := Eq.mp (if_neg hc1) h
    by_cases hc2 : v2 = (2 : Int32)
    · replace h := Eq.mp (if_pos hc2) h
      refine v_tabK (2 : Int32) hc2 78 dX11_farm_14 (by decide) (by decide) rfl (by decide) ?_
      refine v_aload_n 0 0 dX11_farm_78 rfl rfl ?_
      obtain ⟨b23, e24, h⟩ := h
      refine v_gR 11 3 dX11_farm_79 fg_RX11_35 o1 e24 ?_
      obtain ⟨o25, h⟩ := h
      obtain ⟨b26, e27, h⟩ := h
      refine v_gR 5 10 dX11_farm_82 fg_RX11_227 o25 e27 ?_
      refine v_iload_n 1 1 dX11_farm_85 rfl rfl ?_
      obtain ⟨i28, h⟩ := h
      refine v_iald dX11_farm_86 i28 ?_
      exact v_iret dX11_farm_87 rfl rfl h
    replace h := Eq.mp (if_neg hc2) h
    by_cases hc3 : v2 = (3 : Int32)
    · replace h := Eq.mp (if_pos hc3) h
      refine v_tabK (3 : Int32) hc3 88 dX11_farm_14 (by decide) (by decide) rfl (by decide) ?_
      refine v_aload_n 0 0 dX11_farm_88 rfl rfl ?_
      obtain ⟨b29, e30, h⟩ := h
      refine v_gR 11 6 dX11_farm_89 fg_RX11_54 o1 e30 ?_
      obtain ⟨o31, h⟩ := h
      obtain ⟨b32, e33, h⟩ := h
      refine v_gR 1 5 dX11_farm_92 fg_RX11_230 o31 e33 ?_
      refine v_iload_n 1 1 dX11_farm_95 rfl rfl ?_
      obtain ⟨i34, h⟩ := h
      refine v_iald dX11_farm_96 i34 ?_
      exact v_iret dX11_farm_97 rfl rfl h
    replace h := Eq.mp (if_neg hc3) h
    refine v_tabOut 98 dX11_farm_14 (by have := lv_neT hc0 (a := 0) (by decide); have := lv_neT hc1 (a := 1) (by decide); have := lv_neT hc2 (a := 2) (by decide); have := lv_neT hc3 (a := 3) (by decide); omega) (by decide) ?_
    refine v_iconst (-1 : Int32) dX11_farm_98 (by decide) ?_
    exact v_iret dX11_farm_99 rfl rfl h
  · replace h := Eq.mp (if_pos hc) h
    refine v_iconst (-1 : Int32) dX11_farm_11 (by decide) ?_
    exact v_iret dX11_farm_12 rfl rfl h
/-! CalledRiver.fault -/
theorem dX11_fault_0 : decode cX11_fault 0 = .ok (.iload_n 1, 1) := by decide +kernel
theorem dX11_fault_1 : decode cX11_fault 1 = .ok (.ifCond .ne 13, 3) := by decide +kernel
theorem dX11_fault_4 : decode cX11_fault 4 = .ok (.aload_n 0, 1) := by decide +kernel
theorem dX11_fault_5 : decode cX11_fault 5 = .ok (.getfield 12, 3) := by decide +kernel
theorem dX11_fault_8 : decode cX11_fault 8 = .ok (.getfield 133, 3) := by decide +kernel
theorem dX11_fault_11 : decode cX11_fault 11 = .ok (.goto 19, 3) := by decide +kernel
theorem dX11_fault_14 : decode cX11_fault 14 = .ok (.iload_n 1, 1) := by decide +kernel
theorem dX11_fault_15 : decode cX11_fault 15 = .ok (.iconst 1, 1) := by decide +kernel
theorem dX11_fault_16 : decode cX11_fault 16 = .ok (.if_icmp .ne 13, 3) := by decide +kernel
theorem dX11_fault_19 : decode cX11_fault 19 = .ok (.aload_n 0, 1) := by decide +kernel
theorem dX11_fault_20 : decode cX11_fault 20 = .ok (.getfield 12, 3) := by decide +kernel
theorem dX11_fault_23 : decode cX11_fault 23 = .ok (.getfield 149, 3) := by decide +kernel
theorem dX11_fault_26 : decode cX11_fault 26 = .ok (.goto 4, 3) := by decide +kernel
theorem dX11_fault_29 : decode cX11_fault 29 = .ok (.iconst (-1), 1) := by decide +kernel
theorem dX11_fault_30 : decode cX11_fault 30 = .ok (.ireturn, 1) := by decide +kernel
def wp_X11_fault (sh : Shp) (v0 : Nat) (v1 : Int32) (Q : Int32 → Mem → Prop) (m : Mem) : Prop :=
  if v1 = 0 then (Ob sh v0 11 ∧ ∃ b6 : Nat, m.2.2 v0 0 = some b6 ∧ (Ob sh b6 9 ∧ (Q (m.1 b6 5) m))) else (if v1 = (1 : Int32) then (Ob sh v0 11 ∧ ∃ b2 : Nat, m.2.2 v0 0 = some b2 ∧ (Ob sh b2 9 ∧ (Q (m.1 b2 6) m))) else (Q (-1 : Int32) m))
abbrev M_X11_fault : Mi := (cX11_fault, 2, RX11, (Option.some FieldType.int), "fault", 1, 60, 0, 0)
set_option maxHeartbeats 4000000 in
set_option maxRecDepth 100000 in
theorem c_X11_fault {l : Launch} {G : Gl} {sh : Shp} {v0 : Nat} {v1 : Int32} {Q : Int32 → Mem → Prop} {m : Mem} (h : wp_X11_fault sh v0 v1 Q m) : Cni l G yX11_fault cX11_fault 2 (Option.some FieldType.int) 1 60 sh [.ref (G.1 + v0), .int v1] m Q := by
  refine con_i (ls := [(0, .ref (G.1 + v0)), (1, .int v1)]) (by decide +kernel) rfl (Nat.le_of_ble_eq_true rfl) (fun F => ?_)
  show V G F M_X11_fault sh 0 0 (Zi G F sh Q) 0 [(0, .ref (G.1 + v0)), (1, .int v1)] [] m
  unfold wp_X11_fault at h
  refine v_iload_n 1 1 dX11_fault_0 rfl rfl ?_
  refine v_if_ne 14 dX11_fault_1 (by decide) (fun hc => ?_) (fun hc => ?_)
  · replace h := Eq.mp (if_neg hc) h
    refine v_iload_n 1 1 dX11_fault_14 rfl rfl ?_
    refine v_iconst (1 : Int32) dX11_fault_15 (by decide) ?_
    refine v_icmp_ne 29 dX11_fault_16 (by decide) (fun hc => ?_) (fun hc => ?_)
    · replace h := Eq.mp (if_neg hc) h
      refine v_iconst (-1 : Int32) dX11_fault_29 (by decide) ?_
      exact v_iret dX11_fault_30 rfl rfl h
    · replace h := Eq.mp (if_pos hc) h
      refine v_aload_n 0 0 dX11_fault_19 rfl rfl ?_
      obtain ⟨o1, h⟩ := h
      obtain ⟨b2, e3, h⟩ := h
      refine v_gR 11 0 dX11_fault_20 fg_RX11_12 o1 e3 ?_
      obtain ⟨o4, h⟩ := h
      refine v_gI 9 6 dX11_fault_23 fg_RX11_149 o4 ?_
      refine v_goto 30 dX11_fault_26 (by decide) ?_
      exact v_iret dX11_fault_30 rfl rfl h
  · replace h := Eq.mp (if_pos hc) h
    refine v_aload_n 0 0 dX11_fault_4 rfl rfl ?_
    obtain ⟨o5, h⟩ := h
    obtain ⟨b6, e7, h⟩ := h
    refine v_gR 11 0 dX11_fault_5 fg_RX11_12 o5 e7 ?_
    obtain ⟨o8, h⟩ := h
    refine v_gI 9 5 dX11_fault_8 fg_RX11_133 o8 ?_
    refine v_goto 30 dX11_fault_11 (by decide) ?_
    exact v_iret dX11_fault_30 rfl rfl h
/-! CalledRiver.feed -/
theorem dX11_feed_0 : decode cX11_feed 0 = .ok (.aload_n 0, 1) := by decide +kernel
theorem dX11_feed_1 : decode cX11_feed 1 = .ok (.getfield 12, 3) := by decide +kernel
theorem dX11_feed_4 : decode cX11_feed 4 = .ok (.getfield 117, 3) := by decide +kernel
theorem dX11_feed_7 : decode cX11_feed 7 = .ok (.bipush 20, 2) := by decide +kernel
theorem dX11_feed_9 : decode cX11_feed 9 = .ok (.iadd, 1) := by decide +kernel
theorem dX11_feed_10 : decode cX11_feed 10 = .ok (.sipush 1600, 3) := by decide +kernel
theorem dX11_feed_13 : decode cX11_feed 13 = .ok (.if_icmp .le 9, 3) := by decide +kernel
theorem dX11_feed_16 : decode cX11_feed 16 = .ok (.aload_n 0, 1) := by decide +kernel
theorem dX11_feed_17 : decode cX11_feed 17 = .ok (.iconst 0, 1) := by decide +kernel
theorem dX11_feed_18 : decode cX11_feed 18 = .ok (.invokevirtual 121, 3) := by decide +kernel
theorem dX11_feed_21 : decode cX11_feed 21 = .ok (.ireturn, 1) := by decide +kernel
theorem dX11_feed_22 : decode cX11_feed 22 = .ok (.aload_n 0, 1) := by decide +kernel
theorem dX11_feed_23 : decode cX11_feed 23 = .ok (.getfield 12, 3) := by decide +kernel
theorem dX11_feed_26 : decode cX11_feed 26 = .ok (.iload_n 1, 1) := by decide +kernel
theorem dX11_feed_27 : decode cX11_feed 27 = .ok (.invokevirtual 125, 3) := by decide +kernel
theorem dX11_feed_30 : decode cX11_feed 30 = .ok (.aload_n 0, 1) := by decide +kernel
theorem dX11_feed_31 : decode cX11_feed 31 = .ok (.getfield 12, 3) := by decide +kernel
theorem dX11_feed_34 : decode cX11_feed 34 = .ok (.iload_n 2, 1) := by decide +kernel
theorem dX11_feed_35 : decode cX11_feed 35 = .ok (.invokevirtual 125, 3) := by decide +kernel
theorem dX11_feed_38 : decode cX11_feed 38 = .ok (.aload_n 0, 1) := by decide +kernel
theorem dX11_feed_39 : decode cX11_feed 39 = .ok (.getfield 12, 3) := by decide +kernel
theorem dX11_feed_42 : decode cX11_feed 42 = .ok (.iload_n 3, 1) := by decide +kernel
theorem dX11_feed_43 : decode cX11_feed 43 = .ok (.invokevirtual 125, 3) := by decide +kernel
theorem dX11_feed_46 : decode cX11_feed 46 = .ok (.aload_n 0, 1) := by decide +kernel
theorem dX11_feed_47 : decode cX11_feed 47 = .ok (.getfield 12, 3) := by decide +kernel
theorem dX11_feed_50 : decode cX11_feed 50 = .ok (.iload 4, 2) := by decide +kernel
theorem dX11_feed_52 : decode cX11_feed 52 = .ok (.invokevirtual 125, 3) := by decide +kernel
theorem dX11_feed_55 : decode cX11_feed 55 = .ok (.aload_n 0, 1) := by decide +kernel
theorem dX11_feed_56 : decode cX11_feed 56 = .ok (.getfield 12, 3) := by decide +kernel
theorem dX11_feed_59 : decode cX11_feed 59 = .ok (.iload 5, 2) := by decide +kernel
theorem dX11_feed_61 : decode cX11_feed 61 = .ok (.invokevirtual 125, 3) := by decide +kernel
theorem dX11_feed_64 : decode cX11_feed 64 = .ok (.aload_n 0, 1) := by decide +kernel
theorem dX11_feed_65 : decode cX11_feed 65 = .ok (.getfield 12, 3) := by decide +kernel
theorem dX11_feed_68 : decode cX11_feed 68 = .ok (.getfield 117, 3) := by decide +kernel
theorem dX11_feed_71 : decode cX11_feed 71 = .ok (.ireturn, 1) := by decide +kernel
def wp_X11_feed (sh : Shp) (v0 : Nat) (v1 : Int32) (v2 : Int32) (v3 : Int32) (v4 : Int32) (v5 : Int32) (Q : Int32 → Mem → Prop) (m : Mem) : Prop :=
  Ob sh v0 11 ∧ ∃ b2 : Nat, m.2.2 v0 0 = some b2 ∧ (Ob sh b2 9 ∧ (if ((m.1 b2 1) + (20 : Int32)) ≤ (1600 : Int32) then (wp_X9_append sh b2 v1 (fun m6 => ∃ b7 : Nat, m6.2.2 v0 0 = some b7 ∧ (Ob sh b7 9 ∧ wp_X9_append sh b7 v2 (fun m10 => ∃ b12 : Nat, m10.2.2 v0 0 = some b12 ∧ (Ob sh b12 9 ∧ wp_X9_append sh b12 v3 (fun m15 => ∃ b17 : Nat, m15.2.2 v0 0 = some b17 ∧ (Ob sh b17 9 ∧ wp_X9_append sh b17 v4 (fun m20 => ∃ b22 : Nat, m20.2.2 v0 0 = some b22 ∧ (Ob sh b22 9 ∧ wp_X9_append sh b22 v5 (fun m25 => ∃ b27 : Nat, m25.2.2 v0 0 = some b27 ∧ (Ob sh b27 9 ∧ (Q (m25.1 b27 1) m25))) m20)) m15)) m10)) m6)) m) else (wp_X11_refuse sh v0 (0 : Int32) (fun r30 m31 => Q r30 m31) m)))
abbrev M_X11_feed : Mi := (cX11_feed, 6, RX11, (Option.some FieldType.int), "feed", 2, 82, 0, 0)
set_option maxHeartbeats 4000000 in
set_option maxRecDepth 100000 in
theorem c_X11_feed {l : Launch} {G : Gl} {sh : Shp} {v0 : Nat} {v1 : Int32} {v2 : Int32} {v3 : Int32} {v4 : Int32} {v5 : Int32} {Q : Int32 → Mem → Prop} {m : Mem} (h : wp_X11_feed sh v0 v1 v2 v3 v4 v5 Q m) : Cni l G yX11_feed cX11_feed 6 (Option.some FieldType.int) 2 82 sh [.ref (G.1 + v0), .int v1, .int v2, .int v3, .int v4, .int v5] m Q := by
  refine con_i (ls := [(0, .ref (G.1 + v0)), (1, .int v1), (2, .int v2), (3, .int v3), (4, .int v4), (5, .int v5)]) (by decide +kernel) rfl (Nat.le_of_ble_eq_true rfl) (fun F => ?_)
  show V G F M_X11_feed sh 0 0 (Zi G F sh Q) 0 [(0, .ref (G.1 + v0)), (1, .int v1), (2, .int v2), (3, .int v3), (4, .int v4), (5, .int v5)] [] m
  unfold wp_X11_feed at h
  refine v_aload_n 0 0 dX11_feed_0 rfl rfl ?_
  obtain ⟨o1, h⟩ := h
  obtain ⟨b2, e3, h⟩ := h
  refine v_gR 11 0 dX11_feed_1 fg_RX11_12 o1 e3 ?_
  obtain ⟨o4, h⟩ := h
  refine v_gI 9 1 dX11_feed_4 fg_RX11_117 o4 ?_
  refine v_bipush (20 : Int32) dX11_feed_7 (by decide) ?_
  refine v_iadd dX11_feed_9 ?_
  refine v_sipush (1600 : Int32) dX11_feed_10 (by decide) ?_
  refine v_icmp_le 22 dX11_feed_13 (by decide) (fun hc => ?_) (fun hc => ?_)
  · replace h := Eq.mp (if_pos hc) h
    refine v_aload_n 0 0 dX11_feed_22 rfl rfl ?_
    refine v_gR 11 0 dX11_feed_23 fg_RX11_12 o1 e3 ?_
    refine v_iload_n 1 1 dX11_feed_26 rfl rfl ?_
    refine v_cVv [.int _] mv_X9_append ml_RX11_125 ⟨_, _, rfl⟩ o4 rfl rfl (Nat.le_of_ble_eq_true rfl) (Nat.le_of_ble_eq_true rfl) (Nat.le_of_ble_eq_true rfl) (Nat.zero_le _) (Nat.zero_le _) dX11_feed_27 (c_X9_append h) (fun m6 h => ?_)
    refine v_aload_n 0 0 dX11_feed_30 rfl rfl ?_
    obtain ⟨b7, e8, h⟩ := h
    refine v_gR 11 0 dX11_feed_31 fg_RX11_12 o1 e8 ?_
    refine v_iload_n 2 2 dX11_feed_34 rfl rfl ?_
    obtain ⟨o11, h⟩ := h
    refine v_cVv [.int _] mv_X9_append ml_RX11_125 ⟨_, _, rfl⟩ o11 rfl rfl (Nat.le_of_ble_eq_true rfl) (Nat.le_of_ble_eq_true rfl) (Nat.le_of_ble_eq_true rfl) (Nat.zero_le _) (Nat.zero_le _) dX11_feed_35 (c_X9_append h) (fun m10 h => ?_)
    refine v_aload_n 0 0 dX11_feed_38 rfl rfl ?_
    obtain ⟨b12, e13, h⟩ := h
    refine v_gR 11 0 dX11_feed_39 fg_RX11_12 o1 e13 ?_
    refine v_iload_n 3 3 dX11_feed_42 rfl rfl ?_
    obtain ⟨o16, h⟩ := h
    refine v_cVv [.int _] mv_X9_append ml_RX11_125 ⟨_, _, rfl⟩ o16 rfl rfl (Nat.le_of_ble_eq_true rfl) (Nat.le_of_ble_eq_true rfl) (Nat.le_of_ble_eq_true rfl) (Nat.zero_le _) (Nat.zero_le _) dX11_feed_43 (c_X9_append h) (fun m15 h => ?_)
    refine v_aload_n 0 0 dX11_feed_46 rfl rfl ?_
    obtain ⟨b17, e18, h⟩ := h
    refine v_gR 11 0 dX11_feed_47 fg_RX11_12 o1 e18 ?_
    refine v_iload 4 4 dX11_feed_50 rfl ?_
    obtain ⟨o21, h⟩ := h
    refine v_cVv [.int _] mv_X9_append ml_RX11_125 ⟨_, _, rfl⟩ o21 rfl rfl (Nat.le_of_ble_eq_true rfl) (Nat.le_of_ble_eq_true rfl) (Nat.le_of_ble_eq_true rfl) (Nat.zero_le _) (Nat.zero_le _) dX11_feed_52 (c_X9_append h) (fun m20 h => ?_)
    refine v_aload_n 0 0 dX11_feed_55 rfl rfl ?_
    obtain ⟨b22, e23, h⟩ := h
    refine v_gR 11 0 dX11_feed_56 fg_RX11_12 o1 e23 ?_
    refine v_iload 5 5 dX11_feed_59 rfl ?_
    obtain ⟨o26, h⟩ := h
    refine v_cVv [.int _] mv_X9_append ml_RX11_125 ⟨_, _, rfl⟩ o26 rfl rfl (Nat.le_of_ble_eq_true rfl) (Nat.le_of_ble_eq_true rfl) (Nat.le_of_ble_eq_true rfl) (Nat.zero_le _) (Nat.zero_le _) dX11_feed_61 (c_X9_append h) (fun m25 h => ?_)
    refine v_aload_n 0 0 dX11_feed_64 rfl rfl ?_
    obtain ⟨b27, e28, h⟩ := h
    refine v_gR 11 0 dX11_feed_65 fg_RX11_12 o1 e28 ?_
    obtain ⟨o29, h⟩ := h
    refine v_gI 9 1 dX11_feed_68 fg_RX11_117 o29 ?_
    exact v_iret dX11_feed_71 rfl rfl h
  · replace h := Eq.mp (if_neg hc) h
    refine v_aload_n 0 0 dX11_feed_16 rfl rfl ?_
    refine v_iconst (0 : Int32) dX11_feed_17 (by decide) ?_
    refine v_cVi [.int _] mv_X11_refuse ml_RX11_121 ⟨_, _, rfl⟩ o1 rfl rfl (Nat.le_of_ble_eq_true rfl) (Nat.le_of_ble_eq_true rfl) (Nat.le_of_ble_eq_true rfl) (Nat.zero_le _) (Nat.zero_le _) dX11_feed_18 (c_X11_refuse h) (fun r30 m31 h => ?_)
    exact v_iret dX11_feed_21 rfl rfl h
/-! CalledRiver.has -/
theorem dX11_has_0 : decode cX11_has 0 = .ok (.iload_n 1, 1) := by decide +kernel
theorem dX11_has_1 : decode cX11_has 1 = .ok (.tableswitch 166 0 10 #[59, 67, 75, 83, 91, 99, 107, 129, 137, 150, 158], 59) := by decide +kernel
theorem dX11_has_60 : decode cX11_has 60 = .ok (.aload_n 0, 1) := by decide +kernel
theorem dX11_has_61 : decode cX11_has 61 = .ok (.getfield 35, 3) := by decide +kernel
theorem dX11_has_64 : decode cX11_has 64 = .ok (.getfield 152, 3) := by decide +kernel
theorem dX11_has_67 : decode cX11_has 67 = .ok (.ireturn, 1) := by decide +kernel
theorem dX11_has_68 : decode cX11_has 68 = .ok (.aload_n 0, 1) := by decide +kernel
theorem dX11_has_69 : decode cX11_has 69 = .ok (.getfield 35, 3) := by decide +kernel
theorem dX11_has_72 : decode cX11_has 72 = .ok (.getfield 155, 3) := by decide +kernel
theorem dX11_has_75 : decode cX11_has 75 = .ok (.ireturn, 1) := by decide +kernel
theorem dX11_has_76 : decode cX11_has 76 = .ok (.aload_n 0, 1) := by decide +kernel
theorem dX11_has_77 : decode cX11_has 77 = .ok (.getfield 35, 3) := by decide +kernel
theorem dX11_has_80 : decode cX11_has 80 = .ok (.getfield 158, 3) := by decide +kernel
theorem dX11_has_83 : decode cX11_has 83 = .ok (.ireturn, 1) := by decide +kernel
theorem dX11_has_84 : decode cX11_has 84 = .ok (.aload_n 0, 1) := by decide +kernel
theorem dX11_has_85 : decode cX11_has 85 = .ok (.getfield 35, 3) := by decide +kernel
theorem dX11_has_88 : decode cX11_has 88 = .ok (.getfield 161, 3) := by decide +kernel
theorem dX11_has_91 : decode cX11_has 91 = .ok (.ireturn, 1) := by decide +kernel
theorem dX11_has_92 : decode cX11_has 92 = .ok (.aload_n 0, 1) := by decide +kernel
theorem dX11_has_93 : decode cX11_has 93 = .ok (.getfield 54, 3) := by decide +kernel
theorem dX11_has_96 : decode cX11_has 96 = .ok (.getfield 164, 3) := by decide +kernel
theorem dX11_has_99 : decode cX11_has 99 = .ok (.ireturn, 1) := by decide +kernel
theorem dX11_has_100 : decode cX11_has 100 = .ok (.aload_n 0, 1) := by decide +kernel
theorem dX11_has_101 : decode cX11_has 101 = .ok (.getfield 54, 3) := by decide +kernel
theorem dX11_has_104 : decode cX11_has 104 = .ok (.invokevirtual 167, 3) := by decide +kernel
theorem dX11_has_107 : decode cX11_has 107 = .ok (.ireturn, 1) := by decide +kernel
theorem dX11_has_108 : decode cX11_has 108 = .ok (.aload_n 0, 1) := by decide +kernel
theorem dX11_has_109 : decode cX11_has 109 = .ok (.getfield 35, 3) := by decide +kernel
theorem dX11_has_112 : decode cX11_has 112 = .ok (.getfield 152, 3) := by decide +kernel
theorem dX11_has_115 : decode cX11_has 115 = .ok (.ifCond .ne 7, 3) := by decide +kernel
theorem dX11_has_118 : decode cX11_has 118 = .ok (.iconst (-1), 1) := by decide +kernel
theorem dX11_has_119 : decode cX11_has 119 = .ok (.goto 10, 3) := by decide +kernel
theorem dX11_has_122 : decode cX11_has 122 = .ok (.aload_n 0, 1) := by decide +kernel
theorem dX11_has_123 : decode cX11_has 123 = .ok (.getfield 35, 3) := by decide +kernel
theorem dX11_has_126 : decode cX11_has 126 = .ok (.getfield 171, 3) := by decide +kernel
theorem dX11_has_129 : decode cX11_has 129 = .ok (.ireturn, 1) := by decide +kernel
theorem dX11_has_130 : decode cX11_has 130 = .ok (.aload_n 0, 1) := by decide +kernel
theorem dX11_has_131 : decode cX11_has 131 = .ok (.getfield 54, 3) := by decide +kernel
theorem dX11_has_134 : decode cX11_has 134 = .ok (.invokevirtual 174, 3) := by decide +kernel
theorem dX11_has_137 : decode cX11_has 137 = .ok (.ireturn, 1) := by decide +kernel
theorem dX11_has_138 : decode cX11_has 138 = .ok (.aload_n 0, 1) := by decide +kernel
theorem dX11_has_139 : decode cX11_has 139 = .ok (.getfield 54, 3) := by decide +kernel
theorem dX11_has_142 : decode cX11_has 142 = .ok (.getfield 177, 3) := by decide +kernel
theorem dX11_has_145 : decode cX11_has 145 = .ok (.bipush 40, 2) := by decide +kernel
theorem dX11_has_147 : decode cX11_has 147 = .ok (.invokestatic 180, 3) := by decide +kernel
theorem dX11_has_150 : decode cX11_has 150 = .ok (.ireturn, 1) := by decide +kernel
theorem dX11_has_151 : decode cX11_has 151 = .ok (.aload_n 0, 1) := by decide +kernel
theorem dX11_has_152 : decode cX11_has 152 = .ok (.getfield 78, 3) := by decide +kernel
theorem dX11_has_155 : decode cX11_has 155 = .ok (.getfield 143, 3) := by decide +kernel
theorem dX11_has_158 : decode cX11_has 158 = .ok (.ireturn, 1) := by decide +kernel
theorem dX11_has_159 : decode cX11_has 159 = .ok (.aload_n 0, 1) := by decide +kernel
theorem dX11_has_160 : decode cX11_has 160 = .ok (.getfield 64, 3) := by decide +kernel
theorem dX11_has_163 : decode cX11_has 163 = .ok (.getfield 186, 3) := by decide +kernel
theorem dX11_has_166 : decode cX11_has 166 = .ok (.ireturn, 1) := by decide +kernel
theorem dX11_has_167 : decode cX11_has 167 = .ok (.iconst (-1), 1) := by decide +kernel
theorem dX11_has_168 : decode cX11_has 168 = .ok (.ireturn, 1) := by decide +kernel
def wp_X11_has (sh : Shp) (v0 : Nat) (v1 : Int32) (Q : Int32 → Mem → Prop) (m : Mem) : Prop :=
  if v1 = (0 : Int32) then (Ob sh v0 11 ∧ ∃ b2 : Nat, m.2.2 v0 3 = some b2 ∧ (Ob sh b2 5 ∧ (Q (m.1 b2 0) m))) else if v1 = (1 : Int32) then (Ob sh v0 11 ∧ ∃ b6 : Nat, m.2.2 v0 3 = some b6 ∧ (Ob sh b6 5 ∧ (Q (m.1 b6 1) m))) else if v1 = (2 : Int32) then (Ob sh v0 11 ∧ ∃ b10 : Nat, m.2.2 v0 3 = some b10 ∧ (Ob sh b10 5 ∧ (Q (m.1 b10 3) m))) else if v1 = (3 : Int32) then (Ob sh v0 11 ∧ ∃ b14 : Nat, m.2.2 v0 3 = some b14 ∧ (Ob sh b14 5 ∧ (Q (m.1 b14 4) m))) else if v1 = (4 : Int32) then (Ob sh v0 11 ∧ ∃ b18 : Nat, m.2.2 v0 6 = some b18 ∧ (Ob sh b18 1 ∧ (Q (m.1 b18 0) m))) else if v1 = (5 : Int32) then (Ob sh v0 11 ∧ ∃ b22 : Nat, m.2.2 v0 6 = some b22 ∧ (Ob sh b22 1 ∧ wp_X1_stones sh b22 (fun r24 m25 => Q r24 m25) m)) else if v1 = (6 : Int32) then (Ob sh v0 11 ∧ ∃ b28 : Nat, m.2.2 v0 3 = some b28 ∧ (Ob sh b28 5 ∧ (if (m.1 b28 0) = 0 then (Q (-1 : Int32) m) else (Q (m.1 b28 2) m)))) else if v1 = (7 : Int32) then (Ob sh v0 11 ∧ ∃ b32 : Nat, m.2.2 v0 6 = some b32 ∧ (Ob sh b32 1 ∧ wp_X1_pies sh b32 (fun r34 m35 => Q r34 m35) m)) else if v1 = (8 : Int32) then (Ob sh v0 11 ∧ ∃ b38 : Nat, m.2.2 v0 6 = some b38 ∧ (Ob sh b38 1 ∧ (wp_J9_min_7cf53 sh (m.1 b38 1) (40 : Int32) (fun r41 m42 => Q r41 m42) m))) else if v1 = (9 : Int32) then (Ob sh v0 11 ∧ ∃ b44 : Nat, m.2.2 v0 10 = some b44 ∧ (Ob sh b44 7 ∧ (Q (m.1 b44 0) m))) else if v1 = (10 : Int32) then (Ob sh v0 11 ∧ ∃ b48 : Nat, m.2.2 v0 8 = some b48 ∧ (Ob sh b48 3 ∧ (Q (m.1 b48 0) m))) else (Q (-1 : Int32) m)
abbrev M_X11_has : Mi := (cX11_has, 2, RX11, (Option.some FieldType.int), "has", 2, 85, 0, 0)
set_option maxHeartbeats 4000000 in
set_option maxRecDepth 100000 in
theorem c_X11_has {l : Launch} {G : Gl} {sh : Shp} {v0 : Nat} {v1 : Int32} {Q : Int32 → Mem → Prop} {m : Mem} (h : wp_X11_has sh v0 v1 Q m) : Cni l G yX11_has cX11_has 2 (Option.some FieldType.int) 2 85 sh [.ref (G.1 + v0), .int v1] m Q := by
  refine con_i (ls := [(0, .ref (G.1 + v0)), (1, .int v1)]) (by decide +kernel) rfl (Nat.le_of_ble_eq_true rfl) (fun F => ?_)
  show V G F M_X11_has sh 0 0 (Zi G F sh Q) 0 [(0, .ref (G.1 + v0)), (1, .int v1)] [] m
  unfold wp_X11_has at h
  refine v_iload_n 1 1 dX11_has_0 rfl rfl ?_
  by_cases hc0 : v1 = (0 : Int32)
  · replace h := Eq.mp (if_pos hc0) h
    refine v_tabK (0 : Int32) hc0 60 dX11_has_1 (by decide) (by decide) rfl (by decide) ?_
    refine v_aload_n 0 0 dX11_has_60 rfl rfl ?_
    obtain ⟨o1, h⟩ := h
    obtain ⟨b2, e3, h⟩ := h
    refine v_gR 11 3 dX11_has_61 fg_RX11_35 o1 e3 ?_
    obtain ⟨o4, h⟩ := h
    refine v_gI 5 0 dX11_has_64 fg_RX11_152 o4 ?_
    exact v_iret dX11_has_67 rfl rfl h
  replace h := Eq.mp (if_neg hc0) h
  by_cases hc1 : v1 = (1 : Int32)
  · replace h := Eq.mp (if_pos hc1) h
    refine v_tabK (1 : Int32) hc1 68 dX11_has_1 (by decide) (by decide) rfl (by decide) ?_
    refine v_aload_n 0 0 dX11_has_68 rfl rfl ?_
    obtain ⟨o5, h⟩ := h
    obtain ⟨b6, e7, h⟩ := h
    refine v_gR 11 3 dX11_has_69 fg_RX11_35 o5 e7 ?_
    obtain ⟨o8, h⟩ := h
    refine v_gI 5 1 dX11_has_72 fg_RX11_155 o8 ?_
    exact v_iret dX11_has_75 rfl rfl h
  replace h := Eq.mp (if_neg hc1) h
  by_cases hc2 : v1 = (2 : Int32)
  · replace h := Eq.mp (if_pos hc2) h
    refine v_tabK (2 : Int32) hc2 76 dX11_has_1 (by decide) (by decide) rfl (by decide) ?_
    refine v_aload_n 0 0 dX11_has_76 rfl rfl ?_
    obtain ⟨o9, h⟩ := h
    obtain ⟨b10, e11, h⟩ := h
    refine v_gR 11 3 dX11_has_77 fg_RX11_35 o9 e11 ?_
    obtain ⟨o12, h⟩ := h
    refine v_gI 5 3 dX11_has_80 fg_RX11_158 o12 ?_
    exact v_iret dX11_has_83 rfl rfl h
  replace h := Eq.mp (if_neg hc2) h
  by_cases hc3 : v1 = (3 : Int32)
  · replace h := Eq.mp (if_pos hc3) h
    refine v_tabK (3 : Int32) hc3 84 dX11_has_1 (by decide) (by decide) rfl (by decide) ?_
    refine v_aload_n 0 0 dX11_has_84 rfl rfl ?_
    obtain ⟨o13, h⟩ := h
    obtain ⟨b14, e15, h⟩ := h
    refine v_gR 11 3 dX11_has_85 fg_RX11_35 o13 e15 ?_
    obtain ⟨o16, h⟩ := h
    refine v_gI 5 4 dX11_has_88 fg_RX11_161 o16 ?_
    exact v_iret dX11_has_91 rfl rfl h
  replace h := Eq.mp (if_neg hc3) h
  by_cases hc4 : v1 = (4 : Int32)
  · replace h := Eq.mp (if_pos hc4) h
    refine v_tabK (4 : Int32) hc4 92 dX11_has_1 (by decide) (by decide) rfl (by decide) ?_
    refine v_aload_n 0 0 dX11_has_92 rfl rfl ?_
    obtain ⟨o17, h⟩ := h
    obtain ⟨b18, e19, h⟩ := h
    refine v_gR 11 6 dX11_has_93 fg_RX11_54 o17 e19 ?_
    obtain ⟨o20, h⟩ := h
    refine v_gI 1 0 dX11_has_96 fg_RX11_164 o20 ?_
    exact v_iret dX11_has_99 rfl rfl h
  replace h := Eq.mp (if_neg hc4) h
  by_cases hc5 : v1 = (5 : Int32)
  · replace h := Eq.mp (if_pos hc5) h
    refine v_tabK (5 : Int32) hc5 100 dX11_has_1 (by decide) (by decide) rfl (by decide) ?_
    refine v_aload_n 0 0 dX11_has_100 rfl rfl ?_
    obtain ⟨o21, h⟩ := h
    obtain ⟨b22, e23, h⟩ := h
    refine v_gR 11 6 dX11_has_101 fg_RX11_54 o21 e23 ?_
    obtain ⟨o26, h⟩ := h
    refine v_cVi [] mv_X1_stones ml_RX11_167 ⟨_, _, rfl⟩ o26 rfl rfl (Nat.le_of_ble_eq_true rfl) (Nat.le_of_ble_eq_true rfl) (Nat.le_of_ble_eq_true rfl) (Nat.zero_le _) (Nat.zero_le _) dX11_has_104 (c_X1_stones h) (fun r24 m25 h => ?_)
    exact v_iret dX11_has_107 rfl rfl h
  replace h := Eq.mp (if_neg hc5) h
  by_cases hc6 : v1 = (6 : Int32)
  · replace h := Eq.mp (if_pos hc6) h
    refine v_tabK (6 : Int32) hc6 108 dX11_has_1 (by decide) (by decide) rfl (by decide) ?_
    refine v_aload_n 0 0 dX11_has_108 rfl rfl ?_
    obtain ⟨o27, h⟩ := h
    obtain ⟨b28, e29, h⟩ := h
    refine v_gR 11 3 dX11_has_109 fg_RX11_35 o27 e29 ?_
    obtain ⟨o30, h⟩ := h
    refine v_gI 5 0 dX11_has_112 fg_RX11_152 o30 ?_
    refine v_if_ne 122 dX11_has_115 (by decide) (fun hc => ?_) (fun hc => ?_)
    · replace h := Eq.mp (if_neg hc) h
      refine v_aload_n 0 0 dX11_has_122 rfl rfl ?_
      refine v_gR 11 3 dX11_has_123 fg_RX11_35 o27 e29 ?_
      refine v_gI 5 2 dX11_has_126 fg_RX11_171 o30 ?_
      exact v_iret dX11_has_129 rfl rfl h
    · replace h := Eq.mp (if_pos hc) h
      refine v_iconst (-1 : Int32) dX11_has_118 (by decide) ?_
      refine v_goto 129 dX11_has_119 (by decide) ?_
      exact v_iret dX11_has_129 rfl rfl h
  replace h := Eq.mp (if_neg hc6) h
  by_cases hc7 : v1 = (7 : Int32)
  · replace h := Eq.mp (if_pos hc7) h
    refine v_tabK (7 : Int32) hc7 130 dX11_has_1 (by decide) (by decide) rfl (by decide) ?_
    refine v_aload_n 0 0 dX11_has_130 rfl rfl ?_
    obtain ⟨o31, h⟩ := h
    obtain ⟨b32, e33, h⟩ := h
    refine v_gR 11 6 dX11_has_131 fg_RX11_54 o31 e33 ?_
    obtain ⟨o36, h⟩ := h
    refine v_cVi [] mv_X1_pies ml_RX11_174 ⟨_, _, rfl⟩ o36 rfl rfl (Nat.le_of_ble_eq_true rfl) (Nat.le_of_ble_eq_true rfl) (Nat.le_of_ble_eq_true rfl) (Nat.zero_le _) (Nat.zero_le _) dX11_has_134 (c_X1_pies h) (fun r34 m35 h => ?_)
    exact v_iret dX11_has_137 rfl rfl h
  replace h := Eq.mp (if_neg hc7) h
  by_cases hc8 : v1 = (8 : Int32)
  · replace h := Eq.mp (if_pos hc8) h
    refine v_tabK (8 : Int32) hc8 138 dX11_has_1 (by decide) (by decide) rfl (by decide) ?_
    refine v_aload_n 0 0 dX11_has_138 rfl rfl ?_
    obtain ⟨o37, h⟩ := h
    obtain ⟨b38, e39, h⟩ := h
    refine v_gR 11 6 dX11_has_139 fg_RX11_54 o37 e39 ?_
    obtain ⟨o40, h⟩ := h
    refine v_gI 1 1 dX11_has_142 fg_RX11_177 o40 ?_
    refine v_bipush (40 : Int32) dX11_has_145 (by decide) ?_
    refine v_cSi [.int _, .int _] mv_J9_min_7cf53 ml_RX11_180 rfl rfl (Nat.le_of_ble_eq_true rfl) (Nat.le_of_ble_eq_true rfl) (Nat.le_of_ble_eq_true rfl) (Nat.zero_le _) (Nat.zero_le _) dX11_has_147 (c_J9_min_7cf53 h) (fun r41 m42 h => ?_)
    exact v_iret dX11_has_150 rfl rfl h
  replace h := Eq.mp (if_neg hc8) h
  by_cases hc9 : v1 = (9 : Int32)
  · replace h := Eq.mp (if_pos hc9) h
    refine v_tabK (9 : Int32) hc9 151 dX11_has_1 (by decide) (by decide) rfl (by decide) ?_
    refine v_aload_n 0 0 dX11_has_151 rfl rfl ?_
    obtain ⟨o43, h⟩ := h
    obtain ⟨b44, e45, h⟩ := h
    refine v_gR 11 10 dX11_has_152 fg_RX11_78 o43 e45 ?_
    obtain ⟨o46, h⟩ := h
    refine v_gI 7 0 dX11_has_155 fg_RX11_143 o46 ?_
    exact v_iret dX11_has_158 rfl rfl h
  replace h := Eq.mp (if_neg hc9) h
  by_cases hc10 : v1 = (10 : Int32)
  · replace h := Eq.mp (if_pos hc10) h
    refine v_tabK (10 : Int32) hc10 159 dX11_has_1 (by decide) (by decide) rfl (by decide) ?_
    refine v_aload_n 0 0 dX11_has_159 rfl rfl ?_
    obtain ⟨o47, h⟩ := h
    obtain ⟨b48, e49, h⟩ := h
    refine v_gR 11 8 dX11_has_160 fg_RX11_64 o47 e49 ?_
    obtain ⟨o50, h⟩ := h
    refine v_gI 3 0 dX11_has_163 fg_RX11_186 o50 ?_
    exact v_iret dX11_has_166 rfl rfl h
  replace h := Eq.mp (if_neg hc10) h
  refine v_tabOut 167 dX11_has_1 (by have := lv_neT hc0 (a := 0) (by decide); have := lv_neT hc1 (a := 1) (by decide); have := lv_neT hc2 (a := 2) (by decide); have := lv_neT hc3 (a := 3) (by decide); have := lv_neT hc4 (a := 4) (by decide); have := lv_neT hc5 (a := 5) (by decide); have := lv_neT hc6 (a := 6) (by decide); have := lv_neT hc7 (a := 7) (by decide); have := lv_neT hc8 (a := 8) (by decide); have := lv_neT hc9 (a := 9) (by decide); have := lv_neT hc10 (a := 10) (by decide); omega) (by decide) ?_
  refine v_iconst (-1 : Int32) dX11_has_167 (by decide) ?_
  exact v_iret dX11_has_168 rfl rfl h
/-! CalledRiver.image -/
theorem dX11_image_0 : decode cX11_image 0 = .ok (.aload_n 0, 1) := by decide +kernel
theorem dX11_image_1 : decode cX11_image 1 = .ok (.getfield 106, 3) := by decide +kernel
theorem dX11_image_4 : decode cX11_image 4 = .ok (.aload_n 0, 1) := by decide +kernel
theorem dX11_image_5 : decode cX11_image 5 = .ok (.getfield 35, 3) := by decide +kernel
theorem dX11_image_8 : decode cX11_image 8 = .ok (.aload_n 0, 1) := by decide +kernel
theorem dX11_image_9 : decode cX11_image 9 = .ok (.getfield 54, 3) := by decide +kernel
theorem dX11_image_12 : decode cX11_image 12 = .ok (.invokevirtual 342, 3) := by decide +kernel
theorem dX11_image_15 : decode cX11_image 15 = .ok (.aload_n 0, 1) := by decide +kernel
theorem dX11_image_16 : decode cX11_image 16 = .ok (.getfield 106, 3) := by decide +kernel
theorem dX11_image_19 : decode cX11_image 19 = .ok (.getfield 345, 3) := by decide +kernel
theorem dX11_image_22 : decode cX11_image 22 = .ok (.ireturn, 1) := by decide +kernel
def wp_X11_image (sh : Shp) (v0 : Nat) (Q : Int32 → Mem → Prop) (m : Mem) : Prop :=
  Ob sh v0 11 ∧ ∃ b2 : Nat, m.2.2 v0 16 = some b2 ∧ (∃ b4 : Nat, m.2.2 v0 3 = some b4 ∧ (∃ b6 : Nat, m.2.2 v0 6 = some b6 ∧ (Ob sh b2 4 ∧ wp_X4_write sh b2 b4 b6 (fun m9 => ∃ b11 : Nat, m9.2.2 v0 16 = some b11 ∧ (Ob sh b11 4 ∧ (Q (m9.1 b11 1) m9))) m)))
abbrev M_X11_image : Mi := (cX11_image, 1, RX11, (Option.some FieldType.int), "image", 3, 106, 0, 0)
set_option maxHeartbeats 4000000 in
set_option maxRecDepth 100000 in
theorem c_X11_image {l : Launch} {G : Gl} {sh : Shp} {v0 : Nat} {Q : Int32 → Mem → Prop} {m : Mem} (h : wp_X11_image sh v0 Q m) : Cni l G yX11_image cX11_image 1 (Option.some FieldType.int) 3 106 sh [.ref (G.1 + v0)] m Q := by
  refine con_i (ls := [(0, .ref (G.1 + v0))]) (by decide +kernel) rfl (Nat.le_of_ble_eq_true rfl) (fun F => ?_)
  show V G F M_X11_image sh 0 0 (Zi G F sh Q) 0 [(0, .ref (G.1 + v0))] [] m
  unfold wp_X11_image at h
  refine v_aload_n 0 0 dX11_image_0 rfl rfl ?_
  obtain ⟨o1, h⟩ := h
  obtain ⟨b2, e3, h⟩ := h
  refine v_gR 11 16 dX11_image_1 fg_RX11_106 o1 e3 ?_
  refine v_aload_n 0 0 dX11_image_4 rfl rfl ?_
  obtain ⟨b4, e5, h⟩ := h
  refine v_gR 11 3 dX11_image_5 fg_RX11_35 o1 e5 ?_
  refine v_aload_n 0 0 dX11_image_8 rfl rfl ?_
  obtain ⟨b6, e7, h⟩ := h
  refine v_gR 11 6 dX11_image_9 fg_RX11_54 o1 e7 ?_
  obtain ⟨o10, h⟩ := h
  refine v_cVv [.ref _, .ref _] mv_X4_write ml_RX11_342 ⟨_, _, rfl⟩ o10 rfl rfl (Nat.le_of_ble_eq_true rfl) (Nat.le_of_ble_eq_true rfl) (Nat.le_of_ble_eq_true rfl) (Nat.zero_le _) (Nat.zero_le _) dX11_image_12 (c_X4_write h) (fun m9 h => ?_)
  refine v_aload_n 0 0 dX11_image_15 rfl rfl ?_
  obtain ⟨b11, e12, h⟩ := h
  refine v_gR 11 16 dX11_image_16 fg_RX11_106 o1 e12 ?_
  obtain ⟨o13, h⟩ := h
  refine v_gI 4 1 dX11_image_19 fg_RX11_345 o13 ?_
  exact v_iret dX11_image_22 rfl rfl h
/-! CalledRiver.pieIn -/
theorem dX11_pieIn_0 : decode cX11_pieIn 0 = .ok (.iload_n 1, 1) := by decide +kernel
theorem dX11_pieIn_1 : decode cX11_pieIn 1 = .ok (.iload_n 2, 1) := by decide +kernel
theorem dX11_pieIn_2 : decode cX11_pieIn 2 = .ok (.ishr, 1) := by decide +kernel
theorem dX11_pieIn_3 : decode cX11_pieIn 3 = .ok (.iconst 1, 1) := by decide +kernel
theorem dX11_pieIn_4 : decode cX11_pieIn 4 = .ok (.iand, 1) := by decide +kernel
theorem dX11_pieIn_5 : decode cX11_pieIn 5 = .ok (.iconst 1, 1) := by decide +kernel
theorem dX11_pieIn_6 : decode cX11_pieIn 6 = .ok (.if_icmp .ne 15, 3) := by decide +kernel
theorem dX11_pieIn_9 : decode cX11_pieIn 9 = .ok (.aload_n 0, 1) := by decide +kernel
theorem dX11_pieIn_10 : decode cX11_pieIn 10 = .ok (.getfield 54, 3) := by decide +kernel
theorem dX11_pieIn_13 : decode cX11_pieIn 13 = .ok (.getfield 230, 3) := by decide +kernel
theorem dX11_pieIn_16 : decode cX11_pieIn 16 = .ok (.iload_n 2, 1) := by decide +kernel
theorem dX11_pieIn_17 : decode cX11_pieIn 17 = .ok (.iaload, 1) := by decide +kernel
theorem dX11_pieIn_18 : decode cX11_pieIn 18 = .ok (.goto 4, 3) := by decide +kernel
theorem dX11_pieIn_21 : decode cX11_pieIn 21 = .ok (.iconst 0, 1) := by decide +kernel
theorem dX11_pieIn_22 : decode cX11_pieIn 22 = .ok (.ireturn, 1) := by decide +kernel
def wp_X11_pieIn (sh : Shp) (v0 : Nat) (v1 : Int32) (v2 : Int32) (Q : Int32 → Mem → Prop) (m : Mem) : Prop :=
  if ((v1 >>> (v2 &&& 31)) &&& (1 : Int32)) = (1 : Int32) then (Ob sh v0 11 ∧ ∃ b2 : Nat, m.2.2 v0 6 = some b2 ∧ (Ob sh b2 1 ∧ ∃ b5 : Nat, m.2.2 b2 5 = some b5 ∧ (Ix sh b5 100 v2 ∧ (Q (m.1 b5 v2.toNatClampNeg) m)))) else (Q (0 : Int32) m)
abbrev M_X11_pieIn : Mi := (cX11_pieIn, 3, RX11, (Option.some FieldType.int), "pieIn", 1, 60, 0, 0)
set_option maxHeartbeats 4000000 in
set_option maxRecDepth 100000 in
theorem c_X11_pieIn {l : Launch} {G : Gl} {sh : Shp} {v0 : Nat} {v1 : Int32} {v2 : Int32} {Q : Int32 → Mem → Prop} {m : Mem} (h : wp_X11_pieIn sh v0 v1 v2 Q m) : Cni l G yX11_pieIn cX11_pieIn 3 (Option.some FieldType.int) 1 60 sh [.ref (G.1 + v0), .int v1, .int v2] m Q := by
  refine con_i (ls := [(0, .ref (G.1 + v0)), (1, .int v1), (2, .int v2)]) (by decide +kernel) rfl (Nat.le_of_ble_eq_true rfl) (fun F => ?_)
  show V G F M_X11_pieIn sh 0 0 (Zi G F sh Q) 0 [(0, .ref (G.1 + v0)), (1, .int v1), (2, .int v2)] [] m
  unfold wp_X11_pieIn at h
  refine v_iload_n 1 1 dX11_pieIn_0 rfl rfl ?_
  refine v_iload_n 2 2 dX11_pieIn_1 rfl rfl ?_
  refine v_ishr dX11_pieIn_2 ?_
  refine v_iconst (1 : Int32) dX11_pieIn_3 (by decide) ?_
  refine v_iand dX11_pieIn_4 ?_
  refine v_iconst (1 : Int32) dX11_pieIn_5 (by decide) ?_
  refine v_icmp_ne 21 dX11_pieIn_6 (by decide) (fun hc => ?_) (fun hc => ?_)
  · replace h := Eq.mp (if_neg hc) h
    refine v_iconst (0 : Int32) dX11_pieIn_21 (by decide) ?_
    exact v_iret dX11_pieIn_22 rfl rfl h
  · replace h := Eq.mp (if_pos hc) h
    refine v_aload_n 0 0 dX11_pieIn_9 rfl rfl ?_
    obtain ⟨o1, h⟩ := h
    obtain ⟨b2, e3, h⟩ := h
    refine v_gR 11 6 dX11_pieIn_10 fg_RX11_54 o1 e3 ?_
    obtain ⟨o4, h⟩ := h
    obtain ⟨b5, e6, h⟩ := h
    refine v_gR 1 5 dX11_pieIn_13 fg_RX11_230 o4 e6 ?_
    refine v_iload_n 2 2 dX11_pieIn_16 rfl rfl ?_
    obtain ⟨i7, h⟩ := h
    refine v_iald dX11_pieIn_17 i7 ?_
    refine v_goto 22 dX11_pieIn_18 (by decide) ?_
    exact v_iret dX11_pieIn_22 rfl rfl h
/-! CalledRiver.welfare -/
theorem dX11_welfare_0 : decode cX11_welfare 0 = .ok (.bipush 10, 2) := by decide +kernel
theorem dX11_welfare_2 : decode cX11_welfare 2 = .ok (.aload_n 0, 1) := by decide +kernel
theorem dX11_welfare_3 : decode cX11_welfare 3 = .ok (.getfield 100, 3) := by decide +kernel
theorem dX11_welfare_6 : decode cX11_welfare 6 = .ok (.iload_n 1, 1) := by decide +kernel
theorem dX11_welfare_7 : decode cX11_welfare 7 = .ok (.iaload, 1) := by decide +kernel
theorem dX11_welfare_8 : decode cX11_welfare 8 = .ok (.iload_n 2, 1) := by decide +kernel
theorem dX11_welfare_9 : decode cX11_welfare 9 = .ok (.ishr, 1) := by decide +kernel
theorem dX11_welfare_10 : decode cX11_welfare 10 = .ok (.iconst 1, 1) := by decide +kernel
theorem dX11_welfare_11 : decode cX11_welfare 11 = .ok (.iand, 1) := by decide +kernel
theorem dX11_welfare_12 : decode cX11_welfare 12 = .ok (.imul, 1) := by decide +kernel
theorem dX11_welfare_13 : decode cX11_welfare 13 = .ok (.aload_n 0, 1) := by decide +kernel
theorem dX11_welfare_14 : decode cX11_welfare 14 = .ok (.iload_n 1, 1) := by decide +kernel
theorem dX11_welfare_15 : decode cX11_welfare 15 = .ok (.iload_n 2, 1) := by decide +kernel
theorem dX11_welfare_16 : decode cX11_welfare 16 = .ok (.invokevirtual 360, 3) := by decide +kernel
theorem dX11_welfare_19 : decode cX11_welfare 19 = .ok (.isub, 1) := by decide +kernel
theorem dX11_welfare_20 : decode cX11_welfare 20 = .ok (.ireturn, 1) := by decide +kernel
def wp_X11_welfare (sh : Shp) (v0 : Nat) (v1 : Int32) (v2 : Int32) (Q : Int32 → Mem → Prop) (m : Mem) : Prop :=
  Ob sh v0 11 ∧ ∃ b2 : Nat, m.2.2 v0 15 = some b2 ∧ (Ix sh b2 100 v1 ∧ (wp_X11_pieIn sh v0 v1 v2 (fun r5 m6 => Q (((10 : Int32) * (((m.1 b2 v1.toNatClampNeg) >>> (v2 &&& 31)) &&& (1 : Int32))) - r5) m6) m))
abbrev M_X11_welfare : Mi := (cX11_welfare, 3, RX11, (Option.some FieldType.int), "welfare", 2, 82, 0, 0)
set_option maxHeartbeats 4000000 in
set_option maxRecDepth 100000 in
theorem c_X11_welfare {l : Launch} {G : Gl} {sh : Shp} {v0 : Nat} {v1 : Int32} {v2 : Int32} {Q : Int32 → Mem → Prop} {m : Mem} (h : wp_X11_welfare sh v0 v1 v2 Q m) : Cni l G yX11_welfare cX11_welfare 3 (Option.some FieldType.int) 2 82 sh [.ref (G.1 + v0), .int v1, .int v2] m Q := by
  refine con_i (ls := [(0, .ref (G.1 + v0)), (1, .int v1), (2, .int v2)]) (by decide +kernel) rfl (Nat.le_of_ble_eq_true rfl) (fun F => ?_)
  show V G F M_X11_welfare sh 0 0 (Zi G F sh Q) 0 [(0, .ref (G.1 + v0)), (1, .int v1), (2, .int v2)] [] m
  unfold wp_X11_welfare at h
  refine v_bipush (10 : Int32) dX11_welfare_0 (by decide) ?_
  refine v_aload_n 0 0 dX11_welfare_2 rfl rfl ?_
  obtain ⟨o1, h⟩ := h
  obtain ⟨b2, e3, h⟩ := h
  refine v_gR 11 15 dX11_welfare_3 fg_RX11_100 o1 e3 ?_
  refine v_iload_n 1 1 dX11_welfare_6 rfl rfl ?_
  obtain ⟨i4, h⟩ := h
  refine v_iald dX11_welfare_7 i4 ?_
  refine v_iload_n 2 2 dX11_welfare_8 rfl rfl ?_
  refine v_ishr dX11_welfare_9 ?_
  refine v_iconst (1 : Int32) dX11_welfare_10 (by decide) ?_
  refine v_iand dX11_welfare_11 ?_
  refine v_imul dX11_welfare_12 ?_
  refine v_aload_n 0 0 dX11_welfare_13 rfl rfl ?_
  refine v_iload_n 1 1 dX11_welfare_14 rfl rfl ?_
  refine v_iload_n 2 2 dX11_welfare_15 rfl rfl ?_
  refine v_cVi [.int _, .int _] mv_X11_pieIn ml_RX11_360 ⟨_, _, rfl⟩ o1 rfl rfl (Nat.le_of_ble_eq_true rfl) (Nat.le_of_ble_eq_true rfl) (Nat.le_of_ble_eq_true rfl) (Nat.zero_le _) (Nat.zero_le _) dX11_welfare_16 (c_X11_pieIn h) (fun r5 m6 h => ?_)
  refine v_isub dX11_welfare_19 ?_
  exact v_iret dX11_welfare_20 rfl rfl h
/-! CalledRiver.isAtRest -/
theorem dX11_isAtRest_0 : decode cX11_isAtRest 0 = .ok (.iconst 0, 1) := by decide +kernel
theorem dX11_isAtRest_1 : decode cX11_isAtRest 1 = .ok (.istore_n 2, 1) := by decide +kernel
theorem dX11_isAtRest_2 : decode cX11_isAtRest 2 = .ok (.iload_n 2, 1) := by decide +kernel
theorem dX11_isAtRest_3 : decode cX11_isAtRest 3 = .ok (.aload_n 0, 1) := by decide +kernel
theorem dX11_isAtRest_4 : decode cX11_isAtRest 4 = .ok (.getfield 35, 3) := by decide +kernel
theorem dX11_isAtRest_7 : decode cX11_isAtRest 7 = .ok (.getfield 158, 3) := by decide +kernel
theorem dX11_isAtRest_10 : decode cX11_isAtRest 10 = .ok (.if_icmp .ge 30, 3) := by decide +kernel
theorem dX11_isAtRest_13 : decode cX11_isAtRest 13 = .ok (.aload_n 0, 1) := by decide +kernel
theorem dX11_isAtRest_14 : decode cX11_isAtRest 14 = .ok (.iload_n 1, 1) := by decide +kernel
theorem dX11_isAtRest_15 : decode cX11_isAtRest 15 = .ok (.iconst 1, 1) := by decide +kernel
theorem dX11_isAtRest_16 : decode cX11_isAtRest 16 = .ok (.iload_n 2, 1) := by decide +kernel
theorem dX11_isAtRest_17 : decode cX11_isAtRest 17 = .ok (.ishl, 1) := by decide +kernel
theorem dX11_isAtRest_18 : decode cX11_isAtRest 18 = .ok (.ixor, 1) := by decide +kernel
theorem dX11_isAtRest_19 : decode cX11_isAtRest 19 = .ok (.iload_n 2, 1) := by decide +kernel
theorem dX11_isAtRest_20 : decode cX11_isAtRest 20 = .ok (.invokevirtual 363, 3) := by decide +kernel
theorem dX11_isAtRest_23 : decode cX11_isAtRest 23 = .ok (.aload_n 0, 1) := by decide +kernel
theorem dX11_isAtRest_24 : decode cX11_isAtRest 24 = .ok (.iload_n 1, 1) := by decide +kernel
theorem dX11_isAtRest_25 : decode cX11_isAtRest 25 = .ok (.iload_n 2, 1) := by decide +kernel
theorem dX11_isAtRest_26 : decode cX11_isAtRest 26 = .ok (.invokevirtual 363, 3) := by decide +kernel
theorem dX11_isAtRest_29 : decode cX11_isAtRest 29 = .ok (.if_icmp .le 5, 3) := by decide +kernel
theorem dX11_isAtRest_32 : decode cX11_isAtRest 32 = .ok (.iconst 0, 1) := by decide +kernel
theorem dX11_isAtRest_33 : decode cX11_isAtRest 33 = .ok (.ireturn, 1) := by decide +kernel
theorem dX11_isAtRest_34 : decode cX11_isAtRest 34 = .ok (.iinc 2 1, 3) := by decide +kernel
theorem dX11_isAtRest_37 : decode cX11_isAtRest 37 = .ok (.goto (-35), 3) := by decide +kernel
theorem dX11_isAtRest_40 : decode cX11_isAtRest 40 = .ok (.iconst 1, 1) := by decide +kernel
theorem dX11_isAtRest_41 : decode cX11_isAtRest 41 = .ok (.ireturn, 1) := by decide +kernel
def X11_isAtRest_p2b (sh : Shp) (v0 : Nat) (v1 : Int32) (Q : Int32 → Mem → Prop) (K2 : Int32 → Mem → Prop) (v2 : Int32) (m : Mem) : Prop :=
  Ob sh v0 11 ∧ ∃ b2 : Nat, m.2.2 v0 3 = some b2 ∧ (Ob sh b2 5 ∧ (if (m.1 b2 3) ≤ v2 then (Q (1 : Int32) m) else (wp_X11_welfare sh v0 (v1 ^^^ ((1 : Int32) <<< (v2 &&& 31))) v2 (fun r5 m6 => wp_X11_welfare sh v0 v1 v2 (fun r7 m8 => if r5 ≤ r7 then (K2 (v2 + (1 : Int32)) m8) else (Q (0 : Int32) m8)) m6) m)))
def X11_isAtRest_p2n (sh : Shp) (v0 : Nat) (v1 : Int32) (Q : Int32 → Mem → Prop) : Nat → Int32 → Mem → Prop
  | 0 => fun _ _ => False
  | n + 1 => X11_isAtRest_p2b sh v0 v1 Q (X11_isAtRest_p2n sh v0 v1 Q n)
def X11_isAtRest_p2 (sh : Shp) (v0 : Nat) (v1 : Int32) (Q : Int32 → Mem → Prop) (v2 : Int32) (m : Mem) : Prop := ∃ n, X11_isAtRest_p2n sh v0 v1 Q n v2 m
def wp_X11_isAtRest (sh : Shp) (v0 : Nat) (v1 : Int32) (Q : Int32 → Mem → Prop) (m : Mem) : Prop :=
  X11_isAtRest_p2 sh v0 v1 Q (0 : Int32) m
abbrev M_X11_isAtRest : Mi := (cX11_isAtRest, 3, RX11, (Option.some FieldType.boolean), "isAtRest", 3, 104, 0, 0)
set_option maxHeartbeats 4000000 in
set_option maxRecDepth 100000 in
theorem v_X11_isAtRest_p2b {G : Gl} {F : Fr} {sh : Shp} {v0 : Nat} {v1 : Int32} {v2 : Int32} {Q : Int32 → Mem → Prop} {K2 : Int32 → Mem → Prop} {m : Mem} (hK2 : ∀ (x2 : Int32) (m : Mem), K2 x2 m → V G F M_X11_isAtRest sh 0 0 (Zi G F sh Q) 2 [(0, .ref (G.1 + v0)), (1, .int v1), (2, .int x2)] [] m) (h : X11_isAtRest_p2b sh v0 v1 Q K2 v2 m) : V G F M_X11_isAtRest sh 0 0 (Zi G F sh Q) 2 [(0, .ref (G.1 + v0)), (1, .int v1), (2, .int v2)] [] m := by
  unfold X11_isAtRest_p2b at h
  refine v_iload_n 2 2 dX11_isAtRest_2 rfl rfl ?_
  refine v_aload_n 0 0 dX11_isAtRest_3 rfl rfl ?_
  obtain ⟨o1, h⟩ := h
  obtain ⟨b2, e3, h⟩ := h
  refine v_gR 11 3 dX11_isAtRest_4 fg_RX11_35 o1 e3 ?_
  obtain ⟨o4, h⟩ := h
  refine v_gI 5 3 dX11_isAtRest_7 fg_RX11_158 o4 ?_
  refine v_icmp_ge 40 dX11_isAtRest_10 (by decide) (fun hc => ?_) (fun hc => ?_)
  · replace h := Eq.mp (if_pos hc) h
    refine v_iconst (1 : Int32) dX11_isAtRest_40 (by decide) ?_
    exact v_iret dX11_isAtRest_41 rfl (by decide) h
  · replace h := Eq.mp (if_neg hc) h
    refine v_aload_n 0 0 dX11_isAtRest_13 rfl rfl ?_
    refine v_iload_n 1 1 dX11_isAtRest_14 rfl rfl ?_
    refine v_iconst (1 : Int32) dX11_isAtRest_15 (by decide) ?_
    refine v_iload_n 2 2 dX11_isAtRest_16 rfl rfl ?_
    refine v_ishl dX11_isAtRest_17 ?_
    refine v_ixor dX11_isAtRest_18 ?_
    refine v_iload_n 2 2 dX11_isAtRest_19 rfl rfl ?_
    refine v_cVi [.int _, .int _] mv_X11_welfare ml_RX11_363 ⟨_, _, rfl⟩ o1 rfl rfl (Nat.le_of_ble_eq_true rfl) (Nat.le_of_ble_eq_true rfl) (Nat.le_of_ble_eq_true rfl) (Nat.zero_le _) (Nat.zero_le _) dX11_isAtRest_20 (c_X11_welfare h) (fun r5 m6 h => ?_)
    refine v_aload_n 0 0 dX11_isAtRest_23 rfl rfl ?_
    refine v_iload_n 1 1 dX11_isAtRest_24 rfl rfl ?_
    refine v_iload_n 2 2 dX11_isAtRest_25 rfl rfl ?_
    refine v_cVi [.int _, .int _] mv_X11_welfare ml_RX11_363 ⟨_, _, rfl⟩ o1 rfl rfl (Nat.le_of_ble_eq_true rfl) (Nat.le_of_ble_eq_true rfl) (Nat.le_of_ble_eq_true rfl) (Nat.zero_le _) (Nat.zero_le _) dX11_isAtRest_26 (c_X11_welfare h) (fun r7 m8 h => ?_)
    refine v_icmp_le 34 dX11_isAtRest_29 (by decide) (fun hc => ?_) (fun hc => ?_)
    · replace h := Eq.mp (if_pos hc) h
      refine v_iinc (ls' := [(2, .int _), (0, .ref _), (1, .int _)]) 2 2 dX11_isAtRest_34 rfl (congrArg (HAdd.hAdd _) (by decide : Int32.ofInt (1) = (1 : Int32))) (Nat.le_of_ble_eq_true rfl) rfl ?_
      refine v_goto 2 dX11_isAtRest_37 (by decide) ?_
      refine v_sub [1, 2, 0] rfl ?_
      exact hK2 _ _ h
    · replace h := Eq.mp (if_neg hc) h
      refine v_iconst (0 : Int32) dX11_isAtRest_32 (by decide) ?_
      exact v_iret dX11_isAtRest_33 rfl (by decide) h
set_option maxHeartbeats 4000000 in
set_option maxRecDepth 100000 in
theorem v_X11_isAtRest_p2 {G : Gl} {F : Fr} {sh : Shp} {v0 : Nat} {v1 : Int32} {v2 : Int32} {Q : Int32 → Mem → Prop} {m : Mem} (h : X11_isAtRest_p2 sh v0 v1 Q v2 m) : V G F M_X11_isAtRest sh 0 0 (Zi G F sh Q) 2 [(0, .ref (G.1 + v0)), (1, .int v1), (2, .int v2)] [] m := by
  obtain ⟨n, h⟩ := h
  induction n generalizing v2 m with
  | zero => exact h.elim
  | succ n ih => exact v_X11_isAtRest_p2b (fun _ _ h => ih h) h
set_option maxHeartbeats 4000000 in
set_option maxRecDepth 100000 in
theorem c_X11_isAtRest {l : Launch} {G : Gl} {sh : Shp} {v0 : Nat} {v1 : Int32} {Q : Int32 → Mem → Prop} {m : Mem} (h : wp_X11_isAtRest sh v0 v1 Q m) : Cni l G yX11_isAtRest cX11_isAtRest 3 (Option.some FieldType.boolean) 3 104 sh [.ref (G.1 + v0), .int v1] m Q := by
  refine con_i (ls := [(0, .ref (G.1 + v0)), (1, .int v1)]) (by decide +kernel) rfl (Nat.le_of_ble_eq_true rfl) (fun F => ?_)
  show V G F M_X11_isAtRest sh 0 0 (Zi G F sh Q) 0 [(0, .ref (G.1 + v0)), (1, .int v1)] [] m
  unfold wp_X11_isAtRest at h
  refine v_iconst (0 : Int32) dX11_isAtRest_0 (by decide) ?_
  refine v_istore_n (ls' := [(2, .int _), (0, .ref _), (1, .int _)]) 2 dX11_isAtRest_1 rfl (Nat.le_of_ble_eq_true rfl) rfl ?_
  refine v_sub [1, 2, 0] rfl ?_
  exact v_X11_isAtRest_p2 h
/-! CalledRiver.kept -/
theorem dX11_kept_0 : decode cX11_kept 0 = .ok (.aload_n 0, 1) := by decide +kernel
theorem dX11_kept_1 : decode cX11_kept 1 = .ok (.getfield 54, 3) := by decide +kernel
theorem dX11_kept_4 : decode cX11_kept 4 = .ok (.getfield 177, 3) := by decide +kernel
theorem dX11_kept_7 : decode cX11_kept 7 = .ok (.bipush 40, 2) := by decide +kernel
theorem dX11_kept_9 : decode cX11_kept 9 = .ok (.invokestatic 180, 3) := by decide +kernel
theorem dX11_kept_12 : decode cX11_kept 12 = .ok (.istore_n 3, 1) := by decide +kernel
theorem dX11_kept_13 : decode cX11_kept 13 = .ok (.iload_n 1, 1) := by decide +kernel
theorem dX11_kept_14 : decode cX11_kept 14 = .ok (.ifCond .lt 8, 3) := by decide +kernel
theorem dX11_kept_17 : decode cX11_kept 17 = .ok (.iload_n 1, 1) := by decide +kernel
theorem dX11_kept_18 : decode cX11_kept 18 = .ok (.iload_n 3, 1) := by decide +kernel
theorem dX11_kept_19 : decode cX11_kept 19 = .ok (.if_icmp .lt 5, 3) := by decide +kernel
theorem dX11_kept_22 : decode cX11_kept 22 = .ok (.iconst (-1), 1) := by decide +kernel
theorem dX11_kept_23 : decode cX11_kept 23 = .ok (.ireturn, 1) := by decide +kernel
theorem dX11_kept_24 : decode cX11_kept 24 = .ok (.aload_n 0, 1) := by decide +kernel
theorem dX11_kept_25 : decode cX11_kept 25 = .ok (.getfield 64, 3) := by decide +kernel
theorem dX11_kept_28 : decode cX11_kept 28 = .ok (.aload_n 0, 1) := by decide +kernel
theorem dX11_kept_29 : decode cX11_kept 29 = .ok (.getfield 54, 3) := by decide +kernel
theorem dX11_kept_32 : decode cX11_kept 32 = .ok (.getfield 177, 3) := by decide +kernel
theorem dX11_kept_35 : decode cX11_kept 35 = .ok (.iload_n 3, 1) := by decide +kernel
theorem dX11_kept_36 : decode cX11_kept 36 = .ok (.isub, 1) := by decide +kernel
theorem dX11_kept_37 : decode cX11_kept 37 = .ok (.iload_n 1, 1) := by decide +kernel
theorem dX11_kept_38 : decode cX11_kept 38 = .ok (.iadd, 1) := by decide +kernel
theorem dX11_kept_39 : decode cX11_kept 39 = .ok (.iload_n 2, 1) := by decide +kernel
theorem dX11_kept_40 : decode cX11_kept 40 = .ok (.invokevirtual 239, 3) := by decide +kernel
theorem dX11_kept_43 : decode cX11_kept 43 = .ok (.ireturn, 1) := by decide +kernel
def wp_X11_kept (sh : Shp) (v0 : Nat) (v1 : Int32) (v2 : Int32) (Q : Int32 → Mem → Prop) (m : Mem) : Prop :=
  Ob sh v0 11 ∧ ∃ b2 : Nat, m.2.2 v0 6 = some b2 ∧ (Ob sh b2 1 ∧ (wp_J9_min_7cf53 sh (m.1 b2 1) (40 : Int32) (fun r5 m6 => if v1 < 0 then (Q (-1 : Int32) m6) else (if v1 < r5 then (∃ b7 : Nat, m6.2.2 v0 8 = some b7 ∧ (∃ b9 : Nat, m6.2.2 v0 6 = some b9 ∧ (Ob sh b9 1 ∧ (Ob sh b7 3 ∧ wp_X3_tell sh b7 (((m6.1 b9 1) - r5) + v1) v2 (fun r12 m13 => Q r12 m13) m6)))) else (Q (-1 : Int32) m6))) m))
abbrev M_X11_kept : Mi := (cX11_kept, 4, RX11, (Option.some FieldType.int), "kept", 2, 82, 0, 0)
set_option maxHeartbeats 4000000 in
set_option maxRecDepth 100000 in
theorem c_X11_kept {l : Launch} {G : Gl} {sh : Shp} {v0 : Nat} {v1 : Int32} {v2 : Int32} {Q : Int32 → Mem → Prop} {m : Mem} (h : wp_X11_kept sh v0 v1 v2 Q m) : Cni l G yX11_kept cX11_kept 4 (Option.some FieldType.int) 2 82 sh [.ref (G.1 + v0), .int v1, .int v2] m Q := by
  refine con_i (ls := [(0, .ref (G.1 + v0)), (1, .int v1), (2, .int v2)]) (by decide +kernel) rfl (Nat.le_of_ble_eq_true rfl) (fun F => ?_)
  show V G F M_X11_kept sh 0 0 (Zi G F sh Q) 0 [(0, .ref (G.1 + v0)), (1, .int v1), (2, .int v2)] [] m
  unfold wp_X11_kept at h
  refine v_aload_n 0 0 dX11_kept_0 rfl rfl ?_
  obtain ⟨o1, h⟩ := h
  obtain ⟨b2, e3, h⟩ := h
  refine v_gR 11 6 dX11_kept_1 fg_RX11_54 o1 e3 ?_
  obtain ⟨o4, h⟩ := h
  refine v_gI 1 1 dX11_kept_4 fg_RX11_177 o4 ?_
  refine v_bipush (40 : Int32) dX11_kept_7 (by decide) ?_
  refine v_cSi [.int _, .int _] mv_J9_min_7cf53 ml_RX11_180 rfl rfl (Nat.le_of_ble_eq_true rfl) (Nat.le_of_ble_eq_true rfl) (Nat.le_of_ble_eq_true rfl) (Nat.zero_le _) (Nat.zero_le _) dX11_kept_9 (c_J9_min_7cf53 h) (fun r5 m6 h => ?_)
  refine v_istore_n (ls' := [(3, .int _), (0, .ref _), (1, .int _), (2, .int _)]) 3 dX11_kept_12 rfl (Nat.le_of_ble_eq_true rfl) rfl ?_
  refine v_iload_n 1 2 dX11_kept_13 rfl rfl ?_
  refine v_if_lt 22 dX11_kept_14 (by decide) (fun hc => ?_) (fun hc => ?_)
  · replace h := Eq.mp (if_pos hc) h
    refine v_iconst (-1 : Int32) dX11_kept_22 (by decide) ?_
    exact v_iret dX11_kept_23 rfl rfl h
  · replace h := Eq.mp (if_neg hc) h
    refine v_iload_n 1 2 dX11_kept_17 rfl rfl ?_
    refine v_iload_n 3 0 dX11_kept_18 rfl rfl ?_
    refine v_icmp_lt 24 dX11_kept_19 (by decide) (fun hc => ?_) (fun hc => ?_)
    · replace h := Eq.mp (if_pos hc) h
      refine v_aload_n 0 1 dX11_kept_24 rfl rfl ?_
      obtain ⟨b7, e8, h⟩ := h
      refine v_gR 11 8 dX11_kept_25 fg_RX11_64 o1 e8 ?_
      refine v_aload_n 0 1 dX11_kept_28 rfl rfl ?_
      obtain ⟨b9, e10, h⟩ := h
      refine v_gR 11 6 dX11_kept_29 fg_RX11_54 o1 e10 ?_
      obtain ⟨o11, h⟩ := h
      refine v_gI 1 1 dX11_kept_32 fg_RX11_177 o11 ?_
      refine v_iload_n 3 0 dX11_kept_35 rfl rfl ?_
      refine v_isub dX11_kept_36 ?_
      refine v_iload_n 1 2 dX11_kept_37 rfl rfl ?_
      refine v_iadd dX11_kept_38 ?_
      refine v_iload_n 2 3 dX11_kept_39 rfl rfl ?_
      obtain ⟨o14, h⟩ := h
      refine v_cVi [.int _, .int _] mv_X3_tell ml_RX11_239 ⟨_, _, rfl⟩ o14 rfl rfl (Nat.le_of_ble_eq_true rfl) (Nat.le_of_ble_eq_true rfl) (Nat.le_of_ble_eq_true rfl) (Nat.zero_le _) (Nat.zero_le _) dX11_kept_40 (c_X3_tell h) (fun r12 m13 h => ?_)
      exact v_iret dX11_kept_43 rfl rfl h
    · replace h := Eq.mp (if_neg hc) h
      refine v_iconst (-1 : Int32) dX11_kept_22 (by decide) ?_
      exact v_iret dX11_kept_23 rfl rfl h
/-! CalledRiver.leads -/
theorem dX11_leads_0 : decode cX11_leads 0 = .ok (.aload_n 0, 1) := by decide +kernel
theorem dX11_leads_1 : decode cX11_leads 1 = .ok (.iload_n 1, 1) := by decide +kernel
theorem dX11_leads_2 : decode cX11_leads 2 = .ok (.invokevirtual 242, 3) := by decide +kernel
theorem dX11_leads_5 : decode cX11_leads 5 = .ok (.astore_n 3, 1) := by decide +kernel
theorem dX11_leads_6 : decode cX11_leads 6 = .ok (.aload_n 3, 1) := by decide +kernel
theorem dX11_leads_7 : decode cX11_leads 7 = .ok (.getfield 252, 3) := by decide +kernel
theorem dX11_leads_10 : decode cX11_leads 10 = .ok (.iconst (-1), 1) := by decide +kernel
theorem dX11_leads_11 : decode cX11_leads 11 = .ok (.if_icmp .ne 5, 3) := by decide +kernel
theorem dX11_leads_14 : decode cX11_leads 14 = .ok (.iconst (-1), 1) := by decide +kernel
theorem dX11_leads_15 : decode cX11_leads 15 = .ok (.ireturn, 1) := by decide +kernel
theorem dX11_leads_16 : decode cX11_leads 16 = .ok (.iload_n 2, 1) := by decide +kernel
theorem dX11_leads_17 : decode cX11_leads 17 = .ok (.tableswitch 50 0 2 #[27, 32, 45], 27) := by decide +kernel
theorem dX11_leads_44 : decode cX11_leads 44 = .ok (.aload_n 3, 1) := by decide +kernel
theorem dX11_leads_45 : decode cX11_leads 45 = .ok (.getfield 252, 3) := by decide +kernel
theorem dX11_leads_48 : decode cX11_leads 48 = .ok (.ireturn, 1) := by decide +kernel
theorem dX11_leads_49 : decode cX11_leads 49 = .ok (.aload_n 3, 1) := by decide +kernel
theorem dX11_leads_50 : decode cX11_leads 50 = .ok (.getfield 255, 3) := by decide +kernel
theorem dX11_leads_53 : decode cX11_leads 53 = .ok (.ifCond .eq 7, 3) := by decide +kernel
theorem dX11_leads_56 : decode cX11_leads 56 = .ok (.iconst 1, 1) := by decide +kernel
theorem dX11_leads_57 : decode cX11_leads 57 = .ok (.goto 4, 3) := by decide +kernel
theorem dX11_leads_60 : decode cX11_leads 60 = .ok (.iconst 0, 1) := by decide +kernel
theorem dX11_leads_61 : decode cX11_leads 61 = .ok (.ireturn, 1) := by decide +kernel
theorem dX11_leads_62 : decode cX11_leads 62 = .ok (.aload_n 3, 1) := by decide +kernel
theorem dX11_leads_63 : decode cX11_leads 63 = .ok (.getfield 259, 3) := by decide +kernel
theorem dX11_leads_66 : decode cX11_leads 66 = .ok (.ireturn, 1) := by decide +kernel
theorem dX11_leads_67 : decode cX11_leads 67 = .ok (.iconst (-1), 1) := by decide +kernel
theorem dX11_leads_68 : decode cX11_leads 68 = .ok (.ireturn, 1) := by decide +kernel
def wp_X11_leads (sh : Shp) (v0 : Nat) (v1 : Int32) (v2 : Int32) (Q : Int32 → Mem → Prop) (m : Mem) : Prop :=
  Ob sh v0 11 ∧ wp_X11_wayOf sh v0 v1 (fun r1 m2 => Ob sh r1 10 ∧ (if (m2.1 r1 2) = (-1 : Int32) then (Q (-1 : Int32) m2) else (if v2 = (0 : Int32) then (Q (m2.1 r1 2) m2) else if v2 = (1 : Int32) then (if (m2.1 r1 3) = 0 then (Q (0 : Int32) m2) else (Q (1 : Int32) m2)) else if v2 = (2 : Int32) then (Q (m2.1 r1 4) m2) else (Q (-1 : Int32) m2)))) m
abbrev M_X11_leads : Mi := (cX11_leads, 4, RX11, (Option.some FieldType.int), "leads", 7, 209, 0, 0)
set_option maxHeartbeats 4000000 in
set_option maxRecDepth 100000 in
theorem c_X11_leads {l : Launch} {G : Gl} {sh : Shp} {v0 : Nat} {v1 : Int32} {v2 : Int32} {Q : Int32 → Mem → Prop} {m : Mem} (h : wp_X11_leads sh v0 v1 v2 Q m) : Cni l G yX11_leads cX11_leads 4 (Option.some FieldType.int) 7 209 sh [.ref (G.1 + v0), .int v1, .int v2] m Q := by
  refine con_i (ls := [(0, .ref (G.1 + v0)), (1, .int v1), (2, .int v2)]) (by decide +kernel) rfl (Nat.le_of_ble_eq_true rfl) (fun F => ?_)
  show V G F M_X11_leads sh 0 0 (Zi G F sh Q) 0 [(0, .ref (G.1 + v0)), (1, .int v1), (2, .int v2)] [] m
  unfold wp_X11_leads at h
  refine v_aload_n 0 0 dX11_leads_0 rfl rfl ?_
  refine v_iload_n 1 1 dX11_leads_1 rfl rfl ?_
  obtain ⟨o3, h⟩ := h
  refine v_cVr [.int _] mv_X11_wayOf ml_RX11_242 ⟨_, _, rfl⟩ o3 rfl rfl (Nat.le_of_ble_eq_true rfl) (Nat.le_of_ble_eq_true rfl) (Nat.le_of_ble_eq_true rfl) (Nat.zero_le _) (Nat.zero_le _) dX11_leads_2 (c_X11_wayOf h) (fun r1 m2 h => ?_)
  refine v_astore_n (ls' := [(3, .ref _), (0, .ref _), (1, .int _), (2, .int _)]) 3 dX11_leads_5 rfl (Nat.le_of_ble_eq_true rfl) rfl ?_
  refine v_aload_n 3 0 dX11_leads_6 rfl rfl ?_
  obtain ⟨o4, h⟩ := h
  refine v_gI 10 2 dX11_leads_7 fg_RX11_252 o4 ?_
  refine v_iconst (-1 : Int32) dX11_leads_10 (by decide) ?_
  refine v_icmp_ne 16 dX11_leads_11 (by decide) (fun hc => ?_) (fun hc => ?_)
  · replace h := Eq.mp (if_neg hc) h
    refine v_iload_n 2 3 dX11_leads_16 rfl rfl ?_
    by_cases hc0 : v2 = (0 : Int32)
    · replace h := Eq.mp (if_pos hc0) h
      refine v_tabK (0 : Int32) hc0 44 dX11_leads_17 (by decide) (by decide) rfl (by decide) ?_
      refine v_aload_n 3 0 dX11_leads_44 rfl rfl ?_
      refine v_gI 10 2 dX11_leads_45 fg_RX11_252 o4 ?_
      exact v_iret dX11_leads_48 rfl rfl h
    replace h := Eq.mp (if_neg hc0) h
    by_cases hc1 : v2 = (1 : Int32)
    · replace h := Eq.mp (if_pos hc1) h
      refine v_tabK (1 : Int32) hc1 49 dX11_leads_17 (by decide) (by decide) rfl (by decide) ?_
      refine v_aload_n 3 0 dX11_leads_49 rfl rfl ?_
      refine v_gI 10 3 dX11_leads_50 fg_RX11_255 o4 ?_
      refine v_if_eq 60 dX11_leads_53 (by decide) (fun hc => ?_) (fun hc => ?_)
      · replace h := Eq.mp (if_pos hc) h
        refine v_iconst (0 : Int32) dX11_leads_60 (by decide) ?_
        exact v_iret dX11_leads_61 rfl rfl h
      · replace h := Eq.mp (if_neg hc) h
        refine v_iconst (1 : Int32) dX11_leads_56 (by decide) ?_
        refine v_goto 61 dX11_leads_57 (by decide) ?_
        exact v_iret dX11_leads_61 rfl rfl h
    replace h := Eq.mp (if_neg hc1) h
    by_cases hc2 : v2 = (2 : Int32)
    · replace h := Eq.mp (if_pos hc2) h
      refine v_tabK (2 : Int32) hc2 62 dX11_leads_17 (by decide) (by decide) rfl (by decide) ?_
      refine v_aload_n 3 0 dX11_leads_62 rfl rfl ?_
      refine v_gI 10 4 dX11_leads_63 fg_RX11_259 o4 ?_
      exact v_iret dX11_leads_66 rfl rfl h
    replace h := Eq.mp (if_neg hc2) h
    refine v_tabOut 67 dX11_leads_17 (by have := lv_neT hc0 (a := 0) (by decide); have := lv_neT hc1 (a := 1) (by decide); have := lv_neT hc2 (a := 2) (by decide); omega) (by decide) ?_
    refine v_iconst (-1 : Int32) dX11_leads_67 (by decide) ?_
    exact v_iret dX11_leads_68 rfl rfl h
  · replace h := Eq.mp (if_pos hc) h
    refine v_iconst (-1 : Int32) dX11_leads_14 (by decide) ?_
    exact v_iret dX11_leads_15 rfl rfl h
/-! CalledRiver.least -/
theorem dX11_least_0 : decode cX11_least 0 = .ok (.iload_n 1, 1) := by decide +kernel
theorem dX11_least_1 : decode cX11_least 1 = .ok (.ifCond .lt 16, 3) := by decide +kernel
theorem dX11_least_4 : decode cX11_least 4 = .ok (.iload_n 1, 1) := by decide +kernel
theorem dX11_least_5 : decode cX11_least 5 = .ok (.iconst 1, 1) := by decide +kernel
theorem dX11_least_6 : decode cX11_least 6 = .ok (.aload_n 0, 1) := by decide +kernel
theorem dX11_least_7 : decode cX11_least 7 = .ok (.getfield 35, 3) := by decide +kernel
theorem dX11_least_10 : decode cX11_least 10 = .ok (.getfield 158, 3) := by decide +kernel
theorem dX11_least_13 : decode cX11_least 13 = .ok (.ishl, 1) := by decide +kernel
theorem dX11_least_14 : decode cX11_least 14 = .ok (.if_icmp .lt 5, 3) := by decide +kernel
theorem dX11_least_17 : decode cX11_least 17 = .ok (.iconst (-1), 1) := by decide +kernel
theorem dX11_least_18 : decode cX11_least 18 = .ok (.ireturn, 1) := by decide +kernel
theorem dX11_least_19 : decode cX11_least 19 = .ok (.aload_n 0, 1) := by decide +kernel
theorem dX11_least_20 : decode cX11_least 20 = .ok (.getfield 71, 3) := by decide +kernel
theorem dX11_least_23 : decode cX11_least 23 = .ok (.aload_n 0, 1) := by decide +kernel
theorem dX11_least_24 : decode cX11_least 24 = .ok (.getfield 35, 3) := by decide +kernel
theorem dX11_least_27 : decode cX11_least 27 = .ok (.aload_n 0, 1) := by decide +kernel
theorem dX11_least_28 : decode cX11_least 28 = .ok (.getfield 54, 3) := by decide +kernel
theorem dX11_least_31 : decode cX11_least 31 = .ok (.invokevirtual 266, 3) := by decide +kernel
theorem dX11_least_34 : decode cX11_least 34 = .ok (.aload_n 0, 1) := by decide +kernel
theorem dX11_least_35 : decode cX11_least 35 = .ok (.getfield 71, 3) := by decide +kernel
theorem dX11_least_38 : decode cX11_least 38 = .ok (.iload_n 1, 1) := by decide +kernel
theorem dX11_least_39 : decode cX11_least 39 = .ok (.invokevirtual 270, 3) := by decide +kernel
theorem dX11_least_42 : decode cX11_least 42 = .ok (.ireturn, 1) := by decide +kernel
def wp_X11_least (sh : Shp) (v0 : Nat) (v1 : Int32) (Q : Int32 → Mem → Prop) (m : Mem) : Prop :=
  if v1 < 0 then (Q (-1 : Int32) m) else (Ob sh v0 11 ∧ ∃ b2 : Nat, m.2.2 v0 3 = some b2 ∧ (Ob sh b2 5 ∧ (if v1 < ((1 : Int32) <<< ((m.1 b2 3) &&& 31)) then (∃ b5 : Nat, m.2.2 v0 9 = some b5 ∧ (∃ b7 : Nat, m.2.2 v0 6 = some b7 ∧ (Ob sh b5 2 ∧ wp_X2_search sh b5 b2 b7 (fun m10 => ∃ b12 : Nat, m10.2.2 v0 9 = some b12 ∧ (Ob sh b12 2 ∧ wp_X2_fewestFor sh b12 v1 (fun r14 m15 => Q r14 m15) m10)) m))) else (Q (-1 : Int32) m))))
abbrev M_X11_least : Mi := (cX11_least, 2, RX11, (Option.some FieldType.int), "least", 5, 155, 0, 0)
set_option maxHeartbeats 4000000 in
set_option maxRecDepth 100000 in
theorem c_X11_least {l : Launch} {G : Gl} {sh : Shp} {v0 : Nat} {v1 : Int32} {Q : Int32 → Mem → Prop} {m : Mem} (h : wp_X11_least sh v0 v1 Q m) : Cni l G yX11_least cX11_least 2 (Option.some FieldType.int) 5 155 sh [.ref (G.1 + v0), .int v1] m Q := by
  refine con_i (ls := [(0, .ref (G.1 + v0)), (1, .int v1)]) (by decide +kernel) rfl (Nat.le_of_ble_eq_true rfl) (fun F => ?_)
  show V G F M_X11_least sh 0 0 (Zi G F sh Q) 0 [(0, .ref (G.1 + v0)), (1, .int v1)] [] m
  unfold wp_X11_least at h
  refine v_iload_n 1 1 dX11_least_0 rfl rfl ?_
  refine v_if_lt 17 dX11_least_1 (by decide) (fun hc => ?_) (fun hc => ?_)
  · replace h := Eq.mp (if_pos hc) h
    refine v_iconst (-1 : Int32) dX11_least_17 (by decide) ?_
    exact v_iret dX11_least_18 rfl rfl h
  · replace h := Eq.mp (if_neg hc) h
    refine v_iload_n 1 1 dX11_least_4 rfl rfl ?_
    refine v_iconst (1 : Int32) dX11_least_5 (by decide) ?_
    refine v_aload_n 0 0 dX11_least_6 rfl rfl ?_
    obtain ⟨o1, h⟩ := h
    obtain ⟨b2, e3, h⟩ := h
    refine v_gR 11 3 dX11_least_7 fg_RX11_35 o1 e3 ?_
    obtain ⟨o4, h⟩ := h
    refine v_gI 5 3 dX11_least_10 fg_RX11_158 o4 ?_
    refine v_ishl dX11_least_13 ?_
    refine v_icmp_lt 19 dX11_least_14 (by decide) (fun hc => ?_) (fun hc => ?_)
    · replace h := Eq.mp (if_pos hc) h
      refine v_aload_n 0 0 dX11_least_19 rfl rfl ?_
      obtain ⟨b5, e6, h⟩ := h
      refine v_gR 11 9 dX11_least_20 fg_RX11_71 o1 e6 ?_
      refine v_aload_n 0 0 dX11_least_23 rfl rfl ?_
      refine v_gR 11 3 dX11_least_24 fg_RX11_35 o1 e3 ?_
      refine v_aload_n 0 0 dX11_least_27 rfl rfl ?_
      obtain ⟨b7, e8, h⟩ := h
      refine v_gR 11 6 dX11_least_28 fg_RX11_54 o1 e8 ?_
      obtain ⟨o11, h⟩ := h
      refine v_cVv [.ref _, .ref _] mv_X2_search ml_RX11_266 ⟨_, _, rfl⟩ o11 rfl rfl (Nat.le_of_ble_eq_true rfl) (Nat.le_of_ble_eq_true rfl) (Nat.le_of_ble_eq_true rfl) (Nat.zero_le _) (Nat.zero_le _) dX11_least_31 (c_X2_search h) (fun m10 h => ?_)
      refine v_aload_n 0 0 dX11_least_34 rfl rfl ?_
      obtain ⟨b12, e13, h⟩ := h
      refine v_gR 11 9 dX11_least_35 fg_RX11_71 o1 e13 ?_
      refine v_iload_n 1 1 dX11_least_38 rfl rfl ?_
      obtain ⟨o16, h⟩ := h
      refine v_cVi [.int _] mv_X2_fewestFor ml_RX11_270 ⟨_, _, rfl⟩ o16 rfl rfl (Nat.le_of_ble_eq_true rfl) (Nat.le_of_ble_eq_true rfl) (Nat.le_of_ble_eq_true rfl) (Nat.zero_le _) (Nat.zero_le _) dX11_least_39 (c_X2_fewestFor h) (fun r14 m15 h => ?_)
      exact v_iret dX11_least_42 rfl rfl h
    · replace h := Eq.mp (if_neg hc) h
      refine v_iconst (-1 : Int32) dX11_least_17 (by decide) ?_
      exact v_iret dX11_least_18 rfl rfl h
/-! CalledRiver.letter -/
theorem dX11_letter_0 : decode cX11_letter 0 = .ok (.iload_n 3, 1) := by decide +kernel
theorem dX11_letter_1 : decode cX11_letter 1 = .ok (.ifCond .lt 9, 3) := by decide +kernel
theorem dX11_letter_4 : decode cX11_letter 4 = .ok (.iload_n 3, 1) := by decide +kernel
theorem dX11_letter_5 : decode cX11_letter 5 = .ok (.bipush 6, 2) := by decide +kernel
theorem dX11_letter_7 : decode cX11_letter 7 = .ok (.if_icmp .lt 5, 3) := by decide +kernel
theorem dX11_letter_10 : decode cX11_letter 10 = .ok (.iconst (-1), 1) := by decide +kernel
theorem dX11_letter_11 : decode cX11_letter 11 = .ok (.ireturn, 1) := by decide +kernel
theorem dX11_letter_12 : decode cX11_letter 12 = .ok (.iload_n 1, 1) := by decide +kernel
theorem dX11_letter_13 : decode cX11_letter 13 = .ok (.ifCond .ne 28, 3) := by decide +kernel
theorem dX11_letter_16 : decode cX11_letter 16 = .ok (.aload_n 0, 1) := by decide +kernel
theorem dX11_letter_17 : decode cX11_letter 17 = .ok (.getfield 35, 3) := by decide +kernel
theorem dX11_letter_20 : decode cX11_letter 20 = .ok (.iload_n 2, 1) := by decide +kernel
theorem dX11_letter_21 : decode cX11_letter 21 = .ok (.invokevirtual 187, 3) := by decide +kernel
theorem dX11_letter_24 : decode cX11_letter 24 = .ok (.ifCond .eq 17, 3) := by decide +kernel
theorem dX11_letter_27 : decode cX11_letter 27 = .ok (.aload_n 0, 1) := by decide +kernel
theorem dX11_letter_28 : decode cX11_letter 28 = .ok (.getfield 35, 3) := by decide +kernel
theorem dX11_letter_31 : decode cX11_letter 31 = .ok (.getfield 191, 3) := by decide +kernel
theorem dX11_letter_34 : decode cX11_letter 34 = .ok (.iload_n 2, 1) := by decide +kernel
theorem dX11_letter_35 : decode cX11_letter 35 = .ok (.iaload, 1) := by decide +kernel
theorem dX11_letter_36 : decode cX11_letter 36 = .ok (.iload_n 3, 1) := by decide +kernel
theorem dX11_letter_37 : decode cX11_letter 37 = .ok (.invokestatic 194, 3) := by decide +kernel
theorem dX11_letter_40 : decode cX11_letter 40 = .ok (.ireturn, 1) := by decide +kernel
theorem dX11_letter_41 : decode cX11_letter 41 = .ok (.iload_n 1, 1) := by decide +kernel
theorem dX11_letter_42 : decode cX11_letter 42 = .ok (.iconst 1, 1) := by decide +kernel
theorem dX11_letter_43 : decode cX11_letter 43 = .ok (.if_icmp .ne 28, 3) := by decide +kernel
theorem dX11_letter_46 : decode cX11_letter 46 = .ok (.aload_n 0, 1) := by decide +kernel
theorem dX11_letter_47 : decode cX11_letter 47 = .ok (.getfield 35, 3) := by decide +kernel
theorem dX11_letter_50 : decode cX11_letter 50 = .ok (.iload_n 2, 1) := by decide +kernel
theorem dX11_letter_51 : decode cX11_letter 51 = .ok (.invokevirtual 197, 3) := by decide +kernel
theorem dX11_letter_54 : decode cX11_letter 54 = .ok (.ifCond .eq 17, 3) := by decide +kernel
theorem dX11_letter_57 : decode cX11_letter 57 = .ok (.aload_n 0, 1) := by decide +kernel
theorem dX11_letter_58 : decode cX11_letter 58 = .ok (.getfield 35, 3) := by decide +kernel
theorem dX11_letter_61 : decode cX11_letter 61 = .ok (.getfield 200, 3) := by decide +kernel
theorem dX11_letter_64 : decode cX11_letter 64 = .ok (.iload_n 2, 1) := by decide +kernel
theorem dX11_letter_65 : decode cX11_letter 65 = .ok (.iaload, 1) := by decide +kernel
theorem dX11_letter_66 : decode cX11_letter 66 = .ok (.iload_n 3, 1) := by decide +kernel
theorem dX11_letter_67 : decode cX11_letter 67 = .ok (.invokestatic 194, 3) := by decide +kernel
theorem dX11_letter_70 : decode cX11_letter 70 = .ok (.ireturn, 1) := by decide +kernel
theorem dX11_letter_71 : decode cX11_letter 71 = .ok (.iconst (-1), 1) := by decide +kernel
theorem dX11_letter_72 : decode cX11_letter 72 = .ok (.ireturn, 1) := by decide +kernel
def X11_letter_p41 (sh : Shp) (v0 : Nat) (v1 : Int32) (v2 : Int32) (v3 : Int32) (Q : Int32 → Mem → Prop) (m : Mem) : Prop :=
  if v1 = (1 : Int32) then (Ob sh v0 11 ∧ ∃ b16 : Nat, m.2.2 v0 3 = some b16 ∧ (Ob sh b16 5 ∧ wp_X5_isCaller sh b16 v2 (fun r18 m19 => if r18 = 0 then (Q (-1 : Int32) m19) else (∃ b21 : Nat, m19.2.2 v0 3 = some b21 ∧ (Ob sh b21 5 ∧ ∃ b24 : Nat, m19.2.2 b21 12 = some b24 ∧ (Ix sh b24 100 v2 ∧ (wp_X9_letterOf sh (m19.1 b24 v2.toNatClampNeg) v3 (fun r27 m28 => Q r27 m28) m19))))) m)) else (Q (-1 : Int32) m)
def wp_X11_letter (sh : Shp) (v0 : Nat) (v1 : Int32) (v2 : Int32) (v3 : Int32) (Q : Int32 → Mem → Prop) (m : Mem) : Prop :=
  if v3 < 0 then (Q (-1 : Int32) m) else (if v3 < (6 : Int32) then (if v1 = 0 then (Ob sh v0 11 ∧ ∃ b2 : Nat, m.2.2 v0 3 = some b2 ∧ (Ob sh b2 5 ∧ wp_X5_isFarm sh b2 v2 (fun r4 m5 => if r4 = 0 then (X11_letter_p41 sh v0 v1 v2 v3 Q m5) else (∃ b7 : Nat, m5.2.2 v0 3 = some b7 ∧ (Ob sh b7 5 ∧ ∃ b10 : Nat, m5.2.2 b7 8 = some b10 ∧ (Ix sh b10 100 v2 ∧ (wp_X9_letterOf sh (m5.1 b10 v2.toNatClampNeg) v3 (fun r13 m14 => Q r13 m14) m5))))) m)) else (X11_letter_p41 sh v0 v1 v2 v3 Q m)) else (Q (-1 : Int32) m))
abbrev M_X11_letter : Mi := (cX11_letter, 4, RX11, (Option.some FieldType.int), "letter", 2, 81, 0, 0)
set_option maxHeartbeats 4000000 in
set_option maxRecDepth 100000 in
theorem v_X11_letter_p41 {G : Gl} {F : Fr} {sh : Shp} {v0 : Nat} {v1 : Int32} {v2 : Int32} {v3 : Int32} {Q : Int32 → Mem → Prop} {m : Mem} (h : X11_letter_p41 sh v0 v1 v2 v3 Q m) : V G F M_X11_letter sh 0 0 (Zi G F sh Q) 41 [(0, .ref (G.1 + v0)), (1, .int v1), (2, .int v2), (3, .int v3)] [] m := by
  unfold X11_letter_p41 at h
  refine v_iload_n 1 1 dX11_letter_41 rfl rfl ?_
  refine v_iconst (1 : Int32) dX11_letter_42 (by decide) ?_
  refine v_icmp_ne 71 dX11_letter_43 (by decide) (fun hc => ?_) (fun hc => ?_)
  · replace h := Eq.mp (if_neg hc) h
    refine v_iconst (-1 : Int32) dX11_letter_71 (by decide) ?_
    exact v_iret dX11_letter_72 rfl rfl h
  · replace h := Eq.mp (if_pos hc) h
    refine v_aload_n 0 0 dX11_letter_46 rfl rfl ?_
    obtain ⟨o15, h⟩ := h
    obtain ⟨b16, e17, h⟩ := h
    refine v_gR 11 3 dX11_letter_47 fg_RX11_35 o15 e17 ?_
    refine v_iload_n 2 2 dX11_letter_50 rfl rfl ?_
    obtain ⟨o20, h⟩ := h
    refine v_cVi [.int _] mv_X5_isCaller ml_RX11_197 ⟨_, _, rfl⟩ o20 rfl rfl (Nat.le_of_ble_eq_true rfl) (Nat.le_of_ble_eq_true rfl) (Nat.le_of_ble_eq_true rfl) (Nat.zero_le _) (Nat.zero_le _) dX11_letter_51 (c_X5_isCaller h) (fun r18 m19 h => ?_)
    refine v_if_eq 71 dX11_letter_54 (by decide) (fun hc => ?_) (fun hc => ?_)
    · replace h := Eq.mp (if_pos hc) h
      refine v_iconst (-1 : Int32) dX11_letter_71 (by decide) ?_
      exact v_iret dX11_letter_72 rfl rfl h
    · replace h := Eq.mp (if_neg hc) h
      refine v_aload_n 0 0 dX11_letter_57 rfl rfl ?_
      obtain ⟨b21, e22, h⟩ := h
      refine v_gR 11 3 dX11_letter_58 fg_RX11_35 o15 e22 ?_
      obtain ⟨o23, h⟩ := h
      obtain ⟨b24, e25, h⟩ := h
      refine v_gR 5 12 dX11_letter_61 fg_RX11_200 o23 e25 ?_
      refine v_iload_n 2 2 dX11_letter_64 rfl rfl ?_
      obtain ⟨i26, h⟩ := h
      refine v_iald dX11_letter_65 i26 ?_
      refine v_iload_n 3 3 dX11_letter_66 rfl rfl ?_
      refine v_cSi [.int _, .int _] mv_X9_letterOf ml_RX11_194 rfl rfl (Nat.le_of_ble_eq_true rfl) (Nat.le_of_ble_eq_true rfl) (Nat.le_of_ble_eq_true rfl) (Nat.zero_le _) (Nat.zero_le _) dX11_letter_67 (c_X9_letterOf h) (fun r27 m28 h => ?_)
      exact v_iret dX11_letter_70 rfl rfl h
set_option maxHeartbeats 4000000 in
set_option maxRecDepth 100000 in
theorem c_X11_letter {l : Launch} {G : Gl} {sh : Shp} {v0 : Nat} {v1 : Int32} {v2 : Int32} {v3 : Int32} {Q : Int32 → Mem → Prop} {m : Mem} (h : wp_X11_letter sh v0 v1 v2 v3 Q m) : Cni l G yX11_letter cX11_letter 4 (Option.some FieldType.int) 2 81 sh [.ref (G.1 + v0), .int v1, .int v2, .int v3] m Q := by
  refine con_i (ls := [(0, .ref (G.1 + v0)), (1, .int v1), (2, .int v2), (3, .int v3)]) (by decide +kernel) rfl (Nat.le_of_ble_eq_true rfl) (fun F => ?_)
  show V G F M_X11_letter sh 0 0 (Zi G F sh Q) 0 [(0, .ref (G.1 + v0)), (1, .int v1), (2, .int v2), (3, .int v3)] [] m
  unfold wp_X11_letter at h
  refine v_iload_n 3 3 dX11_letter_0 rfl rfl ?_
  refine v_if_lt 10 dX11_letter_1 (by decide) (fun hc => ?_) (fun hc => ?_)
  · replace h := Eq.mp (if_pos hc) h
    refine v_iconst (-1 : Int32) dX11_letter_10 (by decide) ?_
    exact v_iret dX11_letter_11 rfl rfl h
  · replace h := Eq.mp (if_neg hc) h
    refine v_iload_n 3 3 dX11_letter_4 rfl rfl ?_
    refine v_bipush (6 : Int32) dX11_letter_5 (by decide) ?_
    refine v_icmp_lt 12 dX11_letter_7 (by decide) (fun hc => ?_) (fun hc => ?_)
    · replace h := Eq.mp (if_pos hc) h
      refine v_iload_n 1 1 dX11_letter_12 rfl rfl ?_
      refine v_if_ne 41 dX11_letter_13 (by decide) (fun hc => ?_) (fun hc => ?_)
      · replace h := Eq.mp (if_neg hc) h
        refine v_sub [0, 1, 2, 3] rfl ?_
        exact v_X11_letter_p41 h
      · replace h := Eq.mp (if_pos hc) h
        refine v_aload_n 0 0 dX11_letter_16 rfl rfl ?_
        obtain ⟨o1, h⟩ := h
        obtain ⟨b2, e3, h⟩ := h
        refine v_gR 11 3 dX11_letter_17 fg_RX11_35 o1 e3 ?_
        refine v_iload_n 2 2 dX11_letter_20 rfl rfl ?_
        obtain ⟨o6, h⟩ := h
        refine v_cVi [.int _] mv_X5_isFarm ml_RX11_187 ⟨_, _, rfl⟩ o6 rfl rfl (Nat.le_of_ble_eq_true rfl) (Nat.le_of_ble_eq_true rfl) (Nat.le_of_ble_eq_true rfl) (Nat.zero_le _) (Nat.zero_le _) dX11_letter_21 (c_X5_isFarm h) (fun r4 m5 h => ?_)
        refine v_if_eq 41 dX11_letter_24 (by decide) (fun hc => ?_) (fun hc => ?_)
        · replace h := Eq.mp (if_pos hc) h
          refine v_sub [0, 1, 2, 3] rfl ?_
          exact v_X11_letter_p41 h
        · replace h := Eq.mp (if_neg hc) h
          refine v_aload_n 0 0 dX11_letter_27 rfl rfl ?_
          obtain ⟨b7, e8, h⟩ := h
          refine v_gR 11 3 dX11_letter_28 fg_RX11_35 o1 e8 ?_
          obtain ⟨o9, h⟩ := h
          obtain ⟨b10, e11, h⟩ := h
          refine v_gR 5 8 dX11_letter_31 fg_RX11_191 o9 e11 ?_
          refine v_iload_n 2 2 dX11_letter_34 rfl rfl ?_
          obtain ⟨i12, h⟩ := h
          refine v_iald dX11_letter_35 i12 ?_
          refine v_iload_n 3 3 dX11_letter_36 rfl rfl ?_
          refine v_cSi [.int _, .int _] mv_X9_letterOf ml_RX11_194 rfl rfl (Nat.le_of_ble_eq_true rfl) (Nat.le_of_ble_eq_true rfl) (Nat.le_of_ble_eq_true rfl) (Nat.zero_le _) (Nat.zero_le _) dX11_letter_37 (c_X9_letterOf h) (fun r13 m14 h => ?_)
          exact v_iret dX11_letter_40 rfl rfl h
    · replace h := Eq.mp (if_neg hc) h
      refine v_iconst (-1 : Int32) dX11_letter_10 (by decide) ?_
      exact v_iret dX11_letter_11 rfl rfl h
/-! CalledRiver.placePart -/
theorem dX11_placePart_0 : decode cX11_placePart 0 = .ok (.iload_n 1, 1) := by decide +kernel
theorem dX11_placePart_1 : decode cX11_placePart 1 = .ok (.iconst (-1), 1) := by decide +kernel
theorem dX11_placePart_2 : decode cX11_placePart 2 = .ok (.if_icmp .ne 5, 3) := by decide +kernel
theorem dX11_placePart_5 : decode cX11_placePart 5 = .ok (.iconst (-1), 1) := by decide +kernel
theorem dX11_placePart_6 : decode cX11_placePart 6 = .ok (.ireturn, 1) := by decide +kernel
theorem dX11_placePart_7 : decode cX11_placePart 7 = .ok (.iload_n 2, 1) := by decide +kernel
theorem dX11_placePart_8 : decode cX11_placePart 8 = .ok (.ifCond .ne 14, 3) := by decide +kernel
theorem dX11_placePart_11 : decode cX11_placePart 11 = .ok (.aload_n 0, 1) := by decide +kernel
theorem dX11_placePart_12 : decode cX11_placePart 12 = .ok (.getfield 35, 3) := by decide +kernel
theorem dX11_placePart_15 : decode cX11_placePart 15 = .ok (.iload_n 1, 1) := by decide +kernel
theorem dX11_placePart_16 : decode cX11_placePart 16 = .ok (.invokevirtual 221, 3) := by decide +kernel
theorem dX11_placePart_19 : decode cX11_placePart 19 = .ok (.goto 20, 3) := by decide +kernel
theorem dX11_placePart_22 : decode cX11_placePart 22 = .ok (.iload_n 2, 1) := by decide +kernel
theorem dX11_placePart_23 : decode cX11_placePart 23 = .ok (.iconst 1, 1) := by decide +kernel
theorem dX11_placePart_24 : decode cX11_placePart 24 = .ok (.if_icmp .ne 14, 3) := by decide +kernel
theorem dX11_placePart_27 : decode cX11_placePart 27 = .ok (.aload_n 0, 1) := by decide +kernel
theorem dX11_placePart_28 : decode cX11_placePart 28 = .ok (.getfield 35, 3) := by decide +kernel
theorem dX11_placePart_31 : decode cX11_placePart 31 = .ok (.iload_n 1, 1) := by decide +kernel
theorem dX11_placePart_32 : decode cX11_placePart 32 = .ok (.invokevirtual 224, 3) := by decide +kernel
theorem dX11_placePart_35 : decode cX11_placePart 35 = .ok (.goto 4, 3) := by decide +kernel
theorem dX11_placePart_38 : decode cX11_placePart 38 = .ok (.iconst (-1), 1) := by decide +kernel
theorem dX11_placePart_39 : decode cX11_placePart 39 = .ok (.ireturn, 1) := by decide +kernel
def wp_X11_placePart (sh : Shp) (v0 : Nat) (v1 : Int32) (v2 : Int32) (Q : Int32 → Mem → Prop) (m : Mem) : Prop :=
  if v1 = (-1 : Int32) then (Q (-1 : Int32) m) else (if v2 = 0 then (Ob sh v0 11 ∧ ∃ b8 : Nat, m.2.2 v0 3 = some b8 ∧ (Ob sh b8 5 ∧ wp_X5_columnOf sh b8 v1 (fun r10 m11 => Q r10 m11) m)) else (if v2 = (1 : Int32) then (Ob sh v0 11 ∧ ∃ b2 : Nat, m.2.2 v0 3 = some b2 ∧ (Ob sh b2 5 ∧ wp_X5_rowOf sh b2 v1 (fun r4 m5 => Q r4 m5) m)) else (Q (-1 : Int32) m)))
abbrev M_X11_placePart : Mi := (cX11_placePart, 3, RX11, (Option.some FieldType.int), "placePart", 2, 81, 0, 0)
set_option maxHeartbeats 4000000 in
set_option maxRecDepth 100000 in
theorem c_X11_placePart {l : Launch} {G : Gl} {sh : Shp} {v0 : Nat} {v1 : Int32} {v2 : Int32} {Q : Int32 → Mem → Prop} {m : Mem} (h : wp_X11_placePart sh v0 v1 v2 Q m) : Cni l G yX11_placePart cX11_placePart 3 (Option.some FieldType.int) 2 81 sh [.ref (G.1 + v0), .int v1, .int v2] m Q := by
  refine con_i (ls := [(0, .ref (G.1 + v0)), (1, .int v1), (2, .int v2)]) (by decide +kernel) rfl (Nat.le_of_ble_eq_true rfl) (fun F => ?_)
  show V G F M_X11_placePart sh 0 0 (Zi G F sh Q) 0 [(0, .ref (G.1 + v0)), (1, .int v1), (2, .int v2)] [] m
  unfold wp_X11_placePart at h
  refine v_iload_n 1 1 dX11_placePart_0 rfl rfl ?_
  refine v_iconst (-1 : Int32) dX11_placePart_1 (by decide) ?_
  refine v_icmp_ne 7 dX11_placePart_2 (by decide) (fun hc => ?_) (fun hc => ?_)
  · replace h := Eq.mp (if_neg hc) h
    refine v_iload_n 2 2 dX11_placePart_7 rfl rfl ?_
    refine v_if_ne 22 dX11_placePart_8 (by decide) (fun hc => ?_) (fun hc => ?_)
    · replace h := Eq.mp (if_neg hc) h
      refine v_iload_n 2 2 dX11_placePart_22 rfl rfl ?_
      refine v_iconst (1 : Int32) dX11_placePart_23 (by decide) ?_
      refine v_icmp_ne 38 dX11_placePart_24 (by decide) (fun hc => ?_) (fun hc => ?_)
      · replace h := Eq.mp (if_neg hc) h
        refine v_iconst (-1 : Int32) dX11_placePart_38 (by decide) ?_
        exact v_iret dX11_placePart_39 rfl rfl h
      · replace h := Eq.mp (if_pos hc) h
        refine v_aload_n 0 0 dX11_placePart_27 rfl rfl ?_
        obtain ⟨o1, h⟩ := h
        obtain ⟨b2, e3, h⟩ := h
        refine v_gR 11 3 dX11_placePart_28 fg_RX11_35 o1 e3 ?_
        refine v_iload_n 1 1 dX11_placePart_31 rfl rfl ?_
        obtain ⟨o6, h⟩ := h
        refine v_cVi [.int _] mv_X5_rowOf ml_RX11_224 ⟨_, _, rfl⟩ o6 rfl rfl (Nat.le_of_ble_eq_true rfl) (Nat.le_of_ble_eq_true rfl) (Nat.le_of_ble_eq_true rfl) (Nat.zero_le _) (Nat.zero_le _) dX11_placePart_32 (c_X5_rowOf h) (fun r4 m5 h => ?_)
        refine v_goto 39 dX11_placePart_35 (by decide) ?_
        exact v_iret dX11_placePart_39 rfl rfl h
    · replace h := Eq.mp (if_pos hc) h
      refine v_aload_n 0 0 dX11_placePart_11 rfl rfl ?_
      obtain ⟨o7, h⟩ := h
      obtain ⟨b8, e9, h⟩ := h
      refine v_gR 11 3 dX11_placePart_12 fg_RX11_35 o7 e9 ?_
      refine v_iload_n 1 1 dX11_placePart_15 rfl rfl ?_
      obtain ⟨o12, h⟩ := h
      refine v_cVi [.int _] mv_X5_columnOf ml_RX11_221 ⟨_, _, rfl⟩ o12 rfl rfl (Nat.le_of_ble_eq_true rfl) (Nat.le_of_ble_eq_true rfl) (Nat.le_of_ble_eq_true rfl) (Nat.zero_le _) (Nat.zero_le _) dX11_placePart_16 (c_X5_columnOf h) (fun r10 m11 h => ?_)
      refine v_goto 39 dX11_placePart_19 (by decide) ?_
      exact v_iret dX11_placePart_39 rfl rfl h
  · replace h := Eq.mp (if_pos hc) h
    refine v_iconst (-1 : Int32) dX11_placePart_5 (by decide) ?_
    exact v_iret dX11_placePart_6 rfl rfl h
/-! CalledRiver.waysThrough -/
theorem dX11_waysThrough_0 : decode cX11_waysThrough 0 = .ok (.iconst 0, 1) := by decide +kernel
theorem dX11_waysThrough_1 : decode cX11_waysThrough 1 = .ok (.istore_n 2, 1) := by decide +kernel
theorem dX11_waysThrough_2 : decode cX11_waysThrough 2 = .ok (.iconst 0, 1) := by decide +kernel
theorem dX11_waysThrough_3 : decode cX11_waysThrough 3 = .ok (.istore_n 3, 1) := by decide +kernel
theorem dX11_waysThrough_4 : decode cX11_waysThrough 4 = .ok (.iload_n 3, 1) := by decide +kernel
theorem dX11_waysThrough_5 : decode cX11_waysThrough 5 = .ok (.aload_n 0, 1) := by decide +kernel
theorem dX11_waysThrough_6 : decode cX11_waysThrough 6 = .ok (.getfield 35, 3) := by decide +kernel
theorem dX11_waysThrough_9 : decode cX11_waysThrough 9 = .ok (.getfield 161, 3) := by decide +kernel
theorem dX11_waysThrough_12 : decode cX11_waysThrough 12 = .ok (.if_icmp .ge 26, 3) := by decide +kernel
theorem dX11_waysThrough_15 : decode cX11_waysThrough 15 = .ok (.aload_n 0, 1) := by decide +kernel
theorem dX11_waysThrough_16 : decode cX11_waysThrough 16 = .ok (.iload_n 3, 1) := by decide +kernel
theorem dX11_waysThrough_17 : decode cX11_waysThrough 17 = .ok (.invokevirtual 242, 3) := by decide +kernel
theorem dX11_waysThrough_20 : decode cX11_waysThrough 20 = .ok (.getfield 366, 3) := by decide +kernel
theorem dX11_waysThrough_23 : decode cX11_waysThrough 23 = .ok (.iload_n 1, 1) := by decide +kernel
theorem dX11_waysThrough_24 : decode cX11_waysThrough 24 = .ok (.iaload, 1) := by decide +kernel
theorem dX11_waysThrough_25 : decode cX11_waysThrough 25 = .ok (.iconst (-1), 1) := by decide +kernel
theorem dX11_waysThrough_26 : decode cX11_waysThrough 26 = .ok (.if_icmp .eq 6, 3) := by decide +kernel
theorem dX11_waysThrough_29 : decode cX11_waysThrough 29 = .ok (.iinc 2 1, 3) := by decide +kernel
theorem dX11_waysThrough_32 : decode cX11_waysThrough 32 = .ok (.iinc 3 1, 3) := by decide +kernel
theorem dX11_waysThrough_35 : decode cX11_waysThrough 35 = .ok (.goto (-31), 3) := by decide +kernel
theorem dX11_waysThrough_38 : decode cX11_waysThrough 38 = .ok (.iload_n 2, 1) := by decide +kernel
theorem dX11_waysThrough_39 : decode cX11_waysThrough 39 = .ok (.ireturn, 1) := by decide +kernel
def X11_waysThrough_p32 (sh : Shp) (v0 : Nat) (v1 : Int32) (v2 : Int32) (v3 : Int32) (Q : Int32 → Mem → Prop) (K4 : Int32 → Int32 → Mem → Prop) (m : Mem) : Prop :=
  K4 v2 (v3 + (1 : Int32)) m
def X11_waysThrough_p4b (sh : Shp) (v0 : Nat) (v1 : Int32) (Q : Int32 → Mem → Prop) (K4 : Int32 → Int32 → Mem → Prop) (v2 : Int32) (v3 : Int32) (m : Mem) : Prop :=
  Ob sh v0 11 ∧ ∃ b2 : Nat, m.2.2 v0 3 = some b2 ∧ (Ob sh b2 5 ∧ (if (m.1 b2 4) ≤ v3 then (Q v2 m) else (wp_X11_wayOf sh v0 v3 (fun r5 m6 => Ob sh r5 10 ∧ ∃ b8 : Nat, m6.2.2 r5 1 = some b8 ∧ (Ix sh b8 100 v1 ∧ (if (m6.1 b8 v1.toNatClampNeg) = (-1 : Int32) then (X11_waysThrough_p32 sh v0 v1 v2 v3 Q K4 m6) else (X11_waysThrough_p32 sh v0 v1 (v2 + (1 : Int32)) v3 Q K4 m6)))) m)))
def X11_waysThrough_p4n (sh : Shp) (v0 : Nat) (v1 : Int32) (Q : Int32 → Mem → Prop) : Nat → Int32 → Int32 → Mem → Prop
  | 0 => fun _ _ _ => False
  | n + 1 => X11_waysThrough_p4b sh v0 v1 Q (X11_waysThrough_p4n sh v0 v1 Q n)
def X11_waysThrough_p4 (sh : Shp) (v0 : Nat) (v1 : Int32) (Q : Int32 → Mem → Prop) (v2 : Int32) (v3 : Int32) (m : Mem) : Prop := ∃ n, X11_waysThrough_p4n sh v0 v1 Q n v2 v3 m
def wp_X11_waysThrough (sh : Shp) (v0 : Nat) (v1 : Int32) (Q : Int32 → Mem → Prop) (m : Mem) : Prop :=
  X11_waysThrough_p4 sh v0 v1 Q (0 : Int32) (0 : Int32) m
abbrev M_X11_waysThrough : Mi := (cX11_waysThrough, 4, RX11, (Option.some FieldType.int), "waysThrough", 7, 209, 0, 0)
set_option maxHeartbeats 4000000 in
set_option maxRecDepth 100000 in
theorem v_X11_waysThrough_p32 {G : Gl} {F : Fr} {sh : Shp} {v0 : Nat} {v1 : Int32} {v2 : Int32} {v3 : Int32} {Q : Int32 → Mem → Prop} {K4 : Int32 → Int32 → Mem → Prop} {m : Mem} (hK4 : ∀ (x2 : Int32) (x3 : Int32) (m : Mem), K4 x2 x3 m → V G F M_X11_waysThrough sh 0 0 (Zi G F sh Q) 4 [(0, .ref (G.1 + v0)), (1, .int v1), (2, .int x2), (3, .int x3)] [] m) (h : X11_waysThrough_p32 sh v0 v1 v2 v3 Q K4 m) : V G F M_X11_waysThrough sh 0 0 (Zi G F sh Q) 32 [(0, .ref (G.1 + v0)), (1, .int v1), (2, .int v2), (3, .int v3)] [] m := by
  unfold X11_waysThrough_p32 at h
  refine v_iinc (ls' := [(3, .int _), (0, .ref _), (1, .int _), (2, .int _)]) 3 3 dX11_waysThrough_32 rfl (congrArg (HAdd.hAdd _) (by decide : Int32.ofInt (1) = (1 : Int32))) (Nat.le_of_ble_eq_true rfl) rfl ?_
  refine v_goto 4 dX11_waysThrough_35 (by decide) ?_
  refine v_sub [1, 2, 3, 0] rfl ?_
  exact hK4 _ _ _ h
set_option maxHeartbeats 4000000 in
set_option maxRecDepth 100000 in
theorem v_X11_waysThrough_p4b {G : Gl} {F : Fr} {sh : Shp} {v0 : Nat} {v1 : Int32} {v2 : Int32} {v3 : Int32} {Q : Int32 → Mem → Prop} {K4 : Int32 → Int32 → Mem → Prop} {m : Mem} (hK4 : ∀ (x2 : Int32) (x3 : Int32) (m : Mem), K4 x2 x3 m → V G F M_X11_waysThrough sh 0 0 (Zi G F sh Q) 4 [(0, .ref (G.1 + v0)), (1, .int v1), (2, .int x2), (3, .int x3)] [] m) (h : X11_waysThrough_p4b sh v0 v1 Q K4 v2 v3 m) : V G F M_X11_waysThrough sh 0 0 (Zi G F sh Q) 4 [(0, .ref (G.1 + v0)), (1, .int v1), (2, .int v2), (3, .int v3)] [] m := by
  unfold X11_waysThrough_p4b at h
  refine v_iload_n 3 3 dX11_waysThrough_4 rfl rfl ?_
  refine v_aload_n 0 0 dX11_waysThrough_5 rfl rfl ?_
  obtain ⟨o1, h⟩ := h
  obtain ⟨b2, e3, h⟩ := h
  refine v_gR 11 3 dX11_waysThrough_6 fg_RX11_35 o1 e3 ?_
  obtain ⟨o4, h⟩ := h
  refine v_gI 5 4 dX11_waysThrough_9 fg_RX11_161 o4 ?_
  refine v_icmp_ge 38 dX11_waysThrough_12 (by decide) (fun hc => ?_) (fun hc => ?_)
  · replace h := Eq.mp (if_pos hc) h
    refine v_iload_n 2 2 dX11_waysThrough_38 rfl rfl ?_
    exact v_iret dX11_waysThrough_39 rfl rfl h
  · replace h := Eq.mp (if_neg hc) h
    refine v_aload_n 0 0 dX11_waysThrough_15 rfl rfl ?_
    refine v_iload_n 3 3 dX11_waysThrough_16 rfl rfl ?_
    refine v_cVr [.int _] mv_X11_wayOf ml_RX11_242 ⟨_, _, rfl⟩ o1 rfl rfl (Nat.le_of_ble_eq_true rfl) (Nat.le_of_ble_eq_true rfl) (Nat.le_of_ble_eq_true rfl) (Nat.zero_le _) (Nat.zero_le _) dX11_waysThrough_17 (c_X11_wayOf h) (fun r5 m6 h => ?_)
    obtain ⟨o7, h⟩ := h
    obtain ⟨b8, e9, h⟩ := h
    refine v_gR 10 1 dX11_waysThrough_20 fg_RX11_366 o7 e9 ?_
    refine v_iload_n 1 1 dX11_waysThrough_23 rfl rfl ?_
    obtain ⟨i10, h⟩ := h
    refine v_iald dX11_waysThrough_24 i10 ?_
    refine v_iconst (-1 : Int32) dX11_waysThrough_25 (by decide) ?_
    refine v_icmp_eq 32 dX11_waysThrough_26 (by decide) (fun hc => ?_) (fun hc => ?_)
    · replace h := Eq.mp (if_pos hc) h
      refine v_sub [0, 1, 2, 3] rfl ?_
      exact v_X11_waysThrough_p32 hK4 h
    · replace h := Eq.mp (if_neg hc) h
      refine v_iinc (ls' := [(2, .int _), (0, .ref _), (1, .int _), (3, .int _)]) 2 2 dX11_waysThrough_29 rfl (congrArg (HAdd.hAdd _) (by decide : Int32.ofInt (1) = (1 : Int32))) (Nat.le_of_ble_eq_true rfl) rfl ?_
      refine v_sub [1, 2, 0, 3] rfl ?_
      exact v_X11_waysThrough_p32 hK4 h
set_option maxHeartbeats 4000000 in
set_option maxRecDepth 100000 in
theorem v_X11_waysThrough_p4 {G : Gl} {F : Fr} {sh : Shp} {v0 : Nat} {v1 : Int32} {v2 : Int32} {v3 : Int32} {Q : Int32 → Mem → Prop} {m : Mem} (h : X11_waysThrough_p4 sh v0 v1 Q v2 v3 m) : V G F M_X11_waysThrough sh 0 0 (Zi G F sh Q) 4 [(0, .ref (G.1 + v0)), (1, .int v1), (2, .int v2), (3, .int v3)] [] m := by
  obtain ⟨n, h⟩ := h
  induction n generalizing v2 v3 m with
  | zero => exact h.elim
  | succ n ih => exact v_X11_waysThrough_p4b (fun _ _ _ h => ih h) h
set_option maxHeartbeats 4000000 in
set_option maxRecDepth 100000 in
theorem c_X11_waysThrough {l : Launch} {G : Gl} {sh : Shp} {v0 : Nat} {v1 : Int32} {Q : Int32 → Mem → Prop} {m : Mem} (h : wp_X11_waysThrough sh v0 v1 Q m) : Cni l G yX11_waysThrough cX11_waysThrough 4 (Option.some FieldType.int) 7 209 sh [.ref (G.1 + v0), .int v1] m Q := by
  refine con_i (ls := [(0, .ref (G.1 + v0)), (1, .int v1)]) (by decide +kernel) rfl (Nat.le_of_ble_eq_true rfl) (fun F => ?_)
  show V G F M_X11_waysThrough sh 0 0 (Zi G F sh Q) 0 [(0, .ref (G.1 + v0)), (1, .int v1)] [] m
  unfold wp_X11_waysThrough at h
  refine v_iconst (0 : Int32) dX11_waysThrough_0 (by decide) ?_
  refine v_istore_n (ls' := [(2, .int _), (0, .ref _), (1, .int _)]) 2 dX11_waysThrough_1 rfl (Nat.le_of_ble_eq_true rfl) rfl ?_
  refine v_iconst (0 : Int32) dX11_waysThrough_2 (by decide) ?_
  refine v_istore_n (ls' := [(3, .int _), (2, .int _), (0, .ref _), (1, .int _)]) 3 dX11_waysThrough_3 rfl (Nat.le_of_ble_eq_true rfl) rfl ?_
  refine v_sub [2, 3, 1, 0] rfl ?_
  exact v_X11_waysThrough_p4 h
/-! CalledRiver.mill -/
theorem dX11_mill_0 : decode cX11_mill 0 = .ok (.iconst (-1), 1) := by decide +kernel
theorem dX11_mill_1 : decode cX11_mill 1 = .ok (.istore_n 2, 1) := by decide +kernel
theorem dX11_mill_2 : decode cX11_mill 2 = .ok (.iconst 0, 1) := by decide +kernel
theorem dX11_mill_3 : decode cX11_mill 3 = .ok (.istore_n 3, 1) := by decide +kernel
theorem dX11_mill_4 : decode cX11_mill 4 = .ok (.iconst 0, 1) := by decide +kernel
theorem dX11_mill_5 : decode cX11_mill 5 = .ok (.istore 4, 2) := by decide +kernel
theorem dX11_mill_7 : decode cX11_mill 7 = .ok (.iload 4, 2) := by decide +kernel
theorem dX11_mill_9 : decode cX11_mill 9 = .ok (.aload_n 0, 1) := by decide +kernel
theorem dX11_mill_10 : decode cX11_mill 10 = .ok (.getfield 35, 3) := by decide +kernel
theorem dX11_mill_13 : decode cX11_mill 13 = .ok (.invokevirtual 303, 3) := by decide +kernel
theorem dX11_mill_16 : decode cX11_mill 16 = .ok (.if_icmp .ge 45, 3) := by decide +kernel
theorem dX11_mill_19 : decode cX11_mill 19 = .ok (.iload 4, 2) := by decide +kernel
theorem dX11_mill_21 : decode cX11_mill 21 = .ok (.aload_n 0, 1) := by decide +kernel
theorem dX11_mill_22 : decode cX11_mill 22 = .ok (.getfield 35, 3) := by decide +kernel
theorem dX11_mill_25 : decode cX11_mill 25 = .ok (.getfield 171, 3) := by decide +kernel
theorem dX11_mill_28 : decode cX11_mill 28 = .ok (.if_icmp .ne 7, 3) := by decide +kernel
theorem dX11_mill_31 : decode cX11_mill 31 = .ok (.iconst 0, 1) := by decide +kernel
theorem dX11_mill_32 : decode cX11_mill 32 = .ok (.goto 9, 3) := by decide +kernel
theorem dX11_mill_35 : decode cX11_mill 35 = .ok (.aload_n 0, 1) := by decide +kernel
theorem dX11_mill_36 : decode cX11_mill 36 = .ok (.iload 4, 2) := by decide +kernel
theorem dX11_mill_38 : decode cX11_mill 38 = .ok (.invokevirtual 306, 3) := by decide +kernel
theorem dX11_mill_41 : decode cX11_mill 41 = .ok (.istore 5, 2) := by decide +kernel
theorem dX11_mill_43 : decode cX11_mill 43 = .ok (.iload 5, 2) := by decide +kernel
theorem dX11_mill_45 : decode cX11_mill 45 = .ok (.iload_n 3, 1) := by decide +kernel
theorem dX11_mill_46 : decode cX11_mill 46 = .ok (.if_icmp .le 9, 3) := by decide +kernel
theorem dX11_mill_49 : decode cX11_mill 49 = .ok (.iload 5, 2) := by decide +kernel
theorem dX11_mill_51 : decode cX11_mill 51 = .ok (.istore_n 3, 1) := by decide +kernel
theorem dX11_mill_52 : decode cX11_mill 52 = .ok (.iload 4, 2) := by decide +kernel
theorem dX11_mill_54 : decode cX11_mill 54 = .ok (.istore_n 2, 1) := by decide +kernel
theorem dX11_mill_55 : decode cX11_mill 55 = .ok (.iinc 4 1, 3) := by decide +kernel
theorem dX11_mill_58 : decode cX11_mill 58 = .ok (.goto (-51), 3) := by decide +kernel
theorem dX11_mill_61 : decode cX11_mill 61 = .ok (.iload_n 1, 1) := by decide +kernel
theorem dX11_mill_62 : decode cX11_mill 62 = .ok (.iconst 2, 1) := by decide +kernel
theorem dX11_mill_63 : decode cX11_mill 63 = .ok (.if_icmp .ne 12, 3) := by decide +kernel
theorem dX11_mill_66 : decode cX11_mill 66 = .ok (.iload_n 2, 1) := by decide +kernel
theorem dX11_mill_67 : decode cX11_mill 67 = .ok (.iconst (-1), 1) := by decide +kernel
theorem dX11_mill_68 : decode cX11_mill 68 = .ok (.if_icmp .eq 7, 3) := by decide +kernel
theorem dX11_mill_71 : decode cX11_mill 71 = .ok (.iload_n 3, 1) := by decide +kernel
theorem dX11_mill_72 : decode cX11_mill 72 = .ok (.goto 9, 3) := by decide +kernel
theorem dX11_mill_75 : decode cX11_mill 75 = .ok (.aload_n 0, 1) := by decide +kernel
theorem dX11_mill_76 : decode cX11_mill 76 = .ok (.iload_n 2, 1) := by decide +kernel
theorem dX11_mill_77 : decode cX11_mill 77 = .ok (.iload_n 1, 1) := by decide +kernel
theorem dX11_mill_78 : decode cX11_mill 78 = .ok (.invokevirtual 249, 3) := by decide +kernel
theorem dX11_mill_81 : decode cX11_mill 81 = .ok (.ireturn, 1) := by decide +kernel
def X11_mill_p55 (sh : Shp) (v0 : Nat) (v1 : Int32) (v2 : Int32) (v3 : Int32) (v4 : Int32) (Q : Int32 → Mem → Prop) (K7 : Int32 → Int32 → Int32 → Mem → Prop) (m : Mem) : Prop :=
  K7 v2 v3 (v4 + (1 : Int32)) m
def X11_mill_p41 (sh : Shp) (v0 : Nat) (v1 : Int32) (v2 : Int32) (v3 : Int32) (v4 : Int32) (s0 : Int32) (Q : Int32 → Mem → Prop) (K7 : Int32 → Int32 → Int32 → Mem → Prop) (m : Mem) : Prop :=
  if s0 ≤ v3 then (X11_mill_p55 sh v0 v1 v2 v3 v4 Q K7 m) else (X11_mill_p55 sh v0 v1 v4 s0 v4 Q K7 m)
def X11_mill_p75 (sh : Shp) (v0 : Nat) (v1 : Int32) (v2 : Int32) (Q : Int32 → Mem → Prop) (m : Mem) : Prop :=
  Ob sh v0 11 ∧ wp_X11_placePart sh v0 v2 v1 (fun r12 m13 => Q r12 m13) m
def X11_mill_p7b (sh : Shp) (v0 : Nat) (v1 : Int32) (Q : Int32 → Mem → Prop) (K7 : Int32 → Int32 → Int32 → Mem → Prop) (v2 : Int32) (v3 : Int32) (v4 : Int32) (m : Mem) : Prop :=
  Ob sh v0 11 ∧ ∃ b2 : Nat, m.2.2 v0 3 = some b2 ∧ (Ob sh b2 5 ∧ wp_X5_places sh b2 (fun r4 m5 => if r4 ≤ v4 then (if v1 = (2 : Int32) then (if v2 = (-1 : Int32) then (X11_mill_p75 sh v0 v1 v2 Q m5) else (Q v3 m5)) else (X11_mill_p75 sh v0 v1 v2 Q m5)) else (∃ b7 : Nat, m5.2.2 v0 3 = some b7 ∧ (Ob sh b7 5 ∧ (if v4 = (m5.1 b7 2) then (X11_mill_p41 sh v0 v1 v2 v3 v4 (0 : Int32) Q K7 m5) else (wp_X11_waysThrough sh v0 v4 (fun r10 m11 => X11_mill_p41 sh v0 v1 v2 v3 v4 r10 Q K7 m11) m5))))) m)
def X11_mill_p7n (sh : Shp) (v0 : Nat) (v1 : Int32) (Q : Int32 → Mem → Prop) : Nat → Int32 → Int32 → Int32 → Mem → Prop
  | 0 => fun _ _ _ _ => False
  | n + 1 => X11_mill_p7b sh v0 v1 Q (X11_mill_p7n sh v0 v1 Q n)
def X11_mill_p7 (sh : Shp) (v0 : Nat) (v1 : Int32) (Q : Int32 → Mem → Prop) (v2 : Int32) (v3 : Int32) (v4 : Int32) (m : Mem) : Prop := ∃ n, X11_mill_p7n sh v0 v1 Q n v2 v3 v4 m
def wp_X11_mill (sh : Shp) (v0 : Nat) (v1 : Int32) (Q : Int32 → Mem → Prop) (m : Mem) : Prop :=
  X11_mill_p7 sh v0 v1 Q (-1 : Int32) (0 : Int32) (0 : Int32) m
abbrev M_X11_mill : Mi := (cX11_mill, 6, RX11, (Option.some FieldType.int), "mill", 8, 232, 0, 0)
set_option maxHeartbeats 4000000 in
set_option maxRecDepth 100000 in
theorem v_X11_mill_p55 {G : Gl} {F : Fr} {sh : Shp} {v0 : Nat} {v1 : Int32} {v2 : Int32} {v3 : Int32} {v4 : Int32} {Q : Int32 → Mem → Prop} {K7 : Int32 → Int32 → Int32 → Mem → Prop} {m : Mem} (hK7 : ∀ (x2 : Int32) (x3 : Int32) (x4 : Int32) (m : Mem), K7 x2 x3 x4 m → V G F M_X11_mill sh 0 0 (Zi G F sh Q) 7 [(0, .ref (G.1 + v0)), (1, .int v1), (2, .int x2), (3, .int x3), (4, .int x4)] [] m) (h : X11_mill_p55 sh v0 v1 v2 v3 v4 Q K7 m) : V G F M_X11_mill sh 0 0 (Zi G F sh Q) 55 [(0, .ref (G.1 + v0)), (1, .int v1), (2, .int v2), (3, .int v3), (4, .int v4)] [] m := by
  unfold X11_mill_p55 at h
  refine v_iinc (ls' := [(4, .int _), (0, .ref _), (1, .int _), (2, .int _), (3, .int _)]) 4 4 dX11_mill_55 rfl (congrArg (HAdd.hAdd _) (by decide : Int32.ofInt (1) = (1 : Int32))) (Nat.le_of_ble_eq_true rfl) rfl ?_
  refine v_goto 7 dX11_mill_58 (by decide) ?_
  refine v_sub [1, 2, 3, 4, 0] rfl ?_
  exact hK7 _ _ _ _ h
set_option maxHeartbeats 4000000 in
set_option maxRecDepth 100000 in
theorem v_X11_mill_p41 {G : Gl} {F : Fr} {sh : Shp} {v0 : Nat} {v1 : Int32} {v2 : Int32} {v3 : Int32} {v4 : Int32} {s0 : Int32} {Q : Int32 → Mem → Prop} {K7 : Int32 → Int32 → Int32 → Mem → Prop} {m : Mem} (hK7 : ∀ (x2 : Int32) (x3 : Int32) (x4 : Int32) (m : Mem), K7 x2 x3 x4 m → V G F M_X11_mill sh 0 0 (Zi G F sh Q) 7 [(0, .ref (G.1 + v0)), (1, .int v1), (2, .int x2), (3, .int x3), (4, .int x4)] [] m) (h : X11_mill_p41 sh v0 v1 v2 v3 v4 s0 Q K7 m) : V G F M_X11_mill sh 0 0 (Zi G F sh Q) 41 [(0, .ref (G.1 + v0)), (1, .int v1), (2, .int v2), (3, .int v3), (4, .int v4)] [.int s0] m := by
  unfold X11_mill_p41 at h
  refine v_istore (ls' := [(5, .int _), (0, .ref _), (1, .int _), (2, .int _), (3, .int _), (4, .int _)]) 5 dX11_mill_41 (Nat.le_of_ble_eq_true rfl) rfl ?_
  refine v_iload 5 0 dX11_mill_43 rfl ?_
  refine v_iload_n 3 4 dX11_mill_45 rfl rfl ?_
  refine v_icmp_le 55 dX11_mill_46 (by decide) (fun hc => ?_) (fun hc => ?_)
  · replace h := Eq.mp (if_pos hc) h
    refine v_sub [1, 2, 3, 4, 5] rfl ?_
    exact v_X11_mill_p55 hK7 h
  · replace h := Eq.mp (if_neg hc) h
    refine v_iload 5 0 dX11_mill_49 rfl ?_
    refine v_istore_n (ls' := [(3, .int _), (5, .int _), (0, .ref _), (1, .int _), (2, .int _), (4, .int _)]) 3 dX11_mill_51 rfl (Nat.le_of_ble_eq_true rfl) rfl ?_
    refine v_iload 4 5 dX11_mill_52 rfl ?_
    refine v_istore_n (ls' := [(2, .int _), (3, .int _), (5, .int _), (0, .ref _), (1, .int _), (4, .int _)]) 2 dX11_mill_54 rfl (Nat.le_of_ble_eq_true rfl) rfl ?_
    refine v_sub [3, 4, 0, 1, 5] rfl ?_
    exact v_X11_mill_p55 hK7 h
set_option maxHeartbeats 4000000 in
set_option maxRecDepth 100000 in
theorem v_X11_mill_p75 {G : Gl} {F : Fr} {sh : Shp} {v0 : Nat} {v1 : Int32} {v2 : Int32} {Q : Int32 → Mem → Prop} {m : Mem} (h : X11_mill_p75 sh v0 v1 v2 Q m) : V G F M_X11_mill sh 0 0 (Zi G F sh Q) 75 [(0, .ref (G.1 + v0)), (1, .int v1), (2, .int v2)] [] m := by
  unfold X11_mill_p75 at h
  refine v_aload_n 0 0 dX11_mill_75 rfl rfl ?_
  refine v_iload_n 2 2 dX11_mill_76 rfl rfl ?_
  refine v_iload_n 1 1 dX11_mill_77 rfl rfl ?_
  obtain ⟨o14, h⟩ := h
  refine v_cVi [.int _, .int _] mv_X11_placePart ml_RX11_249 ⟨_, _, rfl⟩ o14 rfl rfl (Nat.le_of_ble_eq_true rfl) (Nat.le_of_ble_eq_true rfl) (Nat.le_of_ble_eq_true rfl) (Nat.zero_le _) (Nat.zero_le _) dX11_mill_78 (c_X11_placePart h) (fun r12 m13 h => ?_)
  exact v_iret dX11_mill_81 rfl rfl h
set_option maxHeartbeats 4000000 in
set_option maxRecDepth 100000 in
theorem v_X11_mill_p7b {G : Gl} {F : Fr} {sh : Shp} {v0 : Nat} {v1 : Int32} {v2 : Int32} {v3 : Int32} {v4 : Int32} {Q : Int32 → Mem → Prop} {K7 : Int32 → Int32 → Int32 → Mem → Prop} {m : Mem} (hK7 : ∀ (x2 : Int32) (x3 : Int32) (x4 : Int32) (m : Mem), K7 x2 x3 x4 m → V G F M_X11_mill sh 0 0 (Zi G F sh Q) 7 [(0, .ref (G.1 + v0)), (1, .int v1), (2, .int x2), (3, .int x3), (4, .int x4)] [] m) (h : X11_mill_p7b sh v0 v1 Q K7 v2 v3 v4 m) : V G F M_X11_mill sh 0 0 (Zi G F sh Q) 7 [(0, .ref (G.1 + v0)), (1, .int v1), (2, .int v2), (3, .int v3), (4, .int v4)] [] m := by
  unfold X11_mill_p7b at h
  refine v_iload 4 4 dX11_mill_7 rfl ?_
  refine v_aload_n 0 0 dX11_mill_9 rfl rfl ?_
  obtain ⟨o1, h⟩ := h
  obtain ⟨b2, e3, h⟩ := h
  refine v_gR 11 3 dX11_mill_10 fg_RX11_35 o1 e3 ?_
  obtain ⟨o6, h⟩ := h
  refine v_cVi [] mv_X5_places ml_RX11_303 ⟨_, _, rfl⟩ o6 rfl rfl (Nat.le_of_ble_eq_true rfl) (Nat.le_of_ble_eq_true rfl) (Nat.le_of_ble_eq_true rfl) (Nat.zero_le _) (Nat.zero_le _) dX11_mill_13 (c_X5_places h) (fun r4 m5 h => ?_)
  refine v_icmp_ge 61 dX11_mill_16 (by decide) (fun hc => ?_) (fun hc => ?_)
  · replace h := Eq.mp (if_pos hc) h
    refine v_iload_n 1 1 dX11_mill_61 rfl rfl ?_
    refine v_iconst (2 : Int32) dX11_mill_62 (by decide) ?_
    refine v_icmp_ne 75 dX11_mill_63 (by decide) (fun hc => ?_) (fun hc => ?_)
    · replace h := Eq.mp (if_neg hc) h
      refine v_sub [0, 1, 2] rfl ?_
      exact v_X11_mill_p75 h
    · replace h := Eq.mp (if_pos hc) h
      refine v_iload_n 2 2 dX11_mill_66 rfl rfl ?_
      refine v_iconst (-1 : Int32) dX11_mill_67 (by decide) ?_
      refine v_icmp_eq 75 dX11_mill_68 (by decide) (fun hc => ?_) (fun hc => ?_)
      · replace h := Eq.mp (if_pos hc) h
        refine v_sub [0, 1, 2] rfl ?_
        exact v_X11_mill_p75 h
      · replace h := Eq.mp (if_neg hc) h
        refine v_iload_n 3 3 dX11_mill_71 rfl rfl ?_
        refine v_goto 81 dX11_mill_72 (by decide) ?_
        exact v_iret dX11_mill_81 rfl rfl h
  · replace h := Eq.mp (if_neg hc) h
    refine v_iload 4 4 dX11_mill_19 rfl ?_
    refine v_aload_n 0 0 dX11_mill_21 rfl rfl ?_
    obtain ⟨b7, e8, h⟩ := h
    refine v_gR 11 3 dX11_mill_22 fg_RX11_35 o1 e8 ?_
    obtain ⟨o9, h⟩ := h
    refine v_gI 5 2 dX11_mill_25 fg_RX11_171 o9 ?_
    refine v_icmp_ne 35 dX11_mill_28 (by decide) (fun hc => ?_) (fun hc => ?_)
    · replace h := Eq.mp (if_neg hc) h
      refine v_aload_n 0 0 dX11_mill_35 rfl rfl ?_
      refine v_iload 4 4 dX11_mill_36 rfl ?_
      refine v_cVi [.int _] mv_X11_waysThrough ml_RX11_306 ⟨_, _, rfl⟩ o1 rfl rfl (Nat.le_of_ble_eq_true rfl) (Nat.le_of_ble_eq_true rfl) (Nat.le_of_ble_eq_true rfl) (Nat.zero_le _) (Nat.zero_le _) dX11_mill_38 (c_X11_waysThrough h) (fun r10 m11 h => ?_)
      refine v_sub [0, 1, 2, 3, 4] rfl ?_
      exact v_X11_mill_p41 hK7 h
    · replace h := Eq.mp (if_pos hc) h
      refine v_iconst (0 : Int32) dX11_mill_31 (by decide) ?_
      refine v_goto 41 dX11_mill_32 (by decide) ?_
      refine v_sub [0, 1, 2, 3, 4] rfl ?_
      exact v_X11_mill_p41 hK7 h
set_option maxHeartbeats 4000000 in
set_option maxRecDepth 100000 in
theorem v_X11_mill_p7 {G : Gl} {F : Fr} {sh : Shp} {v0 : Nat} {v1 : Int32} {v2 : Int32} {v3 : Int32} {v4 : Int32} {Q : Int32 → Mem → Prop} {m : Mem} (h : X11_mill_p7 sh v0 v1 Q v2 v3 v4 m) : V G F M_X11_mill sh 0 0 (Zi G F sh Q) 7 [(0, .ref (G.1 + v0)), (1, .int v1), (2, .int v2), (3, .int v3), (4, .int v4)] [] m := by
  obtain ⟨n, h⟩ := h
  induction n generalizing v2 v3 v4 m with
  | zero => exact h.elim
  | succ n ih => exact v_X11_mill_p7b (fun _ _ _ _ h => ih h) h
set_option maxHeartbeats 4000000 in
set_option maxRecDepth 100000 in
theorem c_X11_mill {l : Launch} {G : Gl} {sh : Shp} {v0 : Nat} {v1 : Int32} {Q : Int32 → Mem → Prop} {m : Mem} (h : wp_X11_mill sh v0 v1 Q m) : Cni l G yX11_mill cX11_mill 6 (Option.some FieldType.int) 8 232 sh [.ref (G.1 + v0), .int v1] m Q := by
  refine con_i (ls := [(0, .ref (G.1 + v0)), (1, .int v1)]) (by decide +kernel) rfl (Nat.le_of_ble_eq_true rfl) (fun F => ?_)
  show V G F M_X11_mill sh 0 0 (Zi G F sh Q) 0 [(0, .ref (G.1 + v0)), (1, .int v1)] [] m
  unfold wp_X11_mill at h
  refine v_iconst (-1 : Int32) dX11_mill_0 (by decide) ?_
  refine v_istore_n (ls' := [(2, .int _), (0, .ref _), (1, .int _)]) 2 dX11_mill_1 rfl (Nat.le_of_ble_eq_true rfl) rfl ?_
  refine v_iconst (0 : Int32) dX11_mill_2 (by decide) ?_
  refine v_istore_n (ls' := [(3, .int _), (2, .int _), (0, .ref _), (1, .int _)]) 3 dX11_mill_3 rfl (Nat.le_of_ble_eq_true rfl) rfl ?_
  refine v_iconst (0 : Int32) dX11_mill_4 (by decide) ?_
  refine v_istore (ls' := [(4, .int _), (3, .int _), (2, .int _), (0, .ref _), (1, .int _)]) 4 dX11_mill_5 (Nat.le_of_ble_eq_true rfl) rfl ?_
  refine v_sub [3, 4, 2, 1, 0] rfl ?_
  exact v_X11_mill_p7 h
/-! CalledRiver.mostLeftBy -/
theorem dX11_mostLeftBy_0 : decode cX11_mostLeftBy 0 = .ok (.iconst 0, 1) := by decide +kernel
theorem dX11_mostLeftBy_1 : decode cX11_mostLeftBy 1 = .ok (.istore_n 3, 1) := by decide +kernel
theorem dX11_mostLeftBy_2 : decode cX11_mostLeftBy 2 = .ok (.iconst 0, 1) := by decide +kernel
theorem dX11_mostLeftBy_3 : decode cX11_mostLeftBy 3 = .ok (.istore 4, 2) := by decide +kernel
theorem dX11_mostLeftBy_5 : decode cX11_mostLeftBy 5 = .ok (.iload 4, 2) := by decide +kernel
theorem dX11_mostLeftBy_7 : decode cX11_mostLeftBy 7 = .ok (.aload_n 0, 1) := by decide +kernel
theorem dX11_mostLeftBy_8 : decode cX11_mostLeftBy 8 = .ok (.getfield 35, 3) := by decide +kernel
theorem dX11_mostLeftBy_11 : decode cX11_mostLeftBy 11 = .ok (.getfield 161, 3) := by decide +kernel
theorem dX11_mostLeftBy_14 : decode cX11_mostLeftBy 14 = .ok (.if_icmp .ge 98, 3) := by decide +kernel
theorem dX11_mostLeftBy_17 : decode cX11_mostLeftBy 17 = .ok (.iconst 0, 1) := by decide +kernel
theorem dX11_mostLeftBy_18 : decode cX11_mostLeftBy 18 = .ok (.istore 5, 2) := by decide +kernel
theorem dX11_mostLeftBy_20 : decode cX11_mostLeftBy 20 = .ok (.iconst 0, 1) := by decide +kernel
theorem dX11_mostLeftBy_21 : decode cX11_mostLeftBy 21 = .ok (.istore 6, 2) := by decide +kernel
theorem dX11_mostLeftBy_23 : decode cX11_mostLeftBy 23 = .ok (.iload 6, 2) := by decide +kernel
theorem dX11_mostLeftBy_25 : decode cX11_mostLeftBy 25 = .ok (.aload_n 0, 1) := by decide +kernel
theorem dX11_mostLeftBy_26 : decode cX11_mostLeftBy 26 = .ok (.getfield 35, 3) := by decide +kernel
theorem dX11_mostLeftBy_29 : decode cX11_mostLeftBy 29 = .ok (.getfield 161, 3) := by decide +kernel
theorem dX11_mostLeftBy_32 : decode cX11_mostLeftBy 32 = .ok (.if_icmp .ge 67, 3) := by decide +kernel
theorem dX11_mostLeftBy_35 : decode cX11_mostLeftBy 35 = .ok (.iload_n 2, 1) := by decide +kernel
theorem dX11_mostLeftBy_36 : decode cX11_mostLeftBy 36 = .ok (.iload 4, 2) := by decide +kernel
theorem dX11_mostLeftBy_38 : decode cX11_mostLeftBy 38 = .ok (.ishr, 1) := by decide +kernel
theorem dX11_mostLeftBy_39 : decode cX11_mostLeftBy 39 = .ok (.iconst 1, 1) := by decide +kernel
theorem dX11_mostLeftBy_40 : decode cX11_mostLeftBy 40 = .ok (.iand, 1) := by decide +kernel
theorem dX11_mostLeftBy_41 : decode cX11_mostLeftBy 41 = .ok (.iconst 1, 1) := by decide +kernel
theorem dX11_mostLeftBy_42 : decode cX11_mostLeftBy 42 = .ok (.if_icmp .ne 17, 3) := by decide +kernel
theorem dX11_mostLeftBy_45 : decode cX11_mostLeftBy 45 = .ok (.iload_n 2, 1) := by decide +kernel
theorem dX11_mostLeftBy_46 : decode cX11_mostLeftBy 46 = .ok (.iload 6, 2) := by decide +kernel
theorem dX11_mostLeftBy_48 : decode cX11_mostLeftBy 48 = .ok (.ishr, 1) := by decide +kernel
theorem dX11_mostLeftBy_49 : decode cX11_mostLeftBy 49 = .ok (.iconst 1, 1) := by decide +kernel
theorem dX11_mostLeftBy_50 : decode cX11_mostLeftBy 50 = .ok (.iand, 1) := by decide +kernel
theorem dX11_mostLeftBy_51 : decode cX11_mostLeftBy 51 = .ok (.iconst 1, 1) := by decide +kernel
theorem dX11_mostLeftBy_52 : decode cX11_mostLeftBy 52 = .ok (.if_icmp .ne 7, 3) := by decide +kernel
theorem dX11_mostLeftBy_55 : decode cX11_mostLeftBy 55 = .ok (.iconst 1, 1) := by decide +kernel
theorem dX11_mostLeftBy_56 : decode cX11_mostLeftBy 56 = .ok (.goto 4, 3) := by decide +kernel
theorem dX11_mostLeftBy_59 : decode cX11_mostLeftBy 59 = .ok (.iconst 0, 1) := by decide +kernel
theorem dX11_mostLeftBy_60 : decode cX11_mostLeftBy 60 = .ok (.istore 7, 2) := by decide +kernel
theorem dX11_mostLeftBy_62 : decode cX11_mostLeftBy 62 = .ok (.iload 7, 2) := by decide +kernel
theorem dX11_mostLeftBy_64 : decode cX11_mostLeftBy 64 = .ok (.ifCond .eq 29, 3) := by decide +kernel
theorem dX11_mostLeftBy_67 : decode cX11_mostLeftBy 67 = .ok (.aload_n 0, 1) := by decide +kernel
theorem dX11_mostLeftBy_68 : decode cX11_mostLeftBy 68 = .ok (.iload 4, 2) := by decide +kernel
theorem dX11_mostLeftBy_70 : decode cX11_mostLeftBy 70 = .ok (.invokevirtual 242, 3) := by decide +kernel
theorem dX11_mostLeftBy_73 : decode cX11_mostLeftBy 73 = .ok (.iload_n 1, 1) := by decide +kernel
theorem dX11_mostLeftBy_74 : decode cX11_mostLeftBy 74 = .ok (.invokevirtual 246, 3) := by decide +kernel
theorem dX11_mostLeftBy_77 : decode cX11_mostLeftBy 77 = .ok (.aload_n 0, 1) := by decide +kernel
theorem dX11_mostLeftBy_78 : decode cX11_mostLeftBy 78 = .ok (.iload 6, 2) := by decide +kernel
theorem dX11_mostLeftBy_80 : decode cX11_mostLeftBy 80 = .ok (.invokevirtual 242, 3) := by decide +kernel
theorem dX11_mostLeftBy_83 : decode cX11_mostLeftBy 83 = .ok (.iload_n 1, 1) := by decide +kernel
theorem dX11_mostLeftBy_84 : decode cX11_mostLeftBy 84 = .ok (.invokevirtual 246, 3) := by decide +kernel
theorem dX11_mostLeftBy_87 : decode cX11_mostLeftBy 87 = .ok (.if_icmp .ne 6, 3) := by decide +kernel
theorem dX11_mostLeftBy_90 : decode cX11_mostLeftBy 90 = .ok (.iinc 5 1, 3) := by decide +kernel
theorem dX11_mostLeftBy_93 : decode cX11_mostLeftBy 93 = .ok (.iinc 6 1, 3) := by decide +kernel
theorem dX11_mostLeftBy_96 : decode cX11_mostLeftBy 96 = .ok (.goto (-73), 3) := by decide +kernel
theorem dX11_mostLeftBy_99 : decode cX11_mostLeftBy 99 = .ok (.iload_n 3, 1) := by decide +kernel
theorem dX11_mostLeftBy_100 : decode cX11_mostLeftBy 100 = .ok (.iload 5, 2) := by decide +kernel
theorem dX11_mostLeftBy_102 : decode cX11_mostLeftBy 102 = .ok (.invokestatic 372, 3) := by decide +kernel
theorem dX11_mostLeftBy_105 : decode cX11_mostLeftBy 105 = .ok (.istore_n 3, 1) := by decide +kernel
theorem dX11_mostLeftBy_106 : decode cX11_mostLeftBy 106 = .ok (.iinc 4 1, 3) := by decide +kernel
theorem dX11_mostLeftBy_109 : decode cX11_mostLeftBy 109 = .ok (.goto (-104), 3) := by decide +kernel
theorem dX11_mostLeftBy_112 : decode cX11_mostLeftBy 112 = .ok (.iload_n 3, 1) := by decide +kernel
theorem dX11_mostLeftBy_113 : decode cX11_mostLeftBy 113 = .ok (.ireturn, 1) := by decide +kernel
def X11_mostLeftBy_p93 (sh : Shp) (v0 : Nat) (v1 : Int32) (v2 : Int32) (v3 : Int32) (v4 : Int32) (v5 : Int32) (v6 : Int32) (Q : Int32 → Mem → Prop) (K5 : Int32 → Int32 → Mem → Prop) (K23 : Int32 → Int32 → Mem → Prop) (m : Mem) : Prop :=
  K23 v5 (v6 + (1 : Int32)) m
def X11_mostLeftBy_p60 (sh : Shp) (v0 : Nat) (v1 : Int32) (v2 : Int32) (v3 : Int32) (v4 : Int32) (v5 : Int32) (v6 : Int32) (s0 : Int32) (Q : Int32 → Mem → Prop) (K5 : Int32 → Int32 → Mem → Prop) (K23 : Int32 → Int32 → Mem → Prop) (m : Mem) : Prop :=
  if s0 = 0 then (X11_mostLeftBy_p93 sh v0 v1 v2 v3 v4 v5 v6 Q K5 K23 m) else (Ob sh v0 11 ∧ wp_X11_wayOf sh v0 v4 (fun r11 m12 => Ob sh r11 10 ∧ wp_X10_placeBy sh r11 v1 (fun r14 m15 => wp_X11_wayOf sh v0 v6 (fun r17 m18 => Ob sh r17 10 ∧ wp_X10_placeBy sh r17 v1 (fun r19 m20 => if r14 = r19 then (X11_mostLeftBy_p93 sh v0 v1 v2 v3 v4 (v5 + (1 : Int32)) v6 Q K5 K23 m20) else (X11_mostLeftBy_p93 sh v0 v1 v2 v3 v4 v5 v6 Q K5 K23 m20)) m18) m15) m12) m)
def X11_mostLeftBy_p59 (sh : Shp) (v0 : Nat) (v1 : Int32) (v2 : Int32) (v3 : Int32) (v4 : Int32) (v5 : Int32) (v6 : Int32) (Q : Int32 → Mem → Prop) (K5 : Int32 → Int32 → Mem → Prop) (K23 : Int32 → Int32 → Mem → Prop) (m : Mem) : Prop :=
  X11_mostLeftBy_p60 sh v0 v1 v2 v3 v4 v5 v6 (0 : Int32) Q K5 K23 m
def X11_mostLeftBy_p23b (sh : Shp) (v0 : Nat) (v1 : Int32) (v2 : Int32) (v3 : Int32) (v4 : Int32) (Q : Int32 → Mem → Prop) (K5 : Int32 → Int32 → Mem → Prop) (K23 : Int32 → Int32 → Mem → Prop) (v5 : Int32) (v6 : Int32) (m : Mem) : Prop :=
  Ob sh v0 11 ∧ ∃ b6 : Nat, m.2.2 v0 3 = some b6 ∧ (Ob sh b6 5 ∧ (if (m.1 b6 4) ≤ v6 then (wp_J9_max_7cf53 sh v3 v5 (fun r9 m10 => K5 r9 (v4 + (1 : Int32)) m10) m) else (if ((v2 >>> (v4 &&& 31)) &&& (1 : Int32)) = (1 : Int32) then (if ((v2 >>> (v6 &&& 31)) &&& (1 : Int32)) = (1 : Int32) then (X11_mostLeftBy_p60 sh v0 v1 v2 v3 v4 v5 v6 (1 : Int32) Q K5 K23 m) else (X11_mostLeftBy_p59 sh v0 v1 v2 v3 v4 v5 v6 Q K5 K23 m)) else (X11_mostLeftBy_p59 sh v0 v1 v2 v3 v4 v5 v6 Q K5 K23 m))))
def X11_mostLeftBy_p23n (sh : Shp) (v0 : Nat) (v1 : Int32) (v2 : Int32) (v3 : Int32) (v4 : Int32) (Q : Int32 → Mem → Prop) (K5 : Int32 → Int32 → Mem → Prop) : Nat → Int32 → Int32 → Mem → Prop
  | 0 => fun _ _ _ => False
  | n + 1 => X11_mostLeftBy_p23b sh v0 v1 v2 v3 v4 Q K5 (X11_mostLeftBy_p23n sh v0 v1 v2 v3 v4 Q K5 n)
def X11_mostLeftBy_p23 (sh : Shp) (v0 : Nat) (v1 : Int32) (v2 : Int32) (v3 : Int32) (v4 : Int32) (Q : Int32 → Mem → Prop) (K5 : Int32 → Int32 → Mem → Prop) (v5 : Int32) (v6 : Int32) (m : Mem) : Prop := ∃ n, X11_mostLeftBy_p23n sh v0 v1 v2 v3 v4 Q K5 n v5 v6 m
def X11_mostLeftBy_p5b (sh : Shp) (v0 : Nat) (v1 : Int32) (v2 : Int32) (Q : Int32 → Mem → Prop) (K5 : Int32 → Int32 → Mem → Prop) (v3 : Int32) (v4 : Int32) (m : Mem) : Prop :=
  Ob sh v0 11 ∧ ∃ b2 : Nat, m.2.2 v0 3 = some b2 ∧ (Ob sh b2 5 ∧ (if (m.1 b2 4) ≤ v4 then (Q v3 m) else (X11_mostLeftBy_p23 sh v0 v1 v2 v3 v4 Q K5 (0 : Int32) (0 : Int32) m)))
def X11_mostLeftBy_p5n (sh : Shp) (v0 : Nat) (v1 : Int32) (v2 : Int32) (Q : Int32 → Mem → Prop) : Nat → Int32 → Int32 → Mem → Prop
  | 0 => fun _ _ _ => False
  | n + 1 => X11_mostLeftBy_p5b sh v0 v1 v2 Q (X11_mostLeftBy_p5n sh v0 v1 v2 Q n)
def X11_mostLeftBy_p5 (sh : Shp) (v0 : Nat) (v1 : Int32) (v2 : Int32) (Q : Int32 → Mem → Prop) (v3 : Int32) (v4 : Int32) (m : Mem) : Prop := ∃ n, X11_mostLeftBy_p5n sh v0 v1 v2 Q n v3 v4 m
def wp_X11_mostLeftBy (sh : Shp) (v0 : Nat) (v1 : Int32) (v2 : Int32) (Q : Int32 → Mem → Prop) (m : Mem) : Prop :=
  X11_mostLeftBy_p5 sh v0 v1 v2 Q (0 : Int32) (0 : Int32) m
abbrev M_X11_mostLeftBy : Mi := (cX11_mostLeftBy, 8, RX11, (Option.some FieldType.int), "mostLeftBy", 7, 209, 0, 0)
set_option maxHeartbeats 4000000 in
set_option maxRecDepth 100000 in
theorem v_X11_mostLeftBy_p93 {G : Gl} {F : Fr} {sh : Shp} {v0 : Nat} {v1 : Int32} {v2 : Int32} {v3 : Int32} {v4 : Int32} {v5 : Int32} {v6 : Int32} {Q : Int32 → Mem → Prop} {K5 : Int32 → Int32 → Mem → Prop} {K23 : Int32 → Int32 → Mem → Prop} {m : Mem} (hK5 : ∀ (x3 : Int32) (x4 : Int32) (m : Mem), K5 x3 x4 m → V G F M_X11_mostLeftBy sh 0 0 (Zi G F sh Q) 5 [(0, .ref (G.1 + v0)), (1, .int v1), (2, .int v2), (3, .int x3), (4, .int x4)] [] m) (hK23 : ∀ (x5 : Int32) (x6 : Int32) (m : Mem), K23 x5 x6 m → V G F M_X11_mostLeftBy sh 0 0 (Zi G F sh Q) 23 [(0, .ref (G.1 + v0)), (1, .int v1), (2, .int v2), (3, .int v3), (4, .int v4), (5, .int x5), (6, .int x6)] [] m) (h : X11_mostLeftBy_p93 sh v0 v1 v2 v3 v4 v5 v6 Q K5 K23 m) : V G F M_X11_mostLeftBy sh 0 0 (Zi G F sh Q) 93 [(0, .ref (G.1 + v0)), (1, .int v1), (2, .int v2), (3, .int v3), (4, .int v4), (5, .int v5), (6, .int v6)] [] m := by
  unfold X11_mostLeftBy_p93 at h
  refine v_iinc (ls' := [(6, .int _), (0, .ref _), (1, .int _), (2, .int _), (3, .int _), (4, .int _), (5, .int _)]) 6 6 dX11_mostLeftBy_93 rfl (congrArg (HAdd.hAdd _) (by decide : Int32.ofInt (1) = (1 : Int32))) (Nat.le_of_ble_eq_true rfl) rfl ?_
  refine v_goto 23 dX11_mostLeftBy_96 (by decide) ?_
  refine v_sub [1, 2, 3, 4, 5, 6, 0] rfl ?_
  exact hK23 _ _ _ h
set_option maxHeartbeats 4000000 in
set_option maxRecDepth 100000 in
theorem v_X11_mostLeftBy_p60 {G : Gl} {F : Fr} {sh : Shp} {v0 : Nat} {v1 : Int32} {v2 : Int32} {v3 : Int32} {v4 : Int32} {v5 : Int32} {v6 : Int32} {s0 : Int32} {Q : Int32 → Mem → Prop} {K5 : Int32 → Int32 → Mem → Prop} {K23 : Int32 → Int32 → Mem → Prop} {m : Mem} (hK5 : ∀ (x3 : Int32) (x4 : Int32) (m : Mem), K5 x3 x4 m → V G F M_X11_mostLeftBy sh 0 0 (Zi G F sh Q) 5 [(0, .ref (G.1 + v0)), (1, .int v1), (2, .int v2), (3, .int x3), (4, .int x4)] [] m) (hK23 : ∀ (x5 : Int32) (x6 : Int32) (m : Mem), K23 x5 x6 m → V G F M_X11_mostLeftBy sh 0 0 (Zi G F sh Q) 23 [(0, .ref (G.1 + v0)), (1, .int v1), (2, .int v2), (3, .int v3), (4, .int v4), (5, .int x5), (6, .int x6)] [] m) (h : X11_mostLeftBy_p60 sh v0 v1 v2 v3 v4 v5 v6 s0 Q K5 K23 m) : V G F M_X11_mostLeftBy sh 0 0 (Zi G F sh Q) 60 [(0, .ref (G.1 + v0)), (1, .int v1), (2, .int v2), (3, .int v3), (4, .int v4), (5, .int v5), (6, .int v6)] [.int s0] m := by
  unfold X11_mostLeftBy_p60 at h
  refine v_istore (ls' := [(7, .int _), (0, .ref _), (1, .int _), (2, .int _), (3, .int _), (4, .int _), (5, .int _), (6, .int _)]) 7 dX11_mostLeftBy_60 (Nat.le_of_ble_eq_true rfl) rfl ?_
  refine v_iload 7 0 dX11_mostLeftBy_62 rfl ?_
  refine v_if_eq 93 dX11_mostLeftBy_64 (by decide) (fun hc => ?_) (fun hc => ?_)
  · replace h := Eq.mp (if_pos hc) h
    refine v_sub [1, 2, 3, 4, 5, 6, 7] rfl ?_
    exact v_X11_mostLeftBy_p93 hK5 hK23 h
  · replace h := Eq.mp (if_neg hc) h
    refine v_aload_n 0 1 dX11_mostLeftBy_67 rfl rfl ?_
    refine v_iload 4 5 dX11_mostLeftBy_68 rfl ?_
    obtain ⟨o13, h⟩ := h
    refine v_cVr [.int _] mv_X11_wayOf ml_RX11_242 ⟨_, _, rfl⟩ o13 rfl rfl (Nat.le_of_ble_eq_true rfl) (Nat.le_of_ble_eq_true rfl) (Nat.le_of_ble_eq_true rfl) (Nat.zero_le _) (Nat.zero_le _) dX11_mostLeftBy_70 (c_X11_wayOf h) (fun r11 m12 h => ?_)
    refine v_iload_n 1 2 dX11_mostLeftBy_73 rfl rfl ?_
    obtain ⟨o16, h⟩ := h
    refine v_cVi [.int _] mv_X10_placeBy ml_RX11_246 ⟨_, _, rfl⟩ o16 rfl rfl (Nat.le_of_ble_eq_true rfl) (Nat.le_of_ble_eq_true rfl) (Nat.le_of_ble_eq_true rfl) (Nat.zero_le _) (Nat.zero_le _) dX11_mostLeftBy_74 (c_X10_placeBy h) (fun r14 m15 h => ?_)
    refine v_aload_n 0 1 dX11_mostLeftBy_77 rfl rfl ?_
    refine v_iload 6 7 dX11_mostLeftBy_78 rfl ?_
    refine v_cVr [.int _] mv_X11_wayOf ml_RX11_242 ⟨_, _, rfl⟩ o13 rfl rfl (Nat.le_of_ble_eq_true rfl) (Nat.le_of_ble_eq_true rfl) (Nat.le_of_ble_eq_true rfl) (Nat.zero_le _) (Nat.zero_le _) dX11_mostLeftBy_80 (c_X11_wayOf h) (fun r17 m18 h => ?_)
    refine v_iload_n 1 2 dX11_mostLeftBy_83 rfl rfl ?_
    obtain ⟨o21, h⟩ := h
    refine v_cVi [.int _] mv_X10_placeBy ml_RX11_246 ⟨_, _, rfl⟩ o21 rfl rfl (Nat.le_of_ble_eq_true rfl) (Nat.le_of_ble_eq_true rfl) (Nat.le_of_ble_eq_true rfl) (Nat.zero_le _) (Nat.zero_le _) dX11_mostLeftBy_84 (c_X10_placeBy h) (fun r19 m20 h => ?_)
    refine v_icmp_ne 93 dX11_mostLeftBy_87 (by decide) (fun hc => ?_) (fun hc => ?_)
    · replace h := Eq.mp (if_neg hc) h
      refine v_sub [1, 2, 3, 4, 5, 6, 7] rfl ?_
      exact v_X11_mostLeftBy_p93 hK5 hK23 h
    · replace h := Eq.mp (if_pos hc) h
      refine v_iinc (ls' := [(5, .int _), (7, .int _), (0, .ref _), (1, .int _), (2, .int _), (3, .int _), (4, .int _), (6, .int _)]) 5 6 dX11_mostLeftBy_90 rfl (congrArg (HAdd.hAdd _) (by decide : Int32.ofInt (1) = (1 : Int32))) (Nat.le_of_ble_eq_true rfl) rfl ?_
      refine v_sub [2, 3, 4, 5, 6, 0, 7] rfl ?_
      exact v_X11_mostLeftBy_p93 hK5 hK23 h
set_option maxHeartbeats 4000000 in
set_option maxRecDepth 100000 in
theorem v_X11_mostLeftBy_p59 {G : Gl} {F : Fr} {sh : Shp} {v0 : Nat} {v1 : Int32} {v2 : Int32} {v3 : Int32} {v4 : Int32} {v5 : Int32} {v6 : Int32} {Q : Int32 → Mem → Prop} {K5 : Int32 → Int32 → Mem → Prop} {K23 : Int32 → Int32 → Mem → Prop} {m : Mem} (hK5 : ∀ (x3 : Int32) (x4 : Int32) (m : Mem), K5 x3 x4 m → V G F M_X11_mostLeftBy sh 0 0 (Zi G F sh Q) 5 [(0, .ref (G.1 + v0)), (1, .int v1), (2, .int v2), (3, .int x3), (4, .int x4)] [] m) (hK23 : ∀ (x5 : Int32) (x6 : Int32) (m : Mem), K23 x5 x6 m → V G F M_X11_mostLeftBy sh 0 0 (Zi G F sh Q) 23 [(0, .ref (G.1 + v0)), (1, .int v1), (2, .int v2), (3, .int v3), (4, .int v4), (5, .int x5), (6, .int x6)] [] m) (h : X11_mostLeftBy_p59 sh v0 v1 v2 v3 v4 v5 v6 Q K5 K23 m) : V G F M_X11_mostLeftBy sh 0 0 (Zi G F sh Q) 59 [(0, .ref (G.1 + v0)), (1, .int v1), (2, .int v2), (3, .int v3), (4, .int v4), (5, .int v5), (6, .int v6)] [] m := by
  unfold X11_mostLeftBy_p59 at h
  refine v_iconst (0 : Int32) dX11_mostLeftBy_59 (by decide) ?_
  refine v_sub [0, 1, 2, 3, 4, 5, 6] rfl ?_
  exact v_X11_mostLeftBy_p60 hK5 hK23 h
set_option maxHeartbeats 4000000 in
set_option maxRecDepth 100000 in
theorem v_X11_mostLeftBy_p23b {G : Gl} {F : Fr} {sh : Shp} {v0 : Nat} {v1 : Int32} {v2 : Int32} {v3 : Int32} {v4 : Int32} {v5 : Int32} {v6 : Int32} {Q : Int32 → Mem → Prop} {K5 : Int32 → Int32 → Mem → Prop} {K23 : Int32 → Int32 → Mem → Prop} {m : Mem} (hK5 : ∀ (x3 : Int32) (x4 : Int32) (m : Mem), K5 x3 x4 m → V G F M_X11_mostLeftBy sh 0 0 (Zi G F sh Q) 5 [(0, .ref (G.1 + v0)), (1, .int v1), (2, .int v2), (3, .int x3), (4, .int x4)] [] m) (hK23 : ∀ (x5 : Int32) (x6 : Int32) (m : Mem), K23 x5 x6 m → V G F M_X11_mostLeftBy sh 0 0 (Zi G F sh Q) 23 [(0, .ref (G.1 + v0)), (1, .int v1), (2, .int v2), (3, .int v3), (4, .int v4), (5, .int x5), (6, .int x6)] [] m) (h : X11_mostLeftBy_p23b sh v0 v1 v2 v3 v4 Q K5 K23 v5 v6 m) : V G F M_X11_mostLeftBy sh 0 0 (Zi G F sh Q) 23 [(0, .ref (G.1 + v0)), (1, .int v1), (2, .int v2), (3, .int v3), (4, .int v4), (5, .int v5), (6, .int v6)] [] m := by
  unfold X11_mostLeftBy_p23b at h
  refine v_iload 6 6 dX11_mostLeftBy_23 rfl ?_
  refine v_aload_n 0 0 dX11_mostLeftBy_25 rfl rfl ?_
  obtain ⟨o5, h⟩ := h
  obtain ⟨b6, e7, h⟩ := h
  refine v_gR 11 3 dX11_mostLeftBy_26 fg_RX11_35 o5 e7 ?_
  obtain ⟨o8, h⟩ := h
  refine v_gI 5 4 dX11_mostLeftBy_29 fg_RX11_161 o8 ?_
  refine v_icmp_ge 99 dX11_mostLeftBy_32 (by decide) (fun hc => ?_) (fun hc => ?_)
  · replace h := Eq.mp (if_pos hc) h
    refine v_iload_n 3 3 dX11_mostLeftBy_99 rfl rfl ?_
    refine v_iload 5 5 dX11_mostLeftBy_100 rfl ?_
    refine v_cSi [.int _, .int _] mv_J9_max_7cf53 ml_RX11_372 rfl rfl (Nat.le_of_ble_eq_true rfl) (Nat.le_of_ble_eq_true rfl) (Nat.le_of_ble_eq_true rfl) (Nat.zero_le _) (Nat.zero_le _) dX11_mostLeftBy_102 (c_J9_max_7cf53 h) (fun r9 m10 h => ?_)
    refine v_istore_n (ls' := [(3, .int _), (0, .ref _), (1, .int _), (2, .int _), (4, .int _), (5, .int _), (6, .int _)]) 3 dX11_mostLeftBy_105 rfl (Nat.le_of_ble_eq_true rfl) rfl ?_
    refine v_iinc (ls' := [(4, .int _), (3, .int _), (0, .ref _), (1, .int _), (2, .int _), (5, .int _), (6, .int _)]) 4 4 dX11_mostLeftBy_106 rfl (congrArg (HAdd.hAdd _) (by decide : Int32.ofInt (1) = (1 : Int32))) (Nat.le_of_ble_eq_true rfl) rfl ?_
    refine v_goto 5 dX11_mostLeftBy_109 (by decide) ?_
    refine v_sub [2, 3, 4, 1, 0] rfl ?_
    exact hK5 _ _ _ h
  · replace h := Eq.mp (if_neg hc) h
    refine v_iload_n 2 2 dX11_mostLeftBy_35 rfl rfl ?_
    refine v_iload 4 4 dX11_mostLeftBy_36 rfl ?_
    refine v_ishr dX11_mostLeftBy_38 ?_
    refine v_iconst (1 : Int32) dX11_mostLeftBy_39 (by decide) ?_
    refine v_iand dX11_mostLeftBy_40 ?_
    refine v_iconst (1 : Int32) dX11_mostLeftBy_41 (by decide) ?_
    refine v_icmp_ne 59 dX11_mostLeftBy_42 (by decide) (fun hc => ?_) (fun hc => ?_)
    · replace h := Eq.mp (if_neg hc) h
      refine v_sub [0, 1, 2, 3, 4, 5, 6] rfl ?_
      exact v_X11_mostLeftBy_p59 hK5 hK23 h
    · replace h := Eq.mp (if_pos hc) h
      refine v_iload_n 2 2 dX11_mostLeftBy_45 rfl rfl ?_
      refine v_iload 6 6 dX11_mostLeftBy_46 rfl ?_
      refine v_ishr dX11_mostLeftBy_48 ?_
      refine v_iconst (1 : Int32) dX11_mostLeftBy_49 (by decide) ?_
      refine v_iand dX11_mostLeftBy_50 ?_
      refine v_iconst (1 : Int32) dX11_mostLeftBy_51 (by decide) ?_
      refine v_icmp_ne 59 dX11_mostLeftBy_52 (by decide) (fun hc => ?_) (fun hc => ?_)
      · replace h := Eq.mp (if_neg hc) h
        refine v_sub [0, 1, 2, 3, 4, 5, 6] rfl ?_
        exact v_X11_mostLeftBy_p59 hK5 hK23 h
      · replace h := Eq.mp (if_pos hc) h
        refine v_iconst (1 : Int32) dX11_mostLeftBy_55 (by decide) ?_
        refine v_goto 60 dX11_mostLeftBy_56 (by decide) ?_
        refine v_sub [0, 1, 2, 3, 4, 5, 6] rfl ?_
        exact v_X11_mostLeftBy_p60 hK5 hK23 h
set_option maxHeartbeats 4000000 in
set_option maxRecDepth 100000 in
theorem v_X11_mostLeftBy_p23 {G : Gl} {F : Fr} {sh : Shp} {v0 : Nat} {v1 : Int32} {v2 : Int32} {v3 : Int32} {v4 : Int32} {v5 : Int32} {v6 : Int32} {Q : Int32 → Mem → Prop} {K5 : Int32 → Int32 → Mem → Prop} {m : Mem} (hK5 : ∀ (x3 : Int32) (x4 : Int32) (m : Mem), K5 x3 x4 m → V G F M_X11_mostLeftBy sh 0 0 (Zi G F sh Q) 5 [(0, .ref (G.1 + v0)), (1, .int v1), (2, .int v2), (3, .int x3), (4, .int x4)] [] m) (h : X11_mostLeftBy_p23 sh v0 v1 v2 v3 v4 Q K5 v5 v6 m) : V G F M_X11_mostLeftBy sh 0 0 (Zi G F sh Q) 23 [(0, .ref (G.1 + v0)), (1, .int v1), (2, .int v2), (3, .int v3), (4, .int v4), (5, .int v5), (6, .int v6)] [] m := by
  obtain ⟨n, h⟩ := h
  induction n generalizing v5 v6 m with
  | zero => exact h.elim
  | succ n ih => exact v_X11_mostLeftBy_p23b hK5 (fun _ _ _ h => ih h) h
set_option maxHeartbeats 4000000 in
set_option maxRecDepth 100000 in
theorem v_X11_mostLeftBy_p5b {G : Gl} {F : Fr} {sh : Shp} {v0 : Nat} {v1 : Int32} {v2 : Int32} {v3 : Int32} {v4 : Int32} {Q : Int32 → Mem → Prop} {K5 : Int32 → Int32 → Mem → Prop} {m : Mem} (hK5 : ∀ (x3 : Int32) (x4 : Int32) (m : Mem), K5 x3 x4 m → V G F M_X11_mostLeftBy sh 0 0 (Zi G F sh Q) 5 [(0, .ref (G.1 + v0)), (1, .int v1), (2, .int v2), (3, .int x3), (4, .int x4)] [] m) (h : X11_mostLeftBy_p5b sh v0 v1 v2 Q K5 v3 v4 m) : V G F M_X11_mostLeftBy sh 0 0 (Zi G F sh Q) 5 [(0, .ref (G.1 + v0)), (1, .int v1), (2, .int v2), (3, .int v3), (4, .int v4)] [] m := by
  unfold X11_mostLeftBy_p5b at h
  refine v_iload 4 4 dX11_mostLeftBy_5 rfl ?_
  refine v_aload_n 0 0 dX11_mostLeftBy_7 rfl rfl ?_
  obtain ⟨o1, h⟩ := h
  obtain ⟨b2, e3, h⟩ := h
  refine v_gR 11 3 dX11_mostLeftBy_8 fg_RX11_35 o1 e3 ?_
  obtain ⟨o4, h⟩ := h
  refine v_gI 5 4 dX11_mostLeftBy_11 fg_RX11_161 o4 ?_
  refine v_icmp_ge 112 dX11_mostLeftBy_14 (by decide) (fun hc => ?_) (fun hc => ?_)
  · replace h := Eq.mp (if_pos hc) h
    refine v_iload_n 3 3 dX11_mostLeftBy_112 rfl rfl ?_
    exact v_iret dX11_mostLeftBy_113 rfl rfl h
  · replace h := Eq.mp (if_neg hc) h
    refine v_iconst (0 : Int32) dX11_mostLeftBy_17 (by decide) ?_
    refine v_istore (ls' := [(5, .int _), (0, .ref _), (1, .int _), (2, .int _), (3, .int _), (4, .int _)]) 5 dX11_mostLeftBy_18 (Nat.le_of_ble_eq_true rfl) rfl ?_
    refine v_iconst (0 : Int32) dX11_mostLeftBy_20 (by decide) ?_
    refine v_istore (ls' := [(6, .int _), (5, .int _), (0, .ref _), (1, .int _), (2, .int _), (3, .int _), (4, .int _)]) 6 dX11_mostLeftBy_21 (Nat.le_of_ble_eq_true rfl) rfl ?_
    refine v_sub [2, 3, 4, 5, 6, 1, 0] rfl ?_
    exact v_X11_mostLeftBy_p23 hK5 h
set_option maxHeartbeats 4000000 in
set_option maxRecDepth 100000 in
theorem v_X11_mostLeftBy_p5 {G : Gl} {F : Fr} {sh : Shp} {v0 : Nat} {v1 : Int32} {v2 : Int32} {v3 : Int32} {v4 : Int32} {Q : Int32 → Mem → Prop} {m : Mem} (h : X11_mostLeftBy_p5 sh v0 v1 v2 Q v3 v4 m) : V G F M_X11_mostLeftBy sh 0 0 (Zi G F sh Q) 5 [(0, .ref (G.1 + v0)), (1, .int v1), (2, .int v2), (3, .int v3), (4, .int v4)] [] m := by
  obtain ⟨n, h⟩ := h
  induction n generalizing v3 v4 m with
  | zero => exact h.elim
  | succ n ih => exact v_X11_mostLeftBy_p5b (fun _ _ _ h => ih h) h
set_option maxHeartbeats 4000000 in
set_option maxRecDepth 100000 in
theorem c_X11_mostLeftBy {l : Launch} {G : Gl} {sh : Shp} {v0 : Nat} {v1 : Int32} {v2 : Int32} {Q : Int32 → Mem → Prop} {m : Mem} (h : wp_X11_mostLeftBy sh v0 v1 v2 Q m) : Cni l G yX11_mostLeftBy cX11_mostLeftBy 8 (Option.some FieldType.int) 7 209 sh [.ref (G.1 + v0), .int v1, .int v2] m Q := by
  refine con_i (ls := [(0, .ref (G.1 + v0)), (1, .int v1), (2, .int v2)]) (by decide +kernel) rfl (Nat.le_of_ble_eq_true rfl) (fun F => ?_)
  show V G F M_X11_mostLeftBy sh 0 0 (Zi G F sh Q) 0 [(0, .ref (G.1 + v0)), (1, .int v1), (2, .int v2)] [] m
  unfold wp_X11_mostLeftBy at h
  refine v_iconst (0 : Int32) dX11_mostLeftBy_0 (by decide) ?_
  refine v_istore_n (ls' := [(3, .int _), (0, .ref _), (1, .int _), (2, .int _)]) 3 dX11_mostLeftBy_1 rfl (Nat.le_of_ble_eq_true rfl) rfl ?_
  refine v_iconst (0 : Int32) dX11_mostLeftBy_2 (by decide) ?_
  refine v_istore (ls' := [(4, .int _), (3, .int _), (0, .ref _), (1, .int _), (2, .int _)]) 4 dX11_mostLeftBy_3 (Nat.le_of_ble_eq_true rfl) rfl ?_
  refine v_sub [2, 3, 4, 1, 0] rfl ?_
  exact v_X11_mostLeftBy_p5 h
/-! CalledRiver.octet -/
theorem dX11_octet_0 : decode cX11_octet 0 = .ok (.iload_n 1, 1) := by decide +kernel
theorem dX11_octet_1 : decode cX11_octet 1 = .ok (.ifCond .lt 14, 3) := by decide +kernel
theorem dX11_octet_4 : decode cX11_octet 4 = .ok (.iload_n 1, 1) := by decide +kernel
theorem dX11_octet_5 : decode cX11_octet 5 = .ok (.aload_n 0, 1) := by decide +kernel
theorem dX11_octet_6 : decode cX11_octet 6 = .ok (.getfield 106, 3) := by decide +kernel
theorem dX11_octet_9 : decode cX11_octet 9 = .ok (.getfield 345, 3) := by decide +kernel
theorem dX11_octet_12 : decode cX11_octet 12 = .ok (.if_icmp .lt 7, 3) := by decide +kernel
theorem dX11_octet_15 : decode cX11_octet 15 = .ok (.iconst (-1), 1) := by decide +kernel
theorem dX11_octet_16 : decode cX11_octet 16 = .ok (.goto 12, 3) := by decide +kernel
theorem dX11_octet_19 : decode cX11_octet 19 = .ok (.aload_n 0, 1) := by decide +kernel
theorem dX11_octet_20 : decode cX11_octet 20 = .ok (.getfield 106, 3) := by decide +kernel
theorem dX11_octet_23 : decode cX11_octet 23 = .ok (.getfield 346, 3) := by decide +kernel
theorem dX11_octet_26 : decode cX11_octet 26 = .ok (.iload_n 1, 1) := by decide +kernel
theorem dX11_octet_27 : decode cX11_octet 27 = .ok (.iaload, 1) := by decide +kernel
theorem dX11_octet_28 : decode cX11_octet 28 = .ok (.ireturn, 1) := by decide +kernel
def wp_X11_octet (sh : Shp) (v0 : Nat) (v1 : Int32) (Q : Int32 → Mem → Prop) (m : Mem) : Prop :=
  if v1 < 0 then (Q (-1 : Int32) m) else (Ob sh v0 11 ∧ ∃ b2 : Nat, m.2.2 v0 16 = some b2 ∧ (Ob sh b2 4 ∧ (if v1 < (m.1 b2 1) then (∃ b5 : Nat, m.2.2 b2 0 = some b5 ∧ (Ix sh b5 100 v1 ∧ (Q (m.1 b5 v1.toNatClampNeg) m))) else (Q (-1 : Int32) m))))
abbrev M_X11_octet : Mi := (cX11_octet, 2, RX11, (Option.some FieldType.int), "octet", 1, 60, 0, 0)
set_option maxHeartbeats 4000000 in
set_option maxRecDepth 100000 in
theorem c_X11_octet {l : Launch} {G : Gl} {sh : Shp} {v0 : Nat} {v1 : Int32} {Q : Int32 → Mem → Prop} {m : Mem} (h : wp_X11_octet sh v0 v1 Q m) : Cni l G yX11_octet cX11_octet 2 (Option.some FieldType.int) 1 60 sh [.ref (G.1 + v0), .int v1] m Q := by
  refine con_i (ls := [(0, .ref (G.1 + v0)), (1, .int v1)]) (by decide +kernel) rfl (Nat.le_of_ble_eq_true rfl) (fun F => ?_)
  show V G F M_X11_octet sh 0 0 (Zi G F sh Q) 0 [(0, .ref (G.1 + v0)), (1, .int v1)] [] m
  unfold wp_X11_octet at h
  refine v_iload_n 1 1 dX11_octet_0 rfl rfl ?_
  refine v_if_lt 15 dX11_octet_1 (by decide) (fun hc => ?_) (fun hc => ?_)
  · replace h := Eq.mp (if_pos hc) h
    refine v_iconst (-1 : Int32) dX11_octet_15 (by decide) ?_
    refine v_goto 28 dX11_octet_16 (by decide) ?_
    exact v_iret dX11_octet_28 rfl rfl h
  · replace h := Eq.mp (if_neg hc) h
    refine v_iload_n 1 1 dX11_octet_4 rfl rfl ?_
    refine v_aload_n 0 0 dX11_octet_5 rfl rfl ?_
    obtain ⟨o1, h⟩ := h
    obtain ⟨b2, e3, h⟩ := h
    refine v_gR 11 16 dX11_octet_6 fg_RX11_106 o1 e3 ?_
    obtain ⟨o4, h⟩ := h
    refine v_gI 4 1 dX11_octet_9 fg_RX11_345 o4 ?_
    refine v_icmp_lt 19 dX11_octet_12 (by decide) (fun hc => ?_) (fun hc => ?_)
    · replace h := Eq.mp (if_pos hc) h
      refine v_aload_n 0 0 dX11_octet_19 rfl rfl ?_
      refine v_gR 11 16 dX11_octet_20 fg_RX11_106 o1 e3 ?_
      obtain ⟨b5, e6, h⟩ := h
      refine v_gR 4 0 dX11_octet_23 fg_RX11_346 o4 e6 ?_
      refine v_iload_n 1 1 dX11_octet_26 rfl rfl ?_
      obtain ⟨i7, h⟩ := h
      refine v_iald dX11_octet_27 i7 ?_
      exact v_iret dX11_octet_28 rfl rfl h
    · replace h := Eq.mp (if_neg hc) h
      refine v_iconst (-1 : Int32) dX11_octet_15 (by decide) ?_
      refine v_goto 28 dX11_octet_16 (by decide) ?_
      exact v_iret dX11_octet_28 rfl rfl h
/-! CalledRiver.on -/
theorem dX11_on_0 : decode cX11_on 0 = .ok (.aload_n 0, 1) := by decide +kernel
theorem dX11_on_1 : decode cX11_on 1 = .ok (.getfield 35, 3) := by decide +kernel
theorem dX11_on_4 : decode cX11_on 4 = .ok (.aload_n 0, 1) := by decide +kernel
theorem dX11_on_5 : decode cX11_on 5 = .ok (.getfield 12, 3) := by decide +kernel
theorem dX11_on_8 : decode cX11_on 8 = .ok (.invokestatic 349, 3) := by decide +kernel
theorem dX11_on_11 : decode cX11_on 11 = .ok (.istore_n 1, 1) := by decide +kernel
theorem dX11_on_12 : decode cX11_on 12 = .ok (.iload_n 1, 1) := by decide +kernel
theorem dX11_on_13 : decode cX11_on 13 = .ok (.ifCond .eq 32, 3) := by decide +kernel
theorem dX11_on_16 : decode cX11_on 16 = .ok (.aload_n 0, 1) := by decide +kernel
theorem dX11_on_17 : decode cX11_on 17 = .ok (.getfield 35, 3) := by decide +kernel
theorem dX11_on_20 : decode cX11_on 20 = .ok (.aload_n 0, 1) := by decide +kernel
theorem dX11_on_21 : decode cX11_on 21 = .ok (.getfield 12, 3) := by decide +kernel
theorem dX11_on_24 : decode cX11_on 24 = .ok (.aload_n 0, 1) := by decide +kernel
theorem dX11_on_25 : decode cX11_on 25 = .ok (.getfield 54, 3) := by decide +kernel
theorem dX11_on_28 : decode cX11_on 28 = .ok (.invokestatic 353, 3) := by decide +kernel
theorem dX11_on_31 : decode cX11_on 31 = .ok (.aload_n 0, 1) := by decide +kernel
theorem dX11_on_32 : decode cX11_on 32 = .ok (.getfield 64, 3) := by decide +kernel
theorem dX11_on_35 : decode cX11_on 35 = .ok (.invokevirtual 140, 3) := by decide +kernel
theorem dX11_on_38 : decode cX11_on 38 = .ok (.aload_n 0, 1) := by decide +kernel
theorem dX11_on_39 : decode cX11_on 39 = .ok (.invokevirtual 146, 3) := by decide +kernel
theorem dX11_on_42 : decode cX11_on 42 = .ok (.goto 9, 3) := by decide +kernel
theorem dX11_on_45 : decode cX11_on 45 = .ok (.aload_n 0, 1) := by decide +kernel
theorem dX11_on_46 : decode cX11_on 46 = .ok (.iconst 5, 1) := by decide +kernel
theorem dX11_on_47 : decode cX11_on 47 = .ok (.invokevirtual 121, 3) := by decide +kernel
theorem dX11_on_50 : decode cX11_on 50 = .ok (.pop, 1) := by decide +kernel
theorem dX11_on_51 : decode cX11_on 51 = .ok (.aload_n 0, 1) := by decide +kernel
theorem dX11_on_52 : decode cX11_on 52 = .ok (.getfield 12, 3) := by decide +kernel
theorem dX11_on_55 : decode cX11_on 55 = .ok (.iconst 0, 1) := by decide +kernel
theorem dX11_on_56 : decode cX11_on 56 = .ok (.putfield 117, 3) := by decide +kernel
theorem dX11_on_59 : decode cX11_on 59 = .ok (.iload_n 1, 1) := by decide +kernel
theorem dX11_on_60 : decode cX11_on 60 = .ok (.ireturn, 1) := by decide +kernel
def X11_on_p51 (sh : Shp) (v0 : Nat) (v1 : Int32) (Q : Int32 → Mem → Prop) (m : Mem) : Prop :=
  Ob sh v0 11 ∧ ∃ b26 : Nat, m.2.2 v0 0 = some b26 ∧ (Ob sh b26 9 ∧ bnd (sI m b26 1 (0 : Int32)) (fun m29 => (v1 = 0 ∨ v1 = 1) ∧ Q v1 m29))
def wp_X11_on (sh : Shp) (v0 : Nat) (Q : Int32 → Mem → Prop) (m : Mem) : Prop :=
  Ob sh v0 11 ∧ ∃ b2 : Nat, m.2.2 v0 3 = some b2 ∧ (∃ b4 : Nat, m.2.2 v0 0 = some b4 ∧ (wp_X4_isOf sh b2 b4 (fun r6 m7 => if r6 = 0 then (wp_X11_refuse sh v0 (5 : Int32) (fun r8 m9 => X11_on_p51 sh v0 r6 Q m9) m7) else (∃ b10 : Nat, m7.2.2 v0 3 = some b10 ∧ (∃ b12 : Nat, m7.2.2 v0 0 = some b12 ∧ (∃ b14 : Nat, m7.2.2 v0 6 = some b14 ∧ (wp_X4_show sh b10 b12 b14 (fun m17 => ∃ b18 : Nat, m17.2.2 v0 8 = some b18 ∧ (Ob sh b18 3 ∧ wp_X3_forget sh b18 (fun m21 => wp_X11_forgetWays sh v0 (fun m24 => X11_on_p51 sh v0 r6 Q m24) m21) m17)) m7))))) m))
abbrev M_X11_on : Mi := (cX11_on, 2, RX11, (Option.some FieldType.boolean), "on", 3, 108, 0, 0)
set_option maxHeartbeats 4000000 in
set_option maxRecDepth 100000 in
theorem v_X11_on_p51 {G : Gl} {F : Fr} {sh : Shp} {v0 : Nat} {v1 : Int32} {Q : Int32 → Mem → Prop} {m : Mem} (h : X11_on_p51 sh v0 v1 Q m) : V G F M_X11_on sh 0 0 (Zi G F sh Q) 51 [(0, .ref (G.1 + v0)), (1, .int v1)] [] m := by
  unfold X11_on_p51 at h
  refine v_aload_n 0 0 dX11_on_51 rfl rfl ?_
  obtain ⟨o25, h⟩ := h
  obtain ⟨b26, e27, h⟩ := h
  refine v_gR 11 0 dX11_on_52 fg_RX11_12 o25 e27 ?_
  refine v_iconst (0 : Int32) dX11_on_55 (by decide) ?_
  obtain ⟨o28, h⟩ := h
  refine v_pI 9 1 dX11_on_56 fw_RX11_117 o28 ?_
  replace h := bnd_e h
  refine v_iload_n 1 1 dX11_on_59 rfl rfl ?_
  obtain ⟨hx, h⟩ := h
  exact v_iret dX11_on_60 rfl (nar_z hx) h
set_option maxHeartbeats 4000000 in
set_option maxRecDepth 100000 in
theorem c_X11_on {l : Launch} {G : Gl} {sh : Shp} {v0 : Nat} {Q : Int32 → Mem → Prop} {m : Mem} (h : wp_X11_on sh v0 Q m) : Cni l G yX11_on cX11_on 2 (Option.some FieldType.boolean) 3 108 sh [.ref (G.1 + v0)] m Q := by
  refine con_i (ls := [(0, .ref (G.1 + v0))]) (by decide +kernel) rfl (Nat.le_of_ble_eq_true rfl) (fun F => ?_)
  show V G F M_X11_on sh 0 0 (Zi G F sh Q) 0 [(0, .ref (G.1 + v0))] [] m
  unfold wp_X11_on at h
  refine v_aload_n 0 0 dX11_on_0 rfl rfl ?_
  obtain ⟨o1, h⟩ := h
  obtain ⟨b2, e3, h⟩ := h
  refine v_gR 11 3 dX11_on_1 fg_RX11_35 o1 e3 ?_
  refine v_aload_n 0 0 dX11_on_4 rfl rfl ?_
  obtain ⟨b4, e5, h⟩ := h
  refine v_gR 11 0 dX11_on_5 fg_RX11_12 o1 e5 ?_
  refine v_cSi [.ref _, .ref _] mv_X4_isOf ml_RX11_349 rfl rfl (Nat.le_of_ble_eq_true rfl) (Nat.le_of_ble_eq_true rfl) (Nat.le_of_ble_eq_true rfl) (Nat.zero_le _) (Nat.zero_le _) dX11_on_8 (c_X4_isOf h) (fun r6 m7 h => ?_)
  refine v_istore_n (ls' := [(1, .int _), (0, .ref _)]) 1 dX11_on_11 rfl (Nat.le_of_ble_eq_true rfl) rfl ?_
  refine v_iload_n 1 0 dX11_on_12 rfl rfl ?_
  refine v_if_eq 45 dX11_on_13 (by decide) (fun hc => ?_) (fun hc => ?_)
  · replace h := Eq.mp (if_pos hc) h
    refine v_aload_n 0 1 dX11_on_45 rfl rfl ?_
    refine v_iconst (5 : Int32) dX11_on_46 (by decide) ?_
    refine v_cVi [.int _] mv_X11_refuse ml_RX11_121 ⟨_, _, rfl⟩ o1 rfl rfl (Nat.le_of_ble_eq_true rfl) (Nat.le_of_ble_eq_true rfl) (Nat.le_of_ble_eq_true rfl) (Nat.zero_le _) (Nat.zero_le _) dX11_on_47 (c_X11_refuse h) (fun r8 m9 h => ?_)
    refine v_pop dX11_on_50 rfl ?_
    refine v_sub [1, 0] rfl ?_
    exact v_X11_on_p51 h
  · replace h := Eq.mp (if_neg hc) h
    refine v_aload_n 0 1 dX11_on_16 rfl rfl ?_
    obtain ⟨b10, e11, h⟩ := h
    refine v_gR 11 3 dX11_on_17 fg_RX11_35 o1 e11 ?_
    refine v_aload_n 0 1 dX11_on_20 rfl rfl ?_
    obtain ⟨b12, e13, h⟩ := h
    refine v_gR 11 0 dX11_on_21 fg_RX11_12 o1 e13 ?_
    refine v_aload_n 0 1 dX11_on_24 rfl rfl ?_
    obtain ⟨b14, e15, h⟩ := h
    refine v_gR 11 6 dX11_on_25 fg_RX11_54 o1 e15 ?_
    refine v_cSv [.ref _, .ref _, .ref _] mv_X4_show ml_RX11_353 rfl rfl (Nat.le_of_ble_eq_true rfl) (Nat.le_of_ble_eq_true rfl) (Nat.le_of_ble_eq_true rfl) (Nat.zero_le _) (Nat.zero_le _) dX11_on_28 (c_X4_show h) (fun m17 h => ?_)
    refine v_aload_n 0 1 dX11_on_31 rfl rfl ?_
    obtain ⟨b18, e19, h⟩ := h
    refine v_gR 11 8 dX11_on_32 fg_RX11_64 o1 e19 ?_
    obtain ⟨o22, h⟩ := h
    refine v_cVv [] mv_X3_forget ml_RX11_140 ⟨_, _, rfl⟩ o22 rfl rfl (Nat.le_of_ble_eq_true rfl) (Nat.le_of_ble_eq_true rfl) (Nat.le_of_ble_eq_true rfl) (Nat.zero_le _) (Nat.zero_le _) dX11_on_35 (c_X3_forget h) (fun m21 h => ?_)
    refine v_aload_n 0 1 dX11_on_38 rfl rfl ?_
    refine v_cVv [] mv_X11_forgetWays ml_RX11_146 ⟨_, _, rfl⟩ o1 rfl rfl (Nat.le_of_ble_eq_true rfl) (Nat.le_of_ble_eq_true rfl) (Nat.le_of_ble_eq_true rfl) (Nat.zero_le _) (Nat.zero_le _) dX11_on_39 (c_X11_forgetWays h) (fun m24 h => ?_)
    refine v_goto 51 dX11_on_42 (by decide) ?_
    refine v_sub [1, 0] rfl ?_
    exact v_X11_on_p51 h
/-! CalledRiver.parts -/
theorem dX11_parts_0 : decode cX11_parts 0 = .ok (.aload_n 0, 1) := by decide +kernel
theorem dX11_parts_1 : decode cX11_parts 1 = .ok (.iload_n 1, 1) := by decide +kernel
theorem dX11_parts_2 : decode cX11_parts 2 = .ok (.invokevirtual 242, 3) := by decide +kernel
theorem dX11_parts_5 : decode cX11_parts 5 = .ok (.astore 4, 2) := by decide +kernel
theorem dX11_parts_7 : decode cX11_parts 7 = .ok (.aload_n 0, 1) := by decide +kernel
theorem dX11_parts_8 : decode cX11_parts 8 = .ok (.iload_n 2, 1) := by decide +kernel
theorem dX11_parts_9 : decode cX11_parts 9 = .ok (.invokevirtual 242, 3) := by decide +kernel
theorem dX11_parts_12 : decode cX11_parts 12 = .ok (.astore 5, 2) := by decide +kernel
theorem dX11_parts_14 : decode cX11_parts 14 = .ok (.iload_n 1, 1) := by decide +kernel
theorem dX11_parts_15 : decode cX11_parts 15 = .ok (.iload_n 2, 1) := by decide +kernel
theorem dX11_parts_16 : decode cX11_parts 16 = .ok (.if_icmp .eq 21, 3) := by decide +kernel
theorem dX11_parts_19 : decode cX11_parts 19 = .ok (.aload 4, 2) := by decide +kernel
theorem dX11_parts_21 : decode cX11_parts 21 = .ok (.getfield 252, 3) := by decide +kernel
theorem dX11_parts_24 : decode cX11_parts 24 = .ok (.iconst (-1), 1) := by decide +kernel
theorem dX11_parts_25 : decode cX11_parts 25 = .ok (.if_icmp .eq 12, 3) := by decide +kernel
theorem dX11_parts_28 : decode cX11_parts 28 = .ok (.aload 5, 2) := by decide +kernel
theorem dX11_parts_30 : decode cX11_parts 30 = .ok (.getfield 252, 3) := by decide +kernel
theorem dX11_parts_33 : decode cX11_parts 33 = .ok (.iconst (-1), 1) := by decide +kernel
theorem dX11_parts_34 : decode cX11_parts 34 = .ok (.if_icmp .ne 5, 3) := by decide +kernel
theorem dX11_parts_37 : decode cX11_parts 37 = .ok (.iconst (-1), 1) := by decide +kernel
theorem dX11_parts_38 : decode cX11_parts 38 = .ok (.ireturn, 1) := by decide +kernel
theorem dX11_parts_39 : decode cX11_parts 39 = .ok (.aload 4, 2) := by decide +kernel
theorem dX11_parts_41 : decode cX11_parts 41 = .ok (.aload 5, 2) := by decide +kernel
theorem dX11_parts_43 : decode cX11_parts 43 = .ok (.invokevirtual 295, 3) := by decide +kernel
theorem dX11_parts_46 : decode cX11_parts 46 = .ok (.istore 6, 2) := by decide +kernel
theorem dX11_parts_48 : decode cX11_parts 48 = .ok (.iload_n 3, 1) := by decide +kernel
theorem dX11_parts_49 : decode cX11_parts 49 = .ok (.ifCond .eq 9, 3) := by decide +kernel
theorem dX11_parts_52 : decode cX11_parts 52 = .ok (.iload 6, 2) := by decide +kernel
theorem dX11_parts_54 : decode cX11_parts 54 = .ok (.iconst (-1), 1) := by decide +kernel
theorem dX11_parts_55 : decode cX11_parts 55 = .ok (.if_icmp .ne 6, 3) := by decide +kernel
theorem dX11_parts_58 : decode cX11_parts 58 = .ok (.iload 6, 2) := by decide +kernel
theorem dX11_parts_60 : decode cX11_parts 60 = .ok (.ireturn, 1) := by decide +kernel
theorem dX11_parts_61 : decode cX11_parts 61 = .ok (.aload_n 0, 1) := by decide +kernel
theorem dX11_parts_62 : decode cX11_parts 62 = .ok (.aload 4, 2) := by decide +kernel
theorem dX11_parts_64 : decode cX11_parts 64 = .ok (.aload 5, 2) := by decide +kernel
theorem dX11_parts_66 : decode cX11_parts 66 = .ok (.iload 6, 2) := by decide +kernel
theorem dX11_parts_68 : decode cX11_parts 68 = .ok (.invokevirtual 299, 3) := by decide +kernel
theorem dX11_parts_71 : decode cX11_parts 71 = .ok (.iload_n 3, 1) := by decide +kernel
theorem dX11_parts_72 : decode cX11_parts 72 = .ok (.iconst 1, 1) := by decide +kernel
theorem dX11_parts_73 : decode cX11_parts 73 = .ok (.isub, 1) := by decide +kernel
theorem dX11_parts_74 : decode cX11_parts 74 = .ok (.invokevirtual 249, 3) := by decide +kernel
theorem dX11_parts_77 : decode cX11_parts 77 = .ok (.ireturn, 1) := by decide +kernel
def wp_X11_parts (sh : Shp) (v0 : Nat) (v1 : Int32) (v2 : Int32) (v3 : Int32) (Q : Int32 → Mem → Prop) (m : Mem) : Prop :=
  Ob sh v0 11 ∧ wp_X11_wayOf sh v0 v1 (fun r1 m2 => wp_X11_wayOf sh v0 v2 (fun r4 m5 => if v1 = v2 then (Q (-1 : Int32) m5) else (Ob sh r1 10 ∧ (if (m5.1 r1 2) = (-1 : Int32) then (Q (-1 : Int32) m5) else (Ob sh r4 10 ∧ (if (m5.1 r4 2) = (-1 : Int32) then (Q (-1 : Int32) m5) else (wp_X10_partingFrom sh r1 r4 (fun r8 m9 => if v3 = 0 then (Q r8 m9) else (if r8 = (-1 : Int32) then (Q r8 m9) else (wp_X10_meetingWith sh r1 r4 r8 (fun r10 m11 => wp_X11_placePart sh v0 r10 (v3 - (1 : Int32)) (fun r12 m13 => Q r12 m13) m11) m9))) m5)))))) m2) m
abbrev M_X11_parts : Mi := (cX11_parts, 7, RX11, (Option.some FieldType.int), "parts", 7, 209, 0, 0)
set_option maxHeartbeats 4000000 in
set_option maxRecDepth 100000 in
theorem c_X11_parts {l : Launch} {G : Gl} {sh : Shp} {v0 : Nat} {v1 : Int32} {v2 : Int32} {v3 : Int32} {Q : Int32 → Mem → Prop} {m : Mem} (h : wp_X11_parts sh v0 v1 v2 v3 Q m) : Cni l G yX11_parts cX11_parts 7 (Option.some FieldType.int) 7 209 sh [.ref (G.1 + v0), .int v1, .int v2, .int v3] m Q := by
  refine con_i (ls := [(0, .ref (G.1 + v0)), (1, .int v1), (2, .int v2), (3, .int v3)]) (by decide +kernel) rfl (Nat.le_of_ble_eq_true rfl) (fun F => ?_)
  show V G F M_X11_parts sh 0 0 (Zi G F sh Q) 0 [(0, .ref (G.1 + v0)), (1, .int v1), (2, .int v2), (3, .int v3)] [] m
  unfold wp_X11_parts at h
  refine v_aload_n 0 0 dX11_parts_0 rfl rfl ?_
  refine v_iload_n 1 1 dX11_parts_1 rfl rfl ?_
  obtain ⟨o3, h⟩ := h
  refine v_cVr [.int _] mv_X11_wayOf ml_RX11_242 ⟨_, _, rfl⟩ o3 rfl rfl (Nat.le_of_ble_eq_true rfl) (Nat.le_of_ble_eq_true rfl) (Nat.le_of_ble_eq_true rfl) (Nat.zero_le _) (Nat.zero_le _) dX11_parts_2 (c_X11_wayOf h) (fun r1 m2 h => ?_)
  refine v_astore (ls' := [(4, .ref _), (0, .ref _), (1, .int _), (2, .int _), (3, .int _)]) 4 dX11_parts_5 (Nat.le_of_ble_eq_true rfl) rfl ?_
  refine v_aload_n 0 1 dX11_parts_7 rfl rfl ?_
  refine v_iload_n 2 3 dX11_parts_8 rfl rfl ?_
  refine v_cVr [.int _] mv_X11_wayOf ml_RX11_242 ⟨_, _, rfl⟩ o3 rfl rfl (Nat.le_of_ble_eq_true rfl) (Nat.le_of_ble_eq_true rfl) (Nat.le_of_ble_eq_true rfl) (Nat.zero_le _) (Nat.zero_le _) dX11_parts_9 (c_X11_wayOf h) (fun r4 m5 h => ?_)
  refine v_astore (ls' := [(5, .ref _), (4, .ref _), (0, .ref _), (1, .int _), (2, .int _), (3, .int _)]) 5 dX11_parts_12 (Nat.le_of_ble_eq_true rfl) rfl ?_
  refine v_iload_n 1 3 dX11_parts_14 rfl rfl ?_
  refine v_iload_n 2 4 dX11_parts_15 rfl rfl ?_
  refine v_icmp_eq 37 dX11_parts_16 (by decide) (fun hc => ?_) (fun hc => ?_)
  · replace h := Eq.mp (if_pos hc) h
    refine v_iconst (-1 : Int32) dX11_parts_37 (by decide) ?_
    exact v_iret dX11_parts_38 rfl rfl h
  · replace h := Eq.mp (if_neg hc) h
    refine v_aload 4 1 dX11_parts_19 rfl ?_
    obtain ⟨o6, h⟩ := h
    refine v_gI 10 2 dX11_parts_21 fg_RX11_252 o6 ?_
    refine v_iconst (-1 : Int32) dX11_parts_24 (by decide) ?_
    refine v_icmp_eq 37 dX11_parts_25 (by decide) (fun hc => ?_) (fun hc => ?_)
    · replace h := Eq.mp (if_pos hc) h
      refine v_iconst (-1 : Int32) dX11_parts_37 (by decide) ?_
      exact v_iret dX11_parts_38 rfl rfl h
    · replace h := Eq.mp (if_neg hc) h
      refine v_aload 5 0 dX11_parts_28 rfl ?_
      obtain ⟨o7, h⟩ := h
      refine v_gI 10 2 dX11_parts_30 fg_RX11_252 o7 ?_
      refine v_iconst (-1 : Int32) dX11_parts_33 (by decide) ?_
      refine v_icmp_ne 39 dX11_parts_34 (by decide) (fun hc => ?_) (fun hc => ?_)
      · replace h := Eq.mp (if_neg hc) h
        refine v_aload 4 1 dX11_parts_39 rfl ?_
        refine v_aload 5 0 dX11_parts_41 rfl ?_
        refine v_cVi [.ref _] mv_X10_partingFrom ml_RX11_295 ⟨_, _, rfl⟩ o6 rfl rfl (Nat.le_of_ble_eq_true rfl) (Nat.le_of_ble_eq_true rfl) (Nat.le_of_ble_eq_true rfl) (Nat.zero_le _) (Nat.zero_le _) dX11_parts_43 (c_X10_partingFrom h) (fun r8 m9 h => ?_)
        refine v_istore (ls' := [(6, .int _), (5, .ref _), (4, .ref _), (0, .ref _), (1, .int _), (2, .int _), (3, .int _)]) 6 dX11_parts_46 (Nat.le_of_ble_eq_true rfl) rfl ?_
        refine v_iload_n 3 6 dX11_parts_48 rfl rfl ?_
        refine v_if_eq 58 dX11_parts_49 (by decide) (fun hc => ?_) (fun hc => ?_)
        · replace h := Eq.mp (if_pos hc) h
          refine v_iload 6 0 dX11_parts_58 rfl ?_
          exact v_iret dX11_parts_60 rfl rfl h
        · replace h := Eq.mp (if_neg hc) h
          refine v_iload 6 0 dX11_parts_52 rfl ?_
          refine v_iconst (-1 : Int32) dX11_parts_54 (by decide) ?_
          refine v_icmp_ne 61 dX11_parts_55 (by decide) (fun hc => ?_) (fun hc => ?_)
          · replace h := Eq.mp (if_neg hc) h
            refine v_aload_n 0 3 dX11_parts_61 rfl rfl ?_
            refine v_aload 4 2 dX11_parts_62 rfl ?_
            refine v_aload 5 1 dX11_parts_64 rfl ?_
            refine v_iload 6 0 dX11_parts_66 rfl ?_
            refine v_cVi [.ref _, .int _] mv_X10_meetingWith ml_RX11_299 ⟨_, _, rfl⟩ o6 rfl rfl (Nat.le_of_ble_eq_true rfl) (Nat.le_of_ble_eq_true rfl) (Nat.le_of_ble_eq_true rfl) (Nat.zero_le _) (Nat.zero_le _) dX11_parts_68 (c_X10_meetingWith h) (fun r10 m11 h => ?_)
            refine v_iload_n 3 6 dX11_parts_71 rfl rfl ?_
            refine v_iconst (1 : Int32) dX11_parts_72 (by decide) ?_
            refine v_isub dX11_parts_73 ?_
            refine v_cVi [.int _, .int _] mv_X11_placePart ml_RX11_249 ⟨_, _, rfl⟩ o3 rfl rfl (Nat.le_of_ble_eq_true rfl) (Nat.le_of_ble_eq_true rfl) (Nat.le_of_ble_eq_true rfl) (Nat.zero_le _) (Nat.zero_le _) dX11_parts_74 (c_X11_placePart h) (fun r12 m13 h => ?_)
            exact v_iret dX11_parts_77 rfl rfl h
          · replace h := Eq.mp (if_pos hc) h
            refine v_iload 6 0 dX11_parts_58 rfl ?_
            exact v_iret dX11_parts_60 rfl rfl h
      · replace h := Eq.mp (if_pos hc) h
        refine v_iconst (-1 : Int32) dX11_parts_37 (by decide) ?_
        exact v_iret dX11_parts_38 rfl rfl h
/-! CalledRiver.plain -/
theorem dX11_plain_0 : decode cX11_plain 0 = .ok (.aload_n 0, 1) := by decide +kernel
theorem dX11_plain_1 : decode cX11_plain 1 = .ok (.getfield 47, 3) := by decide +kernel
theorem dX11_plain_4 : decode cX11_plain 4 = .ok (.aload_n 0, 1) := by decide +kernel
theorem dX11_plain_5 : decode cX11_plain 5 = .ok (.getfield 39, 3) := by decide +kernel
theorem dX11_plain_8 : decode cX11_plain 8 = .ok (.invokevirtual 129, 3) := by decide +kernel
theorem dX11_plain_11 : decode cX11_plain 11 = .ok (.istore_n 1, 1) := by decide +kernel
theorem dX11_plain_12 : decode cX11_plain 12 = .ok (.aload_n 0, 1) := by decide +kernel
theorem dX11_plain_13 : decode cX11_plain 13 = .ok (.getfield 12, 3) := by decide +kernel
theorem dX11_plain_16 : decode cX11_plain 16 = .ok (.iconst 0, 1) := by decide +kernel
theorem dX11_plain_17 : decode cX11_plain 17 = .ok (.putfield 117, 3) := by decide +kernel
theorem dX11_plain_20 : decode cX11_plain 20 = .ok (.aload_n 0, 1) := by decide +kernel
theorem dX11_plain_21 : decode cX11_plain 21 = .ok (.getfield 12, 3) := by decide +kernel
theorem dX11_plain_24 : decode cX11_plain 24 = .ok (.getfield 133, 3) := by decide +kernel
theorem dX11_plain_27 : decode cX11_plain 27 = .ok (.ifCond .eq 9, 3) := by decide +kernel
theorem dX11_plain_30 : decode cX11_plain 30 = .ok (.aload_n 0, 1) := by decide +kernel
theorem dX11_plain_31 : decode cX11_plain 31 = .ok (.iconst 1, 1) := by decide +kernel
theorem dX11_plain_32 : decode cX11_plain 32 = .ok (.invokevirtual 121, 3) := by decide +kernel
theorem dX11_plain_35 : decode cX11_plain 35 = .ok (.ireturn, 1) := by decide +kernel
theorem dX11_plain_36 : decode cX11_plain 36 = .ok (.aload_n 0, 1) := by decide +kernel
theorem dX11_plain_37 : decode cX11_plain 37 = .ok (.getfield 35, 3) := by decide +kernel
theorem dX11_plain_40 : decode cX11_plain 40 = .ok (.astore_n 2, 1) := by decide +kernel
theorem dX11_plain_41 : decode cX11_plain 41 = .ok (.aload_n 0, 1) := by decide +kernel
theorem dX11_plain_42 : decode cX11_plain 42 = .ok (.aload_n 0, 1) := by decide +kernel
theorem dX11_plain_43 : decode cX11_plain 43 = .ok (.getfield 39, 3) := by decide +kernel
theorem dX11_plain_46 : decode cX11_plain 46 = .ok (.putfield 35, 3) := by decide +kernel
theorem dX11_plain_49 : decode cX11_plain 49 = .ok (.aload_n 0, 1) := by decide +kernel
theorem dX11_plain_50 : decode cX11_plain 50 = .ok (.aload_n 2, 1) := by decide +kernel
theorem dX11_plain_51 : decode cX11_plain 51 = .ok (.putfield 39, 3) := by decide +kernel
theorem dX11_plain_54 : decode cX11_plain 54 = .ok (.aload_n 0, 1) := by decide +kernel
theorem dX11_plain_55 : decode cX11_plain 55 = .ok (.getfield 54, 3) := by decide +kernel
theorem dX11_plain_58 : decode cX11_plain 58 = .ok (.aload_n 0, 1) := by decide +kernel
theorem dX11_plain_59 : decode cX11_plain 59 = .ok (.getfield 35, 3) := by decide +kernel
theorem dX11_plain_62 : decode cX11_plain 62 = .ok (.invokevirtual 136, 3) := by decide +kernel
theorem dX11_plain_65 : decode cX11_plain 65 = .ok (.aload_n 0, 1) := by decide +kernel
theorem dX11_plain_66 : decode cX11_plain 66 = .ok (.getfield 64, 3) := by decide +kernel
theorem dX11_plain_69 : decode cX11_plain 69 = .ok (.invokevirtual 140, 3) := by decide +kernel
theorem dX11_plain_72 : decode cX11_plain 72 = .ok (.aload_n 0, 1) := by decide +kernel
theorem dX11_plain_73 : decode cX11_plain 73 = .ok (.getfield 78, 3) := by decide +kernel
theorem dX11_plain_76 : decode cX11_plain 76 = .ok (.iconst 0, 1) := by decide +kernel
theorem dX11_plain_77 : decode cX11_plain 77 = .ok (.putfield 143, 3) := by decide +kernel
theorem dX11_plain_80 : decode cX11_plain 80 = .ok (.aload_n 0, 1) := by decide +kernel
theorem dX11_plain_81 : decode cX11_plain 81 = .ok (.invokevirtual 146, 3) := by decide +kernel
theorem dX11_plain_84 : decode cX11_plain 84 = .ok (.iload_n 1, 1) := by decide +kernel
theorem dX11_plain_85 : decode cX11_plain 85 = .ok (.ireturn, 1) := by decide +kernel
def wp_X11_plain (sh : Shp) (v0 : Nat) (Q : Int32 → Mem → Prop) (m : Mem) : Prop :=
  Ob sh v0 11 ∧ ∃ b2 : Nat, m.2.2 v0 5 = some b2 ∧ (∃ b4 : Nat, m.2.2 v0 4 = some b4 ∧ (Ob sh b2 6 ∧ wp_X6_readPlain sh b2 b4 (fun r6 m7 => ∃ b9 : Nat, m7.2.2 v0 0 = some b9 ∧ (Ob sh b9 9 ∧ bnd (sI m7 b9 1 (0 : Int32)) (fun m12 => if (m12.1 b9 5) = 0 then (∃ b13 : Nat, m12.2.2 v0 3 = some b13 ∧ (∃ b15 : Nat, m12.2.2 v0 4 = some b15 ∧ (bnd (sR m12 v0 3 (some b15)) (fun m17 => bnd (sR m17 v0 4 (some b13)) (fun m18 => ∃ b19 : Nat, m18.2.2 v0 6 = some b19 ∧ (∃ b21 : Nat, m18.2.2 v0 3 = some b21 ∧ (Ob sh b19 1 ∧ wp_X1_begin sh b19 b21 (fun m24 => ∃ b26 : Nat, m24.2.2 v0 8 = some b26 ∧ (Ob sh b26 3 ∧ wp_X3_forget sh b26 (fun m29 => ∃ b31 : Nat, m29.2.2 v0 10 = some b31 ∧ (Ob sh b31 7 ∧ bnd (sI m29 b31 0 (0 : Int32)) (fun m34 => wp_X11_forgetWays sh v0 (fun m36 => Q r6 m36) m34))) m24)) m18))))))) else (wp_X11_refuse sh v0 (1 : Int32) (fun r37 m38 => Q r37 m38) m12)))) m))
abbrev M_X11_plain : Mi := (cX11_plain, 3, RX11, (Option.some FieldType.int), "plain", 78, 4288, 0, 0)
set_option maxHeartbeats 4000000 in
set_option maxRecDepth 100000 in
theorem c_X11_plain {l : Launch} {G : Gl} {sh : Shp} {v0 : Nat} {Q : Int32 → Mem → Prop} {m : Mem} (h : wp_X11_plain sh v0 Q m) : Cni l G yX11_plain cX11_plain 3 (Option.some FieldType.int) 78 4288 sh [.ref (G.1 + v0)] m Q := by
  refine con_i (ls := [(0, .ref (G.1 + v0))]) (by decide +kernel) rfl (Nat.le_of_ble_eq_true rfl) (fun F => ?_)
  show V G F M_X11_plain sh 0 0 (Zi G F sh Q) 0 [(0, .ref (G.1 + v0))] [] m
  unfold wp_X11_plain at h
  refine v_aload_n 0 0 dX11_plain_0 rfl rfl ?_
  obtain ⟨o1, h⟩ := h
  obtain ⟨b2, e3, h⟩ := h
  refine v_gR 11 5 dX11_plain_1 fg_RX11_47 o1 e3 ?_
  refine v_aload_n 0 0 dX11_plain_4 rfl rfl ?_
  obtain ⟨b4, e5, h⟩ := h
  refine v_gR 11 4 dX11_plain_5 fg_RX11_39 o1 e5 ?_
  obtain ⟨o8, h⟩ := h
  refine v_cVi [.ref _] mv_X6_readPlain ml_RX11_129 ⟨_, _, rfl⟩ o8 rfl rfl (Nat.le_of_ble_eq_true rfl) (Nat.le_of_ble_eq_true rfl) (Nat.le_of_ble_eq_true rfl) (Nat.zero_le _) (Nat.zero_le _) dX11_plain_8 (c_X6_readPlain h) (fun r6 m7 h => ?_)
  refine v_istore_n (ls' := [(1, .int _), (0, .ref _)]) 1 dX11_plain_11 rfl (Nat.le_of_ble_eq_true rfl) rfl ?_
  refine v_aload_n 0 1 dX11_plain_12 rfl rfl ?_
  obtain ⟨b9, e10, h⟩ := h
  refine v_gR 11 0 dX11_plain_13 fg_RX11_12 o1 e10 ?_
  refine v_iconst (0 : Int32) dX11_plain_16 (by decide) ?_
  obtain ⟨o11, h⟩ := h
  refine v_pI 9 1 dX11_plain_17 fw_RX11_117 o11 ?_
  replace h := bnd_e h
  refine v_aload_n 0 1 dX11_plain_20 rfl rfl ?_
  refine v_gR 11 0 dX11_plain_21 fg_RX11_12 o1 e10 ?_
  refine v_gI 9 5 dX11_plain_24 fg_RX11_133 o11 ?_
  refine v_if_eq 36 dX11_plain_27 (by decide) (fun hc => ?_) (fun hc => ?_)
  · replace h := Eq.mp (if_pos hc) h
    refine v_aload_n 0 1 dX11_plain_36 rfl rfl ?_
    obtain ⟨b13, e14, h⟩ := h
    refine v_gR 11 3 dX11_plain_37 fg_RX11_35 o1 e14 ?_
    refine v_astore_n (ls' := [(2, .ref _), (1, .int _), (0, .ref _)]) 2 dX11_plain_40 rfl (Nat.le_of_ble_eq_true rfl) rfl ?_
    refine v_aload_n 0 2 dX11_plain_41 rfl rfl ?_
    refine v_aload_n 0 2 dX11_plain_42 rfl rfl ?_
    obtain ⟨b15, e16, h⟩ := h
    refine v_gR 11 4 dX11_plain_43 fg_RX11_39 o1 e16 ?_
    refine v_pR 11 3 dX11_plain_46 fw_RX11_35 o1 (fun _ => rfl) (fun _ => rfl) ?_
    replace h := bnd_e h
    refine v_aload_n 0 2 dX11_plain_49 rfl rfl ?_
    refine v_aload_n 2 0 dX11_plain_50 rfl rfl ?_
    refine v_pR 11 4 dX11_plain_51 fw_RX11_39 o1 (fun _ => rfl) (fun _ => rfl) ?_
    replace h := bnd_e h
    refine v_aload_n 0 2 dX11_plain_54 rfl rfl ?_
    obtain ⟨b19, e20, h⟩ := h
    refine v_gR 11 6 dX11_plain_55 fg_RX11_54 o1 e20 ?_
    refine v_aload_n 0 2 dX11_plain_58 rfl rfl ?_
    obtain ⟨b21, e22, h⟩ := h
    refine v_gR 11 3 dX11_plain_59 fg_RX11_35 o1 e22 ?_
    obtain ⟨o25, h⟩ := h
    refine v_cVv [.ref _] mv_X1_begin ml_RX11_136 ⟨_, _, rfl⟩ o25 rfl rfl (Nat.le_of_ble_eq_true rfl) (Nat.le_of_ble_eq_true rfl) (Nat.le_of_ble_eq_true rfl) (Nat.zero_le _) (Nat.zero_le _) dX11_plain_62 (c_X1_begin h) (fun m24 h => ?_)
    refine v_aload_n 0 2 dX11_plain_65 rfl rfl ?_
    obtain ⟨b26, e27, h⟩ := h
    refine v_gR 11 8 dX11_plain_66 fg_RX11_64 o1 e27 ?_
    obtain ⟨o30, h⟩ := h
    refine v_cVv [] mv_X3_forget ml_RX11_140 ⟨_, _, rfl⟩ o30 rfl rfl (Nat.le_of_ble_eq_true rfl) (Nat.le_of_ble_eq_true rfl) (Nat.le_of_ble_eq_true rfl) (Nat.zero_le _) (Nat.zero_le _) dX11_plain_69 (c_X3_forget h) (fun m29 h => ?_)
    refine v_aload_n 0 2 dX11_plain_72 rfl rfl ?_
    obtain ⟨b31, e32, h⟩ := h
    refine v_gR 11 10 dX11_plain_73 fg_RX11_78 o1 e32 ?_
    refine v_iconst (0 : Int32) dX11_plain_76 (by decide) ?_
    obtain ⟨o33, h⟩ := h
    refine v_pI 7 0 dX11_plain_77 fw_RX11_143 o33 ?_
    replace h := bnd_e h
    refine v_aload_n 0 2 dX11_plain_80 rfl rfl ?_
    refine v_cVv [] mv_X11_forgetWays ml_RX11_146 ⟨_, _, rfl⟩ o1 rfl rfl (Nat.le_of_ble_eq_true rfl) (Nat.le_of_ble_eq_true rfl) (Nat.le_of_ble_eq_true rfl) (Nat.zero_le _) (Nat.zero_le _) dX11_plain_81 (c_X11_forgetWays h) (fun m36 h => ?_)
    refine v_iload_n 1 1 dX11_plain_84 rfl rfl ?_
    exact v_iret dX11_plain_85 rfl rfl h
  · replace h := Eq.mp (if_neg hc) h
    refine v_aload_n 0 1 dX11_plain_30 rfl rfl ?_
    refine v_iconst (1 : Int32) dX11_plain_31 (by decide) ?_
    refine v_cVi [.int _] mv_X11_refuse ml_RX11_121 ⟨_, _, rfl⟩ o1 rfl rfl (Nat.le_of_ble_eq_true rfl) (Nat.le_of_ble_eq_true rfl) (Nat.le_of_ble_eq_true rfl) (Nat.zero_le _) (Nat.zero_le _) dX11_plain_32 (c_X11_refuse h) (fun r37 m38 h => ?_)
    exact v_iret dX11_plain_35 rfl rfl h
/-! CalledRiver.waterBySets -/
theorem dX11_waterBySets_0 : decode cX11_waterBySets 0 = .ok (.aload_n 0, 1) := by decide +kernel
theorem dX11_waterBySets_1 : decode cX11_waterBySets 1 = .ok (.getfield 58, 3) := by decide +kernel
theorem dX11_waterBySets_4 : decode cX11_waterBySets 4 = .ok (.aload_n 0, 1) := by decide +kernel
theorem dX11_waterBySets_5 : decode cX11_waterBySets 5 = .ok (.getfield 54, 3) := by decide +kernel
theorem dX11_waterBySets_8 : decode cX11_waterBySets 8 = .ok (.invokevirtual 278, 3) := by decide +kernel
theorem dX11_waterBySets_11 : decode cX11_waterBySets 11 = .ok (.iconst 0, 1) := by decide +kernel
theorem dX11_waterBySets_12 : decode cX11_waterBySets 12 = .ok (.istore_n 2, 1) := by decide +kernel
theorem dX11_waterBySets_13 : decode cX11_waterBySets 13 = .ok (.iload_n 2, 1) := by decide +kernel
theorem dX11_waterBySets_14 : decode cX11_waterBySets 14 = .ok (.iconst 1, 1) := by decide +kernel
theorem dX11_waterBySets_15 : decode cX11_waterBySets 15 = .ok (.aload_n 0, 1) := by decide +kernel
theorem dX11_waterBySets_16 : decode cX11_waterBySets 16 = .ok (.getfield 35, 3) := by decide +kernel
theorem dX11_waterBySets_19 : decode cX11_waterBySets 19 = .ok (.getfield 158, 3) := by decide +kernel
theorem dX11_waterBySets_22 : decode cX11_waterBySets 22 = .ok (.ishl, 1) := by decide +kernel
theorem dX11_waterBySets_23 : decode cX11_waterBySets 23 = .ok (.if_icmp .ge 72, 3) := by decide +kernel
theorem dX11_waterBySets_26 : decode cX11_waterBySets 26 = .ok (.iconst 0, 1) := by decide +kernel
theorem dX11_waterBySets_27 : decode cX11_waterBySets 27 = .ok (.istore_n 3, 1) := by decide +kernel
theorem dX11_waterBySets_28 : decode cX11_waterBySets 28 = .ok (.iload_n 3, 1) := by decide +kernel
theorem dX11_waterBySets_29 : decode cX11_waterBySets 29 = .ok (.aload_n 0, 1) := by decide +kernel
theorem dX11_waterBySets_30 : decode cX11_waterBySets 30 = .ok (.getfield 35, 3) := by decide +kernel
theorem dX11_waterBySets_33 : decode cX11_waterBySets 33 = .ok (.getfield 158, 3) := by decide +kernel
theorem dX11_waterBySets_36 : decode cX11_waterBySets 36 = .ok (.if_icmp .ge 24, 3) := by decide +kernel
theorem dX11_waterBySets_39 : decode cX11_waterBySets 39 = .ok (.aload_n 0, 1) := by decide +kernel
theorem dX11_waterBySets_40 : decode cX11_waterBySets 40 = .ok (.getfield 58, 3) := by decide +kernel
theorem dX11_waterBySets_43 : decode cX11_waterBySets 43 = .ok (.getfield 230, 3) := by decide +kernel
theorem dX11_waterBySets_46 : decode cX11_waterBySets 46 = .ok (.iload_n 3, 1) := by decide +kernel
theorem dX11_waterBySets_47 : decode cX11_waterBySets 47 = .ok (.aload_n 0, 1) := by decide +kernel
theorem dX11_waterBySets_48 : decode cX11_waterBySets 48 = .ok (.iload_n 2, 1) := by decide +kernel
theorem dX11_waterBySets_49 : decode cX11_waterBySets 49 = .ok (.iload_n 3, 1) := by decide +kernel
theorem dX11_waterBySets_50 : decode cX11_waterBySets 50 = .ok (.invokevirtual 360, 3) := by decide +kernel
theorem dX11_waterBySets_53 : decode cX11_waterBySets 53 = .ok (.iastore, 1) := by decide +kernel
theorem dX11_waterBySets_54 : decode cX11_waterBySets 54 = .ok (.iinc 3 1, 3) := by decide +kernel
theorem dX11_waterBySets_57 : decode cX11_waterBySets 57 = .ok (.goto (-29), 3) := by decide +kernel
theorem dX11_waterBySets_60 : decode cX11_waterBySets 60 = .ok (.aload_n 0, 1) := by decide +kernel
theorem dX11_waterBySets_61 : decode cX11_waterBySets 61 = .ok (.getfield 89, 3) := by decide +kernel
theorem dX11_waterBySets_64 : decode cX11_waterBySets 64 = .ok (.aload_n 0, 1) := by decide +kernel
theorem dX11_waterBySets_65 : decode cX11_waterBySets 65 = .ok (.getfield 35, 3) := by decide +kernel
theorem dX11_waterBySets_68 : decode cX11_waterBySets 68 = .ok (.aload_n 0, 1) := by decide +kernel
theorem dX11_waterBySets_69 : decode cX11_waterBySets 69 = .ok (.getfield 58, 3) := by decide +kernel
theorem dX11_waterBySets_72 : decode cX11_waterBySets 72 = .ok (.iload_n 1, 1) := by decide +kernel
theorem dX11_waterBySets_73 : decode cX11_waterBySets 73 = .ok (.invokevirtual 282, 3) := by decide +kernel
theorem dX11_waterBySets_76 : decode cX11_waterBySets 76 = .ok (.aload_n 0, 1) := by decide +kernel
theorem dX11_waterBySets_77 : decode cX11_waterBySets 77 = .ok (.getfield 100, 3) := by decide +kernel
theorem dX11_waterBySets_80 : decode cX11_waterBySets 80 = .ok (.iload_n 2, 1) := by decide +kernel
theorem dX11_waterBySets_81 : decode cX11_waterBySets 81 = .ok (.aload_n 0, 1) := by decide +kernel
theorem dX11_waterBySets_82 : decode cX11_waterBySets 82 = .ok (.getfield 89, 3) := by decide +kernel
theorem dX11_waterBySets_85 : decode cX11_waterBySets 85 = .ok (.getfield 259, 3) := by decide +kernel
theorem dX11_waterBySets_88 : decode cX11_waterBySets 88 = .ok (.iastore, 1) := by decide +kernel
theorem dX11_waterBySets_89 : decode cX11_waterBySets 89 = .ok (.iinc 2 1, 3) := by decide +kernel
theorem dX11_waterBySets_92 : decode cX11_waterBySets 92 = .ok (.goto (-79), 3) := by decide +kernel
theorem dX11_waterBySets_95 : decode cX11_waterBySets 95 = .ok (.return_, 1) := by decide +kernel
def X11_waterBySets_p28b (sh : Shp) (v0 : Nat) (v1 : Int32) (v2 : Int32) (Q : Mem → Prop) (K13 : Int32 → Mem → Prop) (K28 : Int32 → Mem → Prop) (v3 : Int32) (m : Mem) : Prop :=
  Ob sh v0 11 ∧ ∃ b14 : Nat, m.2.2 v0 3 = some b14 ∧ (Ob sh b14 5 ∧ (if (m.1 b14 3) ≤ v3 then (∃ b17 : Nat, m.2.2 v0 12 = some b17 ∧ (∃ b19 : Nat, m.2.2 v0 7 = some b19 ∧ (Ob sh b17 10 ∧ wp_X10_lead sh b17 b14 b19 v1 (fun m22 => ∃ b24 : Nat, m22.2.2 v0 15 = some b24 ∧ (∃ b26 : Nat, m22.2.2 v0 12 = some b26 ∧ (Ob sh b26 10 ∧ (Ix sh b24 100 v2 ∧ bnd (sI m22 b24 v2.toNatClampNeg (m22.1 b26 4)) (fun m30 => K13 (v2 + (1 : Int32)) m30))))) m))) else (∃ b31 : Nat, m.2.2 v0 7 = some b31 ∧ (Ob sh b31 1 ∧ ∃ b34 : Nat, m.2.2 b31 5 = some b34 ∧ (wp_X11_pieIn sh v0 v2 v3 (fun r36 m37 => Ix sh b34 100 v3 ∧ bnd (sI m37 b34 v3.toNatClampNeg r36) (fun m39 => K28 (v3 + (1 : Int32)) m39)) m)))))
def X11_waterBySets_p28n (sh : Shp) (v0 : Nat) (v1 : Int32) (v2 : Int32) (Q : Mem → Prop) (K13 : Int32 → Mem → Prop) : Nat → Int32 → Mem → Prop
  | 0 => fun _ _ => False
  | n + 1 => X11_waterBySets_p28b sh v0 v1 v2 Q K13 (X11_waterBySets_p28n sh v0 v1 v2 Q K13 n)
def X11_waterBySets_p28 (sh : Shp) (v0 : Nat) (v1 : Int32) (v2 : Int32) (Q : Mem → Prop) (K13 : Int32 → Mem → Prop) (v3 : Int32) (m : Mem) : Prop := ∃ n, X11_waterBySets_p28n sh v0 v1 v2 Q K13 n v3 m
def X11_waterBySets_p13b (sh : Shp) (v0 : Nat) (v1 : Int32) (Q : Mem → Prop) (K13 : Int32 → Mem → Prop) (v2 : Int32) (m : Mem) : Prop :=
  Ob sh v0 11 ∧ ∃ b10 : Nat, m.2.2 v0 3 = some b10 ∧ (Ob sh b10 5 ∧ (if ((1 : Int32) <<< ((m.1 b10 3) &&& 31)) ≤ v2 then (Q m) else (X11_waterBySets_p28 sh v0 v1 v2 Q K13 (0 : Int32) m)))
def X11_waterBySets_p13n (sh : Shp) (v0 : Nat) (v1 : Int32) (Q : Mem → Prop) : Nat → Int32 → Mem → Prop
  | 0 => fun _ _ => False
  | n + 1 => X11_waterBySets_p13b sh v0 v1 Q (X11_waterBySets_p13n sh v0 v1 Q n)
def X11_waterBySets_p13 (sh : Shp) (v0 : Nat) (v1 : Int32) (Q : Mem → Prop) (v2 : Int32) (m : Mem) : Prop := ∃ n, X11_waterBySets_p13n sh v0 v1 Q n v2 m
def wp_X11_waterBySets (sh : Shp) (v0 : Nat) (v1 : Int32) (Q : Mem → Prop) (m : Mem) : Prop :=
  Ob sh v0 11 ∧ ∃ b2 : Nat, m.2.2 v0 7 = some b2 ∧ (∃ b4 : Nat, m.2.2 v0 6 = some b4 ∧ (Ob sh b2 1 ∧ wp_X1_copy sh b2 b4 (fun m7 => X11_waterBySets_p13 sh v0 v1 Q (0 : Int32) m7) m))
abbrev M_X11_waterBySets : Mi := (cX11_waterBySets, 4, RX11, (none : Option FieldType), "waterBySets", 6, 187, 0, 0)
set_option maxHeartbeats 4000000 in
set_option maxRecDepth 100000 in
theorem v_X11_waterBySets_p28b {G : Gl} {F : Fr} {sh : Shp} {v0 : Nat} {v1 : Int32} {v2 : Int32} {v3 : Int32} {Q : Mem → Prop} {K13 : Int32 → Mem → Prop} {K28 : Int32 → Mem → Prop} {m : Mem} (hK13 : ∀ (x2 : Int32) (m : Mem), K13 x2 m → V G F M_X11_waterBySets sh 0 0 (Zv G F sh Q) 13 [(0, .ref (G.1 + v0)), (1, .int v1), (2, .int x2)] [] m) (hK28 : ∀ (x3 : Int32) (m : Mem), K28 x3 m → V G F M_X11_waterBySets sh 0 0 (Zv G F sh Q) 28 [(0, .ref (G.1 + v0)), (1, .int v1), (2, .int v2), (3, .int x3)] [] m) (h : X11_waterBySets_p28b sh v0 v1 v2 Q K13 K28 v3 m) : V G F M_X11_waterBySets sh 0 0 (Zv G F sh Q) 28 [(0, .ref (G.1 + v0)), (1, .int v1), (2, .int v2), (3, .int v3)] [] m := by
  unfold X11_waterBySets_p28b at h
  refine v_iload_n 3 3 dX11_waterBySets_28 rfl rfl ?_
  refine v_aload_n 0 0 dX11_waterBySets_29 rfl rfl ?_
  obtain ⟨o13, h⟩ := h
  obtain ⟨b14, e15, h⟩ := h
  refine v_gR 11 3 dX11_waterBySets_30 fg_RX11_35 o13 e15 ?_
  obtain ⟨o16, h⟩ := h
  refine v_gI 5 3 dX11_waterBySets_33 fg_RX11_158 o16 ?_
  refine v_icmp_ge 60 dX11_waterBySets_36 (by decide) (fun hc => ?_) (fun hc => ?_)
  · replace h := Eq.mp (if_pos hc) h
    refine v_aload_n 0 0 dX11_waterBySets_60 rfl rfl ?_
    obtain ⟨b17, e18, h⟩ := h
    refine v_gR 11 12 dX11_waterBySets_61 fg_RX11_89 o13 e18 ?_
    refine v_aload_n 0 0 dX11_waterBySets_64 rfl rfl ?_
    refine v_gR 11 3 dX11_waterBySets_65 fg_RX11_35 o13 e15 ?_
    refine v_aload_n 0 0 dX11_waterBySets_68 rfl rfl ?_
    obtain ⟨b19, e20, h⟩ := h
    refine v_gR 11 7 dX11_waterBySets_69 fg_RX11_58 o13 e20 ?_
    refine v_iload_n 1 1 dX11_waterBySets_72 rfl rfl ?_
    obtain ⟨o23, h⟩ := h
    refine v_cVv [.ref _, .ref _, .int _] mv_X10_lead ml_RX11_282 ⟨_, _, rfl⟩ o23 rfl rfl (Nat.le_of_ble_eq_true rfl) (Nat.le_of_ble_eq_true rfl) (Nat.le_of_ble_eq_true rfl) (Nat.zero_le _) (Nat.zero_le _) dX11_waterBySets_73 (c_X10_lead h) (fun m22 h => ?_)
    refine v_aload_n 0 0 dX11_waterBySets_76 rfl rfl ?_
    obtain ⟨b24, e25, h⟩ := h
    refine v_gR 11 15 dX11_waterBySets_77 fg_RX11_100 o13 e25 ?_
    refine v_iload_n 2 2 dX11_waterBySets_80 rfl rfl ?_
    refine v_aload_n 0 0 dX11_waterBySets_81 rfl rfl ?_
    obtain ⟨b26, e27, h⟩ := h
    refine v_gR 11 12 dX11_waterBySets_82 fg_RX11_89 o13 e27 ?_
    obtain ⟨o28, h⟩ := h
    refine v_gI 10 4 dX11_waterBySets_85 fg_RX11_259 o28 ?_
    obtain ⟨i29, h⟩ := h
    refine v_iast dX11_waterBySets_88 i29 ?_
    replace h := bnd_e h
    refine v_iinc (ls' := [(2, .int _), (0, .ref _), (1, .int _), (3, .int _)]) 2 2 dX11_waterBySets_89 rfl (congrArg (HAdd.hAdd _) (by decide : Int32.ofInt (1) = (1 : Int32))) (Nat.le_of_ble_eq_true rfl) rfl ?_
    refine v_goto 13 dX11_waterBySets_92 (by decide) ?_
    refine v_sub [1, 2, 0] rfl ?_
    exact hK13 _ _ h
  · replace h := Eq.mp (if_neg hc) h
    refine v_aload_n 0 0 dX11_waterBySets_39 rfl rfl ?_
    obtain ⟨b31, e32, h⟩ := h
    refine v_gR 11 7 dX11_waterBySets_40 fg_RX11_58 o13 e32 ?_
    obtain ⟨o33, h⟩ := h
    obtain ⟨b34, e35, h⟩ := h
    refine v_gR 1 5 dX11_waterBySets_43 fg_RX11_230 o33 e35 ?_
    refine v_iload_n 3 3 dX11_waterBySets_46 rfl rfl ?_
    refine v_aload_n 0 0 dX11_waterBySets_47 rfl rfl ?_
    refine v_iload_n 2 2 dX11_waterBySets_48 rfl rfl ?_
    refine v_iload_n 3 3 dX11_waterBySets_49 rfl rfl ?_
    refine v_cVi [.int _, .int _] mv_X11_pieIn ml_RX11_360 ⟨_, _, rfl⟩ o13 rfl rfl (Nat.le_of_ble_eq_true rfl) (Nat.le_of_ble_eq_true rfl) (Nat.le_of_ble_eq_true rfl) (Nat.zero_le _) (Nat.zero_le _) dX11_waterBySets_50 (c_X11_pieIn h) (fun r36 m37 h => ?_)
    obtain ⟨i38, h⟩ := h
    refine v_iast dX11_waterBySets_53 i38 ?_
    replace h := bnd_e h
    refine v_iinc (ls' := [(3, .int _), (0, .ref _), (1, .int _), (2, .int _)]) 3 3 dX11_waterBySets_54 rfl (congrArg (HAdd.hAdd _) (by decide : Int32.ofInt (1) = (1 : Int32))) (Nat.le_of_ble_eq_true rfl) rfl ?_
    refine v_goto 28 dX11_waterBySets_57 (by decide) ?_
    refine v_sub [1, 2, 3, 0] rfl ?_
    exact hK28 _ _ h
set_option maxHeartbeats 4000000 in
set_option maxRecDepth 100000 in
theorem v_X11_waterBySets_p28 {G : Gl} {F : Fr} {sh : Shp} {v0 : Nat} {v1 : Int32} {v2 : Int32} {v3 : Int32} {Q : Mem → Prop} {K13 : Int32 → Mem → Prop} {m : Mem} (hK13 : ∀ (x2 : Int32) (m : Mem), K13 x2 m → V G F M_X11_waterBySets sh 0 0 (Zv G F sh Q) 13 [(0, .ref (G.1 + v0)), (1, .int v1), (2, .int x2)] [] m) (h : X11_waterBySets_p28 sh v0 v1 v2 Q K13 v3 m) : V G F M_X11_waterBySets sh 0 0 (Zv G F sh Q) 28 [(0, .ref (G.1 + v0)), (1, .int v1), (2, .int v2), (3, .int v3)] [] m := by
  obtain ⟨n, h⟩ := h
  induction n generalizing v3 m with
  | zero => exact h.elim
  | succ n ih => exact v_X11_waterBySets_p28b hK13 (fun _ _ h => ih h) h
set_option maxHeartbeats 4000000 in
set_option maxRecDepth 100000 in
theorem v_X11_waterBySets_p13b {G : Gl} {F : Fr} {sh : Shp} {v0 : Nat} {v1 : Int32} {v2 : Int32} {Q : Mem → Prop} {K13 : Int32 → Mem → Prop} {m : Mem} (hK13 : ∀ (x2 : Int32) (m : Mem), K13 x2 m → V G F M_X11_waterBySets sh 0 0 (Zv G F sh Q) 13 [(0, .ref (G.1 + v0)), (1, .int v1), (2, .int x2)] [] m) (h : X11_waterBySets_p13b sh v0 v1 Q K13 v2 m) : V G F M_X11_waterBySets sh 0 0 (Zv G F sh Q) 13 [(0, .ref (G.1 + v0)), (1, .int v1), (2, .int v2)] [] m := by
  unfold X11_waterBySets_p13b at h
  refine v_iload_n 2 2 dX11_waterBySets_13 rfl rfl ?_
  refine v_iconst (1 : Int32) dX11_waterBySets_14 (by decide) ?_
  refine v_aload_n 0 0 dX11_waterBySets_15 rfl rfl ?_
  obtain ⟨o9, h⟩ := h
  obtain ⟨b10, e11, h⟩ := h
  refine v_gR 11 3 dX11_waterBySets_16 fg_RX11_35 o9 e11 ?_
  obtain ⟨o12, h⟩ := h
  refine v_gI 5 3 dX11_waterBySets_19 fg_RX11_158 o12 ?_
  refine v_ishl dX11_waterBySets_22 ?_
  refine v_icmp_ge 95 dX11_waterBySets_23 (by decide) (fun hc => ?_) (fun hc => ?_)
  · replace h := Eq.mp (if_pos hc) h
    exact v_vret dX11_waterBySets_95 rfl h
  · replace h := Eq.mp (if_neg hc) h
    refine v_iconst (0 : Int32) dX11_waterBySets_26 (by decide) ?_
    refine v_istore_n (ls' := [(3, .int _), (0, .ref _), (1, .int _), (2, .int _)]) 3 dX11_waterBySets_27 rfl (Nat.le_of_ble_eq_true rfl) rfl ?_
    refine v_sub [1, 2, 3, 0] rfl ?_
    exact v_X11_waterBySets_p28 hK13 h
set_option maxHeartbeats 4000000 in
set_option maxRecDepth 100000 in
theorem v_X11_waterBySets_p13 {G : Gl} {F : Fr} {sh : Shp} {v0 : Nat} {v1 : Int32} {v2 : Int32} {Q : Mem → Prop} {m : Mem} (h : X11_waterBySets_p13 sh v0 v1 Q v2 m) : V G F M_X11_waterBySets sh 0 0 (Zv G F sh Q) 13 [(0, .ref (G.1 + v0)), (1, .int v1), (2, .int v2)] [] m := by
  obtain ⟨n, h⟩ := h
  induction n generalizing v2 m with
  | zero => exact h.elim
  | succ n ih => exact v_X11_waterBySets_p13b (fun _ _ h => ih h) h
set_option maxHeartbeats 4000000 in
set_option maxRecDepth 100000 in
theorem c_X11_waterBySets {l : Launch} {G : Gl} {sh : Shp} {v0 : Nat} {v1 : Int32} {Q : Mem → Prop} {m : Mem} (h : wp_X11_waterBySets sh v0 v1 Q m) : Cnv l G yX11_waterBySets cX11_waterBySets 4 (none : Option FieldType) 6 187 sh [.ref (G.1 + v0), .int v1] m Q := by
  refine con_v (ls := [(0, .ref (G.1 + v0)), (1, .int v1)]) (by decide +kernel) rfl (Nat.le_of_ble_eq_true rfl) (fun F => ?_)
  show V G F M_X11_waterBySets sh 0 0 (Zv G F sh Q) 0 [(0, .ref (G.1 + v0)), (1, .int v1)] [] m
  unfold wp_X11_waterBySets at h
  refine v_aload_n 0 0 dX11_waterBySets_0 rfl rfl ?_
  obtain ⟨o1, h⟩ := h
  obtain ⟨b2, e3, h⟩ := h
  refine v_gR 11 7 dX11_waterBySets_1 fg_RX11_58 o1 e3 ?_
  refine v_aload_n 0 0 dX11_waterBySets_4 rfl rfl ?_
  obtain ⟨b4, e5, h⟩ := h
  refine v_gR 11 6 dX11_waterBySets_5 fg_RX11_54 o1 e5 ?_
  obtain ⟨o8, h⟩ := h
  refine v_cVv [.ref _] mv_X1_copy ml_RX11_278 ⟨_, _, rfl⟩ o8 rfl rfl (Nat.le_of_ble_eq_true rfl) (Nat.le_of_ble_eq_true rfl) (Nat.le_of_ble_eq_true rfl) (Nat.zero_le _) (Nat.zero_le _) dX11_waterBySets_8 (c_X1_copy h) (fun m7 h => ?_)
  refine v_iconst (0 : Int32) dX11_waterBySets_11 (by decide) ?_
  refine v_istore_n (ls' := [(2, .int _), (0, .ref _), (1, .int _)]) 2 dX11_waterBySets_12 rfl (Nat.le_of_ble_eq_true rfl) rfl ?_
  refine v_sub [1, 2, 0] rfl ?_
  exact v_X11_waterBySets_p13 h
/-! CalledRiver.rest -/
theorem dX11_rest_0 : decode cX11_rest 0 = .ok (.aload_n 0, 1) := by decide +kernel
theorem dX11_rest_1 : decode cX11_rest 1 = .ok (.iload_n 1, 1) := by decide +kernel
theorem dX11_rest_2 : decode cX11_rest 2 = .ok (.invokevirtual 242, 3) := by decide +kernel
theorem dX11_rest_5 : decode cX11_rest 5 = .ok (.getfield 252, 3) := by decide +kernel
theorem dX11_rest_8 : decode cX11_rest 8 = .ok (.iconst (-1), 1) := by decide +kernel
theorem dX11_rest_9 : decode cX11_rest 9 = .ok (.if_icmp .ne 5, 3) := by decide +kernel
theorem dX11_rest_12 : decode cX11_rest 12 = .ok (.iconst (-1), 1) := by decide +kernel
theorem dX11_rest_13 : decode cX11_rest 13 = .ok (.ireturn, 1) := by decide +kernel
theorem dX11_rest_14 : decode cX11_rest 14 = .ok (.aload_n 0, 1) := by decide +kernel
theorem dX11_rest_15 : decode cX11_rest 15 = .ok (.iload_n 1, 1) := by decide +kernel
theorem dX11_rest_16 : decode cX11_rest 16 = .ok (.invokevirtual 289, 3) := by decide +kernel
theorem dX11_rest_19 : decode cX11_rest 19 = .ok (.iconst (-1), 1) := by decide +kernel
theorem dX11_rest_20 : decode cX11_rest 20 = .ok (.istore_n 2, 1) := by decide +kernel
theorem dX11_rest_21 : decode cX11_rest 21 = .ok (.iconst 0, 1) := by decide +kernel
theorem dX11_rest_22 : decode cX11_rest 22 = .ok (.istore_n 3, 1) := by decide +kernel
theorem dX11_rest_23 : decode cX11_rest 23 = .ok (.iload_n 3, 1) := by decide +kernel
theorem dX11_rest_24 : decode cX11_rest 24 = .ok (.iconst 1, 1) := by decide +kernel
theorem dX11_rest_25 : decode cX11_rest 25 = .ok (.aload_n 0, 1) := by decide +kernel
theorem dX11_rest_26 : decode cX11_rest 26 = .ok (.getfield 35, 3) := by decide +kernel
theorem dX11_rest_29 : decode cX11_rest 29 = .ok (.getfield 158, 3) := by decide +kernel
theorem dX11_rest_32 : decode cX11_rest 32 = .ok (.ishl, 1) := by decide +kernel
theorem dX11_rest_33 : decode cX11_rest 33 = .ok (.if_icmp .ge 47, 3) := by decide +kernel
theorem dX11_rest_36 : decode cX11_rest 36 = .ok (.iload_n 2, 1) := by decide +kernel
theorem dX11_rest_37 : decode cX11_rest 37 = .ok (.iconst (-1), 1) := by decide +kernel
theorem dX11_rest_38 : decode cX11_rest 38 = .ok (.if_icmp .eq 14, 3) := by decide +kernel
theorem dX11_rest_41 : decode cX11_rest 41 = .ok (.iload_n 3, 1) := by decide +kernel
theorem dX11_rest_42 : decode cX11_rest 42 = .ok (.invokestatic 273, 3) := by decide +kernel
theorem dX11_rest_45 : decode cX11_rest 45 = .ok (.iload_n 2, 1) := by decide +kernel
theorem dX11_rest_46 : decode cX11_rest 46 = .ok (.invokestatic 273, 3) := by decide +kernel
theorem dX11_rest_49 : decode cX11_rest 49 = .ok (.if_icmp .le 7, 3) := by decide +kernel
theorem dX11_rest_52 : decode cX11_rest 52 = .ok (.iconst 1, 1) := by decide +kernel
theorem dX11_rest_53 : decode cX11_rest 53 = .ok (.goto 4, 3) := by decide +kernel
theorem dX11_rest_56 : decode cX11_rest 56 = .ok (.iconst 0, 1) := by decide +kernel
theorem dX11_rest_57 : decode cX11_rest 57 = .ok (.istore 4, 2) := by decide +kernel
theorem dX11_rest_59 : decode cX11_rest 59 = .ok (.iload 4, 2) := by decide +kernel
theorem dX11_rest_61 : decode cX11_rest 61 = .ok (.ifCond .eq 13, 3) := by decide +kernel
theorem dX11_rest_64 : decode cX11_rest 64 = .ok (.aload_n 0, 1) := by decide +kernel
theorem dX11_rest_65 : decode cX11_rest 65 = .ok (.iload_n 3, 1) := by decide +kernel
theorem dX11_rest_66 : decode cX11_rest 66 = .ok (.invokevirtual 292, 3) := by decide +kernel
theorem dX11_rest_69 : decode cX11_rest 69 = .ok (.ifCond .eq 5, 3) := by decide +kernel
theorem dX11_rest_72 : decode cX11_rest 72 = .ok (.iload_n 3, 1) := by decide +kernel
theorem dX11_rest_73 : decode cX11_rest 73 = .ok (.istore_n 2, 1) := by decide +kernel
theorem dX11_rest_74 : decode cX11_rest 74 = .ok (.iinc 3 1, 3) := by decide +kernel
theorem dX11_rest_77 : decode cX11_rest 77 = .ok (.goto (-54), 3) := by decide +kernel
theorem dX11_rest_80 : decode cX11_rest 80 = .ok (.iload_n 2, 1) := by decide +kernel
theorem dX11_rest_81 : decode cX11_rest 81 = .ok (.ireturn, 1) := by decide +kernel
def X11_rest_p74 (sh : Shp) (v0 : Nat) (v2 : Int32) (v3 : Int32) (Q : Int32 → Mem → Prop) (K23 : Int32 → Int32 → Mem → Prop) (m : Mem) : Prop :=
  K23 v2 (v3 + (1 : Int32)) m
def X11_rest_p57 (sh : Shp) (v0 : Nat) (v2 : Int32) (v3 : Int32) (s0 : Int32) (Q : Int32 → Mem → Prop) (K23 : Int32 → Int32 → Mem → Prop) (m : Mem) : Prop :=
  if s0 = 0 then (X11_rest_p74 sh v0 v2 v3 Q K23 m) else (Ob sh v0 11 ∧ wp_X11_isAtRest sh v0 v3 (fun r15 m16 => if r15 = 0 then (X11_rest_p74 sh v0 v2 v3 Q K23 m16) else (X11_rest_p74 sh v0 v3 v3 Q K23 m16)) m)
def X11_rest_p52 (sh : Shp) (v0 : Nat) (v2 : Int32) (v3 : Int32) (Q : Int32 → Mem → Prop) (K23 : Int32 → Int32 → Mem → Prop) (m : Mem) : Prop :=
  X11_rest_p57 sh v0 v2 v3 (1 : Int32) Q K23 m
def X11_rest_p23b (sh : Shp) (v0 : Nat) (Q : Int32 → Mem → Prop) (K23 : Int32 → Int32 → Mem → Prop) (v2 : Int32) (v3 : Int32) (m : Mem) : Prop :=
  Ob sh v0 11 ∧ ∃ b8 : Nat, m.2.2 v0 3 = some b8 ∧ (Ob sh b8 5 ∧ (if ((1 : Int32) <<< ((m.1 b8 3) &&& 31)) ≤ v3 then (Q v2 m) else (if v2 = (-1 : Int32) then (X11_rest_p52 sh v0 v2 v3 Q K23 m) else (wp_J6_bitCount_0f7a4 sh v3 (fun r11 m12 => wp_J6_bitCount_0f7a4 sh v2 (fun r13 m14 => if r11 ≤ r13 then (X11_rest_p57 sh v0 v2 v3 (0 : Int32) Q K23 m14) else (X11_rest_p52 sh v0 v2 v3 Q K23 m14)) m12) m))))
def X11_rest_p23n (sh : Shp) (v0 : Nat) (Q : Int32 → Mem → Prop) : Nat → Int32 → Int32 → Mem → Prop
  | 0 => fun _ _ _ => False
  | n + 1 => X11_rest_p23b sh v0 Q (X11_rest_p23n sh v0 Q n)
def X11_rest_p23 (sh : Shp) (v0 : Nat) (Q : Int32 → Mem → Prop) (v2 : Int32) (v3 : Int32) (m : Mem) : Prop := ∃ n, X11_rest_p23n sh v0 Q n v2 v3 m
def wp_X11_rest (sh : Shp) (v0 : Nat) (v1 : Int32) (Q : Int32 → Mem → Prop) (m : Mem) : Prop :=
  Ob sh v0 11 ∧ wp_X11_wayOf sh v0 v1 (fun r1 m2 => Ob sh r1 10 ∧ (if (m2.1 r1 2) = (-1 : Int32) then (Q (-1 : Int32) m2) else (wp_X11_waterBySets sh v0 v1 (fun m6 => X11_rest_p23 sh v0 Q (-1 : Int32) (0 : Int32) m6) m2))) m
abbrev M_X11_rest : Mi := (cX11_rest, 5, RX11, (Option.some FieldType.int), "rest", 7, 210, 0, 0)
set_option maxHeartbeats 4000000 in
set_option maxRecDepth 100000 in
theorem v_X11_rest_p74 {G : Gl} {F : Fr} {sh : Shp} {v0 : Nat} {v2 : Int32} {v3 : Int32} {Q : Int32 → Mem → Prop} {K23 : Int32 → Int32 → Mem → Prop} {m : Mem} (hK23 : ∀ (x2 : Int32) (x3 : Int32) (m : Mem), K23 x2 x3 m → V G F M_X11_rest sh 0 0 (Zi G F sh Q) 23 [(0, .ref (G.1 + v0)), (2, .int x2), (3, .int x3)] [] m) (h : X11_rest_p74 sh v0 v2 v3 Q K23 m) : V G F M_X11_rest sh 0 0 (Zi G F sh Q) 74 [(0, .ref (G.1 + v0)), (2, .int v2), (3, .int v3)] [] m := by
  unfold X11_rest_p74 at h
  refine v_iinc (ls' := [(3, .int _), (0, .ref _), (2, .int _)]) 3 2 dX11_rest_74 rfl (congrArg (HAdd.hAdd _) (by decide : Int32.ofInt (1) = (1 : Int32))) (Nat.le_of_ble_eq_true rfl) rfl ?_
  refine v_goto 23 dX11_rest_77 (by decide) ?_
  refine v_sub [1, 2, 0] rfl ?_
  exact hK23 _ _ _ h
set_option maxHeartbeats 4000000 in
set_option maxRecDepth 100000 in
theorem v_X11_rest_p57 {G : Gl} {F : Fr} {sh : Shp} {v0 : Nat} {v2 : Int32} {v3 : Int32} {s0 : Int32} {Q : Int32 → Mem → Prop} {K23 : Int32 → Int32 → Mem → Prop} {m : Mem} (hK23 : ∀ (x2 : Int32) (x3 : Int32) (m : Mem), K23 x2 x3 m → V G F M_X11_rest sh 0 0 (Zi G F sh Q) 23 [(0, .ref (G.1 + v0)), (2, .int x2), (3, .int x3)] [] m) (h : X11_rest_p57 sh v0 v2 v3 s0 Q K23 m) : V G F M_X11_rest sh 0 0 (Zi G F sh Q) 57 [(0, .ref (G.1 + v0)), (2, .int v2), (3, .int v3)] [.int s0] m := by
  unfold X11_rest_p57 at h
  refine v_istore (ls' := [(4, .int _), (0, .ref _), (2, .int _), (3, .int _)]) 4 dX11_rest_57 (Nat.le_of_ble_eq_true rfl) rfl ?_
  refine v_iload 4 0 dX11_rest_59 rfl ?_
  refine v_if_eq 74 dX11_rest_61 (by decide) (fun hc => ?_) (fun hc => ?_)
  · replace h := Eq.mp (if_pos hc) h
    refine v_sub [1, 2, 3] rfl ?_
    exact v_X11_rest_p74 hK23 h
  · replace h := Eq.mp (if_neg hc) h
    refine v_aload_n 0 1 dX11_rest_64 rfl rfl ?_
    refine v_iload_n 3 3 dX11_rest_65 rfl rfl ?_
    obtain ⟨o17, h⟩ := h
    refine v_cVi [.int _] mv_X11_isAtRest ml_RX11_292 ⟨_, _, rfl⟩ o17 rfl rfl (Nat.le_of_ble_eq_true rfl) (Nat.le_of_ble_eq_true rfl) (Nat.le_of_ble_eq_true rfl) (Nat.zero_le _) (Nat.zero_le _) dX11_rest_66 (c_X11_isAtRest h) (fun r15 m16 h => ?_)
    refine v_if_eq 74 dX11_rest_69 (by decide) (fun hc => ?_) (fun hc => ?_)
    · replace h := Eq.mp (if_pos hc) h
      refine v_sub [1, 2, 3] rfl ?_
      exact v_X11_rest_p74 hK23 h
    · replace h := Eq.mp (if_neg hc) h
      refine v_iload_n 3 3 dX11_rest_72 rfl rfl ?_
      refine v_istore_n (ls' := [(2, .int _), (4, .int _), (0, .ref _), (3, .int _)]) 2 dX11_rest_73 rfl (Nat.le_of_ble_eq_true rfl) rfl ?_
      refine v_sub [2, 0, 3] rfl ?_
      exact v_X11_rest_p74 hK23 h
set_option maxHeartbeats 4000000 in
set_option maxRecDepth 100000 in
theorem v_X11_rest_p52 {G : Gl} {F : Fr} {sh : Shp} {v0 : Nat} {v2 : Int32} {v3 : Int32} {Q : Int32 → Mem → Prop} {K23 : Int32 → Int32 → Mem → Prop} {m : Mem} (hK23 : ∀ (x2 : Int32) (x3 : Int32) (m : Mem), K23 x2 x3 m → V G F M_X11_rest sh 0 0 (Zi G F sh Q) 23 [(0, .ref (G.1 + v0)), (2, .int x2), (3, .int x3)] [] m) (h : X11_rest_p52 sh v0 v2 v3 Q K23 m) : V G F M_X11_rest sh 0 0 (Zi G F sh Q) 52 [(0, .ref (G.1 + v0)), (2, .int v2), (3, .int v3)] [] m := by
  unfold X11_rest_p52 at h
  refine v_iconst (1 : Int32) dX11_rest_52 (by decide) ?_
  refine v_goto 57 dX11_rest_53 (by decide) ?_
  refine v_sub [0, 1, 2] rfl ?_
  exact v_X11_rest_p57 hK23 h
set_option maxHeartbeats 4000000 in
set_option maxRecDepth 100000 in
theorem v_X11_rest_p23b {G : Gl} {F : Fr} {sh : Shp} {v0 : Nat} {v2 : Int32} {v3 : Int32} {Q : Int32 → Mem → Prop} {K23 : Int32 → Int32 → Mem → Prop} {m : Mem} (hK23 : ∀ (x2 : Int32) (x3 : Int32) (m : Mem), K23 x2 x3 m → V G F M_X11_rest sh 0 0 (Zi G F sh Q) 23 [(0, .ref (G.1 + v0)), (2, .int x2), (3, .int x3)] [] m) (h : X11_rest_p23b sh v0 Q K23 v2 v3 m) : V G F M_X11_rest sh 0 0 (Zi G F sh Q) 23 [(0, .ref (G.1 + v0)), (2, .int v2), (3, .int v3)] [] m := by
  unfold X11_rest_p23b at h
  refine v_iload_n 3 2 dX11_rest_23 rfl rfl ?_
  refine v_iconst (1 : Int32) dX11_rest_24 (by decide) ?_
  refine v_aload_n 0 0 dX11_rest_25 rfl rfl ?_
  obtain ⟨o7, h⟩ := h
  obtain ⟨b8, e9, h⟩ := h
  refine v_gR 11 3 dX11_rest_26 fg_RX11_35 o7 e9 ?_
  obtain ⟨o10, h⟩ := h
  refine v_gI 5 3 dX11_rest_29 fg_RX11_158 o10 ?_
  refine v_ishl dX11_rest_32 ?_
  refine v_icmp_ge 80 dX11_rest_33 (by decide) (fun hc => ?_) (fun hc => ?_)
  · replace h := Eq.mp (if_pos hc) h
    refine v_iload_n 2 1 dX11_rest_80 rfl rfl ?_
    exact v_iret dX11_rest_81 rfl rfl h
  · replace h := Eq.mp (if_neg hc) h
    refine v_iload_n 2 1 dX11_rest_36 rfl rfl ?_
    refine v_iconst (-1 : Int32) dX11_rest_37 (by decide) ?_
    refine v_icmp_eq 52 dX11_rest_38 (by decide) (fun hc => ?_) (fun hc => ?_)
    · replace h := Eq.mp (if_pos hc) h
      refine v_sub [0, 1, 2] rfl ?_
      exact v_X11_rest_p52 hK23 h
    · replace h := Eq.mp (if_neg hc) h
      refine v_iload_n 3 2 dX11_rest_41 rfl rfl ?_
      refine v_cSi [.int _] mv_J6_bitCount_0f7a4 ml_RX11_273 rfl rfl (Nat.le_of_ble_eq_true rfl) (Nat.le_of_ble_eq_true rfl) (Nat.le_of_ble_eq_true rfl) (Nat.zero_le _) (Nat.zero_le _) dX11_rest_42 (c_J6_bitCount_0f7a4 h) (fun r11 m12 h => ?_)
      refine v_iload_n 2 1 dX11_rest_45 rfl rfl ?_
      refine v_cSi [.int _] mv_J6_bitCount_0f7a4 ml_RX11_273 rfl rfl (Nat.le_of_ble_eq_true rfl) (Nat.le_of_ble_eq_true rfl) (Nat.le_of_ble_eq_true rfl) (Nat.zero_le _) (Nat.zero_le _) dX11_rest_46 (c_J6_bitCount_0f7a4 h) (fun r13 m14 h => ?_)
      refine v_icmp_le 56 dX11_rest_49 (by decide) (fun hc => ?_) (fun hc => ?_)
      · replace h := Eq.mp (if_pos hc) h
        refine v_iconst (0 : Int32) dX11_rest_56 (by decide) ?_
        refine v_sub [0, 1, 2] rfl ?_
        exact v_X11_rest_p57 hK23 h
      · replace h := Eq.mp (if_neg hc) h
        refine v_sub [0, 1, 2] rfl ?_
        exact v_X11_rest_p52 hK23 h
set_option maxHeartbeats 4000000 in
set_option maxRecDepth 100000 in
theorem v_X11_rest_p23 {G : Gl} {F : Fr} {sh : Shp} {v0 : Nat} {v2 : Int32} {v3 : Int32} {Q : Int32 → Mem → Prop} {m : Mem} (h : X11_rest_p23 sh v0 Q v2 v3 m) : V G F M_X11_rest sh 0 0 (Zi G F sh Q) 23 [(0, .ref (G.1 + v0)), (2, .int v2), (3, .int v3)] [] m := by
  obtain ⟨n, h⟩ := h
  induction n generalizing v2 v3 m with
  | zero => exact h.elim
  | succ n ih => exact v_X11_rest_p23b (fun _ _ _ h => ih h) h
set_option maxHeartbeats 4000000 in
set_option maxRecDepth 100000 in
theorem c_X11_rest {l : Launch} {G : Gl} {sh : Shp} {v0 : Nat} {v1 : Int32} {Q : Int32 → Mem → Prop} {m : Mem} (h : wp_X11_rest sh v0 v1 Q m) : Cni l G yX11_rest cX11_rest 5 (Option.some FieldType.int) 7 210 sh [.ref (G.1 + v0), .int v1] m Q := by
  refine con_i (ls := [(0, .ref (G.1 + v0)), (1, .int v1)]) (by decide +kernel) rfl (Nat.le_of_ble_eq_true rfl) (fun F => ?_)
  show V G F M_X11_rest sh 0 0 (Zi G F sh Q) 0 [(0, .ref (G.1 + v0)), (1, .int v1)] [] m
  unfold wp_X11_rest at h
  refine v_aload_n 0 0 dX11_rest_0 rfl rfl ?_
  refine v_iload_n 1 1 dX11_rest_1 rfl rfl ?_
  obtain ⟨o3, h⟩ := h
  refine v_cVr [.int _] mv_X11_wayOf ml_RX11_242 ⟨_, _, rfl⟩ o3 rfl rfl (Nat.le_of_ble_eq_true rfl) (Nat.le_of_ble_eq_true rfl) (Nat.le_of_ble_eq_true rfl) (Nat.zero_le _) (Nat.zero_le _) dX11_rest_2 (c_X11_wayOf h) (fun r1 m2 h => ?_)
  obtain ⟨o4, h⟩ := h
  refine v_gI 10 2 dX11_rest_5 fg_RX11_252 o4 ?_
  refine v_iconst (-1 : Int32) dX11_rest_8 (by decide) ?_
  refine v_icmp_ne 14 dX11_rest_9 (by decide) (fun hc => ?_) (fun hc => ?_)
  · replace h := Eq.mp (if_neg hc) h
    refine v_aload_n 0 0 dX11_rest_14 rfl rfl ?_
    refine v_iload_n 1 1 dX11_rest_15 rfl rfl ?_
    refine v_cVv [.int _] mv_X11_waterBySets ml_RX11_289 ⟨_, _, rfl⟩ o3 rfl rfl (Nat.le_of_ble_eq_true rfl) (Nat.le_of_ble_eq_true rfl) (Nat.le_of_ble_eq_true rfl) (Nat.zero_le _) (Nat.zero_le _) dX11_rest_16 (c_X11_waterBySets h) (fun m6 h => ?_)
    refine v_iconst (-1 : Int32) dX11_rest_19 (by decide) ?_
    refine v_istore_n (ls' := [(2, .int _), (0, .ref _), (1, .int _)]) 2 dX11_rest_20 rfl (Nat.le_of_ble_eq_true rfl) rfl ?_
    refine v_iconst (0 : Int32) dX11_rest_21 (by decide) ?_
    refine v_istore_n (ls' := [(3, .int _), (2, .int _), (0, .ref _), (1, .int _)]) 3 dX11_rest_22 rfl (Nat.le_of_ble_eq_true rfl) rfl ?_
    refine v_sub [2, 1, 0] rfl ?_
    exact v_X11_rest_p23 h
  · replace h := Eq.mp (if_pos hc) h
    refine v_iconst (-1 : Int32) dX11_rest_12 (by decide) ?_
    exact v_iret dX11_rest_13 rfl rfl h
/-! CalledRiver.see -/
theorem dX11_see_0 : decode cX11_see 0 = .ok (.aload_n 0, 1) := by decide +kernel
theorem dX11_see_1 : decode cX11_see 1 = .ok (.getfield 78, 3) := by decide +kernel
theorem dX11_see_4 : decode cX11_see 4 = .ok (.aload_n 0, 1) := by decide +kernel
theorem dX11_see_5 : decode cX11_see 5 = .ok (.getfield 12, 3) := by decide +kernel
theorem dX11_see_8 : decode cX11_see 8 = .ok (.aload_n 0, 1) := by decide +kernel
theorem dX11_see_9 : decode cX11_see 9 = .ok (.getfield 35, 3) := by decide +kernel
theorem dX11_see_12 : decode cX11_see 12 = .ok (.invokevirtual 309, 3) := by decide +kernel
theorem dX11_see_15 : decode cX11_see 15 = .ok (.istore_n 1, 1) := by decide +kernel
theorem dX11_see_16 : decode cX11_see 16 = .ok (.aload_n 0, 1) := by decide +kernel
theorem dX11_see_17 : decode cX11_see 17 = .ok (.getfield 12, 3) := by decide +kernel
theorem dX11_see_20 : decode cX11_see 20 = .ok (.iconst 0, 1) := by decide +kernel
theorem dX11_see_21 : decode cX11_see 21 = .ok (.putfield 117, 3) := by decide +kernel
theorem dX11_see_24 : decode cX11_see 24 = .ok (.iload_n 1, 1) := by decide +kernel
theorem dX11_see_25 : decode cX11_see 25 = .ok (.ifCond .eq 13, 3) := by decide +kernel
theorem dX11_see_28 : decode cX11_see 28 = .ok (.aload_n 0, 1) := by decide +kernel
theorem dX11_see_29 : decode cX11_see 29 = .ok (.getfield 78, 3) := by decide +kernel
theorem dX11_see_32 : decode cX11_see 32 = .ok (.getfield 143, 3) := by decide +kernel
theorem dX11_see_35 : decode cX11_see 35 = .ok (.goto 8, 3) := by decide +kernel
theorem dX11_see_38 : decode cX11_see 38 = .ok (.aload_n 0, 1) := by decide +kernel
theorem dX11_see_39 : decode cX11_see 39 = .ok (.iconst 1, 1) := by decide +kernel
theorem dX11_see_40 : decode cX11_see 40 = .ok (.invokevirtual 121, 3) := by decide +kernel
theorem dX11_see_43 : decode cX11_see 43 = .ok (.ireturn, 1) := by decide +kernel
def wp_X11_see (sh : Shp) (v0 : Nat) (Q : Int32 → Mem → Prop) (m : Mem) : Prop :=
  Ob sh v0 11 ∧ ∃ b2 : Nat, m.2.2 v0 10 = some b2 ∧ (∃ b4 : Nat, m.2.2 v0 0 = some b4 ∧ (∃ b6 : Nat, m.2.2 v0 3 = some b6 ∧ (Ob sh b2 7 ∧ wp_X7_take sh b2 b4 b6 (fun r8 m9 => ∃ b11 : Nat, m9.2.2 v0 0 = some b11 ∧ (Ob sh b11 9 ∧ bnd (sI m9 b11 1 (0 : Int32)) (fun m14 => if r8 = 0 then (wp_X11_refuse sh v0 (1 : Int32) (fun r15 m16 => Q r15 m16) m14) else (∃ b17 : Nat, m14.2.2 v0 10 = some b17 ∧ (Ob sh b17 7 ∧ (Q (m14.1 b17 0) m14)))))) m)))
abbrev M_X11_see : Mi := (cX11_see, 2, RX11, (Option.some FieldType.int), "see", 4, 130, 0, 0)
set_option maxHeartbeats 4000000 in
set_option maxRecDepth 100000 in
theorem c_X11_see {l : Launch} {G : Gl} {sh : Shp} {v0 : Nat} {Q : Int32 → Mem → Prop} {m : Mem} (h : wp_X11_see sh v0 Q m) : Cni l G yX11_see cX11_see 2 (Option.some FieldType.int) 4 130 sh [.ref (G.1 + v0)] m Q := by
  refine con_i (ls := [(0, .ref (G.1 + v0))]) (by decide +kernel) rfl (Nat.le_of_ble_eq_true rfl) (fun F => ?_)
  show V G F M_X11_see sh 0 0 (Zi G F sh Q) 0 [(0, .ref (G.1 + v0))] [] m
  unfold wp_X11_see at h
  refine v_aload_n 0 0 dX11_see_0 rfl rfl ?_
  obtain ⟨o1, h⟩ := h
  obtain ⟨b2, e3, h⟩ := h
  refine v_gR 11 10 dX11_see_1 fg_RX11_78 o1 e3 ?_
  refine v_aload_n 0 0 dX11_see_4 rfl rfl ?_
  obtain ⟨b4, e5, h⟩ := h
  refine v_gR 11 0 dX11_see_5 fg_RX11_12 o1 e5 ?_
  refine v_aload_n 0 0 dX11_see_8 rfl rfl ?_
  obtain ⟨b6, e7, h⟩ := h
  refine v_gR 11 3 dX11_see_9 fg_RX11_35 o1 e7 ?_
  obtain ⟨o10, h⟩ := h
  refine v_cVi [.ref _, .ref _] mv_X7_take ml_RX11_309 ⟨_, _, rfl⟩ o10 rfl rfl (Nat.le_of_ble_eq_true rfl) (Nat.le_of_ble_eq_true rfl) (Nat.le_of_ble_eq_true rfl) (Nat.zero_le _) (Nat.zero_le _) dX11_see_12 (c_X7_take h) (fun r8 m9 h => ?_)
  refine v_istore_n (ls' := [(1, .int _), (0, .ref _)]) 1 dX11_see_15 rfl (Nat.le_of_ble_eq_true rfl) rfl ?_
  refine v_aload_n 0 1 dX11_see_16 rfl rfl ?_
  obtain ⟨b11, e12, h⟩ := h
  refine v_gR 11 0 dX11_see_17 fg_RX11_12 o1 e12 ?_
  refine v_iconst (0 : Int32) dX11_see_20 (by decide) ?_
  obtain ⟨o13, h⟩ := h
  refine v_pI 9 1 dX11_see_21 fw_RX11_117 o13 ?_
  replace h := bnd_e h
  refine v_iload_n 1 0 dX11_see_24 rfl rfl ?_
  refine v_if_eq 38 dX11_see_25 (by decide) (fun hc => ?_) (fun hc => ?_)
  · replace h := Eq.mp (if_pos hc) h
    refine v_aload_n 0 1 dX11_see_38 rfl rfl ?_
    refine v_iconst (1 : Int32) dX11_see_39 (by decide) ?_
    refine v_cVi [.int _] mv_X11_refuse ml_RX11_121 ⟨_, _, rfl⟩ o1 rfl rfl (Nat.le_of_ble_eq_true rfl) (Nat.le_of_ble_eq_true rfl) (Nat.le_of_ble_eq_true rfl) (Nat.zero_le _) (Nat.zero_le _) dX11_see_40 (c_X11_refuse h) (fun r15 m16 h => ?_)
    exact v_iret dX11_see_43 rfl rfl h
  · replace h := Eq.mp (if_neg hc) h
    refine v_aload_n 0 1 dX11_see_28 rfl rfl ?_
    obtain ⟨b17, e18, h⟩ := h
    refine v_gR 11 10 dX11_see_29 fg_RX11_78 o1 e18 ?_
    obtain ⟨o19, h⟩ := h
    refine v_gI 7 0 dX11_see_32 fg_RX11_143 o19 ?_
    refine v_goto 43 dX11_see_35 (by decide) ?_
    exact v_iret dX11_see_43 rfl rfl h
/-! CalledRiver.seed -/
theorem dX11_seed_0 : decode cX11_seed 0 = .ok (.iload_n 1, 1) := by decide +kernel
theorem dX11_seed_1 : decode cX11_seed 1 = .ok (.ifCond .ge 11, 3) := by decide +kernel
theorem dX11_seed_4 : decode cX11_seed 4 = .ok (.aload_n 0, 1) := by decide +kernel
theorem dX11_seed_5 : decode cX11_seed 5 = .ok (.iconst 5, 1) := by decide +kernel
theorem dX11_seed_6 : decode cX11_seed 6 = .ok (.invokevirtual 121, 3) := by decide +kernel
theorem dX11_seed_9 : decode cX11_seed 9 = .ok (.pop, 1) := by decide +kernel
theorem dX11_seed_10 : decode cX11_seed 10 = .ok (.iconst 0, 1) := by decide +kernel
theorem dX11_seed_11 : decode cX11_seed 11 = .ok (.ireturn, 1) := by decide +kernel
theorem dX11_seed_12 : decode cX11_seed 12 = .ok (.aload_n 0, 1) := by decide +kernel
theorem dX11_seed_13 : decode cX11_seed 13 = .ok (.iload_n 1, 1) := by decide +kernel
theorem dX11_seed_14 : decode cX11_seed 14 = .ok (.i2l, 1) := by decide +kernel
theorem dX11_seed_15 : decode cX11_seed 15 = .ok (.putfield 113, 3) := by decide +kernel
theorem dX11_seed_18 : decode cX11_seed 18 = .ok (.iconst 1, 1) := by decide +kernel
theorem dX11_seed_19 : decode cX11_seed 19 = .ok (.ireturn, 1) := by decide +kernel
def wp_X11_seed (sh : Shp) (v0 : Nat) (v1 : Int32) (Q : Int32 → Mem → Prop) (m : Mem) : Prop :=
  if 0 ≤ v1 then (Ob sh v0 11 ∧ bnd (sL m v0 18 v1.toInt64) (fun m2 => Q (1 : Int32) m2)) else (Ob sh v0 11 ∧ wp_X11_refuse sh v0 (5 : Int32) (fun r3 m4 => Q (0 : Int32) m4) m)
abbrev M_X11_seed : Mi := (cX11_seed, 2, RX11, (Option.some FieldType.boolean), "seed", 2, 81, 0, 0)
set_option maxHeartbeats 4000000 in
set_option maxRecDepth 100000 in
theorem c_X11_seed {l : Launch} {G : Gl} {sh : Shp} {v0 : Nat} {v1 : Int32} {Q : Int32 → Mem → Prop} {m : Mem} (h : wp_X11_seed sh v0 v1 Q m) : Cni l G yX11_seed cX11_seed 2 (Option.some FieldType.boolean) 2 81 sh [.ref (G.1 + v0), .int v1] m Q := by
  refine con_i (ls := [(0, .ref (G.1 + v0)), (1, .int v1)]) (by decide +kernel) rfl (Nat.le_of_ble_eq_true rfl) (fun F => ?_)
  show V G F M_X11_seed sh 0 0 (Zi G F sh Q) 0 [(0, .ref (G.1 + v0)), (1, .int v1)] [] m
  unfold wp_X11_seed at h
  refine v_iload_n 1 1 dX11_seed_0 rfl rfl ?_
  refine v_if_ge 12 dX11_seed_1 (by decide) (fun hc => ?_) (fun hc => ?_)
  · replace h := Eq.mp (if_pos hc) h
    refine v_aload_n 0 0 dX11_seed_12 rfl rfl ?_
    refine v_iload_n 1 1 dX11_seed_13 rfl rfl ?_
    refine v_i2l dX11_seed_14 ?_
    obtain ⟨o1, h⟩ := h
    refine v_pL 11 18 dX11_seed_15 fw_RX11_113 o1 ?_
    replace h := bnd_e h
    refine v_iconst (1 : Int32) dX11_seed_18 (by decide) ?_
    exact v_iret dX11_seed_19 rfl (by decide) h
  · replace h := Eq.mp (if_neg hc) h
    refine v_aload_n 0 0 dX11_seed_4 rfl rfl ?_
    refine v_iconst (5 : Int32) dX11_seed_5 (by decide) ?_
    obtain ⟨o5, h⟩ := h
    refine v_cVi [.int _] mv_X11_refuse ml_RX11_121 ⟨_, _, rfl⟩ o5 rfl rfl (Nat.le_of_ble_eq_true rfl) (Nat.le_of_ble_eq_true rfl) (Nat.le_of_ble_eq_true rfl) (Nat.zero_le _) (Nat.zero_le _) dX11_seed_6 (c_X11_refuse h) (fun r3 m4 h => ?_)
    refine v_pop dX11_seed_9 rfl ?_
    refine v_iconst (0 : Int32) dX11_seed_10 (by decide) ?_
    exact v_iret dX11_seed_11 rfl (by decide) h
/-! CalledRiver.spring -/
theorem dX11_spring_0 : decode cX11_spring 0 = .ok (.aload_n 0, 1) := by decide +kernel
theorem dX11_spring_1 : decode cX11_spring 1 = .ok (.iload_n 1, 1) := by decide +kernel
theorem dX11_spring_2 : decode cX11_spring 2 = .ok (.invokevirtual 242, 3) := by decide +kernel
theorem dX11_spring_5 : decode cX11_spring 5 = .ok (.getfield 252, 3) := by decide +kernel
theorem dX11_spring_8 : decode cX11_spring 8 = .ok (.iconst (-1), 1) := by decide +kernel
theorem dX11_spring_9 : decode cX11_spring 9 = .ok (.if_icmp .eq 16, 3) := by decide +kernel
theorem dX11_spring_12 : decode cX11_spring 12 = .ok (.aload_n 0, 1) := by decide +kernel
theorem dX11_spring_13 : decode cX11_spring 13 = .ok (.getfield 54, 3) := by decide +kernel
theorem dX11_spring_16 : decode cX11_spring 16 = .ok (.getfield 164, 3) := by decide +kernel
theorem dX11_spring_19 : decode cX11_spring 19 = .ok (.sipush 999, 3) := by decide +kernel
theorem dX11_spring_22 : decode cX11_spring 22 = .ok (.if_icmp .lt 9, 3) := by decide +kernel
theorem dX11_spring_25 : decode cX11_spring 25 = .ok (.aload_n 0, 1) := by decide +kernel
theorem dX11_spring_26 : decode cX11_spring 26 = .ok (.iconst 2, 1) := by decide +kernel
theorem dX11_spring_27 : decode cX11_spring 27 = .ok (.invokevirtual 121, 3) := by decide +kernel
theorem dX11_spring_30 : decode cX11_spring 30 = .ok (.ireturn, 1) := by decide +kernel
theorem dX11_spring_31 : decode cX11_spring 31 = .ok (.aload_n 0, 1) := by decide +kernel
theorem dX11_spring_32 : decode cX11_spring 32 = .ok (.getfield 64, 3) := by decide +kernel
theorem dX11_spring_35 : decode cX11_spring 35 = .ok (.aload_n 0, 1) := by decide +kernel
theorem dX11_spring_36 : decode cX11_spring 36 = .ok (.getfield 54, 3) := by decide +kernel
theorem dX11_spring_39 : decode cX11_spring 39 = .ok (.invokevirtual 319, 3) := by decide +kernel
theorem dX11_spring_42 : decode cX11_spring 42 = .ok (.aload_n 0, 1) := by decide +kernel
theorem dX11_spring_43 : decode cX11_spring 43 = .ok (.iload_n 1, 1) := by decide +kernel
theorem dX11_spring_44 : decode cX11_spring 44 = .ok (.invokevirtual 322, 3) := by decide +kernel
theorem dX11_spring_47 : decode cX11_spring 47 = .ok (.ireturn, 1) := by decide +kernel
def X11_spring_p25 (sh : Shp) (v0 : Nat) (Q : Int32 → Mem → Prop) (m : Mem) : Prop :=
  Ob sh v0 11 ∧ wp_X11_refuse sh v0 (2 : Int32) (fun r15 m16 => Q r15 m16) m
def wp_X11_spring (sh : Shp) (v0 : Nat) (v1 : Int32) (Q : Int32 → Mem → Prop) (m : Mem) : Prop :=
  Ob sh v0 11 ∧ wp_X11_wayOf sh v0 v1 (fun r1 m2 => Ob sh r1 10 ∧ (if (m2.1 r1 2) = (-1 : Int32) then (X11_spring_p25 sh v0 Q m2) else (∃ b5 : Nat, m2.2.2 v0 6 = some b5 ∧ (Ob sh b5 1 ∧ (if (m2.1 b5 0) < (999 : Int32) then (∃ b8 : Nat, m2.2.2 v0 8 = some b8 ∧ (Ob sh b8 3 ∧ wp_X3_remember sh b8 b5 (fun m11 => wp_X11_passYear sh v0 v1 (fun r13 m14 => Q r13 m14) m11) m2)) else (X11_spring_p25 sh v0 Q m2)))))) m
abbrev M_X11_spring : Mi := (cX11_spring, 2, RX11, (Option.some FieldType.int), "spring", 8, 233, 0, 0)
set_option maxHeartbeats 4000000 in
set_option maxRecDepth 100000 in
theorem v_X11_spring_p25 {G : Gl} {F : Fr} {sh : Shp} {v0 : Nat} {Q : Int32 → Mem → Prop} {m : Mem} (h : X11_spring_p25 sh v0 Q m) : V G F M_X11_spring sh 0 0 (Zi G F sh Q) 25 [(0, .ref (G.1 + v0))] [] m := by
  unfold X11_spring_p25 at h
  refine v_aload_n 0 0 dX11_spring_25 rfl rfl ?_
  refine v_iconst (2 : Int32) dX11_spring_26 (by decide) ?_
  obtain ⟨o17, h⟩ := h
  refine v_cVi [.int _] mv_X11_refuse ml_RX11_121 ⟨_, _, rfl⟩ o17 rfl rfl (Nat.le_of_ble_eq_true rfl) (Nat.le_of_ble_eq_true rfl) (Nat.le_of_ble_eq_true rfl) (Nat.zero_le _) (Nat.zero_le _) dX11_spring_27 (c_X11_refuse h) (fun r15 m16 h => ?_)
  exact v_iret dX11_spring_30 rfl rfl h
set_option maxHeartbeats 4000000 in
set_option maxRecDepth 100000 in
theorem c_X11_spring {l : Launch} {G : Gl} {sh : Shp} {v0 : Nat} {v1 : Int32} {Q : Int32 → Mem → Prop} {m : Mem} (h : wp_X11_spring sh v0 v1 Q m) : Cni l G yX11_spring cX11_spring 2 (Option.some FieldType.int) 8 233 sh [.ref (G.1 + v0), .int v1] m Q := by
  refine con_i (ls := [(0, .ref (G.1 + v0)), (1, .int v1)]) (by decide +kernel) rfl (Nat.le_of_ble_eq_true rfl) (fun F => ?_)
  show V G F M_X11_spring sh 0 0 (Zi G F sh Q) 0 [(0, .ref (G.1 + v0)), (1, .int v1)] [] m
  unfold wp_X11_spring at h
  refine v_aload_n 0 0 dX11_spring_0 rfl rfl ?_
  refine v_iload_n 1 1 dX11_spring_1 rfl rfl ?_
  obtain ⟨o3, h⟩ := h
  refine v_cVr [.int _] mv_X11_wayOf ml_RX11_242 ⟨_, _, rfl⟩ o3 rfl rfl (Nat.le_of_ble_eq_true rfl) (Nat.le_of_ble_eq_true rfl) (Nat.le_of_ble_eq_true rfl) (Nat.zero_le _) (Nat.zero_le _) dX11_spring_2 (c_X11_wayOf h) (fun r1 m2 h => ?_)
  obtain ⟨o4, h⟩ := h
  refine v_gI 10 2 dX11_spring_5 fg_RX11_252 o4 ?_
  refine v_iconst (-1 : Int32) dX11_spring_8 (by decide) ?_
  refine v_icmp_eq 25 dX11_spring_9 (by decide) (fun hc => ?_) (fun hc => ?_)
  · replace h := Eq.mp (if_pos hc) h
    refine v_sub [0] rfl ?_
    exact v_X11_spring_p25 h
  · replace h := Eq.mp (if_neg hc) h
    refine v_aload_n 0 0 dX11_spring_12 rfl rfl ?_
    obtain ⟨b5, e6, h⟩ := h
    refine v_gR 11 6 dX11_spring_13 fg_RX11_54 o3 e6 ?_
    obtain ⟨o7, h⟩ := h
    refine v_gI 1 0 dX11_spring_16 fg_RX11_164 o7 ?_
    refine v_sipush (999 : Int32) dX11_spring_19 (by decide) ?_
    refine v_icmp_lt 31 dX11_spring_22 (by decide) (fun hc => ?_) (fun hc => ?_)
    · replace h := Eq.mp (if_pos hc) h
      refine v_aload_n 0 0 dX11_spring_31 rfl rfl ?_
      obtain ⟨b8, e9, h⟩ := h
      refine v_gR 11 8 dX11_spring_32 fg_RX11_64 o3 e9 ?_
      refine v_aload_n 0 0 dX11_spring_35 rfl rfl ?_
      refine v_gR 11 6 dX11_spring_36 fg_RX11_54 o3 e6 ?_
      obtain ⟨o12, h⟩ := h
      refine v_cVv [.ref _] mv_X3_remember ml_RX11_319 ⟨_, _, rfl⟩ o12 rfl rfl (Nat.le_of_ble_eq_true rfl) (Nat.le_of_ble_eq_true rfl) (Nat.le_of_ble_eq_true rfl) (Nat.zero_le _) (Nat.zero_le _) dX11_spring_39 (c_X3_remember h) (fun m11 h => ?_)
      refine v_aload_n 0 0 dX11_spring_42 rfl rfl ?_
      refine v_iload_n 1 1 dX11_spring_43 rfl rfl ?_
      refine v_cVi [.int _] mv_X11_passYear ml_RX11_322 ⟨_, _, rfl⟩ o3 rfl rfl (Nat.le_of_ble_eq_true rfl) (Nat.le_of_ble_eq_true rfl) (Nat.le_of_ble_eq_true rfl) (Nat.zero_le _) (Nat.zero_le _) dX11_spring_44 (c_X11_passYear h) (fun r13 m14 h => ?_)
      exact v_iret dX11_spring_47 rfl rfl h
    · replace h := Eq.mp (if_neg hc) h
      refine v_sub [0] rfl ?_
      exact v_X11_spring_p25 h
/-! CalledRiver.status -/
theorem dX11_status_0 : decode cX11_status 0 = .ok (.iload_n 1, 1) := by decide +kernel
theorem dX11_status_1 : decode cX11_status 1 = .ok (.ifCond .lt 9, 3) := by decide +kernel
theorem dX11_status_4 : decode cX11_status 4 = .ok (.iload_n 1, 1) := by decide +kernel
theorem dX11_status_5 : decode cX11_status 5 = .ok (.bipush 6, 2) := by decide +kernel
theorem dX11_status_7 : decode cX11_status 7 = .ok (.if_icmp .lt 7, 3) := by decide +kernel
theorem dX11_status_10 : decode cX11_status 10 = .ok (.iconst (-1), 1) := by decide +kernel
theorem dX11_status_11 : decode cX11_status 11 = .ok (.goto 9, 3) := by decide +kernel
theorem dX11_status_14 : decode cX11_status 14 = .ok (.aload_n 0, 1) := by decide +kernel
theorem dX11_status_15 : decode cX11_status 15 = .ok (.getfield 110, 3) := by decide +kernel
theorem dX11_status_18 : decode cX11_status 18 = .ok (.iload_n 1, 1) := by decide +kernel
theorem dX11_status_19 : decode cX11_status 19 = .ok (.iaload, 1) := by decide +kernel
theorem dX11_status_20 : decode cX11_status 20 = .ok (.ireturn, 1) := by decide +kernel
def wp_X11_status (sh : Shp) (v0 : Nat) (v1 : Int32) (Q : Int32 → Mem → Prop) (m : Mem) : Prop :=
  if v1 < 0 then (Q (-1 : Int32) m) else (if v1 < (6 : Int32) then (Ob sh v0 11 ∧ ∃ b2 : Nat, m.2.2 v0 17 = some b2 ∧ (Ix sh b2 100 v1 ∧ (Q (m.1 b2 v1.toNatClampNeg) m))) else (Q (-1 : Int32) m))
abbrev M_X11_status : Mi := (cX11_status, 2, RX11, (Option.some FieldType.int), "status", 1, 60, 0, 0)
set_option maxHeartbeats 4000000 in
set_option maxRecDepth 100000 in
theorem c_X11_status {l : Launch} {G : Gl} {sh : Shp} {v0 : Nat} {v1 : Int32} {Q : Int32 → Mem → Prop} {m : Mem} (h : wp_X11_status sh v0 v1 Q m) : Cni l G yX11_status cX11_status 2 (Option.some FieldType.int) 1 60 sh [.ref (G.1 + v0), .int v1] m Q := by
  refine con_i (ls := [(0, .ref (G.1 + v0)), (1, .int v1)]) (by decide +kernel) rfl (Nat.le_of_ble_eq_true rfl) (fun F => ?_)
  show V G F M_X11_status sh 0 0 (Zi G F sh Q) 0 [(0, .ref (G.1 + v0)), (1, .int v1)] [] m
  unfold wp_X11_status at h
  refine v_iload_n 1 1 dX11_status_0 rfl rfl ?_
  refine v_if_lt 10 dX11_status_1 (by decide) (fun hc => ?_) (fun hc => ?_)
  · replace h := Eq.mp (if_pos hc) h
    refine v_iconst (-1 : Int32) dX11_status_10 (by decide) ?_
    refine v_goto 20 dX11_status_11 (by decide) ?_
    exact v_iret dX11_status_20 rfl rfl h
  · replace h := Eq.mp (if_neg hc) h
    refine v_iload_n 1 1 dX11_status_4 rfl rfl ?_
    refine v_bipush (6 : Int32) dX11_status_5 (by decide) ?_
    refine v_icmp_lt 14 dX11_status_7 (by decide) (fun hc => ?_) (fun hc => ?_)
    · replace h := Eq.mp (if_pos hc) h
      refine v_aload_n 0 0 dX11_status_14 rfl rfl ?_
      obtain ⟨o1, h⟩ := h
      obtain ⟨b2, e3, h⟩ := h
      refine v_gR 11 17 dX11_status_15 fg_RX11_110 o1 e3 ?_
      refine v_iload_n 1 1 dX11_status_18 rfl rfl ?_
      obtain ⟨i4, h⟩ := h
      refine v_iald dX11_status_19 i4 ?_
      exact v_iret dX11_status_20 rfl rfl h
    · replace h := Eq.mp (if_neg hc) h
      refine v_iconst (-1 : Int32) dX11_status_10 (by decide) ?_
      refine v_goto 20 dX11_status_11 (by decide) ?_
      exact v_iret dX11_status_20 rfl rfl h
/-! CalledRiver.stone -/
theorem dX11_stone_0 : decode cX11_stone 0 = .ok (.aload_n 0, 1) := by decide +kernel
theorem dX11_stone_1 : decode cX11_stone 1 = .ok (.getfield 35, 3) := by decide +kernel
theorem dX11_stone_4 : decode cX11_stone 4 = .ok (.iload_n 1, 1) := by decide +kernel
theorem dX11_stone_5 : decode cX11_stone 5 = .ok (.iload_n 2, 1) := by decide +kernel
theorem dX11_stone_6 : decode cX11_stone 6 = .ok (.invokevirtual 203, 3) := by decide +kernel
theorem dX11_stone_9 : decode cX11_stone 9 = .ok (.istore 4, 2) := by decide +kernel
theorem dX11_stone_11 : decode cX11_stone 11 = .ok (.iload 4, 2) := by decide +kernel
theorem dX11_stone_13 : decode cX11_stone 13 = .ok (.iconst (-1), 1) := by decide +kernel
theorem dX11_stone_14 : decode cX11_stone 14 = .ok (.if_icmp .eq 26, 3) := by decide +kernel
theorem dX11_stone_17 : decode cX11_stone 17 = .ok (.iload_n 3, 1) := by decide +kernel
theorem dX11_stone_18 : decode cX11_stone 18 = .ok (.ifCond .lt 22, 3) := by decide +kernel
theorem dX11_stone_21 : decode cX11_stone 21 = .ok (.iload_n 3, 1) := by decide +kernel
theorem dX11_stone_22 : decode cX11_stone 22 = .ok (.iconst 1, 1) := by decide +kernel
theorem dX11_stone_23 : decode cX11_stone 23 = .ok (.if_icmp .gt 17, 3) := by decide +kernel
theorem dX11_stone_26 : decode cX11_stone 26 = .ok (.aload_n 0, 1) := by decide +kernel
theorem dX11_stone_27 : decode cX11_stone 27 = .ok (.getfield 54, 3) := by decide +kernel
theorem dX11_stone_30 : decode cX11_stone 30 = .ok (.getfield 209, 3) := by decide +kernel
theorem dX11_stone_33 : decode cX11_stone 33 = .ok (.iload 4, 2) := by decide +kernel
theorem dX11_stone_35 : decode cX11_stone 35 = .ok (.iaload, 1) := by decide +kernel
theorem dX11_stone_36 : decode cX11_stone 36 = .ok (.iload_n 3, 1) := by decide +kernel
theorem dX11_stone_37 : decode cX11_stone 37 = .ok (.if_icmp .ne 11, 3) := by decide +kernel
theorem dX11_stone_40 : decode cX11_stone 40 = .ok (.aload_n 0, 1) := by decide +kernel
theorem dX11_stone_41 : decode cX11_stone 41 = .ok (.iconst 3, 1) := by decide +kernel
theorem dX11_stone_42 : decode cX11_stone 42 = .ok (.invokevirtual 121, 3) := by decide +kernel
theorem dX11_stone_45 : decode cX11_stone 45 = .ok (.pop, 1) := by decide +kernel
theorem dX11_stone_46 : decode cX11_stone 46 = .ok (.iconst 0, 1) := by decide +kernel
theorem dX11_stone_47 : decode cX11_stone 47 = .ok (.ireturn, 1) := by decide +kernel
theorem dX11_stone_48 : decode cX11_stone 48 = .ok (.aload_n 0, 1) := by decide +kernel
theorem dX11_stone_49 : decode cX11_stone 49 = .ok (.getfield 64, 3) := by decide +kernel
theorem dX11_stone_52 : decode cX11_stone 52 = .ok (.aload_n 0, 1) := by decide +kernel
theorem dX11_stone_53 : decode cX11_stone 53 = .ok (.getfield 54, 3) := by decide +kernel
theorem dX11_stone_56 : decode cX11_stone 56 = .ok (.invokevirtual 319, 3) := by decide +kernel
theorem dX11_stone_59 : decode cX11_stone 59 = .ok (.aload_n 0, 1) := by decide +kernel
theorem dX11_stone_60 : decode cX11_stone 60 = .ok (.getfield 54, 3) := by decide +kernel
theorem dX11_stone_63 : decode cX11_stone 63 = .ok (.getfield 209, 3) := by decide +kernel
theorem dX11_stone_66 : decode cX11_stone 66 = .ok (.iload 4, 2) := by decide +kernel
theorem dX11_stone_68 : decode cX11_stone 68 = .ok (.iload_n 3, 1) := by decide +kernel
theorem dX11_stone_69 : decode cX11_stone 69 = .ok (.iastore, 1) := by decide +kernel
theorem dX11_stone_70 : decode cX11_stone 70 = .ok (.aload_n 0, 1) := by decide +kernel
theorem dX11_stone_71 : decode cX11_stone 71 = .ok (.invokevirtual 146, 3) := by decide +kernel
theorem dX11_stone_74 : decode cX11_stone 74 = .ok (.iconst 1, 1) := by decide +kernel
theorem dX11_stone_75 : decode cX11_stone 75 = .ok (.ireturn, 1) := by decide +kernel
def X11_stone_p40 (sh : Shp) (v0 : Nat) (Q : Int32 → Mem → Prop) (m : Mem) : Prop :=
  Ob sh v0 11 ∧ wp_X11_refuse sh v0 (3 : Int32) (fun r27 m28 => Q (0 : Int32) m28) m
def wp_X11_stone (sh : Shp) (v0 : Nat) (v1 : Int32) (v2 : Int32) (v3 : Int32) (Q : Int32 → Mem → Prop) (m : Mem) : Prop :=
  Ob sh v0 11 ∧ ∃ b2 : Nat, m.2.2 v0 3 = some b2 ∧ (Ob sh b2 5 ∧ wp_X5_placeOf sh b2 v1 v2 (fun r4 m5 => if r4 = (-1 : Int32) then (X11_stone_p40 sh v0 Q m5) else (if v3 < 0 then (X11_stone_p40 sh v0 Q m5) else (if (1 : Int32) < v3 then (X11_stone_p40 sh v0 Q m5) else (∃ b7 : Nat, m5.2.2 v0 6 = some b7 ∧ (Ob sh b7 1 ∧ ∃ b10 : Nat, m5.2.2 b7 3 = some b10 ∧ (Ix sh b10 100 r4 ∧ (if (m5.1 b10 r4.toNatClampNeg) = v3 then (X11_stone_p40 sh v0 Q m5) else (∃ b13 : Nat, m5.2.2 v0 8 = some b13 ∧ (Ob sh b13 3 ∧ wp_X3_remember sh b13 b7 (fun m16 => ∃ b18 : Nat, m16.2.2 v0 6 = some b18 ∧ (Ob sh b18 1 ∧ ∃ b21 : Nat, m16.2.2 b18 3 = some b21 ∧ (Ix sh b21 100 r4 ∧ bnd (sI m16 b21 r4.toNatClampNeg v3) (fun m24 => wp_X11_forgetWays sh v0 (fun m26 => Q (1 : Int32) m26) m24)))) m5))))))))) m)
abbrev M_X11_stone : Mi := (cX11_stone, 5, RX11, (Option.some FieldType.boolean), "stone", 4, 126, 0, 0)
set_option maxHeartbeats 4000000 in
set_option maxRecDepth 100000 in
theorem v_X11_stone_p40 {G : Gl} {F : Fr} {sh : Shp} {v0 : Nat} {Q : Int32 → Mem → Prop} {m : Mem} (h : X11_stone_p40 sh v0 Q m) : V G F M_X11_stone sh 0 0 (Zi G F sh Q) 40 [(0, .ref (G.1 + v0))] [] m := by
  unfold X11_stone_p40 at h
  refine v_aload_n 0 0 dX11_stone_40 rfl rfl ?_
  refine v_iconst (3 : Int32) dX11_stone_41 (by decide) ?_
  obtain ⟨o29, h⟩ := h
  refine v_cVi [.int _] mv_X11_refuse ml_RX11_121 ⟨_, _, rfl⟩ o29 rfl rfl (Nat.le_of_ble_eq_true rfl) (Nat.le_of_ble_eq_true rfl) (Nat.le_of_ble_eq_true rfl) (Nat.zero_le _) (Nat.zero_le _) dX11_stone_42 (c_X11_refuse h) (fun r27 m28 h => ?_)
  refine v_pop dX11_stone_45 rfl ?_
  refine v_iconst (0 : Int32) dX11_stone_46 (by decide) ?_
  exact v_iret dX11_stone_47 rfl (by decide) h
set_option maxHeartbeats 4000000 in
set_option maxRecDepth 100000 in
theorem c_X11_stone {l : Launch} {G : Gl} {sh : Shp} {v0 : Nat} {v1 : Int32} {v2 : Int32} {v3 : Int32} {Q : Int32 → Mem → Prop} {m : Mem} (h : wp_X11_stone sh v0 v1 v2 v3 Q m) : Cni l G yX11_stone cX11_stone 5 (Option.some FieldType.boolean) 4 126 sh [.ref (G.1 + v0), .int v1, .int v2, .int v3] m Q := by
  refine con_i (ls := [(0, .ref (G.1 + v0)), (1, .int v1), (2, .int v2), (3, .int v3)]) (by decide +kernel) rfl (Nat.le_of_ble_eq_true rfl) (fun F => ?_)
  show V G F M_X11_stone sh 0 0 (Zi G F sh Q) 0 [(0, .ref (G.1 + v0)), (1, .int v1), (2, .int v2), (3, .int v3)] [] m
  unfold wp_X11_stone at h
  refine v_aload_n 0 0 dX11_stone_0 rfl rfl ?_
  obtain ⟨o1, h⟩ := h
  obtain ⟨b2, e3, h⟩ := h
  refine v_gR 11 3 dX11_stone_1 fg_RX11_35 o1 e3 ?_
  refine v_iload_n 1 1 dX11_stone_4 rfl rfl ?_
  refine v_iload_n 2 2 dX11_stone_5 rfl rfl ?_
  obtain ⟨o6, h⟩ := h
  refine v_cVi [.int _, .int _] mv_X5_placeOf ml_RX11_203 ⟨_, _, rfl⟩ o6 rfl rfl (Nat.le_of_ble_eq_true rfl) (Nat.le_of_ble_eq_true rfl) (Nat.le_of_ble_eq_true rfl) (Nat.zero_le _) (Nat.zero_le _) dX11_stone_6 (c_X5_placeOf h) (fun r4 m5 h => ?_)
  refine v_istore (ls' := [(4, .int _), (0, .ref _), (1, .int _), (2, .int _), (3, .int _)]) 4 dX11_stone_9 (Nat.le_of_ble_eq_true rfl) rfl ?_
  refine v_iload 4 0 dX11_stone_11 rfl ?_
  refine v_iconst (-1 : Int32) dX11_stone_13 (by decide) ?_
  refine v_icmp_eq 40 dX11_stone_14 (by decide) (fun hc => ?_) (fun hc => ?_)
  · replace h := Eq.mp (if_pos hc) h
    refine v_sub [1] rfl ?_
    exact v_X11_stone_p40 h
  · replace h := Eq.mp (if_neg hc) h
    refine v_iload_n 3 4 dX11_stone_17 rfl rfl ?_
    refine v_if_lt 40 dX11_stone_18 (by decide) (fun hc => ?_) (fun hc => ?_)
    · replace h := Eq.mp (if_pos hc) h
      refine v_sub [1] rfl ?_
      exact v_X11_stone_p40 h
    · replace h := Eq.mp (if_neg hc) h
      refine v_iload_n 3 4 dX11_stone_21 rfl rfl ?_
      refine v_iconst (1 : Int32) dX11_stone_22 (by decide) ?_
      refine v_icmp_gt 40 dX11_stone_23 (by decide) (fun hc => ?_) (fun hc => ?_)
      · replace h := Eq.mp (if_pos hc) h
        refine v_sub [1] rfl ?_
        exact v_X11_stone_p40 h
      · replace h := Eq.mp (if_neg hc) h
        refine v_aload_n 0 1 dX11_stone_26 rfl rfl ?_
        obtain ⟨b7, e8, h⟩ := h
        refine v_gR 11 6 dX11_stone_27 fg_RX11_54 o1 e8 ?_
        obtain ⟨o9, h⟩ := h
        obtain ⟨b10, e11, h⟩ := h
        refine v_gR 1 3 dX11_stone_30 fg_RX11_209 o9 e11 ?_
        refine v_iload 4 0 dX11_stone_33 rfl ?_
        obtain ⟨i12, h⟩ := h
        refine v_iald dX11_stone_35 i12 ?_
        refine v_iload_n 3 4 dX11_stone_36 rfl rfl ?_
        refine v_icmp_ne 48 dX11_stone_37 (by decide) (fun hc => ?_) (fun hc => ?_)
        · replace h := Eq.mp (if_neg hc) h
          refine v_aload_n 0 1 dX11_stone_48 rfl rfl ?_
          obtain ⟨b13, e14, h⟩ := h
          refine v_gR 11 8 dX11_stone_49 fg_RX11_64 o1 e14 ?_
          refine v_aload_n 0 1 dX11_stone_52 rfl rfl ?_
          refine v_gR 11 6 dX11_stone_53 fg_RX11_54 o1 e8 ?_
          obtain ⟨o17, h⟩ := h
          refine v_cVv [.ref _] mv_X3_remember ml_RX11_319 ⟨_, _, rfl⟩ o17 rfl rfl (Nat.le_of_ble_eq_true rfl) (Nat.le_of_ble_eq_true rfl) (Nat.le_of_ble_eq_true rfl) (Nat.zero_le _) (Nat.zero_le _) dX11_stone_56 (c_X3_remember h) (fun m16 h => ?_)
          refine v_aload_n 0 1 dX11_stone_59 rfl rfl ?_
          obtain ⟨b18, e19, h⟩ := h
          refine v_gR 11 6 dX11_stone_60 fg_RX11_54 o1 e19 ?_
          obtain ⟨o20, h⟩ := h
          obtain ⟨b21, e22, h⟩ := h
          refine v_gR 1 3 dX11_stone_63 fg_RX11_209 o20 e22 ?_
          refine v_iload 4 0 dX11_stone_66 rfl ?_
          refine v_iload_n 3 4 dX11_stone_68 rfl rfl ?_
          obtain ⟨i23, h⟩ := h
          refine v_iast dX11_stone_69 i23 ?_
          replace h := bnd_e h
          refine v_aload_n 0 1 dX11_stone_70 rfl rfl ?_
          refine v_cVv [] mv_X11_forgetWays ml_RX11_146 ⟨_, _, rfl⟩ o1 rfl rfl (Nat.le_of_ble_eq_true rfl) (Nat.le_of_ble_eq_true rfl) (Nat.le_of_ble_eq_true rfl) (Nat.zero_le _) (Nat.zero_le _) dX11_stone_71 (c_X11_forgetWays h) (fun m26 h => ?_)
          refine v_iconst (1 : Int32) dX11_stone_74 (by decide) ?_
          exact v_iret dX11_stone_75 rfl (by decide) h
        · replace h := Eq.mp (if_pos hc) h
          refine v_sub [1] rfl ?_
          exact v_X11_stone_p40 h
/-! CalledRiver.tells -/
theorem dX11_tells_0 : decode cX11_tells 0 = .ok (.aload_n 0, 1) := by decide +kernel
theorem dX11_tells_1 : decode cX11_tells 1 = .ok (.invokevirtual 313, 3) := by decide +kernel
theorem dX11_tells_4 : decode cX11_tells 4 = .ok (.istore_n 2, 1) := by decide +kernel
theorem dX11_tells_5 : decode cX11_tells 5 = .ok (.iload_n 2, 1) := by decide +kernel
theorem dX11_tells_6 : decode cX11_tells 6 = .ok (.ifCond .eq 12, 3) := by decide +kernel
theorem dX11_tells_9 : decode cX11_tells 9 = .ok (.iload_n 1, 1) := by decide +kernel
theorem dX11_tells_10 : decode cX11_tells 10 = .ok (.ifCond .lt 8, 3) := by decide +kernel
theorem dX11_tells_13 : decode cX11_tells 13 = .ok (.iload_n 1, 1) := by decide +kernel
theorem dX11_tells_14 : decode cX11_tells 14 = .ok (.iconst 1, 1) := by decide +kernel
theorem dX11_tells_15 : decode cX11_tells 15 = .ok (.if_icmp .le 5, 3) := by decide +kernel
theorem dX11_tells_18 : decode cX11_tells 18 = .ok (.iconst (-1), 1) := by decide +kernel
theorem dX11_tells_19 : decode cX11_tells 19 = .ok (.ireturn, 1) := by decide +kernel
theorem dX11_tells_20 : decode cX11_tells 20 = .ok (.iconst 0, 1) := by decide +kernel
theorem dX11_tells_21 : decode cX11_tells 21 = .ok (.istore_n 3, 1) := by decide +kernel
theorem dX11_tells_22 : decode cX11_tells 22 = .ok (.aload_n 0, 1) := by decide +kernel
theorem dX11_tells_23 : decode cX11_tells 23 = .ok (.iconst 0, 1) := by decide +kernel
theorem dX11_tells_24 : decode cX11_tells 24 = .ok (.iload_n 2, 1) := by decide +kernel
theorem dX11_tells_25 : decode cX11_tells 25 = .ok (.invokevirtual 316, 3) := by decide +kernel
theorem dX11_tells_28 : decode cX11_tells 28 = .ok (.istore 4, 2) := by decide +kernel
theorem dX11_tells_30 : decode cX11_tells 30 = .ok (.iconst 1, 1) := by decide +kernel
theorem dX11_tells_31 : decode cX11_tells 31 = .ok (.istore 5, 2) := by decide +kernel
theorem dX11_tells_33 : decode cX11_tells 33 = .ok (.iload 5, 2) := by decide +kernel
theorem dX11_tells_35 : decode cX11_tells 35 = .ok (.bipush 40, 2) := by decide +kernel
theorem dX11_tells_37 : decode cX11_tells 37 = .ok (.if_icmp .gt 32, 3) := by decide +kernel
theorem dX11_tells_40 : decode cX11_tells 40 = .ok (.aload_n 0, 1) := by decide +kernel
theorem dX11_tells_41 : decode cX11_tells 41 = .ok (.iload 5, 2) := by decide +kernel
theorem dX11_tells_43 : decode cX11_tells 43 = .ok (.iload_n 2, 1) := by decide +kernel
theorem dX11_tells_44 : decode cX11_tells 44 = .ok (.invokevirtual 316, 3) := by decide +kernel
theorem dX11_tells_47 : decode cX11_tells 47 = .ok (.istore 6, 2) := by decide +kernel
theorem dX11_tells_49 : decode cX11_tells 49 = .ok (.iload 6, 2) := by decide +kernel
theorem dX11_tells_51 : decode cX11_tells 51 = .ok (.iload 4, 2) := by decide +kernel
theorem dX11_tells_53 : decode cX11_tells 53 = .ok (.if_icmp .ge 10, 3) := by decide +kernel
theorem dX11_tells_56 : decode cX11_tells 56 = .ok (.iload 6, 2) := by decide +kernel
theorem dX11_tells_58 : decode cX11_tells 58 = .ok (.istore 4, 2) := by decide +kernel
theorem dX11_tells_60 : decode cX11_tells 60 = .ok (.iload 5, 2) := by decide +kernel
theorem dX11_tells_62 : decode cX11_tells 62 = .ok (.istore_n 3, 1) := by decide +kernel
theorem dX11_tells_63 : decode cX11_tells 63 = .ok (.iinc 5 1, 3) := by decide +kernel
theorem dX11_tells_66 : decode cX11_tells 66 = .ok (.goto (-33), 3) := by decide +kernel
theorem dX11_tells_69 : decode cX11_tells 69 = .ok (.iload_n 1, 1) := by decide +kernel
theorem dX11_tells_70 : decode cX11_tells 70 = .ok (.ifCond .ne 7, 3) := by decide +kernel
theorem dX11_tells_73 : decode cX11_tells 73 = .ok (.iload_n 3, 1) := by decide +kernel
theorem dX11_tells_74 : decode cX11_tells 74 = .ok (.goto 5, 3) := by decide +kernel
theorem dX11_tells_77 : decode cX11_tells 77 = .ok (.iload 4, 2) := by decide +kernel
theorem dX11_tells_79 : decode cX11_tells 79 = .ok (.ireturn, 1) := by decide +kernel
def X11_tells_p63 (sh : Shp) (v0 : Nat) (v1 : Int32) (v2 : Int32) (v3 : Int32) (v4 : Int32) (v5 : Int32) (Q : Int32 → Mem → Prop) (K33 : Int32 → Int32 → Int32 → Mem → Prop) (m : Mem) : Prop :=
  K33 v3 v4 (v5 + (1 : Int32)) m
def X11_tells_p33b (sh : Shp) (v0 : Nat) (v1 : Int32) (v2 : Int32) (Q : Int32 → Mem → Prop) (K33 : Int32 → Int32 → Int32 → Mem → Prop) (v3 : Int32) (v4 : Int32) (v5 : Int32) (m : Mem) : Prop :=
  if (40 : Int32) < v5 then (if v1 = 0 then (Q v3 m) else (Q v4 m)) else (Ob sh v0 11 ∧ wp_X11_mostLeftBy sh v0 v5 v2 (fun r6 m7 => if v4 ≤ r6 then (X11_tells_p63 sh v0 v1 v2 v3 v4 v5 Q K33 m7) else (X11_tells_p63 sh v0 v1 v2 v5 r6 v5 Q K33 m7)) m)
def X11_tells_p33n (sh : Shp) (v0 : Nat) (v1 : Int32) (v2 : Int32) (Q : Int32 → Mem → Prop) : Nat → Int32 → Int32 → Int32 → Mem → Prop
  | 0 => fun _ _ _ _ => False
  | n + 1 => X11_tells_p33b sh v0 v1 v2 Q (X11_tells_p33n sh v0 v1 v2 Q n)
def X11_tells_p33 (sh : Shp) (v0 : Nat) (v1 : Int32) (v2 : Int32) (Q : Int32 → Mem → Prop) (v3 : Int32) (v4 : Int32) (v5 : Int32) (m : Mem) : Prop := ∃ n, X11_tells_p33n sh v0 v1 v2 Q n v3 v4 v5 m
def wp_X11_tells (sh : Shp) (v0 : Nat) (v1 : Int32) (Q : Int32 → Mem → Prop) (m : Mem) : Prop :=
  Ob sh v0 11 ∧ wp_X11_callersLeft sh v0 (fun r1 m2 => if r1 = 0 then (Q (-1 : Int32) m2) else (if v1 < 0 then (Q (-1 : Int32) m2) else (if v1 ≤ (1 : Int32) then (wp_X11_mostLeftBy sh v0 (0 : Int32) r1 (fun r4 m5 => X11_tells_p33 sh v0 v1 r1 Q (0 : Int32) r4 (1 : Int32) m5) m2) else (Q (-1 : Int32) m2)))) m
abbrev M_X11_tells : Mi := (cX11_tells, 7, RX11, (Option.some FieldType.int), "tells", 8, 236, 0, 0)
set_option maxHeartbeats 4000000 in
set_option maxRecDepth 100000 in
theorem v_X11_tells_p63 {G : Gl} {F : Fr} {sh : Shp} {v0 : Nat} {v1 : Int32} {v2 : Int32} {v3 : Int32} {v4 : Int32} {v5 : Int32} {Q : Int32 → Mem → Prop} {K33 : Int32 → Int32 → Int32 → Mem → Prop} {m : Mem} (hK33 : ∀ (x3 : Int32) (x4 : Int32) (x5 : Int32) (m : Mem), K33 x3 x4 x5 m → V G F M_X11_tells sh 0 0 (Zi G F sh Q) 33 [(0, .ref (G.1 + v0)), (1, .int v1), (2, .int v2), (3, .int x3), (4, .int x4), (5, .int x5)] [] m) (h : X11_tells_p63 sh v0 v1 v2 v3 v4 v5 Q K33 m) : V G F M_X11_tells sh 0 0 (Zi G F sh Q) 63 [(0, .ref (G.1 + v0)), (1, .int v1), (2, .int v2), (3, .int v3), (4, .int v4), (5, .int v5)] [] m := by
  unfold X11_tells_p63 at h
  refine v_iinc (ls' := [(5, .int _), (0, .ref _), (1, .int _), (2, .int _), (3, .int _), (4, .int _)]) 5 5 dX11_tells_63 rfl (congrArg (HAdd.hAdd _) (by decide : Int32.ofInt (1) = (1 : Int32))) (Nat.le_of_ble_eq_true rfl) rfl ?_
  refine v_goto 33 dX11_tells_66 (by decide) ?_
  refine v_sub [1, 2, 3, 4, 5, 0] rfl ?_
  exact hK33 _ _ _ _ h
set_option maxHeartbeats 4000000 in
set_option maxRecDepth 100000 in
theorem v_X11_tells_p33b {G : Gl} {F : Fr} {sh : Shp} {v0 : Nat} {v1 : Int32} {v2 : Int32} {v3 : Int32} {v4 : Int32} {v5 : Int32} {Q : Int32 → Mem → Prop} {K33 : Int32 → Int32 → Int32 → Mem → Prop} {m : Mem} (hK33 : ∀ (x3 : Int32) (x4 : Int32) (x5 : Int32) (m : Mem), K33 x3 x4 x5 m → V G F M_X11_tells sh 0 0 (Zi G F sh Q) 33 [(0, .ref (G.1 + v0)), (1, .int v1), (2, .int v2), (3, .int x3), (4, .int x4), (5, .int x5)] [] m) (h : X11_tells_p33b sh v0 v1 v2 Q K33 v3 v4 v5 m) : V G F M_X11_tells sh 0 0 (Zi G F sh Q) 33 [(0, .ref (G.1 + v0)), (1, .int v1), (2, .int v2), (3, .int v3), (4, .int v4), (5, .int v5)] [] m := by
  unfold X11_tells_p33b at h
  refine v_iload 5 5 dX11_tells_33 rfl ?_
  refine v_bipush (40 : Int32) dX11_tells_35 (by decide) ?_
  refine v_icmp_gt 69 dX11_tells_37 (by decide) (fun hc => ?_) (fun hc => ?_)
  · replace h := Eq.mp (if_pos hc) h
    refine v_iload_n 1 1 dX11_tells_69 rfl rfl ?_
    refine v_if_ne 77 dX11_tells_70 (by decide) (fun hc => ?_) (fun hc => ?_)
    · replace h := Eq.mp (if_neg hc) h
      refine v_iload 4 4 dX11_tells_77 rfl ?_
      exact v_iret dX11_tells_79 rfl rfl h
    · replace h := Eq.mp (if_pos hc) h
      refine v_iload_n 3 3 dX11_tells_73 rfl rfl ?_
      refine v_goto 79 dX11_tells_74 (by decide) ?_
      exact v_iret dX11_tells_79 rfl rfl h
  · replace h := Eq.mp (if_neg hc) h
    refine v_aload_n 0 0 dX11_tells_40 rfl rfl ?_
    refine v_iload 5 5 dX11_tells_41 rfl ?_
    refine v_iload_n 2 2 dX11_tells_43 rfl rfl ?_
    obtain ⟨o8, h⟩ := h
    refine v_cVi [.int _, .int _] mv_X11_mostLeftBy ml_RX11_316 ⟨_, _, rfl⟩ o8 rfl rfl (Nat.le_of_ble_eq_true rfl) (Nat.le_of_ble_eq_true rfl) (Nat.le_of_ble_eq_true rfl) (Nat.zero_le _) (Nat.zero_le _) dX11_tells_44 (c_X11_mostLeftBy h) (fun r6 m7 h => ?_)
    refine v_istore (ls' := [(6, .int _), (0, .ref _), (1, .int _), (2, .int _), (3, .int _), (4, .int _), (5, .int _)]) 6 dX11_tells_47 (Nat.le_of_ble_eq_true rfl) rfl ?_
    refine v_iload 6 0 dX11_tells_49 rfl ?_
    refine v_iload 4 5 dX11_tells_51 rfl ?_
    refine v_icmp_ge 63 dX11_tells_53 (by decide) (fun hc => ?_) (fun hc => ?_)
    · replace h := Eq.mp (if_pos hc) h
      refine v_sub [1, 2, 3, 4, 5, 6] rfl ?_
      exact v_X11_tells_p63 hK33 h
    · replace h := Eq.mp (if_neg hc) h
      refine v_iload 6 0 dX11_tells_56 rfl ?_
      refine v_istore (ls' := [(4, .int _), (6, .int _), (0, .ref _), (1, .int _), (2, .int _), (3, .int _), (5, .int _)]) 4 dX11_tells_58 (Nat.le_of_ble_eq_true rfl) rfl ?_
      refine v_iload 5 6 dX11_tells_60 rfl ?_
      refine v_istore_n (ls' := [(3, .int _), (4, .int _), (6, .int _), (0, .ref _), (1, .int _), (2, .int _), (5, .int _)]) 3 dX11_tells_62 rfl (Nat.le_of_ble_eq_true rfl) rfl ?_
      refine v_sub [3, 4, 5, 0, 1, 6] rfl ?_
      exact v_X11_tells_p63 hK33 h
set_option maxHeartbeats 4000000 in
set_option maxRecDepth 100000 in
theorem v_X11_tells_p33 {G : Gl} {F : Fr} {sh : Shp} {v0 : Nat} {v1 : Int32} {v2 : Int32} {v3 : Int32} {v4 : Int32} {v5 : Int32} {Q : Int32 → Mem → Prop} {m : Mem} (h : X11_tells_p33 sh v0 v1 v2 Q v3 v4 v5 m) : V G F M_X11_tells sh 0 0 (Zi G F sh Q) 33 [(0, .ref (G.1 + v0)), (1, .int v1), (2, .int v2), (3, .int v3), (4, .int v4), (5, .int v5)] [] m := by
  obtain ⟨n, h⟩ := h
  induction n generalizing v3 v4 v5 m with
  | zero => exact h.elim
  | succ n ih => exact v_X11_tells_p33b (fun _ _ _ _ h => ih h) h
set_option maxHeartbeats 4000000 in
set_option maxRecDepth 100000 in
theorem c_X11_tells {l : Launch} {G : Gl} {sh : Shp} {v0 : Nat} {v1 : Int32} {Q : Int32 → Mem → Prop} {m : Mem} (h : wp_X11_tells sh v0 v1 Q m) : Cni l G yX11_tells cX11_tells 7 (Option.some FieldType.int) 8 236 sh [.ref (G.1 + v0), .int v1] m Q := by
  refine con_i (ls := [(0, .ref (G.1 + v0)), (1, .int v1)]) (by decide +kernel) rfl (Nat.le_of_ble_eq_true rfl) (fun F => ?_)
  show V G F M_X11_tells sh 0 0 (Zi G F sh Q) 0 [(0, .ref (G.1 + v0)), (1, .int v1)] [] m
  unfold wp_X11_tells at h
  refine v_aload_n 0 0 dX11_tells_0 rfl rfl ?_
  obtain ⟨o3, h⟩ := h
  refine v_cVi [] mv_X11_callersLeft ml_RX11_313 ⟨_, _, rfl⟩ o3 rfl rfl (Nat.le_of_ble_eq_true rfl) (Nat.le_of_ble_eq_true rfl) (Nat.le_of_ble_eq_true rfl) (Nat.zero_le _) (Nat.zero_le _) dX11_tells_1 (c_X11_callersLeft h) (fun r1 m2 h => ?_)
  refine v_istore_n (ls' := [(2, .int _), (0, .ref _), (1, .int _)]) 2 dX11_tells_4 rfl (Nat.le_of_ble_eq_true rfl) rfl ?_
  refine v_iload_n 2 0 dX11_tells_5 rfl rfl ?_
  refine v_if_eq 18 dX11_tells_6 (by decide) (fun hc => ?_) (fun hc => ?_)
  · replace h := Eq.mp (if_pos hc) h
    refine v_iconst (-1 : Int32) dX11_tells_18 (by decide) ?_
    exact v_iret dX11_tells_19 rfl rfl h
  · replace h := Eq.mp (if_neg hc) h
    refine v_iload_n 1 2 dX11_tells_9 rfl rfl ?_
    refine v_if_lt 18 dX11_tells_10 (by decide) (fun hc => ?_) (fun hc => ?_)
    · replace h := Eq.mp (if_pos hc) h
      refine v_iconst (-1 : Int32) dX11_tells_18 (by decide) ?_
      exact v_iret dX11_tells_19 rfl rfl h
    · replace h := Eq.mp (if_neg hc) h
      refine v_iload_n 1 2 dX11_tells_13 rfl rfl ?_
      refine v_iconst (1 : Int32) dX11_tells_14 (by decide) ?_
      refine v_icmp_le 20 dX11_tells_15 (by decide) (fun hc => ?_) (fun hc => ?_)
      · replace h := Eq.mp (if_pos hc) h
        refine v_iconst (0 : Int32) dX11_tells_20 (by decide) ?_
        refine v_istore_n (ls' := [(3, .int _), (2, .int _), (0, .ref _), (1, .int _)]) 3 dX11_tells_21 rfl (Nat.le_of_ble_eq_true rfl) rfl ?_
        refine v_aload_n 0 2 dX11_tells_22 rfl rfl ?_
        refine v_iconst (0 : Int32) dX11_tells_23 (by decide) ?_
        refine v_iload_n 2 1 dX11_tells_24 rfl rfl ?_
        refine v_cVi [.int _, .int _] mv_X11_mostLeftBy ml_RX11_316 ⟨_, _, rfl⟩ o3 rfl rfl (Nat.le_of_ble_eq_true rfl) (Nat.le_of_ble_eq_true rfl) (Nat.le_of_ble_eq_true rfl) (Nat.zero_le _) (Nat.zero_le _) dX11_tells_25 (c_X11_mostLeftBy h) (fun r4 m5 h => ?_)
        refine v_istore (ls' := [(4, .int _), (3, .int _), (2, .int _), (0, .ref _), (1, .int _)]) 4 dX11_tells_28 (Nat.le_of_ble_eq_true rfl) rfl ?_
        refine v_iconst (1 : Int32) dX11_tells_30 (by decide) ?_
        refine v_istore (ls' := [(5, .int _), (4, .int _), (3, .int _), (2, .int _), (0, .ref _), (1, .int _)]) 5 dX11_tells_31 (Nat.le_of_ble_eq_true rfl) rfl ?_
        refine v_sub [4, 5, 3, 2, 1, 0] rfl ?_
        exact v_X11_tells_p33 h
      · replace h := Eq.mp (if_neg hc) h
        refine v_iconst (-1 : Int32) dX11_tells_18 (by decide) ?_
        exact v_iret dX11_tells_19 rfl rfl h
/-! CalledRiver.undo -/
theorem dX11_undo_0 : decode cX11_undo 0 = .ok (.aload_n 0, 1) := by decide +kernel
theorem dX11_undo_1 : decode cX11_undo 1 = .ok (.getfield 64, 3) := by decide +kernel
theorem dX11_undo_4 : decode cX11_undo 4 = .ok (.aload_n 0, 1) := by decide +kernel
theorem dX11_undo_5 : decode cX11_undo 5 = .ok (.getfield 54, 3) := by decide +kernel
theorem dX11_undo_8 : decode cX11_undo 8 = .ok (.invokevirtual 328, 3) := by decide +kernel
theorem dX11_undo_11 : decode cX11_undo 11 = .ok (.ifCond .ne 11, 3) := by decide +kernel
theorem dX11_undo_14 : decode cX11_undo 14 = .ok (.aload_n 0, 1) := by decide +kernel
theorem dX11_undo_15 : decode cX11_undo 15 = .ok (.iconst 4, 1) := by decide +kernel
theorem dX11_undo_16 : decode cX11_undo 16 = .ok (.invokevirtual 121, 3) := by decide +kernel
theorem dX11_undo_19 : decode cX11_undo 19 = .ok (.pop, 1) := by decide +kernel
theorem dX11_undo_20 : decode cX11_undo 20 = .ok (.iconst 0, 1) := by decide +kernel
theorem dX11_undo_21 : decode cX11_undo 21 = .ok (.ireturn, 1) := by decide +kernel
theorem dX11_undo_22 : decode cX11_undo 22 = .ok (.aload_n 0, 1) := by decide +kernel
theorem dX11_undo_23 : decode cX11_undo 23 = .ok (.invokevirtual 146, 3) := by decide +kernel
theorem dX11_undo_26 : decode cX11_undo 26 = .ok (.iconst 1, 1) := by decide +kernel
theorem dX11_undo_27 : decode cX11_undo 27 = .ok (.ireturn, 1) := by decide +kernel
def wp_X11_undo (sh : Shp) (v0 : Nat) (Q : Int32 → Mem → Prop) (m : Mem) : Prop :=
  Ob sh v0 11 ∧ ∃ b2 : Nat, m.2.2 v0 8 = some b2 ∧ (∃ b4 : Nat, m.2.2 v0 6 = some b4 ∧ (Ob sh b2 3 ∧ wp_X3_restore sh b2 b4 (fun r6 m7 => if r6 = 0 then (wp_X11_refuse sh v0 (4 : Int32) (fun r11 m12 => Q (0 : Int32) m12) m7) else (wp_X11_forgetWays sh v0 (fun m10 => Q (1 : Int32) m10) m7)) m))
abbrev M_X11_undo : Mi := (cX11_undo, 1, RX11, (Option.some FieldType.boolean), "undo", 4, 126, 0, 0)
set_option maxHeartbeats 4000000 in
set_option maxRecDepth 100000 in
theorem c_X11_undo {l : Launch} {G : Gl} {sh : Shp} {v0 : Nat} {Q : Int32 → Mem → Prop} {m : Mem} (h : wp_X11_undo sh v0 Q m) : Cni l G yX11_undo cX11_undo 1 (Option.some FieldType.boolean) 4 126 sh [.ref (G.1 + v0)] m Q := by
  refine con_i (ls := [(0, .ref (G.1 + v0))]) (by decide +kernel) rfl (Nat.le_of_ble_eq_true rfl) (fun F => ?_)
  show V G F M_X11_undo sh 0 0 (Zi G F sh Q) 0 [(0, .ref (G.1 + v0))] [] m
  unfold wp_X11_undo at h
  refine v_aload_n 0 0 dX11_undo_0 rfl rfl ?_
  obtain ⟨o1, h⟩ := h
  obtain ⟨b2, e3, h⟩ := h
  refine v_gR 11 8 dX11_undo_1 fg_RX11_64 o1 e3 ?_
  refine v_aload_n 0 0 dX11_undo_4 rfl rfl ?_
  obtain ⟨b4, e5, h⟩ := h
  refine v_gR 11 6 dX11_undo_5 fg_RX11_54 o1 e5 ?_
  obtain ⟨o8, h⟩ := h
  refine v_cVi [.ref _] mv_X3_restore ml_RX11_328 ⟨_, _, rfl⟩ o8 rfl rfl (Nat.le_of_ble_eq_true rfl) (Nat.le_of_ble_eq_true rfl) (Nat.le_of_ble_eq_true rfl) (Nat.zero_le _) (Nat.zero_le _) dX11_undo_8 (c_X3_restore h) (fun r6 m7 h => ?_)
  refine v_if_ne 22 dX11_undo_11 (by decide) (fun hc => ?_) (fun hc => ?_)
  · replace h := Eq.mp (if_neg hc) h
    refine v_aload_n 0 0 dX11_undo_22 rfl rfl ?_
    refine v_cVv [] mv_X11_forgetWays ml_RX11_146 ⟨_, _, rfl⟩ o1 rfl rfl (Nat.le_of_ble_eq_true rfl) (Nat.le_of_ble_eq_true rfl) (Nat.le_of_ble_eq_true rfl) (Nat.zero_le _) (Nat.zero_le _) dX11_undo_23 (c_X11_forgetWays h) (fun m10 h => ?_)
    refine v_iconst (1 : Int32) dX11_undo_26 (by decide) ?_
    exact v_iret dX11_undo_27 rfl (by decide) h
  · replace h := Eq.mp (if_pos hc) h
    refine v_aload_n 0 0 dX11_undo_14 rfl rfl ?_
    refine v_iconst (4 : Int32) dX11_undo_15 (by decide) ?_
    refine v_cVi [.int _] mv_X11_refuse ml_RX11_121 ⟨_, _, rfl⟩ o1 rfl rfl (Nat.le_of_ble_eq_true rfl) (Nat.le_of_ble_eq_true rfl) (Nat.le_of_ble_eq_true rfl) (Nat.zero_le _) (Nat.zero_le _) dX11_undo_16 (c_X11_refuse h) (fun r11 m12 h => ?_)
    refine v_pop dX11_undo_19 rfl ?_
    refine v_iconst (0 : Int32) dX11_undo_20 (by decide) ?_
    exact v_iret dX11_undo_21 rfl (by decide) h
/-! CalledRiver.way -/
theorem dX11_way_0 : decode cX11_way 0 = .ok (.aload_n 0, 1) := by decide +kernel
theorem dX11_way_1 : decode cX11_way 1 = .ok (.aload_n 0, 1) := by decide +kernel
theorem dX11_way_2 : decode cX11_way 2 = .ok (.iload_n 1, 1) := by decide +kernel
theorem dX11_way_3 : decode cX11_way 3 = .ok (.invokevirtual 242, 3) := by decide +kernel
theorem dX11_way_6 : decode cX11_way 6 = .ok (.iload_n 2, 1) := by decide +kernel
theorem dX11_way_7 : decode cX11_way 7 = .ok (.invokevirtual 246, 3) := by decide +kernel
theorem dX11_way_10 : decode cX11_way 10 = .ok (.iload_n 3, 1) := by decide +kernel
theorem dX11_way_11 : decode cX11_way 11 = .ok (.invokevirtual 249, 3) := by decide +kernel
theorem dX11_way_14 : decode cX11_way 14 = .ok (.ireturn, 1) := by decide +kernel
def wp_X11_way (sh : Shp) (v0 : Nat) (v1 : Int32) (v2 : Int32) (v3 : Int32) (Q : Int32 → Mem → Prop) (m : Mem) : Prop :=
  Ob sh v0 11 ∧ wp_X11_wayOf sh v0 v1 (fun r1 m2 => Ob sh r1 10 ∧ wp_X10_placeBy sh r1 v2 (fun r4 m5 => wp_X11_placePart sh v0 r4 v3 (fun r7 m8 => Q r7 m8) m5) m2) m
abbrev M_X11_way : Mi := (cX11_way, 4, RX11, (Option.some FieldType.int), "way", 7, 209, 0, 0)
set_option maxHeartbeats 4000000 in
set_option maxRecDepth 100000 in
theorem c_X11_way {l : Launch} {G : Gl} {sh : Shp} {v0 : Nat} {v1 : Int32} {v2 : Int32} {v3 : Int32} {Q : Int32 → Mem → Prop} {m : Mem} (h : wp_X11_way sh v0 v1 v2 v3 Q m) : Cni l G yX11_way cX11_way 4 (Option.some FieldType.int) 7 209 sh [.ref (G.1 + v0), .int v1, .int v2, .int v3] m Q := by
  refine con_i (ls := [(0, .ref (G.1 + v0)), (1, .int v1), (2, .int v2), (3, .int v3)]) (by decide +kernel) rfl (Nat.le_of_ble_eq_true rfl) (fun F => ?_)
  show V G F M_X11_way sh 0 0 (Zi G F sh Q) 0 [(0, .ref (G.1 + v0)), (1, .int v1), (2, .int v2), (3, .int v3)] [] m
  unfold wp_X11_way at h
  refine v_aload_n 0 0 dX11_way_0 rfl rfl ?_
  refine v_aload_n 0 0 dX11_way_1 rfl rfl ?_
  refine v_iload_n 1 1 dX11_way_2 rfl rfl ?_
  obtain ⟨o3, h⟩ := h
  refine v_cVr [.int _] mv_X11_wayOf ml_RX11_242 ⟨_, _, rfl⟩ o3 rfl rfl (Nat.le_of_ble_eq_true rfl) (Nat.le_of_ble_eq_true rfl) (Nat.le_of_ble_eq_true rfl) (Nat.zero_le _) (Nat.zero_le _) dX11_way_3 (c_X11_wayOf h) (fun r1 m2 h => ?_)
  refine v_iload_n 2 2 dX11_way_6 rfl rfl ?_
  obtain ⟨o6, h⟩ := h
  refine v_cVi [.int _] mv_X10_placeBy ml_RX11_246 ⟨_, _, rfl⟩ o6 rfl rfl (Nat.le_of_ble_eq_true rfl) (Nat.le_of_ble_eq_true rfl) (Nat.le_of_ble_eq_true rfl) (Nat.zero_le _) (Nat.zero_le _) dX11_way_7 (c_X10_placeBy h) (fun r4 m5 h => ?_)
  refine v_iload_n 3 3 dX11_way_10 rfl rfl ?_
  refine v_cVi [.int _, .int _] mv_X11_placePart ml_RX11_249 ⟨_, _, rfl⟩ o3 rfl rfl (Nat.le_of_ble_eq_true rfl) (Nat.le_of_ble_eq_true rfl) (Nat.le_of_ble_eq_true rfl) (Nat.zero_le _) (Nat.zero_le _) dX11_way_11 (c_X11_placePart h) (fun r7 m8 h => ?_)
  exact v_iret dX11_way_14 rfl rfl h
/-! CalledRiver.who -/
theorem dX11_who_0 : decode cX11_who 0 = .ok (.aload_n 0, 1) := by decide +kernel
theorem dX11_who_1 : decode cX11_who 1 = .ok (.invokevirtual 313, 3) := by decide +kernel
theorem dX11_who_4 : decode cX11_who 4 = .ok (.ireturn, 1) := by decide +kernel
def wp_X11_who (sh : Shp) (v0 : Nat) (Q : Int32 → Mem → Prop) (m : Mem) : Prop :=
  Ob sh v0 11 ∧ wp_X11_callersLeft sh v0 (fun r1 m2 => Q r1 m2) m
abbrev M_X11_who : Mi := (cX11_who, 1, RX11, (Option.some FieldType.int), "who", 8, 231, 0, 0)
set_option maxHeartbeats 4000000 in
set_option maxRecDepth 100000 in
theorem c_X11_who {l : Launch} {G : Gl} {sh : Shp} {v0 : Nat} {Q : Int32 → Mem → Prop} {m : Mem} (h : wp_X11_who sh v0 Q m) : Cni l G yX11_who cX11_who 1 (Option.some FieldType.int) 8 231 sh [.ref (G.1 + v0)] m Q := by
  refine con_i (ls := [(0, .ref (G.1 + v0))]) (by decide +kernel) rfl (Nat.le_of_ble_eq_true rfl) (fun F => ?_)
  show V G F M_X11_who sh 0 0 (Zi G F sh Q) 0 [(0, .ref (G.1 + v0))] [] m
  unfold wp_X11_who at h
  refine v_aload_n 0 0 dX11_who_0 rfl rfl ?_
  obtain ⟨o3, h⟩ := h
  refine v_cVi [] mv_X11_callersLeft ml_RX11_313 ⟨_, _, rfl⟩ o3 rfl rfl (Nat.le_of_ble_eq_true rfl) (Nat.le_of_ble_eq_true rfl) (Nat.le_of_ble_eq_true rfl) (Nat.zero_le _) (Nat.zero_le _) dX11_who_1 (c_X11_callersLeft h) (fun r1 m2 h => ?_)
  exact v_iret dX11_who_4 rfl rfl h
