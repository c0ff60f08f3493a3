/-! CalledRiver$Tape.kindOf -/
theorem dX9_kindOf_0 : decode cX9_kindOf 0 = .ok (.iload_n 0, 1) := by decide +kernel
theorem dX9_kindOf_1 : decode cX9_kindOf 1 = .ok (.bipush 97, 2) := by decide +kernel
theorem dX9_kindOf_3 : decode cX9_kindOf 3 = .ok (.if_icmp .lt 11, 3) := by decide +kernel
theorem dX9_kindOf_6 : decode cX9_kindOf 6 = .ok (.iload_n 0, 1) := by decide +kernel
theorem dX9_kindOf_7 : decode cX9_kindOf 7 = .ok (.bipush 122, 2) := by decide +kernel
theorem dX9_kindOf_9 : decode cX9_kindOf 9 = .ok (.if_icmp .gt 5, 3) := by decide +kernel
theorem dX9_kindOf_12 : decode cX9_kindOf 12 = .ok (.iconst 1, 1) := by decide +kernel
theorem dX9_kindOf_13 : decode cX9_kindOf 13 = .ok (.ireturn, 1) := by decide +kernel
theorem dX9_kindOf_14 : decode cX9_kindOf 14 = .ok (.iload_n 0, 1) := by decide +kernel
theorem dX9_kindOf_15 : decode cX9_kindOf 15 = .ok (.bipush 48, 2) := by decide +kernel
theorem dX9_kindOf_17 : decode cX9_kindOf 17 = .ok (.if_icmp .lt 13, 3) := by decide +kernel
theorem dX9_kindOf_20 : decode cX9_kindOf 20 = .ok (.iload_n 0, 1) := by decide +kernel
theorem dX9_kindOf_21 : decode cX9_kindOf 21 = .ok (.bipush 57, 2) := by decide +kernel
theorem dX9_kindOf_23 : decode cX9_kindOf 23 = .ok (.if_icmp .gt 7, 3) := by decide +kernel
theorem dX9_kindOf_26 : decode cX9_kindOf 26 = .ok (.iconst 2, 1) := by decide +kernel
theorem dX9_kindOf_27 : decode cX9_kindOf 27 = .ok (.goto 4, 3) := by decide +kernel
theorem dX9_kindOf_30 : decode cX9_kindOf 30 = .ok (.iconst 3, 1) := by decide +kernel
theorem dX9_kindOf_31 : decode cX9_kindOf 31 = .ok (.ireturn, 1) := by decide +kernel
def X9_kindOf_p14 (sh : Shp) (v0 : Int32) (Q : Int32 → Mem → Prop) (m : Mem) : Prop :=
  if v0 < (48 : Int32) then (Q (3 : Int32) m) else (if (57 : Int32) < v0 then (Q (3 : Int32) m) else (Q (2 : Int32) m))
def wp_X9_kindOf (sh : Shp) (v0 : Int32) (Q : Int32 → Mem → Prop) (m : Mem) : Prop :=
  if v0 < (97 : Int32) then (X9_kindOf_p14 sh v0 Q m) else (if (122 : Int32) < v0 then (X9_kindOf_p14 sh v0 Q m) else (Q (1 : Int32) m))
abbrev M_X9_kindOf : Mi := (cX9_kindOf, 1, RX9, (Option.some FieldType.int), "kindOf", 1, 60, 0, 0)
set_option maxHeartbeats 4000000 in
set_option maxRecDepth 100000 in
theorem v_X9_kindOf_p14 {G : Gl} {F : Fr} {sh : Shp} {v0 : Int32} {Q : Int32 → Mem → Prop} {m : Mem} (h : X9_kindOf_p14 sh v0 Q m) : V G F M_X9_kindOf sh 0 0 (Zi G F sh Q) 14 [(0, .int v0)] [] m := by
  unfold X9_kindOf_p14 at h
  refine v_iload_n 0 0 dX9_kindOf_14 rfl rfl ?_
  refine v_bipush (48 : Int32) dX9_kindOf_15 (by decide) ?_
  refine v_icmp_lt 30 dX9_kindOf_17 (by decide) (fun hc => ?_) (fun hc => ?_)
  · replace h := Eq.mp (if_pos hc) h
    refine v_iconst (3 : Int32) dX9_kindOf_30 (by decide) ?_
    exact v_iret dX9_kindOf_31 rfl rfl h
  · replace h := Eq.mp (if_neg hc) h
    refine v_iload_n 0 0 dX9_kindOf_20 rfl rfl ?_
    refine v_bipush (57 : Int32) dX9_kindOf_21 (by decide) ?_
    refine v_icmp_gt 30 dX9_kindOf_23 (by decide) (fun hc => ?_) (fun hc => ?_)
    · replace h := Eq.mp (if_pos hc) h
      refine v_iconst (3 : Int32) dX9_kindOf_30 (by decide) ?_
      exact v_iret dX9_kindOf_31 rfl rfl h
    · replace h := Eq.mp (if_neg hc) h
      refine v_iconst (2 : Int32) dX9_kindOf_26 (by decide) ?_
      refine v_goto 31 dX9_kindOf_27 (by decide) ?_
      exact v_iret dX9_kindOf_31 rfl rfl h
set_option maxHeartbeats 4000000 in
set_option maxRecDepth 100000 in
theorem c_X9_kindOf {l : Launch} {G : Gl} {sh : Shp} {v0 : Int32} {Q : Int32 → Mem → Prop} {m : Mem} (h : wp_X9_kindOf sh v0 Q m) : Cni l G yX9_kindOf cX9_kindOf 1 (Option.some FieldType.int) 1 60 sh [.int v0] m Q := by
  refine con_i (ls := [(0, .int v0)]) (by decide +kernel) rfl (Nat.le_of_ble_eq_true rfl) (fun F => ?_)
  show V G F M_X9_kindOf sh 0 0 (Zi G F sh Q) 0 [(0, .int v0)] [] m
  unfold wp_X9_kindOf at h
  refine v_iload_n 0 0 dX9_kindOf_0 rfl rfl ?_
  refine v_bipush (97 : Int32) dX9_kindOf_1 (by decide) ?_
  refine v_icmp_lt 14 dX9_kindOf_3 (by decide) (fun hc => ?_) (fun hc => ?_)
  · replace h := Eq.mp (if_pos hc) h
    refine v_sub [0] rfl ?_
    exact v_X9_kindOf_p14 h
  · replace h := Eq.mp (if_neg hc) h
    refine v_iload_n 0 0 dX9_kindOf_6 rfl rfl ?_
    refine v_bipush (122 : Int32) dX9_kindOf_7 (by decide) ?_
    refine v_icmp_gt 14 dX9_kindOf_9 (by decide) (fun hc => ?_) (fun hc => ?_)
    · replace h := Eq.mp (if_pos hc) h
      refine v_sub [0] rfl ?_
      exact v_X9_kindOf_p14 h
    · replace h := Eq.mp (if_neg hc) h
      refine v_iconst (1 : Int32) dX9_kindOf_12 (by decide) ?_
      exact v_iret dX9_kindOf_13 rfl rfl h
/-! CalledRiver$Tape.advance -/
theorem dX9_advance_0 : decode cX9_advance 0 = .ok (.aload_n 0, 1) := by decide +kernel
theorem dX9_advance_1 : decode cX9_advance 1 = .ok (.getfield 25, 3) := by decide +kernel
theorem dX9_advance_4 : decode cX9_advance 4 = .ok (.iconst 1, 1) := by decide +kernel
theorem dX9_advance_5 : decode cX9_advance 5 = .ok (.if_icmp .eq 11, 3) := by decide +kernel
theorem dX9_advance_8 : decode cX9_advance 8 = .ok (.aload_n 0, 1) := by decide +kernel
theorem dX9_advance_9 : decode cX9_advance 9 = .ok (.getfield 25, 3) := by decide +kernel
theorem dX9_advance_12 : decode cX9_advance 12 = .ok (.iconst 2, 1) := by decide +kernel
theorem dX9_advance_13 : decode cX9_advance 13 = .ok (.if_icmp .ne 7, 3) := by decide +kernel
theorem dX9_advance_16 : decode cX9_advance 16 = .ok (.iconst 1, 1) := by decide +kernel
theorem dX9_advance_17 : decode cX9_advance 17 = .ok (.goto 4, 3) := by decide +kernel
theorem dX9_advance_20 : decode cX9_advance 20 = .ok (.iconst 0, 1) := by decide +kernel
theorem dX9_advance_21 : decode cX9_advance 21 = .ok (.istore_n 1, 1) := by decide +kernel
theorem dX9_advance_22 : decode cX9_advance 22 = .ok (.aload_n 0, 1) := by decide +kernel
theorem dX9_advance_23 : decode cX9_advance 23 = .ok (.getfield 28, 3) := by decide +kernel
theorem dX9_advance_26 : decode cX9_advance 26 = .ok (.istore_n 2, 1) := by decide +kernel
theorem dX9_advance_27 : decode cX9_advance 27 = .ok (.aload_n 0, 1) := by decide +kernel
theorem dX9_advance_28 : decode cX9_advance 28 = .ok (.iload_n 2, 1) := by decide +kernel
theorem dX9_advance_29 : decode cX9_advance 29 = .ok (.putfield 34, 3) := by decide +kernel
theorem dX9_advance_32 : decode cX9_advance 32 = .ok (.aload_n 0, 1) := by decide +kernel
theorem dX9_advance_33 : decode cX9_advance 33 = .ok (.getfield 34, 3) := by decide +kernel
theorem dX9_advance_36 : decode cX9_advance 36 = .ok (.aload_n 0, 1) := by decide +kernel
theorem dX9_advance_37 : decode cX9_advance 37 = .ok (.getfield 19, 3) := by decide +kernel
theorem dX9_advance_40 : decode cX9_advance 40 = .ok (.if_icmp .ge 44, 3) := by decide +kernel
theorem dX9_advance_43 : decode cX9_advance 43 = .ok (.aload_n 0, 1) := by decide +kernel
theorem dX9_advance_44 : decode cX9_advance 44 = .ok (.getfield 9, 3) := by decide +kernel
theorem dX9_advance_47 : decode cX9_advance 47 = .ok (.aload_n 0, 1) := by decide +kernel
theorem dX9_advance_48 : decode cX9_advance 48 = .ok (.getfield 34, 3) := by decide +kernel
theorem dX9_advance_51 : decode cX9_advance 51 = .ok (.iaload, 1) := by decide +kernel
theorem dX9_advance_52 : decode cX9_advance 52 = .ok (.bipush 32, 2) := by decide +kernel
theorem dX9_advance_54 : decode cX9_advance 54 = .ok (.if_icmp .eq 17, 3) := by decide +kernel
theorem dX9_advance_57 : decode cX9_advance 57 = .ok (.aload_n 0, 1) := by decide +kernel
theorem dX9_advance_58 : decode cX9_advance 58 = .ok (.getfield 9, 3) := by decide +kernel
theorem dX9_advance_61 : decode cX9_advance 61 = .ok (.aload_n 0, 1) := by decide +kernel
theorem dX9_advance_62 : decode cX9_advance 62 = .ok (.getfield 34, 3) := by decide +kernel
theorem dX9_advance_65 : decode cX9_advance 65 = .ok (.iaload, 1) := by decide +kernel
theorem dX9_advance_66 : decode cX9_advance 66 = .ok (.bipush 10, 2) := by decide +kernel
theorem dX9_advance_68 : decode cX9_advance 68 = .ok (.if_icmp .ne 16, 3) := by decide +kernel
theorem dX9_advance_71 : decode cX9_advance 71 = .ok (.aload_n 0, 1) := by decide +kernel
theorem dX9_advance_72 : decode cX9_advance 72 = .ok (.dup, 1) := by decide +kernel
theorem dX9_advance_73 : decode cX9_advance 73 = .ok (.getfield 34, 3) := by decide +kernel
theorem dX9_advance_76 : decode cX9_advance 76 = .ok (.iconst 1, 1) := by decide +kernel
theorem dX9_advance_77 : decode cX9_advance 77 = .ok (.iadd, 1) := by decide +kernel
theorem dX9_advance_78 : decode cX9_advance 78 = .ok (.putfield 34, 3) := by decide +kernel
theorem dX9_advance_81 : decode cX9_advance 81 = .ok (.goto (-49), 3) := by decide +kernel
theorem dX9_advance_84 : decode cX9_advance 84 = .ok (.aload_n 0, 1) := by decide +kernel
theorem dX9_advance_85 : decode cX9_advance 85 = .ok (.aload_n 0, 1) := by decide +kernel
theorem dX9_advance_86 : decode cX9_advance 86 = .ok (.getfield 34, 3) := by decide +kernel
theorem dX9_advance_89 : decode cX9_advance 89 = .ok (.aload_n 0, 1) := by decide +kernel
theorem dX9_advance_90 : decode cX9_advance 90 = .ok (.getfield 19, 3) := by decide +kernel
theorem dX9_advance_93 : decode cX9_advance 93 = .ok (.if_icmp .ge 18, 3) := by decide +kernel
theorem dX9_advance_96 : decode cX9_advance 96 = .ok (.aload_n 0, 1) := by decide +kernel
theorem dX9_advance_97 : decode cX9_advance 97 = .ok (.getfield 9, 3) := by decide +kernel
theorem dX9_advance_100 : decode cX9_advance 100 = .ok (.aload_n 0, 1) := by decide +kernel
theorem dX9_advance_101 : decode cX9_advance 101 = .ok (.getfield 34, 3) := by decide +kernel
theorem dX9_advance_104 : decode cX9_advance 104 = .ok (.iaload, 1) := by decide +kernel
theorem dX9_advance_105 : decode cX9_advance 105 = .ok (.invokestatic 37, 3) := by decide +kernel
theorem dX9_advance_108 : decode cX9_advance 108 = .ok (.goto 4, 3) := by decide +kernel
theorem dX9_advance_111 : decode cX9_advance 111 = .ok (.iconst 0, 1) := by decide +kernel
theorem dX9_advance_112 : decode cX9_advance 112 = .ok (.putfield 25, 3) := by decide +kernel
theorem dX9_advance_115 : decode cX9_advance 115 = .ok (.aload_n 0, 1) := by decide +kernel
theorem dX9_advance_116 : decode cX9_advance 116 = .ok (.aload_n 0, 1) := by decide +kernel
theorem dX9_advance_117 : decode cX9_advance 117 = .ok (.getfield 34, 3) := by decide +kernel
theorem dX9_advance_120 : decode cX9_advance 120 = .ok (.iconst 1, 1) := by decide +kernel
theorem dX9_advance_121 : decode cX9_advance 121 = .ok (.iadd, 1) := by decide +kernel
theorem dX9_advance_122 : decode cX9_advance 122 = .ok (.aload_n 0, 1) := by decide +kernel
theorem dX9_advance_123 : decode cX9_advance 123 = .ok (.getfield 19, 3) := by decide +kernel
theorem dX9_advance_126 : decode cX9_advance 126 = .ok (.invokestatic 41, 3) := by decide +kernel
theorem dX9_advance_129 : decode cX9_advance 129 = .ok (.putfield 28, 3) := by decide +kernel
theorem dX9_advance_132 : decode cX9_advance 132 = .ok (.aload_n 0, 1) := by decide +kernel
theorem dX9_advance_133 : decode cX9_advance 133 = .ok (.getfield 25, 3) := by decide +kernel
theorem dX9_advance_136 : decode cX9_advance 136 = .ok (.iconst 1, 1) := by decide +kernel
theorem dX9_advance_137 : decode cX9_advance 137 = .ok (.if_icmp .eq 11, 3) := by decide +kernel
theorem dX9_advance_140 : decode cX9_advance 140 = .ok (.aload_n 0, 1) := by decide +kernel
theorem dX9_advance_141 : decode cX9_advance 141 = .ok (.getfield 25, 3) := by decide +kernel
theorem dX9_advance_144 : decode cX9_advance 144 = .ok (.iconst 2, 1) := by decide +kernel
theorem dX9_advance_145 : decode cX9_advance 145 = .ok (.if_icmp .ne 70, 3) := by decide +kernel
theorem dX9_advance_148 : decode cX9_advance 148 = .ok (.aload_n 0, 1) := by decide +kernel
theorem dX9_advance_149 : decode cX9_advance 149 = .ok (.getfield 28, 3) := by decide +kernel
theorem dX9_advance_152 : decode cX9_advance 152 = .ok (.aload_n 0, 1) := by decide +kernel
theorem dX9_advance_153 : decode cX9_advance 153 = .ok (.getfield 19, 3) := by decide +kernel
theorem dX9_advance_156 : decode cX9_advance 156 = .ok (.if_icmp .ge 35, 3) := by decide +kernel
theorem dX9_advance_159 : decode cX9_advance 159 = .ok (.aload_n 0, 1) := by decide +kernel
theorem dX9_advance_160 : decode cX9_advance 160 = .ok (.getfield 9, 3) := by decide +kernel
theorem dX9_advance_163 : decode cX9_advance 163 = .ok (.aload_n 0, 1) := by decide +kernel
theorem dX9_advance_164 : decode cX9_advance 164 = .ok (.getfield 28, 3) := by decide +kernel
theorem dX9_advance_167 : decode cX9_advance 167 = .ok (.iaload, 1) := by decide +kernel
theorem dX9_advance_168 : decode cX9_advance 168 = .ok (.invokestatic 37, 3) := by decide +kernel
theorem dX9_advance_171 : decode cX9_advance 171 = .ok (.aload_n 0, 1) := by decide +kernel
theorem dX9_advance_172 : decode cX9_advance 172 = .ok (.getfield 25, 3) := by decide +kernel
theorem dX9_advance_175 : decode cX9_advance 175 = .ok (.if_icmp .ne 16, 3) := by decide +kernel
theorem dX9_advance_178 : decode cX9_advance 178 = .ok (.aload_n 0, 1) := by decide +kernel
theorem dX9_advance_179 : decode cX9_advance 179 = .ok (.dup, 1) := by decide +kernel
theorem dX9_advance_180 : decode cX9_advance 180 = .ok (.getfield 28, 3) := by decide +kernel
theorem dX9_advance_183 : decode cX9_advance 183 = .ok (.iconst 1, 1) := by decide +kernel
theorem dX9_advance_184 : decode cX9_advance 184 = .ok (.iadd, 1) := by decide +kernel
theorem dX9_advance_185 : decode cX9_advance 185 = .ok (.putfield 28, 3) := by decide +kernel
theorem dX9_advance_188 : decode cX9_advance 188 = .ok (.goto (-40), 3) := by decide +kernel
theorem dX9_advance_191 : decode cX9_advance 191 = .ok (.aload_n 0, 1) := by decide +kernel
theorem dX9_advance_192 : decode cX9_advance 192 = .ok (.iload_n 1, 1) := by decide +kernel
theorem dX9_advance_193 : decode cX9_advance 193 = .ok (.ifCond .eq 15, 3) := by decide +kernel
theorem dX9_advance_196 : decode cX9_advance 196 = .ok (.aload_n 0, 1) := by decide +kernel
theorem dX9_advance_197 : decode cX9_advance 197 = .ok (.getfield 34, 3) := by decide +kernel
theorem dX9_advance_200 : decode cX9_advance 200 = .ok (.iload_n 2, 1) := by decide +kernel
theorem dX9_advance_201 : decode cX9_advance 201 = .ok (.if_icmp .ne 7, 3) := by decide +kernel
theorem dX9_advance_204 : decode cX9_advance 204 = .ok (.iconst 4, 1) := by decide +kernel
theorem dX9_advance_205 : decode cX9_advance 205 = .ok (.goto 7, 3) := by decide +kernel
theorem dX9_advance_208 : decode cX9_advance 208 = .ok (.aload_n 0, 1) := by decide +kernel
theorem dX9_advance_209 : decode cX9_advance 209 = .ok (.getfield 25, 3) := by decide +kernel
theorem dX9_advance_212 : decode cX9_advance 212 = .ok (.putfield 25, 3) := by decide +kernel
theorem dX9_advance_215 : decode cX9_advance 215 = .ok (.return_, 1) := by decide +kernel
def X9_advance_p71 (sh : Shp) (v0 : Nat) (v1 : Int32) (v2 : Int32) (Q : Mem → Prop) (K32 : Mem → Prop) (m : Mem) : Prop :=
  Ob sh v0 9 ∧ (bnd (sI m v0 3 ((m.1 v0 3) + (1 : Int32))) (fun m15 => K32 m15))
def X9_advance_p212 (sh : Shp) (s1 : Int32) (s0 : Nat) (Q : Mem → Prop) (m : Mem) : Prop :=
  Ob sh s0 9 ∧ bnd (sI m s0 2 s1) (fun m32 => Q m32)
def X9_advance_p208 (sh : Shp) (v0 : Nat) (s0 : Nat) (Q : Mem → Prop) (m : Mem) : Prop :=
  Ob sh v0 9 ∧ (X9_advance_p212 sh (m.1 v0 2) s0 Q m)
def X9_advance_p191 (sh : Shp) (v0 : Nat) (v1 : Int32) (v2 : Int32) (Q : Mem → Prop) (m : Mem) : Prop :=
  if v1 = 0 then (X9_advance_p208 sh v0 v0 Q m) else (Ob sh v0 9 ∧ (if (m.1 v0 3) = v2 then (X9_advance_p212 sh (4 : Int32) v0 Q m) else (X9_advance_p208 sh v0 v0 Q m)))
def X9_advance_p148b (sh : Shp) (v0 : Nat) (v1 : Int32) (v2 : Int32) (Q : Mem → Prop) (K148 : Mem → Prop) (m : Mem) : Prop :=
  Ob sh v0 9 ∧ (if (m.1 v0 1) ≤ (m.1 v0 4) then (X9_advance_p191 sh v0 v1 v2 Q m) else (∃ b23 : Nat, m.2.2 v0 0 = some b23 ∧ (Ix sh b23 100 (m.1 v0 4) ∧ (wp_X9_kindOf sh (m.1 b23 (m.1 v0 4).toNatClampNeg) (fun r26 m27 => if r26 = (m27.1 v0 2) then (bnd (sI m27 v0 4 ((m27.1 v0 4) + (1 : Int32))) (fun m28 => K148 m28)) else (X9_advance_p191 sh v0 v1 v2 Q m27)) m))))
def X9_advance_p148n (sh : Shp) (v0 : Nat) (v1 : Int32) (v2 : Int32) (Q : Mem → Prop) : Nat → Mem → Prop
  | 0 => fun _ => False
  | n + 1 => X9_advance_p148b sh v0 v1 v2 Q (X9_advance_p148n sh v0 v1 v2 Q n)
def X9_advance_p148 (sh : Shp) (v0 : Nat) (v1 : Int32) (v2 : Int32) (Q : Mem → Prop) (m : Mem) : Prop := ∃ n, X9_advance_p148n sh v0 v1 v2 Q n m
def X9_advance_p112 (sh : Shp) (v0 : Nat) (v1 : Int32) (v2 : Int32) (s1 : Int32) (s0 : Nat) (Q : Mem → Prop) (m : Mem) : Prop :=
  Ob sh s0 9 ∧ bnd (sI m s0 2 s1) (fun m17 => Ob sh v0 9 ∧ (wp_J9_min_7cf53 sh ((m17.1 v0 3) + (1 : Int32)) (m17.1 v0 1) (fun r19 m20 => bnd (sI m20 v0 4 r19) (fun m21 => if (m21.1 v0 2) = (1 : Int32) then (X9_advance_p148 sh v0 v1 v2 Q m21) else (if (m21.1 v0 2) = (2 : Int32) then (X9_advance_p148 sh v0 v1 v2 Q m21) else (Q m21)))) m17))
def X9_advance_p84 (sh : Shp) (v0 : Nat) (v1 : Int32) (v2 : Int32) (Q : Mem → Prop) (m : Mem) : Prop :=
  Ob sh v0 9 ∧ (if (m.1 v0 1) ≤ (m.1 v0 3) then (X9_advance_p112 sh v0 v1 v2 (0 : Int32) v0 Q m) else (∃ b9 : Nat, m.2.2 v0 0 = some b9 ∧ (Ix sh b9 100 (m.1 v0 3) ∧ (wp_X9_kindOf sh (m.1 b9 (m.1 v0 3).toNatClampNeg) (fun r12 m13 => X9_advance_p112 sh v0 v1 v2 r12 v0 Q m13) m))))
def X9_advance_p32b (sh : Shp) (v0 : Nat) (v1 : Int32) (v2 : Int32) (Q : Mem → Prop) (K32 : Mem → Prop) (m : Mem) : Prop :=
  Ob sh v0 9 ∧ (if (m.1 v0 1) ≤ (m.1 v0 3) then (X9_advance_p84 sh v0 v1 v2 Q m) else (∃ b5 : Nat, m.2.2 v0 0 = some b5 ∧ (Ix sh b5 100 (m.1 v0 3) ∧ (if (m.1 b5 (m.1 v0 3).toNatClampNeg) = (32 : Int32) then (X9_advance_p71 sh v0 v1 v2 Q K32 m) else (if (m.1 b5 (m.1 v0 3).toNatClampNeg) = (10 : Int32) then (X9_advance_p71 sh v0 v1 v2 Q K32 m) else (X9_advance_p84 sh v0 v1 v2 Q m))))))
def X9_advance_p32n (sh : Shp) (v0 : Nat) (v1 : Int32) (v2 : Int32) (Q : Mem → Prop) : Nat → Mem → Prop
  | 0 => fun _ => False
  | n + 1 => X9_advance_p32b sh v0 v1 v2 Q (X9_advance_p32n sh v0 v1 v2 Q n)
def X9_advance_p32 (sh : Shp) (v0 : Nat) (v1 : Int32) (v2 : Int32) (Q : Mem → Prop) (m : Mem) : Prop := ∃ n, X9_advance_p32n sh v0 v1 v2 Q n m
def X9_advance_p21 (sh : Shp) (v0 : Nat) (s0 : Int32) (Q : Mem → Prop) (m : Mem) : Prop :=
  Ob sh v0 9 ∧ (bnd (sI m v0 3 (m.1 v0 4)) (fun m3 => X9_advance_p32 sh v0 s0 (m.1 v0 4) Q m3))
def X9_advance_p16 (sh : Shp) (v0 : Nat) (Q : Mem → Prop) (m : Mem) : Prop :=
  X9_advance_p21 sh v0 (1 : Int32) Q m
def wp_X9_advance (sh : Shp) (v0 : Nat) (Q : Mem → Prop) (m : Mem) : Prop :=
  Ob sh v0 9 ∧ (if (m.1 v0 2) = (1 : Int32) then (X9_advance_p16 sh v0 Q m) else (if (m.1 v0 2) = (2 : Int32) then (X9_advance_p16 sh v0 Q m) else (X9_advance_p21 sh v0 (0 : Int32) Q m)))
abbrev M_X9_advance : Mi := (cX9_advance, 3, RX9, (none : Option FieldType), "advance", 2, 81, 0, 0)
set_option maxHeartbeats 4000000 in
set_option maxRecDepth 100000 in
theorem v_X9_advance_p71 {G : Gl} {F : Fr} {sh : Shp} {v0 : Nat} {v1 : Int32} {v2 : Int32} {Q : Mem → Prop} {K32 : Mem → Prop} {m : Mem} (hK32 : ∀ (m : Mem), K32 m → V G F M_X9_advance sh 0 0 (Zv G F sh Q) 32 [(0, .ref (G.1 + v0)), (1, .int v1), (2, .int v2)] [] m) (h : X9_advance_p71 sh v0 v1 v2 Q K32 m) : V G F M_X9_advance sh 0 0 (Zv G F sh Q) 71 [(0, .ref (G.1 + v0)), (1, .int v1), (2, .int v2)] [] m := by
  unfold X9_advance_p71 at h
  refine v_aload_n 0 0 dX9_advance_71 rfl rfl ?_
  refine v_dup dX9_advance_72 rfl ?_
  obtain ⟨o14, h⟩ := h
  refine v_gI 9 3 dX9_advance_73 fg_RX9_34 o14 ?_
  refine v_iconst (1 : Int32) dX9_advance_76 (by decide) ?_
  refine v_iadd dX9_advance_77 ?_
  refine v_pI 9 3 dX9_advance_78 fw_RX9_34 o14 ?_
  replace h := bnd_e h
  refine v_goto 32 dX9_advance_81 (by decide) ?_
  refine v_sub [0, 1, 2] rfl ?_
  exact hK32  _ h
set_option maxHeartbeats 4000000 in
set_option maxRecDepth 100000 in
theorem v_X9_advance_p212 {G : Gl} {F : Fr} {sh : Shp} {s0 : Nat} {s1 : Int32} {Q : Mem → Prop} {m : Mem} (h : X9_advance_p212 sh s1 s0 Q m) : V G F M_X9_advance sh 0 0 (Zv G F sh Q) 212 [] [.int s1, .ref (G.1 + s0)] m := by
  unfold X9_advance_p212 at h
  obtain ⟨o31, h⟩ := h
  refine v_pI 9 2 dX9_advance_212 fw_RX9_25 o31 ?_
  replace h := bnd_e h
  exact v_vret dX9_advance_215 rfl h
set_option maxHeartbeats 4000000 in
set_option maxRecDepth 100000 in
theorem v_X9_advance_p208 {G : Gl} {F : Fr} {sh : Shp} {v0 : Nat} {s0 : Nat} {Q : Mem → Prop} {m : Mem} (h : X9_advance_p208 sh v0 s0 Q m) : V G F M_X9_advance sh 0 0 (Zv G F sh Q) 208 [(0, .ref (G.1 + v0))] [.ref (G.1 + s0)] m := by
  unfold X9_advance_p208 at h
  refine v_aload_n 0 0 dX9_advance_208 rfl rfl ?_
  obtain ⟨o30, h⟩ := h
  refine v_gI 9 2 dX9_advance_209 fg_RX9_25 o30 ?_
  refine v_sub [] rfl ?_
  exact v_X9_advance_p212 h
set_option maxHeartbeats 4000000 in
set_option maxRecDepth 100000 in
theorem v_X9_advance_p191 {G : Gl} {F : Fr} {sh : Shp} {v0 : Nat} {v1 : Int32} {v2 : Int32} {Q : Mem → Prop} {m : Mem} (h : X9_advance_p191 sh v0 v1 v2 Q m) : V G F M_X9_advance sh 0 0 (Zv G F sh Q) 191 [(0, .ref (G.1 + v0)), (1, .int v1), (2, .int v2)] [] m := by
  unfold X9_advance_p191 at h
  refine v_aload_n 0 0 dX9_advance_191 rfl rfl ?_
  refine v_iload_n 1 1 dX9_advance_192 rfl rfl ?_
  refine v_if_eq 208 dX9_advance_193 (by decide) (fun hc => ?_) (fun hc => ?_)
  · replace h := Eq.mp (if_pos hc) h
    refine v_sub [0] rfl ?_
    exact v_X9_advance_p208 h
  · replace h := Eq.mp (if_neg hc) h
    refine v_aload_n 0 0 dX9_advance_196 rfl rfl ?_
    obtain ⟨o29, h⟩ := h
    refine v_gI 9 3 dX9_advance_197 fg_RX9_34 o29 ?_
    refine v_iload_n 2 2 dX9_advance_200 rfl rfl ?_
    refine v_icmp_ne 208 dX9_advance_201 (by decide) (fun hc => ?_) (fun hc => ?_)
    · replace h := Eq.mp (if_neg hc) h
      refine v_sub [0] rfl ?_
      exact v_X9_advance_p208 h
    · replace h := Eq.mp (if_pos hc) h
      refine v_iconst (4 : Int32) dX9_advance_204 (by decide) ?_
      refine v_goto 212 dX9_advance_205 (by decide) ?_
      refine v_sub [] rfl ?_
      exact v_X9_advance_p212 h
set_option maxHeartbeats 4000000 in
set_option maxRecDepth 100000 in
theorem v_X9_advance_p148b {G : Gl} {F : Fr} {sh : Shp} {v0 : Nat} {v1 : Int32} {v2 : Int32} {Q : Mem → Prop} {K148 : Mem → Prop} {m : Mem} (hK148 : ∀ (m : Mem), K148 m → V G F M_X9_advance sh 0 0 (Zv G F sh Q) 148 [(0, .ref (G.1 + v0)), (1, .int v1), (2, .int v2)] [] m) (h : X9_advance_p148b sh v0 v1 v2 Q K148 m) : V G F M_X9_advance sh 0 0 (Zv G F sh Q) 148 [(0, .ref (G.1 + v0)), (1, .int v1), (2, .int v2)] [] m := by
  unfold X9_advance_p148b at h
  refine v_aload_n 0 0 dX9_advance_148 rfl rfl ?_
  obtain ⟨o22, h⟩ := h
  refine v_gI 9 4 dX9_advance_149 fg_RX9_28 o22 ?_
  refine v_aload_n 0 0 dX9_advance_152 rfl rfl ?_
  refine v_gI 9 1 dX9_advance_153 fg_RX9_19 o22 ?_
  refine v_icmp_ge 191 dX9_advance_156 (by decide) (fun hc => ?_) (fun hc => ?_)
  · replace h := Eq.mp (if_pos hc) h
    refine v_sub [0, 1, 2] rfl ?_
    exact v_X9_advance_p191 h
  · replace h := Eq.mp (if_neg hc) h
    refine v_aload_n 0 0 dX9_advance_159 rfl rfl ?_
    obtain ⟨b23, e24, h⟩ := h
    refine v_gR 9 0 dX9_advance_160 fg_RX9_9 o22 e24 ?_
    refine v_aload_n 0 0 dX9_advance_163 rfl rfl ?_
    refine v_gI 9 4 dX9_advance_164 fg_RX9_28 o22 ?_
    obtain ⟨i25, h⟩ := h
    refine v_iald dX9_advance_167 i25 ?_
    refine v_cSi [.int _] mv_X9_kindOf ml_RX9_37 rfl rfl (Nat.le_of_ble_eq_true rfl) (Nat.le_of_ble_eq_true rfl) (Nat.le_of_ble_eq_true rfl) (Nat.zero_le _) (Nat.zero_le _) dX9_advance_168 (c_X9_kindOf h) (fun r26 m27 h => ?_)
    refine v_aload_n 0 0 dX9_advance_171 rfl rfl ?_
    refine v_gI 9 2 dX9_advance_172 fg_RX9_25 o22 ?_
    refine v_icmp_ne 191 dX9_advance_175 (by decide) (fun hc => ?_) (fun hc => ?_)
    · replace h := Eq.mp (if_neg hc) h
      refine v_sub [0, 1, 2] rfl ?_
      exact v_X9_advance_p191 h
    · replace h := Eq.mp (if_pos hc) h
      refine v_aload_n 0 0 dX9_advance_178 rfl rfl ?_
      refine v_dup dX9_advance_179 rfl ?_
      refine v_gI 9 4 dX9_advance_180 fg_RX9_28 o22 ?_
      refine v_iconst (1 : Int32) dX9_advance_183 (by decide) ?_
      refine v_iadd dX9_advance_184 ?_
      refine v_pI 9 4 dX9_advance_185 fw_RX9_28 o22 ?_
      replace h := bnd_e h
      refine v_goto 148 dX9_advance_188 (by decide) ?_
      refine v_sub [0, 1, 2] rfl ?_
      exact hK148  _ h
set_option maxHeartbeats 4000000 in
set_option maxRecDepth 100000 in
theorem v_X9_advance_p148 {G : Gl} {F : Fr} {sh : Shp} {v0 : Nat} {v1 : Int32} {v2 : Int32} {Q : Mem → Prop} {m : Mem} (h : X9_advance_p148 sh v0 v1 v2 Q m) : V G F M_X9_advance sh 0 0 (Zv G F sh Q) 148 [(0, .ref (G.1 + v0)), (1, .int v1), (2, .int v2)] [] m := by
  obtain ⟨n, h⟩ := h
  induction n generalizing  m with
  | zero => exact h.elim
  | succ n ih => exact v_X9_advance_p148b (fun  _ h => ih h) h
set_option maxHeartbeats 4000000 in
set_option maxRecDepth 100000 in
theorem v_X9_advance_p112 {G : Gl} {F : Fr} {sh : Shp} {v0 : Nat} {v1 : Int32} {v2 : Int32} {s0 : Nat} {s1 : Int32} {Q : Mem → Prop} {m : Mem} (h : X9_advance_p112 sh v0 v1 v2 s1 s0 Q m) : V G F M_X9_advance sh 0 0 (Zv G F sh Q) 112 [(0, .ref (G.1 + v0)), (1, .int v1), (2, .int v2)] [.int s1, .ref (G.1 + s0)] m := by
  unfold X9_advance_p112 at h
  obtain ⟨o16, h⟩ := h
  refine v_pI 9 2 dX9_advance_112 fw_RX9_25 o16 ?_
  replace h := bnd_e h
  refine v_aload_n 0 0 dX9_advance_115 rfl rfl ?_
  refine v_aload_n 0 0 dX9_advance_116 rfl rfl ?_
  obtain ⟨o18, h⟩ := h
  refine v_gI 9 3 dX9_advance_117 fg_RX9_34 o18 ?_
  refine v_iconst (1 : Int32) dX9_advance_120 (by decide) ?_
  refine v_iadd dX9_advance_121 ?_
  refine v_aload_n 0 0 dX9_advance_122 rfl rfl ?_
  refine v_gI 9 1 dX9_advance_123 fg_RX9_19 o18 ?_
  refine v_cSi [.int _, .int _] mv_J9_min_7cf53 ml_RX9_41 rfl rfl (Nat.le_of_ble_eq_true rfl) (Nat.le_of_ble_eq_true rfl) (Nat.le_of_ble_eq_true rfl) (Nat.zero_le _) (Nat.zero_le _) dX9_advance_126 (c_J9_min_7cf53 h) (fun r19 m20 h => ?_)
  refine v_pI 9 4 dX9_advance_129 fw_RX9_28 o18 ?_
  replace h := bnd_e h
  refine v_aload_n 0 0 dX9_advance_132 rfl rfl ?_
  refine v_gI 9 2 dX9_advance_133 fg_RX9_25 o18 ?_
  refine v_iconst (1 : Int32) dX9_advance_136 (by decide) ?_
  refine v_icmp_eq 148 dX9_advance_137 (by decide) (fun hc => ?_) (fun hc => ?_)
  · replace h := Eq.mp (if_pos hc) h
    refine v_sub [0, 1, 2] rfl ?_
    exact v_X9_advance_p148 h
  · replace h := Eq.mp (if_neg hc) h
    refine v_aload_n 0 0 dX9_advance_140 rfl rfl ?_
    refine v_gI 9 2 dX9_advance_141 fg_RX9_25 o18 ?_
    refine v_iconst (2 : Int32) dX9_advance_144 (by decide) ?_
    refine v_icmp_ne 215 dX9_advance_145 (by decide) (fun hc => ?_) (fun hc => ?_)
    · replace h := Eq.mp (if_neg hc) h
      exact v_vret dX9_advance_215 rfl h
    · replace h := Eq.mp (if_pos hc) h
      refine v_sub [0, 1, 2] rfl ?_
      exact v_X9_advance_p148 h
set_option maxHeartbeats 4000000 in
set_option maxRecDepth 100000 in
theorem v_X9_advance_p84 {G : Gl} {F : Fr} {sh : Shp} {v0 : Nat} {v1 : Int32} {v2 : Int32} {Q : Mem → Prop} {m : Mem} (h : X9_advance_p84 sh v0 v1 v2 Q m) : V G F M_X9_advance sh 0 0 (Zv G F sh Q) 84 [(0, .ref (G.1 + v0)), (1, .int v1), (2, .int v2)] [] m := by
  unfold X9_advance_p84 at h
  refine v_aload_n 0 0 dX9_advance_84 rfl rfl ?_
  refine v_aload_n 0 0 dX9_advance_85 rfl rfl ?_
  obtain ⟨o8, h⟩ := h
  refine v_gI 9 3 dX9_advance_86 fg_RX9_34 o8 ?_
  refine v_aload_n 0 0 dX9_advance_89 rfl rfl ?_
  refine v_gI 9 1 dX9_advance_90 fg_RX9_19 o8 ?_
  refine v_icmp_ge 111 dX9_advance_93 (by decide) (fun hc => ?_) (fun hc => ?_)
  · replace h := Eq.mp (if_pos hc) h
    refine v_iconst (0 : Int32) dX9_advance_111 (by decide) ?_
    refine v_sub [0, 1, 2] rfl ?_
    exact v_X9_advance_p112 h
  · replace h := Eq.mp (if_neg hc) h
    refine v_aload_n 0 0 dX9_advance_96 rfl rfl ?_
    obtain ⟨b9, e10, h⟩ := h
    refine v_gR 9 0 dX9_advance_97 fg_RX9_9 o8 e10 ?_
    refine v_aload_n 0 0 dX9_advance_100 rfl rfl ?_
    refine v_gI 9 3 dX9_advance_101 fg_RX9_34 o8 ?_
    obtain ⟨i11, h⟩ := h
    refine v_iald dX9_advance_104 i11 ?_
    refine v_cSi [.int _] mv_X9_kindOf ml_RX9_37 rfl rfl (Nat.le_of_ble_eq_true rfl) (Nat.le_of_ble_eq_true rfl) (Nat.le_of_ble_eq_true rfl) (Nat.zero_le _) (Nat.zero_le _) dX9_advance_105 (c_X9_kindOf h) (fun r12 m13 h => ?_)
    refine v_goto 112 dX9_advance_108 (by decide) ?_
    refine v_sub [0, 1, 2] rfl ?_
    exact v_X9_advance_p112 h
set_option maxHeartbeats 4000000 in
set_option maxRecDepth 100000 in
theorem v_X9_advance_p32b {G : Gl} {F : Fr} {sh : Shp} {v0 : Nat} {v1 : Int32} {v2 : Int32} {Q : Mem → Prop} {K32 : Mem → Prop} {m : Mem} (hK32 : ∀ (m : Mem), K32 m → V G F M_X9_advance sh 0 0 (Zv G F sh Q) 32 [(0, .ref (G.1 + v0)), (1, .int v1), (2, .int v2)] [] m) (h : X9_advance_p32b sh v0 v1 v2 Q K32 m) : V G F M_X9_advance sh 0 0 (Zv G F sh Q) 32 [(0, .ref (G.1 + v0)), (1, .int v1), (2, .int v2)] [] m := by
  unfold X9_advance_p32b at h
  refine v_aload_n 0 0 dX9_advance_32 rfl rfl ?_
  obtain ⟨o4, h⟩ := h
  refine v_gI 9 3 dX9_advance_33 fg_RX9_34 o4 ?_
  refine v_aload_n 0 0 dX9_advance_36 rfl rfl ?_
  refine v_gI 9 1 dX9_advance_37 fg_RX9_19 o4 ?_
  refine v_icmp_ge 84 dX9_advance_40 (by decide) (fun hc => ?_) (fun hc => ?_)
  · replace h := Eq.mp (if_pos hc) h
    refine v_sub [0, 1, 2] rfl ?_
    exact v_X9_advance_p84 h
  · replace h := Eq.mp (if_neg hc) h
    refine v_aload_n 0 0 dX9_advance_43 rfl rfl ?_
    obtain ⟨b5, e6, h⟩ := h
    refine v_gR 9 0 dX9_advance_44 fg_RX9_9 o4 e6 ?_
    refine v_aload_n 0 0 dX9_advance_47 rfl rfl ?_
    refine v_gI 9 3 dX9_advance_48 fg_RX9_34 o4 ?_
    obtain ⟨i7, h⟩ := h
    refine v_iald dX9_advance_51 i7 ?_
    refine v_bipush (32 : Int32) dX9_advance_52 (by decide) ?_
    refine v_icmp_eq 71 dX9_advance_54 (by decide) (fun hc => ?_) (fun hc => ?_)
    · replace h := Eq.mp (if_pos hc) h
      refine v_sub [0, 1, 2] rfl ?_
      exact v_X9_advance_p71 hK32 h
    · replace h := Eq.mp (if_neg hc) h
      refine v_aload_n 0 0 dX9_advance_57 rfl rfl ?_
      refine v_gR 9 0 dX9_advance_58 fg_RX9_9 o4 e6 ?_
      refine v_aload_n 0 0 dX9_advance_61 rfl rfl ?_
      refine v_gI 9 3 dX9_advance_62 fg_RX9_34 o4 ?_
      refine v_iald dX9_advance_65 i7 ?_
      refine v_bipush (10 : Int32) dX9_advance_66 (by decide) ?_
      refine v_icmp_ne 84 dX9_advance_68 (by decide) (fun hc => ?_) (fun hc => ?_)
      · replace h := Eq.mp (if_neg hc) h
        refine v_sub [0, 1, 2] rfl ?_
        exact v_X9_advance_p84 h
      · replace h := Eq.mp (if_pos hc) h
        refine v_sub [0, 1, 2] rfl ?_
        exact v_X9_advance_p71 hK32 h
set_option maxHeartbeats 4000000 in
set_option maxRecDepth 100000 in
theorem v_X9_advance_p32 {G : Gl} {F : Fr} {sh : Shp} {v0 : Nat} {v1 : Int32} {v2 : Int32} {Q : Mem → Prop} {m : Mem} (h : X9_advance_p32 sh v0 v1 v2 Q m) : V G F M_X9_advance sh 0 0 (Zv G F sh Q) 32 [(0, .ref (G.1 + v0)), (1, .int v1), (2, .int v2)] [] m := by
  obtain ⟨n, h⟩ := h
  induction n generalizing  m with
  | zero => exact h.elim
  | succ n ih => exact v_X9_advance_p32b (fun  _ h => ih h) h
set_option maxHeartbeats 4000000 in
set_option maxRecDepth 100000 in
theorem v_X9_advance_p21 {G : Gl} {F : Fr} {sh : Shp} {v0 : Nat} {s0 : Int32} {Q : Mem → Prop} {m : Mem} (h : X9_advance_p21 sh v0 s0 Q m) : V G F M_X9_advance sh 0 0 (Zv G F sh Q) 21 [(0, .ref (G.1 + v0))] [.int s0] m := by
  unfold X9_advance_p21 at h
  refine v_istore_n (ls' := [(1, .int _), (0, .ref _)]) 1 dX9_advance_21 rfl (Nat.le_of_ble_eq_true rfl) rfl ?_
  refine v_aload_n 0 1 dX9_advance_22 rfl rfl ?_
  obtain ⟨o2, h⟩ := h
  refine v_gI 9 4 dX9_advance_23 fg_RX9_28 o2 ?_
  refine v_istore_n (ls' := [(2, .int _), (1, .int _), (0, .ref _)]) 2 dX9_advance_26 rfl (Nat.le_of_ble_eq_true rfl) rfl ?_
  refine v_aload_n 0 2 dX9_advance_27 rfl rfl ?_
  refine v_iload_n 2 0 dX9_advance_28 rfl rfl ?_
  refine v_pI 9 3 dX9_advance_29 fw_RX9_34 o2 ?_
  replace h := bnd_e h
  refine v_sub [2, 1, 0] rfl ?_
  exact v_X9_advance_p32 h
set_option maxHeartbeats 4000000 in
set_option maxRecDepth 100000 in
theorem v_X9_advance_p16 {G : Gl} {F : Fr} {sh : Shp} {v0 : Nat} {Q : Mem → Prop} {m : Mem} (h : X9_advance_p16 sh v0 Q m) : V G F M_X9_advance sh 0 0 (Zv G F sh Q) 16 [(0, .ref (G.1 + v0))] [] m := by
  unfold X9_advance_p16 at h
  refine v_iconst (1 : Int32) dX9_advance_16 (by decide) ?_
  refine v_goto 21 dX9_advance_17 (by decide) ?_
  refine v_sub [0] rfl ?_
  exact v_X9_advance_p21 h
set_option maxHeartbeats 4000000 in
set_option maxRecDepth 100000 in
theorem c_X9_advance {l : Launch} {G : Gl} {sh : Shp} {v0 : Nat} {Q : Mem → Prop} {m : Mem} (h : wp_X9_advance sh v0 Q m) : Cnv l G yX9_advance cX9_advance 3 (none : Option FieldType) 2 81 sh [.ref (G.1 + v0)] m Q := by
  refine con_v (ls := [(0, .ref (G.1 + v0))]) (by decide +kernel) rfl (Nat.le_of_ble_eq_true rfl) (fun F => ?_)
  show V G F M_X9_advance sh 0 0 (Zv G F sh Q) 0 [(0, .ref (G.1 + v0))] [] m
  unfold wp_X9_advance at h
  refine v_aload_n 0 0 dX9_advance_0 rfl rfl ?_
  obtain ⟨o1, h⟩ := h
  refine v_gI 9 2 dX9_advance_1 fg_RX9_25 o1 ?_
  refine v_iconst (1 : Int32) dX9_advance_4 (by decide) ?_
  refine v_icmp_eq 16 dX9_advance_5 (by decide) (fun hc => ?_) (fun hc => ?_)
  · replace h := Eq.mp (if_pos hc) h
    refine v_sub [0] rfl ?_
    exact v_X9_advance_p16 h
  · replace h := Eq.mp (if_neg hc) h
    refine v_aload_n 0 0 dX9_advance_8 rfl rfl ?_
    refine v_gI 9 2 dX9_advance_9 fg_RX9_25 o1 ?_
    refine v_iconst (2 : Int32) dX9_advance_12 (by decide) ?_
    refine v_icmp_ne 20 dX9_advance_13 (by decide) (fun hc => ?_) (fun hc => ?_)
    · replace h := Eq.mp (if_neg hc) h
      refine v_iconst (0 : Int32) dX9_advance_20 (by decide) ?_
      refine v_sub [0] rfl ?_
      exact v_X9_advance_p21 h
    · replace h := Eq.mp (if_pos hc) h
      refine v_sub [0] rfl ?_
      exact v_X9_advance_p16 h
/-! CalledRiver$Tape.append -/
theorem dX9_append_0 : decode cX9_append 0 = .ok (.bipush 24, 2) := by decide +kernel
theorem dX9_append_2 : decode cX9_append 2 = .ok (.istore_n 2, 1) := by decide +kernel
theorem dX9_append_3 : decode cX9_append 3 = .ok (.iload_n 2, 1) := by decide +kernel
theorem dX9_append_4 : decode cX9_append 4 = .ok (.ifCond .lt 45, 3) := by decide +kernel
theorem dX9_append_7 : decode cX9_append 7 = .ok (.aload_n 0, 1) := by decide +kernel
theorem dX9_append_8 : decode cX9_append 8 = .ok (.getfield 19, 3) := by decide +kernel
theorem dX9_append_11 : decode cX9_append 11 = .ok (.sipush 1600, 3) := by decide +kernel
theorem dX9_append_14 : decode cX9_append 14 = .ok (.if_icmp .ge 35, 3) := by decide +kernel
theorem dX9_append_17 : decode cX9_append 17 = .ok (.aload_n 0, 1) := by decide +kernel
theorem dX9_append_18 : decode cX9_append 18 = .ok (.getfield 9, 3) := by decide +kernel
theorem dX9_append_21 : decode cX9_append 21 = .ok (.aload_n 0, 1) := by decide +kernel
theorem dX9_append_22 : decode cX9_append 22 = .ok (.getfield 19, 3) := by decide +kernel
theorem dX9_append_25 : decode cX9_append 25 = .ok (.iload_n 1, 1) := by decide +kernel
theorem dX9_append_26 : decode cX9_append 26 = .ok (.iload_n 2, 1) := by decide +kernel
theorem dX9_append_27 : decode cX9_append 27 = .ok (.ishr, 1) := by decide +kernel
theorem dX9_append_28 : decode cX9_append 28 = .ok (.sipush 255, 3) := by decide +kernel
theorem dX9_append_31 : decode cX9_append 31 = .ok (.iand, 1) := by decide +kernel
theorem dX9_append_32 : decode cX9_append 32 = .ok (.iastore, 1) := by decide +kernel
theorem dX9_append_33 : decode cX9_append 33 = .ok (.aload_n 0, 1) := by decide +kernel
theorem dX9_append_34 : decode cX9_append 34 = .ok (.dup, 1) := by decide +kernel
theorem dX9_append_35 : decode cX9_append 35 = .ok (.getfield 19, 3) := by decide +kernel
theorem dX9_append_38 : decode cX9_append 38 = .ok (.iconst 1, 1) := by decide +kernel
theorem dX9_append_39 : decode cX9_append 39 = .ok (.iadd, 1) := by decide +kernel
theorem dX9_append_40 : decode cX9_append 40 = .ok (.putfield 19, 3) := by decide +kernel
theorem dX9_append_43 : decode cX9_append 43 = .ok (.iinc 2 (-8), 3) := by decide +kernel
theorem dX9_append_46 : decode cX9_append 46 = .ok (.goto (-43), 3) := by decide +kernel
theorem dX9_append_49 : decode cX9_append 49 = .ok (.return_, 1) := by decide +kernel
def X9_append_p3b (sh : Shp) (v0 : Nat) (v1 : Int32) (Q : Mem → Prop) (K3 : Int32 → Mem → Prop) (v2 : Int32) (m : Mem) : Prop :=
  if v2 < 0 then (Q m) else (Ob sh v0 9 ∧ (if (1600 : Int32) ≤ (m.1 v0 1) then (Q m) else (∃ b2 : Nat, m.2.2 v0 0 = some b2 ∧ (Ix sh b2 100 (m.1 v0 1) ∧ bnd (sI m b2 (m.1 v0 1).toNatClampNeg ((v1 >>> (v2 &&& 31)) &&& (255 : Int32))) (fun m5 => bnd (sI m5 v0 1 ((m5.1 v0 1) + (1 : Int32))) (fun m6 => K3 (v2 + (-8 : Int32)) m6))))))
def X9_append_p3n (sh : Shp) (v0 : Nat) (v1 : Int32) (Q : Mem → Prop) : Nat → Int32 → Mem → Prop
  | 0 => fun _ _ => False
  | n + 1 => X9_append_p3b sh v0 v1 Q (X9_append_p3n sh v0 v1 Q n)
def X9_append_p3 (sh : Shp) (v0 : Nat) (v1 : Int32) (Q : Mem → Prop) (v2 : Int32) (m : Mem) : Prop := ∃ n, X9_append_p3n sh v0 v1 Q n v2 m
def wp_X9_append (sh : Shp) (v0 : Nat) (v1 : Int32) (Q : Mem → Prop) (m : Mem) : Prop :=
  X9_append_p3 sh v0 v1 Q (24 : Int32) m
abbrev M_X9_append : Mi := (cX9_append, 3, RX9, (none : Option FieldType), "append", 1, 60, 0, 0)
set_option maxHeartbeats 4000000 in
set_option maxRecDepth 100000 in
theorem v_X9_append_p3b {G : Gl} {F : Fr} {sh : Shp} {v0 : Nat} {v1 : Int32} {v2 : Int32} {Q : Mem → Prop} {K3 : Int32 → Mem → Prop} {m : Mem} (hK3 : ∀ (x2 : Int32) (m : Mem), K3 x2 m → V G F M_X9_append sh 0 0 (Zv G F sh Q) 3 [(0, .ref (G.1 + v0)), (1, .int v1), (2, .int x2)] [] m) (h : X9_append_p3b sh v0 v1 Q K3 v2 m) : V G F M_X9_append sh 0 0 (Zv G F sh Q) 3 [(0, .ref (G.1 + v0)), (1, .int v1), (2, .int v2)] [] m := by
  unfold X9_append_p3b at h
  refine v_iload_n 2 2 dX9_append_3 rfl rfl ?_
  refine v_if_lt 49 dX9_append_4 (by decide) (fun hc => ?_) (fun hc => ?_)
  · replace h := Eq.mp (if_pos hc) h
    exact v_vret dX9_append_49 rfl h
  · replace h := Eq.mp (if_neg hc) h
    refine v_aload_n 0 0 dX9_append_7 rfl rfl ?_
    obtain ⟨o1, h⟩ := h
    refine v_gI 9 1 dX9_append_8 fg_RX9_19 o1 ?_
    refine v_sipush (1600 : Int32) dX9_append_11 (by decide) ?_
    refine v_icmp_ge 49 dX9_append_14 (by decide) (fun hc => ?_) (fun hc => ?_)
    · replace h := Eq.mp (if_pos hc) h
      exact v_vret dX9_append_49 rfl h
    · replace h := Eq.mp (if_neg hc) h
      refine v_aload_n 0 0 dX9_append_17 rfl rfl ?_
      obtain ⟨b2, e3, h⟩ := h
      refine v_gR 9 0 dX9_append_18 fg_RX9_9 o1 e3 ?_
      refine v_aload_n 0 0 dX9_append_21 rfl rfl ?_
      refine v_gI 9 1 dX9_append_22 fg_RX9_19 o1 ?_
      refine v_iload_n 1 1 dX9_append_25 rfl rfl ?_
      refine v_iload_n 2 2 dX9_append_26 rfl rfl ?_
      refine v_ishr dX9_append_27 ?_
      refine v_sipush (255 : Int32) dX9_append_28 (by decide) ?_
      refine v_iand dX9_append_31 ?_
      obtain ⟨i4, h⟩ := h
      refine v_iast dX9_append_32 i4 ?_
      replace h := bnd_e h
      refine v_aload_n 0 0 dX9_append_33 rfl rfl ?_
      refine v_dup dX9_append_34 rfl ?_
      refine v_gI 9 1 dX9_append_35 fg_RX9_19 o1 ?_
      refine v_iconst (1 : Int32) dX9_append_38 (by decide) ?_
      refine v_iadd dX9_append_39 ?_
      refine v_pI 9 1 dX9_append_40 fw_RX9_19 o1 ?_
      replace h := bnd_e h
      refine v_iinc (ls' := [(2, .int _), (0, .ref _), (1, .int _)]) 2 2 dX9_append_43 rfl (congrArg (HAdd.hAdd _) (by decide : Int32.ofInt (-8) = (-8 : Int32))) (Nat.le_of_ble_eq_true rfl) rfl ?_
      refine v_goto 3 dX9_append_46 (by decide) ?_
      refine v_sub [1, 2, 0] rfl ?_
      exact hK3 _ _ h
set_option maxHeartbeats 4000000 in
set_option maxRecDepth 100000 in
theorem v_X9_append_p3 {G : Gl} {F : Fr} {sh : Shp} {v0 : Nat} {v1 : Int32} {v2 : Int32} {Q : Mem → Prop} {m : Mem} (h : X9_append_p3 sh v0 v1 Q v2 m) : V G F M_X9_append sh 0 0 (Zv G F sh Q) 3 [(0, .ref (G.1 + v0)), (1, .int v1), (2, .int v2)] [] m := by
  obtain ⟨n, h⟩ := h
  induction n generalizing v2 m with
  | zero => exact h.elim
  | succ n ih => exact v_X9_append_p3b (fun _ _ h => ih h) h
set_option maxHeartbeats 4000000 in
set_option maxRecDepth 100000 in
theorem c_X9_append {l : Launch} {G : Gl} {sh : Shp} {v0 : Nat} {v1 : Int32} {Q : Mem → Prop} {m : Mem} (h : wp_X9_append sh v0 v1 Q m) : Cnv l G yX9_append cX9_append 3 (none : Option FieldType) 1 60 sh [.ref (G.1 + v0), .int v1] m Q := by
  refine con_v (ls := [(0, .ref (G.1 + v0)), (1, .int v1)]) (by decide +kernel) rfl (Nat.le_of_ble_eq_true rfl) (fun F => ?_)
  show V G F M_X9_append sh 0 0 (Zv G F sh Q) 0 [(0, .ref (G.1 + v0)), (1, .int v1)] [] m
  unfold wp_X9_append at h
  refine v_bipush (24 : Int32) dX9_append_0 (by decide) ?_
  refine v_istore_n (ls' := [(2, .int _), (0, .ref _), (1, .int _)]) 2 dX9_append_2 rfl (Nat.le_of_ble_eq_true rfl) rfl ?_
  refine v_sub [1, 2, 0] rfl ?_
  exact v_X9_append_p3 h
/-! CalledRiver$Tape.fail -/
theorem dX9_fail_0 : decode cX9_fail 0 = .ok (.aload_n 0, 1) := by decide +kernel
theorem dX9_fail_1 : decode cX9_fail 1 = .ok (.getfield 22, 3) := by decide +kernel
theorem dX9_fail_4 : decode cX9_fail 4 = .ok (.ifCond .ne 18, 3) := by decide +kernel
theorem dX9_fail_7 : decode cX9_fail 7 = .ok (.aload_n 0, 1) := by decide +kernel
theorem dX9_fail_8 : decode cX9_fail 8 = .ok (.iload_n 1, 1) := by decide +kernel
theorem dX9_fail_9 : decode cX9_fail 9 = .ok (.putfield 22, 3) := by decide +kernel
theorem dX9_fail_12 : decode cX9_fail 12 = .ok (.aload_n 0, 1) := by decide +kernel
theorem dX9_fail_13 : decode cX9_fail 13 = .ok (.iload_n 2, 1) := by decide +kernel
theorem dX9_fail_14 : decode cX9_fail 14 = .ok (.putfield 15, 3) := by decide +kernel
theorem dX9_fail_17 : decode cX9_fail 17 = .ok (.aload_n 0, 1) := by decide +kernel
theorem dX9_fail_18 : decode cX9_fail 18 = .ok (.iconst 5, 1) := by decide +kernel
theorem dX9_fail_19 : decode cX9_fail 19 = .ok (.putfield 25, 3) := by decide +kernel
theorem dX9_fail_22 : decode cX9_fail 22 = .ok (.return_, 1) := by decide +kernel
def wp_X9_fail (sh : Shp) (v0 : Nat) (v1 : Int32) (v2 : Int32) (Q : Mem → Prop) (m : Mem) : Prop :=
  Ob sh v0 9 ∧ (if (m.1 v0 5) = 0 then (bnd (sI m v0 5 v1) (fun m2 => bnd (sI m2 v0 6 v2) (fun m3 => bnd (sI m3 v0 2 (5 : Int32)) (fun m4 => Q m4)))) else (Q m))
abbrev M_X9_fail : Mi := (cX9_fail, 3, RX9, (none : Option FieldType), "fail", 1, 60, 0, 0)
set_option maxHeartbeats 4000000 in
set_option maxRecDepth 100000 in
theorem c_X9_fail {l : Launch} {G : Gl} {sh : Shp} {v0 : Nat} {v1 : Int32} {v2 : Int32} {Q : Mem → Prop} {m : Mem} (h : wp_X9_fail sh v0 v1 v2 Q m) : Cnv l G yX9_fail cX9_fail 3 (none : Option FieldType) 1 60 sh [.ref (G.1 + v0), .int v1, .int v2] m Q := by
  refine con_v (ls := [(0, .ref (G.1 + v0)), (1, .int v1), (2, .int v2)]) (by decide +kernel) rfl (Nat.le_of_ble_eq_true rfl) (fun F => ?_)
  show V G F M_X9_fail sh 0 0 (Zv G F sh Q) 0 [(0, .ref (G.1 + v0)), (1, .int v1), (2, .int v2)] [] m
  unfold wp_X9_fail at h
  refine v_aload_n 0 0 dX9_fail_0 rfl rfl ?_
  obtain ⟨o1, h⟩ := h
  refine v_gI 9 5 dX9_fail_1 fg_RX9_22 o1 ?_
  refine v_if_ne 22 dX9_fail_4 (by decide) (fun hc => ?_) (fun hc => ?_)
  · replace h := Eq.mp (if_neg hc) h
    exact v_vret dX9_fail_22 rfl h
  · replace h := Eq.mp (if_pos hc) h
    refine v_aload_n 0 0 dX9_fail_7 rfl rfl ?_
    refine v_iload_n 1 1 dX9_fail_8 rfl rfl ?_
    refine v_pI 9 5 dX9_fail_9 fw_RX9_22 o1 ?_
    replace h := bnd_e h
    refine v_aload_n 0 0 dX9_fail_12 rfl rfl ?_
    refine v_iload_n 2 2 dX9_fail_13 rfl rfl ?_
    refine v_pI 9 6 dX9_fail_14 fw_RX9_15 o1 ?_
    replace h := bnd_e h
    refine v_aload_n 0 0 dX9_fail_17 rfl rfl ?_
    refine v_iconst (5 : Int32) dX9_fail_18 (by decide) ?_
    refine v_pI 9 2 dX9_fail_19 fw_RX9_25 o1 ?_
    replace h := bnd_e h
    exact v_vret dX9_fail_22 rfl h
/-! CalledRiver$Tape.isSign -/
theorem dX9_isSign_0 : decode cX9_isSign 0 = .ok (.aload_n 0, 1) := by decide +kernel
theorem dX9_isSign_1 : decode cX9_isSign 1 = .ok (.getfield 25, 3) := by decide +kernel
theorem dX9_isSign_4 : decode cX9_isSign 4 = .ok (.iconst 3, 1) := by decide +kernel
theorem dX9_isSign_5 : decode cX9_isSign 5 = .ok (.if_icmp .ne 20, 3) := by decide +kernel
theorem dX9_isSign_8 : decode cX9_isSign 8 = .ok (.aload_n 0, 1) := by decide +kernel
theorem dX9_isSign_9 : decode cX9_isSign 9 = .ok (.getfield 9, 3) := by decide +kernel
theorem dX9_isSign_12 : decode cX9_isSign 12 = .ok (.aload_n 0, 1) := by decide +kernel
theorem dX9_isSign_13 : decode cX9_isSign 13 = .ok (.getfield 34, 3) := by decide +kernel
theorem dX9_isSign_16 : decode cX9_isSign 16 = .ok (.iaload, 1) := by decide +kernel
theorem dX9_isSign_17 : decode cX9_isSign 17 = .ok (.iload_n 1, 1) := by decide +kernel
theorem dX9_isSign_18 : decode cX9_isSign 18 = .ok (.if_icmp .ne 7, 3) := by decide +kernel
theorem dX9_isSign_21 : decode cX9_isSign 21 = .ok (.iconst 1, 1) := by decide +kernel
theorem dX9_isSign_22 : decode cX9_isSign 22 = .ok (.goto 4, 3) := by decide +kernel
theorem dX9_isSign_25 : decode cX9_isSign 25 = .ok (.iconst 0, 1) := by decide +kernel
theorem dX9_isSign_26 : decode cX9_isSign 26 = .ok (.ireturn, 1) := by decide +kernel
def wp_X9_isSign (sh : Shp) (v0 : Nat) (v1 : Int32) (Q : Int32 → Mem → Prop) (m : Mem) : Prop :=
  Ob sh v0 9 ∧ (if (m.1 v0 2) = (3 : Int32) then (∃ b2 : Nat, m.2.2 v0 0 = some b2 ∧ (Ix sh b2 100 (m.1 v0 3) ∧ (if (m.1 b2 (m.1 v0 3).toNatClampNeg) = v1 then (Q (1 : Int32) m) else (Q (0 : Int32) m)))) else (Q (0 : Int32) m))
abbrev M_X9_isSign : Mi := (cX9_isSign, 2, RX9, (Option.some FieldType.boolean), "isSign", 1, 60, 0, 0)
set_option maxHeartbeats 4000000 in
set_option maxRecDepth 100000 in
theorem c_X9_isSign {l : Launch} {G : Gl} {sh : Shp} {v0 : Nat} {v1 : Int32} {Q : Int32 → Mem → Prop} {m : Mem} (h : wp_X9_isSign sh v0 v1 Q m) : Cni l G yX9_isSign cX9_isSign 2 (Option.some FieldType.boolean) 1 60 sh [.ref (G.1 + v0), .int v1] m Q := by
  refine con_i (ls := [(0, .ref (G.1 + v0)), (1, .int v1)]) (by decide +kernel) rfl (Nat.le_of_ble_eq_true rfl) (fun F => ?_)
  show V G F M_X9_isSign sh 0 0 (Zi G F sh Q) 0 [(0, .ref (G.1 + v0)), (1, .int v1)] [] m
  unfold wp_X9_isSign at h
  refine v_aload_n 0 0 dX9_isSign_0 rfl rfl ?_
  obtain ⟨o1, h⟩ := h
  refine v_gI 9 2 dX9_isSign_1 fg_RX9_25 o1 ?_
  refine v_iconst (3 : Int32) dX9_isSign_4 (by decide) ?_
  refine v_icmp_ne 25 dX9_isSign_5 (by decide) (fun hc => ?_) (fun hc => ?_)
  · replace h := Eq.mp (if_neg hc) h
    refine v_iconst (0 : Int32) dX9_isSign_25 (by decide) ?_
    exact v_iret dX9_isSign_26 rfl (by decide) h
  · replace h := Eq.mp (if_pos hc) h
    refine v_aload_n 0 0 dX9_isSign_8 rfl rfl ?_
    obtain ⟨b2, e3, h⟩ := h
    refine v_gR 9 0 dX9_isSign_9 fg_RX9_9 o1 e3 ?_
    refine v_aload_n 0 0 dX9_isSign_12 rfl rfl ?_
    refine v_gI 9 3 dX9_isSign_13 fg_RX9_34 o1 ?_
    obtain ⟨i4, h⟩ := h
    refine v_iald dX9_isSign_16 i4 ?_
    refine v_iload_n 1 1 dX9_isSign_17 rfl rfl ?_
    refine v_icmp_ne 25 dX9_isSign_18 (by decide) (fun hc => ?_) (fun hc => ?_)
    · replace h := Eq.mp (if_neg hc) h
      refine v_iconst (0 : Int32) dX9_isSign_25 (by decide) ?_
      exact v_iret dX9_isSign_26 rfl (by decide) h
    · replace h := Eq.mp (if_pos hc) h
      refine v_iconst (1 : Int32) dX9_isSign_21 (by decide) ?_
      refine v_goto 26 dX9_isSign_22 (by decide) ?_
      exact v_iret dX9_isSign_26 rfl (by decide) h
/-! CalledRiver$Tape.isSpelled -/
theorem dX9_isSpelled_0 : decode cX9_isSpelled 0 = .ok (.aload_n 0, 1) := by decide +kernel
theorem dX9_isSpelled_1 : decode cX9_isSpelled 1 = .ok (.getfield 34, 3) := by decide +kernel
theorem dX9_isSpelled_4 : decode cX9_isSpelled 4 = .ok (.istore_n 3, 1) := by decide +kernel
theorem dX9_isSpelled_5 : decode cX9_isSpelled 5 = .ok (.iload_n 3, 1) := by decide +kernel
theorem dX9_isSpelled_6 : decode cX9_isSpelled 6 = .ok (.aload_n 0, 1) := by decide +kernel
theorem dX9_isSpelled_7 : decode cX9_isSpelled 7 = .ok (.getfield 28, 3) := by decide +kernel
theorem dX9_isSpelled_10 : decode cX9_isSpelled 10 = .ok (.if_icmp .ge 32, 3) := by decide +kernel
theorem dX9_isSpelled_13 : decode cX9_isSpelled 13 = .ok (.aload_n 0, 1) := by decide +kernel
theorem dX9_isSpelled_14 : decode cX9_isSpelled 14 = .ok (.getfield 9, 3) := by decide +kernel
theorem dX9_isSpelled_17 : decode cX9_isSpelled 17 = .ok (.iload_n 3, 1) := by decide +kernel
theorem dX9_isSpelled_18 : decode cX9_isSpelled 18 = .ok (.iaload, 1) := by decide +kernel
theorem dX9_isSpelled_19 : decode cX9_isSpelled 19 = .ok (.aload_n 1, 1) := by decide +kernel
theorem dX9_isSpelled_20 : decode cX9_isSpelled 20 = .ok (.iload_n 2, 1) := by decide +kernel
theorem dX9_isSpelled_21 : decode cX9_isSpelled 21 = .ok (.iload_n 3, 1) := by decide +kernel
theorem dX9_isSpelled_22 : decode cX9_isSpelled 22 = .ok (.iadd, 1) := by decide +kernel
theorem dX9_isSpelled_23 : decode cX9_isSpelled 23 = .ok (.aload_n 0, 1) := by decide +kernel
theorem dX9_isSpelled_24 : decode cX9_isSpelled 24 = .ok (.getfield 34, 3) := by decide +kernel
theorem dX9_isSpelled_27 : decode cX9_isSpelled 27 = .ok (.isub, 1) := by decide +kernel
theorem dX9_isSpelled_28 : decode cX9_isSpelled 28 = .ok (.invokevirtual 60, 3) := by decide +kernel
theorem dX9_isSpelled_31 : decode cX9_isSpelled 31 = .ok (.if_icmp .eq 5, 3) := by decide +kernel
theorem dX9_isSpelled_34 : decode cX9_isSpelled 34 = .ok (.iconst 0, 1) := by decide +kernel
theorem dX9_isSpelled_35 : decode cX9_isSpelled 35 = .ok (.ireturn, 1) := by decide +kernel
theorem dX9_isSpelled_36 : decode cX9_isSpelled 36 = .ok (.iinc 3 1, 3) := by decide +kernel
theorem dX9_isSpelled_39 : decode cX9_isSpelled 39 = .ok (.goto (-34), 3) := by decide +kernel
theorem dX9_isSpelled_42 : decode cX9_isSpelled 42 = .ok (.iconst 1, 1) := by decide +kernel
theorem dX9_isSpelled_43 : decode cX9_isSpelled 43 = .ok (.ireturn, 1) := by decide +kernel
def X9_isSpelled_p5b (sh : Shp) (v0 : Nat) (v1 : Nat) (v2 : Int32) (Q : Int32 → Mem → Prop) (K5 : Int32 → Mem → Prop) (v3 : Int32) (m : Mem) : Prop :=
  Ob sh v0 9 ∧ (if (m.1 v0 4) ≤ v3 then (Q (1 : Int32) m) else (∃ b3 : Nat, m.2.2 v0 0 = some b3 ∧ (Ix sh b3 100 v3 ∧ (v1 < 19 ∧ vp_in ((v2 + v3) - (m.1 v0 3)) (slen.getD v1 0) ∧ (if (m.1 b3 v3.toNatClampNeg) = (sch v1 ((v2 + v3) - (m.1 v0 3))) then (K5 (v3 + (1 : Int32)) m) else (Q (0 : Int32) m))))))
def X9_isSpelled_p5n (sh : Shp) (v0 : Nat) (v1 : Nat) (v2 : Int32) (Q : Int32 → Mem → Prop) : Nat → Int32 → Mem → Prop
  | 0 => fun _ _ => False
  | n + 1 => X9_isSpelled_p5b sh v0 v1 v2 Q (X9_isSpelled_p5n sh v0 v1 v2 Q n)
def X9_isSpelled_p5 (sh : Shp) (v0 : Nat) (v1 : Nat) (v2 : Int32) (Q : Int32 → Mem → Prop) (v3 : Int32) (m : Mem) : Prop := ∃ n, X9_isSpelled_p5n sh v0 v1 v2 Q n v3 m
def wp_X9_isSpelled (sh : Shp) (v0 : Nat) (v1 : Nat) (v2 : Int32) (Q : Int32 → Mem → Prop) (m : Mem) : Prop :=
  Ob sh v0 9 ∧ (X9_isSpelled_p5 sh v0 v1 v2 Q (m.1 v0 3) m)
abbrev M_X9_isSpelled : Mi := (cX9_isSpelled, 4, RX9, (Option.some FieldType.boolean), "isSpelled", 9, 321, 0, 0)
set_option maxHeartbeats 4000000 in
set_option maxRecDepth 100000 in
theorem v_X9_isSpelled_p5b {G : Gl} {F : Fr} {sh : Shp} {v0 : Nat} {v1 : Nat} {v2 : Int32} {v3 : Int32} {Q : Int32 → Mem → Prop} {K5 : Int32 → Mem → Prop} {m : Mem} (hK5 : ∀ (x3 : Int32) (m : Mem), K5 x3 m → V G F M_X9_isSpelled sh 0 0 (Zi G F sh Q) 5 [(0, .ref (G.1 + v0)), (1, .ref (G.2.2.2.1 v1)), (2, .int v2), (3, .int x3)] [] m) (h : X9_isSpelled_p5b sh v0 v1 v2 Q K5 v3 m) : V G F M_X9_isSpelled sh 0 0 (Zi G F sh Q) 5 [(0, .ref (G.1 + v0)), (1, .ref (G.2.2.2.1 v1)), (2, .int v2), (3, .int v3)] [] m := by
  unfold X9_isSpelled_p5b at h
  refine v_iload_n 3 3 dX9_isSpelled_5 rfl rfl ?_
  refine v_aload_n 0 0 dX9_isSpelled_6 rfl rfl ?_
  obtain ⟨o2, h⟩ := h
  refine v_gI 9 4 dX9_isSpelled_7 fg_RX9_28 o2 ?_
  refine v_icmp_ge 42 dX9_isSpelled_10 (by decide) (fun hc => ?_) (fun hc => ?_)
  · replace h := Eq.mp (if_pos hc) h
    refine v_iconst (1 : Int32) dX9_isSpelled_42 (by decide) ?_
    exact v_iret dX9_isSpelled_43 rfl (by decide) h
  · replace h := Eq.mp (if_neg hc) h
    refine v_aload_n 0 0 dX9_isSpelled_13 rfl rfl ?_
    obtain ⟨b3, e4, h⟩ := h
    refine v_gR 9 0 dX9_isSpelled_14 fg_RX9_9 o2 e4 ?_
    refine v_iload_n 3 3 dX9_isSpelled_17 rfl rfl ?_
    obtain ⟨i5, h⟩ := h
    refine v_iald dX9_isSpelled_18 i5 ?_
    refine v_aload_n 1 1 dX9_isSpelled_19 rfl rfl ?_
    refine v_iload_n 2 2 dX9_isSpelled_20 rfl rfl ?_
    refine v_iload_n 3 3 dX9_isSpelled_21 rfl rfl ?_
    refine v_iadd dX9_isSpelled_22 ?_
    refine v_aload_n 0 0 dX9_isSpelled_23 rfl rfl ?_
    refine v_gI 9 3 dX9_isSpelled_24 fg_RX9_34 o2 ?_
    refine v_isub dX9_isSpelled_27 ?_
    obtain ⟨hw, hi, h⟩ := h
    refine v_chr hw hi ml_RX9_60 (Nat.le_of_ble_eq_true rfl) (Nat.le_of_ble_eq_true rfl) (Nat.le_of_ble_eq_true rfl) (Nat.zero_le _) (Nat.zero_le _) dX9_isSpelled_28 ?_
    refine v_icmp_eq 36 dX9_isSpelled_31 (by decide) (fun hc => ?_) (fun hc => ?_)
    · replace h := Eq.mp (if_pos hc) h
      refine v_iinc (ls' := [(3, .int _), (0, .ref _), (1, .ref _), (2, .int _)]) 3 3 dX9_isSpelled_36 rfl (congrArg (HAdd.hAdd _) (by decide : Int32.ofInt (1) = (1 : Int32))) (Nat.le_of_ble_eq_true rfl) rfl ?_
      refine v_goto 5 dX9_isSpelled_39 (by decide) ?_
      refine v_sub [1, 2, 3, 0] rfl ?_
      exact hK5 _ _ h
    · replace h := Eq.mp (if_neg hc) h
      refine v_iconst (0 : Int32) dX9_isSpelled_34 (by decide) ?_
      exact v_iret dX9_isSpelled_35 rfl (by decide) h
set_option maxHeartbeats 4000000 in
set_option maxRecDepth 100000 in
theorem v_X9_isSpelled_p5 {G : Gl} {F : Fr} {sh : Shp} {v0 : Nat} {v1 : Nat} {v2 : Int32} {v3 : Int32} {Q : Int32 → Mem → Prop} {m : Mem} (h : X9_isSpelled_p5 sh v0 v1 v2 Q v3 m) : V G F M_X9_isSpelled sh 0 0 (Zi G F sh Q) 5 [(0, .ref (G.1 + v0)), (1, .ref (G.2.2.2.1 v1)), (2, .int v2), (3, .int v3)] [] m := by
  obtain ⟨n, h⟩ := h
  induction n generalizing v3 m with
  | zero => exact h.elim
  | succ n ih => exact v_X9_isSpelled_p5b (fun _ _ h => ih h) h
set_option maxHeartbeats 4000000 in
set_option maxRecDepth 100000 in
theorem c_X9_isSpelled {l : Launch} {G : Gl} {sh : Shp} {v0 : Nat} {v1 : Nat} {v2 : Int32} {Q : Int32 → Mem → Prop} {m : Mem} (h : wp_X9_isSpelled sh v0 v1 v2 Q m) : Cni l G yX9_isSpelled cX9_isSpelled 4 (Option.some FieldType.boolean) 9 321 sh [.ref (G.1 + v0), .ref (G.2.2.2.1 v1), .int v2] m Q := by
  refine con_i (ls := [(0, .ref (G.1 + v0)), (1, .ref (G.2.2.2.1 v1)), (2, .int v2)]) (by decide +kernel) rfl (Nat.le_of_ble_eq_true rfl) (fun F => ?_)
  show V G F M_X9_isSpelled sh 0 0 (Zi G F sh Q) 0 [(0, .ref (G.1 + v0)), (1, .ref (G.2.2.2.1 v1)), (2, .int v2)] [] m
  unfold wp_X9_isSpelled at h
  refine v_aload_n 0 0 dX9_isSpelled_0 rfl rfl ?_
  obtain ⟨o1, h⟩ := h
  refine v_gI 9 3 dX9_isSpelled_1 fg_RX9_34 o1 ?_
  refine v_istore_n (ls' := [(3, .int _), (0, .ref _), (1, .ref _), (2, .int _)]) 3 dX9_isSpelled_4 rfl (Nat.le_of_ble_eq_true rfl) rfl ?_
  refine v_sub [1, 2, 3, 0] rfl ?_
  exact v_X9_isSpelled_p5 h
/-! CalledRiver$Tape.letterOf -/
theorem dX9_letterOf_0 : decode cX9_letterOf 0 = .ok (.iload_n 0, 1) := by decide +kernel
theorem dX9_letterOf_1 : decode cX9_letterOf 1 = .ok (.iconst 5, 1) := by decide +kernel
theorem dX9_letterOf_2 : decode cX9_letterOf 2 = .ok (.iload_n 1, 1) := by decide +kernel
theorem dX9_letterOf_3 : decode cX9_letterOf 3 = .ok (.imul, 1) := by decide +kernel
theorem dX9_letterOf_4 : decode cX9_letterOf 4 = .ok (.ishr, 1) := by decide +kernel
theorem dX9_letterOf_5 : decode cX9_letterOf 5 = .ok (.bipush 31, 2) := by decide +kernel
theorem dX9_letterOf_7 : decode cX9_letterOf 7 = .ok (.iand, 1) := by decide +kernel
theorem dX9_letterOf_8 : decode cX9_letterOf 8 = .ok (.ireturn, 1) := by decide +kernel
def wp_X9_letterOf (sh : Shp) (v0 : Int32) (v1 : Int32) (Q : Int32 → Mem → Prop) (m : Mem) : Prop :=
  Q ((v0 >>> (((5 : Int32) * v1) &&& 31)) &&& (31 : Int32)) m
abbrev M_X9_letterOf : Mi := (cX9_letterOf, 2, RX9, (Option.some FieldType.int), "letterOf", 1, 60, 0, 0)
set_option maxHeartbeats 4000000 in
set_option maxRecDepth 100000 in
theorem c_X9_letterOf {l : Launch} {G : Gl} {sh : Shp} {v0 : Int32} {v1 : Int32} {Q : Int32 → Mem → Prop} {m : Mem} (h : wp_X9_letterOf sh v0 v1 Q m) : Cni l G yX9_letterOf cX9_letterOf 2 (Option.some FieldType.int) 1 60 sh [.int v0, .int v1] m Q := by
  refine con_i (ls := [(0, .int v0), (1, .int v1)]) (by decide +kernel) rfl (Nat.le_of_ble_eq_true rfl) (fun F => ?_)
  show V G F M_X9_letterOf sh 0 0 (Zi G F sh Q) 0 [(0, .int v0), (1, .int v1)] [] m
  unfold wp_X9_letterOf at h
  refine v_iload_n 0 0 dX9_letterOf_0 rfl rfl ?_
  refine v_iconst (5 : Int32) dX9_letterOf_1 (by decide) ?_
  refine v_iload_n 1 1 dX9_letterOf_2 rfl rfl ?_
  refine v_imul dX9_letterOf_3 ?_
  refine v_ishr dX9_letterOf_4 ?_
  refine v_bipush (31 : Int32) dX9_letterOf_5 (by decide) ?_
  refine v_iand dX9_letterOf_7 ?_
  exact v_iret dX9_letterOf_8 rfl rfl h
/-! CalledRiver$Tape.rewind -/
theorem dX9_rewind_0 : decode cX9_rewind 0 = .ok (.aload_n 0, 1) := by decide +kernel
theorem dX9_rewind_1 : decode cX9_rewind 1 = .ok (.iconst 0, 1) := by decide +kernel
theorem dX9_rewind_2 : decode cX9_rewind 2 = .ok (.putfield 22, 3) := by decide +kernel
theorem dX9_rewind_5 : decode cX9_rewind 5 = .ok (.aload_n 0, 1) := by decide +kernel
theorem dX9_rewind_6 : decode cX9_rewind 6 = .ok (.iconst (-1), 1) := by decide +kernel
theorem dX9_rewind_7 : decode cX9_rewind 7 = .ok (.putfield 15, 3) := by decide +kernel
theorem dX9_rewind_10 : decode cX9_rewind 10 = .ok (.aload_n 0, 1) := by decide +kernel
theorem dX9_rewind_11 : decode cX9_rewind 11 = .ok (.iconst 3, 1) := by decide +kernel
theorem dX9_rewind_12 : decode cX9_rewind 12 = .ok (.putfield 25, 3) := by decide +kernel
theorem dX9_rewind_15 : decode cX9_rewind 15 = .ok (.aload_n 0, 1) := by decide +kernel
theorem dX9_rewind_16 : decode cX9_rewind 16 = .ok (.iconst 0, 1) := by decide +kernel
theorem dX9_rewind_17 : decode cX9_rewind 17 = .ok (.putfield 28, 3) := by decide +kernel
theorem dX9_rewind_20 : decode cX9_rewind 20 = .ok (.aload_n 0, 1) := by decide +kernel
theorem dX9_rewind_21 : decode cX9_rewind 21 = .ok (.invokevirtual 31, 3) := by decide +kernel
theorem dX9_rewind_24 : decode cX9_rewind 24 = .ok (.return_, 1) := by decide +kernel
def wp_X9_rewind (sh : Shp) (v0 : Nat) (Q : Mem → Prop) (m : Mem) : Prop :=
  Ob sh v0 9 ∧ bnd (sI m v0 5 (0 : Int32)) (fun m2 => bnd (sI m2 v0 6 (-1 : Int32)) (fun m3 => bnd (sI m3 v0 2 (3 : Int32)) (fun m4 => bnd (sI m4 v0 4 (0 : Int32)) (fun m5 => wp_X9_advance sh v0 (fun m7 => Q m7) m5))))
abbrev M_X9_rewind : Mi := (cX9_rewind, 1, RX9, (none : Option FieldType), "rewind", 3, 103, 0, 0)
set_option maxHeartbeats 4000000 in
set_option maxRecDepth 100000 in
theorem c_X9_rewind {l : Launch} {G : Gl} {sh : Shp} {v0 : Nat} {Q : Mem → Prop} {m : Mem} (h : wp_X9_rewind sh v0 Q m) : Cnv l G yX9_rewind cX9_rewind 1 (none : Option FieldType) 3 103 sh [.ref (G.1 + v0)] m Q := by
  refine con_v (ls := [(0, .ref (G.1 + v0))]) (by decide +kernel) rfl (Nat.le_of_ble_eq_true rfl) (fun F => ?_)
  show V G F M_X9_rewind sh 0 0 (Zv G F sh Q) 0 [(0, .ref (G.1 + v0))] [] m
  unfold wp_X9_rewind at h
  refine v_aload_n 0 0 dX9_rewind_0 rfl rfl ?_
  refine v_iconst (0 : Int32) dX9_rewind_1 (by decide) ?_
  obtain ⟨o1, h⟩ := h
  refine v_pI 9 5 dX9_rewind_2 fw_RX9_22 o1 ?_
  replace h := bnd_e h
  refine v_aload_n 0 0 dX9_rewind_5 rfl rfl ?_
  refine v_iconst (-1 : Int32) dX9_rewind_6 (by decide) ?_
  refine v_pI 9 6 dX9_rewind_7 fw_RX9_15 o1 ?_
  replace h := bnd_e h
  refine v_aload_n 0 0 dX9_rewind_10 rfl rfl ?_
  refine v_iconst (3 : Int32) dX9_rewind_11 (by decide) ?_
  refine v_pI 9 2 dX9_rewind_12 fw_RX9_25 o1 ?_
  replace h := bnd_e h
  refine v_aload_n 0 0 dX9_rewind_15 rfl rfl ?_
  refine v_iconst (0 : Int32) dX9_rewind_16 (by decide) ?_
  refine v_pI 9 4 dX9_rewind_17 fw_RX9_28 o1 ?_
  replace h := bnd_e h
  refine v_aload_n 0 0 dX9_rewind_20 rfl rfl ?_
  refine v_cVv [] mv_X9_advance ml_RX9_31 ⟨_, _, rfl⟩ o1 rfl rfl (Nat.le_of_ble_eq_true rfl) (Nat.le_of_ble_eq_true rfl) (Nat.le_of_ble_eq_true rfl) (Nat.zero_le _) (Nat.zero_le _) dX9_rewind_21 (c_X9_advance h) (fun m7 h => ?_)
  exact v_vret dX9_rewind_24 rfl h
/-! CalledRiver$Tape.wordIn -/
theorem dX9_wordIn_0 : decode cX9_wordIn 0 = .ok (.aload_n 0, 1) := by decide +kernel
theorem dX9_wordIn_1 : decode cX9_wordIn 1 = .ok (.getfield 25, 3) := by decide +kernel
theorem dX9_wordIn_4 : decode cX9_wordIn 4 = .ok (.iconst 1, 1) := by decide +kernel
theorem dX9_wordIn_5 : decode cX9_wordIn 5 = .ok (.if_icmp .eq 5, 3) := by decide +kernel
theorem dX9_wordIn_8 : decode cX9_wordIn 8 = .ok (.iconst (-1), 1) := by decide +kernel
theorem dX9_wordIn_9 : decode cX9_wordIn 9 = .ok (.ireturn, 1) := by decide +kernel
theorem dX9_wordIn_10 : decode cX9_wordIn 10 = .ok (.iconst 0, 1) := by decide +kernel
theorem dX9_wordIn_11 : decode cX9_wordIn 11 = .ok (.istore_n 2, 1) := by decide +kernel
theorem dX9_wordIn_12 : decode cX9_wordIn 12 = .ok (.iconst 0, 1) := by decide +kernel
theorem dX9_wordIn_13 : decode cX9_wordIn 13 = .ok (.istore_n 3, 1) := by decide +kernel
theorem dX9_wordIn_14 : decode cX9_wordIn 14 = .ok (.iconst 0, 1) := by decide +kernel
theorem dX9_wordIn_15 : decode cX9_wordIn 15 = .ok (.istore 4, 2) := by decide +kernel
theorem dX9_wordIn_17 : decode cX9_wordIn 17 = .ok (.iload 4, 2) := by decide +kernel
theorem dX9_wordIn_19 : decode cX9_wordIn 19 = .ok (.aload_n 1, 1) := by decide +kernel
theorem dX9_wordIn_20 : decode cX9_wordIn 20 = .ok (.invokevirtual 55, 3) := by decide +kernel
theorem dX9_wordIn_23 : decode cX9_wordIn 23 = .ok (.if_icmp .gt 64, 3) := by decide +kernel
theorem dX9_wordIn_26 : decode cX9_wordIn 26 = .ok (.iload 4, 2) := by decide +kernel
theorem dX9_wordIn_28 : decode cX9_wordIn 28 = .ok (.aload_n 1, 1) := by decide +kernel
theorem dX9_wordIn_29 : decode cX9_wordIn 29 = .ok (.invokevirtual 55, 3) := by decide +kernel
theorem dX9_wordIn_32 : decode cX9_wordIn 32 = .ok (.if_icmp .eq 14, 3) := by decide +kernel
theorem dX9_wordIn_35 : decode cX9_wordIn 35 = .ok (.aload_n 1, 1) := by decide +kernel
theorem dX9_wordIn_36 : decode cX9_wordIn 36 = .ok (.iload 4, 2) := by decide +kernel
theorem dX9_wordIn_38 : decode cX9_wordIn 38 = .ok (.invokevirtual 60, 3) := by decide +kernel
theorem dX9_wordIn_41 : decode cX9_wordIn 41 = .ok (.bipush 32, 2) := by decide +kernel
theorem dX9_wordIn_43 : decode cX9_wordIn 43 = .ok (.if_icmp .ne 38, 3) := by decide +kernel
theorem dX9_wordIn_46 : decode cX9_wordIn 46 = .ok (.iload 4, 2) := by decide +kernel
theorem dX9_wordIn_48 : decode cX9_wordIn 48 = .ok (.iload_n 3, 1) := by decide +kernel
theorem dX9_wordIn_49 : decode cX9_wordIn 49 = .ok (.isub, 1) := by decide +kernel
theorem dX9_wordIn_50 : decode cX9_wordIn 50 = .ok (.aload_n 0, 1) := by decide +kernel
theorem dX9_wordIn_51 : decode cX9_wordIn 51 = .ok (.getfield 28, 3) := by decide +kernel
theorem dX9_wordIn_54 : decode cX9_wordIn 54 = .ok (.aload_n 0, 1) := by decide +kernel
theorem dX9_wordIn_55 : decode cX9_wordIn 55 = .ok (.getfield 34, 3) := by decide +kernel
theorem dX9_wordIn_58 : decode cX9_wordIn 58 = .ok (.isub, 1) := by decide +kernel
theorem dX9_wordIn_59 : decode cX9_wordIn 59 = .ok (.if_icmp .ne 14, 3) := by decide +kernel
theorem dX9_wordIn_62 : decode cX9_wordIn 62 = .ok (.aload_n 0, 1) := by decide +kernel
theorem dX9_wordIn_63 : decode cX9_wordIn 63 = .ok (.aload_n 1, 1) := by decide +kernel
theorem dX9_wordIn_64 : decode cX9_wordIn 64 = .ok (.iload_n 3, 1) := by decide +kernel
theorem dX9_wordIn_65 : decode cX9_wordIn 65 = .ok (.invokevirtual 64, 3) := by decide +kernel
theorem dX9_wordIn_68 : decode cX9_wordIn 68 = .ok (.ifCond .eq 5, 3) := by decide +kernel
theorem dX9_wordIn_71 : decode cX9_wordIn 71 = .ok (.iload_n 2, 1) := by decide +kernel
theorem dX9_wordIn_72 : decode cX9_wordIn 72 = .ok (.ireturn, 1) := by decide +kernel
theorem dX9_wordIn_73 : decode cX9_wordIn 73 = .ok (.iinc 2 1, 3) := by decide +kernel
theorem dX9_wordIn_76 : decode cX9_wordIn 76 = .ok (.iload 4, 2) := by decide +kernel
theorem dX9_wordIn_78 : decode cX9_wordIn 78 = .ok (.iconst 1, 1) := by decide +kernel
theorem dX9_wordIn_79 : decode cX9_wordIn 79 = .ok (.iadd, 1) := by decide +kernel
theorem dX9_wordIn_80 : decode cX9_wordIn 80 = .ok (.istore_n 3, 1) := by decide +kernel
theorem dX9_wordIn_81 : decode cX9_wordIn 81 = .ok (.iinc 4 1, 3) := by decide +kernel
theorem dX9_wordIn_84 : decode cX9_wordIn 84 = .ok (.goto (-67), 3) := by decide +kernel
theorem dX9_wordIn_87 : decode cX9_wordIn 87 = .ok (.iconst (-1), 1) := by decide +kernel
theorem dX9_wordIn_88 : decode cX9_wordIn 88 = .ok (.ireturn, 1) := by decide +kernel
def X9_wordIn_p81 (sh : Shp) (v0 : Nat) (v1 : Nat) (v2 : Int32) (v3 : Int32) (v4 : Int32) (Q : Int32 → Mem → Prop) (K17 : Int32 → Int32 → Int32 → Mem → Prop) (m : Mem) : Prop :=
  K17 v2 v3 (v4 + (1 : Int32)) m
def X9_wordIn_p73 (sh : Shp) (v0 : Nat) (v1 : Nat) (v2 : Int32) (v4 : Int32) (Q : Int32 → Mem → Prop) (K17 : Int32 → Int32 → Int32 → Mem → Prop) (m : Mem) : Prop :=
  X9_wordIn_p81 sh v0 v1 (v2 + (1 : Int32)) (v4 + (1 : Int32)) v4 Q K17 m
def X9_wordIn_p46 (sh : Shp) (v0 : Nat) (v1 : Nat) (v2 : Int32) (v3 : Int32) (v4 : Int32) (Q : Int32 → Mem → Prop) (K17 : Int32 → Int32 → Int32 → Mem → Prop) (m : Mem) : Prop :=
  Ob sh v0 9 ∧ (if (v4 - v3) = ((m.1 v0 4) - (m.1 v0 3)) then (wp_X9_isSpelled sh v0 v1 v3 (fun r3 m4 => if r3 = 0 then (X9_wordIn_p73 sh v0 v1 v2 v4 Q K17 m4) else (Q v2 m4)) m) else (X9_wordIn_p73 sh v0 v1 v2 v4 Q K17 m))
def X9_wordIn_p17b (sh : Shp) (v0 : Nat) (v1 : Nat) (Q : Int32 → Mem → Prop) (K17 : Int32 → Int32 → Int32 → Mem → Prop) (v2 : Int32) (v3 : Int32) (v4 : Int32) (m : Mem) : Prop :=
  v1 < 19 ∧ (if (nI (slen.getD v1 0)) < v4 then (Q (-1 : Int32) m) else (v1 < 19 ∧ (if v4 = (nI (slen.getD v1 0)) then (X9_wordIn_p46 sh v0 v1 v2 v3 v4 Q K17 m) else (v1 < 19 ∧ vp_in v4 (slen.getD v1 0) ∧ (if (sch v1 v4) = (32 : Int32) then (X9_wordIn_p46 sh v0 v1 v2 v3 v4 Q K17 m) else (X9_wordIn_p81 sh v0 v1 v2 v3 v4 Q K17 m))))))
def X9_wordIn_p17n (sh : Shp) (v0 : Nat) (v1 : Nat) (Q : Int32 → Mem → Prop) : Nat → Int32 → Int32 → Int32 → Mem → Prop
  | 0 => fun _ _ _ _ => False
  | n + 1 => X9_wordIn_p17b sh v0 v1 Q (X9_wordIn_p17n sh v0 v1 Q n)
def X9_wordIn_p17 (sh : Shp) (v0 : Nat) (v1 : Nat) (Q : Int32 → Mem → Prop) (v2 : Int32) (v3 : Int32) (v4 : Int32) (m : Mem) : Prop := ∃ n, X9_wordIn_p17n sh v0 v1 Q n v2 v3 v4 m
def wp_X9_wordIn (sh : Shp) (v0 : Nat) (v1 : Nat) (Q : Int32 → Mem → Prop) (m : Mem) : Prop :=
  Ob sh v0 9 ∧ (if (m.1 v0 2) = (1 : Int32) then (X9_wordIn_p17 sh v0 v1 Q (0 : Int32) (0 : Int32) (0 : Int32) m) else (Q (-1 : Int32) m))
abbrev M_X9_wordIn : Mi := (cX9_wordIn, 5, RX9, (Option.some FieldType.int), "wordIn", 10, 344, 0, 0)
set_option maxHeartbeats 4000000 in
set_option maxRecDepth 100000 in
theorem v_X9_wordIn_p81 {G : Gl} {F : Fr} {sh : Shp} {v0 : Nat} {v1 : Nat} {v2 : Int32} {v3 : Int32} {v4 : Int32} {Q : Int32 → Mem → Prop} {K17 : Int32 → Int32 → Int32 → Mem → Prop} {m : Mem} (hK17 : ∀ (x2 : Int32) (x3 : Int32) (x4 : Int32) (m : Mem), K17 x2 x3 x4 m → V G F M_X9_wordIn sh 0 0 (Zi G F sh Q) 17 [(0, .ref (G.1 + v0)), (1, .ref (G.2.2.2.1 v1)), (2, .int x2), (3, .int x3), (4, .int x4)] [] m) (h : X9_wordIn_p81 sh v0 v1 v2 v3 v4 Q K17 m) : V G F M_X9_wordIn sh 0 0 (Zi G F sh Q) 81 [(0, .ref (G.1 + v0)), (1, .ref (G.2.2.2.1 v1)), (2, .int v2), (3, .int v3), (4, .int v4)] [] m := by
  unfold X9_wordIn_p81 at h
  refine v_iinc (ls' := [(4, .int _), (0, .ref _), (1, .ref _), (2, .int _), (3, .int _)]) 4 4 dX9_wordIn_81 rfl (congrArg (HAdd.hAdd _) (by decide : Int32.ofInt (1) = (1 : Int32))) (Nat.le_of_ble_eq_true rfl) rfl ?_
  refine v_goto 17 dX9_wordIn_84 (by decide) ?_
  refine v_sub [1, 2, 3, 4, 0] rfl ?_
  exact hK17 _ _ _ _ h
set_option maxHeartbeats 4000000 in
set_option maxRecDepth 100000 in
theorem v_X9_wordIn_p73 {G : Gl} {F : Fr} {sh : Shp} {v0 : Nat} {v1 : Nat} {v2 : Int32} {v4 : Int32} {Q : Int32 → Mem → Prop} {K17 : Int32 → Int32 → Int32 → Mem → Prop} {m : Mem} (hK17 : ∀ (x2 : Int32) (x3 : Int32) (x4 : Int32) (m : Mem), K17 x2 x3 x4 m → V G F M_X9_wordIn sh 0 0 (Zi G F sh Q) 17 [(0, .ref (G.1 + v0)), (1, .ref (G.2.2.2.1 v1)), (2, .int x2), (3, .int x3), (4, .int x4)] [] m) (h : X9_wordIn_p73 sh v0 v1 v2 v4 Q K17 m) : V G F M_X9_wordIn sh 0 0 (Zi G F sh Q) 73 [(0, .ref (G.1 + v0)), (1, .ref (G.2.2.2.1 v1)), (2, .int v2), (4, .int v4)] [] m := by
  unfold X9_wordIn_p73 at h
  refine v_iinc (ls' := [(2, .int _), (0, .ref _), (1, .ref _), (4, .int _)]) 2 2 dX9_wordIn_73 rfl (congrArg (HAdd.hAdd _) (by decide : Int32.ofInt (1) = (1 : Int32))) (Nat.le_of_ble_eq_true rfl) rfl ?_
  refine v_iload 4 3 dX9_wordIn_76 rfl ?_
  refine v_iconst (1 : Int32) dX9_wordIn_78 (by decide) ?_
  refine v_iadd dX9_wordIn_79 ?_
  refine v_istore_n (ls' := [(3, .int _), (2, .int _), (0, .ref _), (1, .ref _), (4, .int _)]) 3 dX9_wordIn_80 rfl (Nat.le_of_ble_eq_true rfl) rfl ?_
  refine v_sub [2, 3, 1, 0, 4] rfl ?_
  exact v_X9_wordIn_p81 hK17 h
set_option maxHeartbeats 4000000 in
set_option maxRecDepth 100000 in
theorem v_X9_wordIn_p46 {G : Gl} {F : Fr} {sh : Shp} {v0 : Nat} {v1 : Nat} {v2 : Int32} {v3 : Int32} {v4 : Int32} {Q : Int32 → Mem → Prop} {K17 : Int32 → Int32 → Int32 → Mem → Prop} {m : Mem} (hK17 : ∀ (x2 : Int32) (x3 : Int32) (x4 : Int32) (m : Mem), K17 x2 x3 x4 m → V G F M_X9_wordIn sh 0 0 (Zi G F sh Q) 17 [(0, .ref (G.1 + v0)), (1, .ref (G.2.2.2.1 v1)), (2, .int x2), (3, .int x3), (4, .int x4)] [] m) (h : X9_wordIn_p46 sh v0 v1 v2 v3 v4 Q K17 m) : V G F M_X9_wordIn sh 0 0 (Zi G F sh Q) 46 [(0, .ref (G.1 + v0)), (1, .ref (G.2.2.2.1 v1)), (2, .int v2), (3, .int v3), (4, .int v4)] [] m := by
  unfold X9_wordIn_p46 at h
  refine v_iload 4 4 dX9_wordIn_46 rfl ?_
  refine v_iload_n 3 3 dX9_wordIn_48 rfl rfl ?_
  refine v_isub dX9_wordIn_49 ?_
  refine v_aload_n 0 0 dX9_wordIn_50 rfl rfl ?_
  obtain ⟨o2, h⟩ := h
  refine v_gI 9 4 dX9_wordIn_51 fg_RX9_28 o2 ?_
  refine v_aload_n 0 0 dX9_wordIn_54 rfl rfl ?_
  refine v_gI 9 3 dX9_wordIn_55 fg_RX9_34 o2 ?_
  refine v_isub dX9_wordIn_58 ?_
  refine v_icmp_ne 73 dX9_wordIn_59 (by decide) (fun hc => ?_) (fun hc => ?_)
  · replace h := Eq.mp (if_neg hc) h
    refine v_sub [0, 1, 2, 4] rfl ?_
    exact v_X9_wordIn_p73 hK17 h
  · replace h := Eq.mp (if_pos hc) h
    refine v_aload_n 0 0 dX9_wordIn_62 rfl rfl ?_
    refine v_aload_n 1 1 dX9_wordIn_63 rfl rfl ?_
    refine v_iload_n 3 3 dX9_wordIn_64 rfl rfl ?_
    refine v_cVi [.ref _, .int _] mv_X9_isSpelled ml_RX9_64 ⟨_, _, rfl⟩ o2 rfl rfl (Nat.le_of_ble_eq_true rfl) (Nat.le_of_ble_eq_true rfl) (Nat.le_of_ble_eq_true rfl) (Nat.zero_le _) (Nat.zero_le _) dX9_wordIn_65 (c_X9_isSpelled h) (fun r3 m4 h => ?_)
    refine v_if_eq 73 dX9_wordIn_68 (by decide) (fun hc => ?_) (fun hc => ?_)
    · replace h := Eq.mp (if_pos hc) h
      refine v_sub [0, 1, 2, 4] rfl ?_
      exact v_X9_wordIn_p73 hK17 h
    · replace h := Eq.mp (if_neg hc) h
      refine v_iload_n 2 2 dX9_wordIn_71 rfl rfl ?_
      exact v_iret dX9_wordIn_72 rfl rfl h
set_option maxHeartbeats 4000000 in
set_option maxRecDepth 100000 in
theorem v_X9_wordIn_p17b {G : Gl} {F : Fr} {sh : Shp} {v0 : Nat} {v1 : Nat} {v2 : Int32} {v3 : Int32} {v4 : Int32} {Q : Int32 → Mem → Prop} {K17 : Int32 → Int32 → Int32 → Mem → Prop} {m : Mem} (hK17 : ∀ (x2 : Int32) (x3 : Int32) (x4 : Int32) (m : Mem), K17 x2 x3 x4 m → V G F M_X9_wordIn sh 0 0 (Zi G F sh Q) 17 [(0, .ref (G.1 + v0)), (1, .ref (G.2.2.2.1 v1)), (2, .int x2), (3, .int x3), (4, .int x4)] [] m) (h : X9_wordIn_p17b sh v0 v1 Q K17 v2 v3 v4 m) : V G F M_X9_wordIn sh 0 0 (Zi G F sh Q) 17 [(0, .ref (G.1 + v0)), (1, .ref (G.2.2.2.1 v1)), (2, .int v2), (3, .int v3), (4, .int v4)] [] m := by
  unfold X9_wordIn_p17b at h
  refine v_iload 4 4 dX9_wordIn_17 rfl ?_
  refine v_aload_n 1 1 dX9_wordIn_19 rfl rfl ?_
  obtain ⟨hw, h⟩ := h
  refine v_sln hw ml_RX9_55 (Nat.le_of_ble_eq_true rfl) (Nat.le_of_ble_eq_true rfl) (Nat.le_of_ble_eq_true rfl) (Nat.zero_le _) (Nat.zero_le _) dX9_wordIn_20 ?_
  refine v_icmp_gt 87 dX9_wordIn_23 (by decide) (fun hc => ?_) (fun hc => ?_)
  · replace h := Eq.mp (if_pos hc) h
    refine v_iconst (-1 : Int32) dX9_wordIn_87 (by decide) ?_
    exact v_iret dX9_wordIn_88 rfl rfl h
  · replace h := Eq.mp (if_neg hc) h
    refine v_iload 4 4 dX9_wordIn_26 rfl ?_
    refine v_aload_n 1 1 dX9_wordIn_28 rfl rfl ?_
    obtain ⟨hw, h⟩ := h
    refine v_sln hw ml_RX9_55 (Nat.le_of_ble_eq_true rfl) (Nat.le_of_ble_eq_true rfl) (Nat.le_of_ble_eq_true rfl) (Nat.zero_le _) (Nat.zero_le _) dX9_wordIn_29 ?_
    refine v_icmp_eq 46 dX9_wordIn_32 (by decide) (fun hc => ?_) (fun hc => ?_)
    · replace h := Eq.mp (if_pos hc) h
      refine v_sub [0, 1, 2, 3, 4] rfl ?_
      exact v_X9_wordIn_p46 hK17 h
    · replace h := Eq.mp (if_neg hc) h
      refine v_aload_n 1 1 dX9_wordIn_35 rfl rfl ?_
      refine v_iload 4 4 dX9_wordIn_36 rfl ?_
      obtain ⟨hw, hi, h⟩ := h
      refine v_chr hw hi ml_RX9_60 (Nat.le_of_ble_eq_true rfl) (Nat.le_of_ble_eq_true rfl) (Nat.le_of_ble_eq_true rfl) (Nat.zero_le _) (Nat.zero_le _) dX9_wordIn_38 ?_
      refine v_bipush (32 : Int32) dX9_wordIn_41 (by decide) ?_
      refine v_icmp_ne 81 dX9_wordIn_43 (by decide) (fun hc => ?_) (fun hc => ?_)
      · replace h := Eq.mp (if_neg hc) h
        refine v_sub [0, 1, 2, 3, 4] rfl ?_
        exact v_X9_wordIn_p81 hK17 h
      · replace h := Eq.mp (if_pos hc) h
        refine v_sub [0, 1, 2, 3, 4] rfl ?_
        exact v_X9_wordIn_p46 hK17 h
set_option maxHeartbeats 4000000 in
set_option maxRecDepth 100000 in
theorem v_X9_wordIn_p17 {G : Gl} {F : Fr} {sh : Shp} {v0 : Nat} {v1 : Nat} {v2 : Int32} {v3 : Int32} {v4 : Int32} {Q : Int32 → Mem → Prop} {m : Mem} (h : X9_wordIn_p17 sh v0 v1 Q v2 v3 v4 m) : V G F M_X9_wordIn sh 0 0 (Zi G F sh Q) 17 [(0, .ref (G.1 + v0)), (1, .ref (G.2.2.2.1 v1)), (2, .int v2), (3, .int v3), (4, .int v4)] [] m := by
  obtain ⟨n, h⟩ := h
  induction n generalizing v2 v3 v4 m with
  | zero => exact h.elim
  | succ n ih => exact v_X9_wordIn_p17b (fun _ _ _ _ h => ih h) h
set_option maxHeartbeats 4000000 in
set_option maxRecDepth 100000 in
theorem c_X9_wordIn {l : Launch} {G : Gl} {sh : Shp} {v0 : Nat} {v1 : Nat} {Q : Int32 → Mem → Prop} {m : Mem} (h : wp_X9_wordIn sh v0 v1 Q m) : Cni l G yX9_wordIn cX9_wordIn 5 (Option.some FieldType.int) 10 344 sh [.ref (G.1 + v0), .ref (G.2.2.2.1 v1)] m Q := by
  refine con_i (ls := [(0, .ref (G.1 + v0)), (1, .ref (G.2.2.2.1 v1))]) (by decide +kernel) rfl (Nat.le_of_ble_eq_true rfl) (fun F => ?_)
  show V G F M_X9_wordIn sh 0 0 (Zi G F sh Q) 0 [(0, .ref (G.1 + v0)), (1, .ref (G.2.2.2.1 v1))] [] m
  unfold wp_X9_wordIn at h
  refine v_aload_n 0 0 dX9_wordIn_0 rfl rfl ?_
  obtain ⟨o1, h⟩ := h
  refine v_gI 9 2 dX9_wordIn_1 fg_RX9_25 o1 ?_
  refine v_iconst (1 : Int32) dX9_wordIn_4 (by decide) ?_
  refine v_icmp_eq 10 dX9_wordIn_5 (by decide) (fun hc => ?_) (fun hc => ?_)
  · replace h := Eq.mp (if_pos hc) h
    refine v_iconst (0 : Int32) dX9_wordIn_10 (by decide) ?_
    refine v_istore_n (ls' := [(2, .int _), (0, .ref _), (1, .ref _)]) 2 dX9_wordIn_11 rfl (Nat.le_of_ble_eq_true rfl) rfl ?_
    refine v_iconst (0 : Int32) dX9_wordIn_12 (by decide) ?_
    refine v_istore_n (ls' := [(3, .int _), (2, .int _), (0, .ref _), (1, .ref _)]) 3 dX9_wordIn_13 rfl (Nat.le_of_ble_eq_true rfl) rfl ?_
    refine v_iconst (0 : Int32) dX9_wordIn_14 (by decide) ?_
    refine v_istore (ls' := [(4, .int _), (3, .int _), (2, .int _), (0, .ref _), (1, .ref _)]) 4 dX9_wordIn_15 (Nat.le_of_ble_eq_true rfl) rfl ?_
    refine v_sub [3, 4, 2, 1, 0] rfl ?_
    exact v_X9_wordIn_p17 h
  · replace h := Eq.mp (if_neg hc) h
    refine v_iconst (-1 : Int32) dX9_wordIn_8 (by decide) ?_
    exact v_iret dX9_wordIn_9 rfl rfl h
/-! CalledRiver$Tape.takeName -/
theorem dX9_takeName_0 : decode cX9_takeName 0 = .ok (.aload_n 0, 1) := by decide +kernel
theorem dX9_takeName_1 : decode cX9_takeName 1 = .ok (.getfield 25, 3) := by decide +kernel
theorem dX9_takeName_4 : decode cX9_takeName 4 = .ok (.iconst 1, 1) := by decide +kernel
theorem dX9_takeName_5 : decode cX9_takeName 5 = .ok (.if_icmp .ne 13, 3) := by decide +kernel
theorem dX9_takeName_8 : decode cX9_takeName 8 = .ok (.aload_n 0, 1) := by decide +kernel
theorem dX9_takeName_9 : decode cX9_takeName 9 = .ok (.ldc 72, 2) := by decide +kernel
theorem dX9_takeName_11 : decode cX9_takeName 11 = .ok (.invokevirtual 68, 3) := by decide +kernel
theorem dX9_takeName_14 : decode cX9_takeName 14 = .ok (.iconst (-1), 1) := by decide +kernel
theorem dX9_takeName_15 : decode cX9_takeName 15 = .ok (.if_icmp .eq 14, 3) := by decide +kernel
theorem dX9_takeName_18 : decode cX9_takeName 18 = .ok (.aload_n 0, 1) := by decide +kernel
theorem dX9_takeName_19 : decode cX9_takeName 19 = .ok (.iconst 1, 1) := by decide +kernel
theorem dX9_takeName_20 : decode cX9_takeName 20 = .ok (.aload_n 0, 1) := by decide +kernel
theorem dX9_takeName_21 : decode cX9_takeName 21 = .ok (.getfield 34, 3) := by decide +kernel
theorem dX9_takeName_24 : decode cX9_takeName 24 = .ok (.invokevirtual 51, 3) := by decide +kernel
theorem dX9_takeName_27 : decode cX9_takeName 27 = .ok (.iconst 0, 1) := by decide +kernel
theorem dX9_takeName_28 : decode cX9_takeName 28 = .ok (.ireturn, 1) := by decide +kernel
theorem dX9_takeName_29 : decode cX9_takeName 29 = .ok (.aload_n 0, 1) := by decide +kernel
theorem dX9_takeName_30 : decode cX9_takeName 30 = .ok (.getfield 28, 3) := by decide +kernel
theorem dX9_takeName_33 : decode cX9_takeName 33 = .ok (.aload_n 0, 1) := by decide +kernel
theorem dX9_takeName_34 : decode cX9_takeName 34 = .ok (.getfield 34, 3) := by decide +kernel
theorem dX9_takeName_37 : decode cX9_takeName 37 = .ok (.isub, 1) := by decide +kernel
theorem dX9_takeName_38 : decode cX9_takeName 38 = .ok (.bipush 6, 2) := by decide +kernel
theorem dX9_takeName_40 : decode cX9_takeName 40 = .ok (.if_icmp .le 17, 3) := by decide +kernel
theorem dX9_takeName_43 : decode cX9_takeName 43 = .ok (.aload_n 0, 1) := by decide +kernel
theorem dX9_takeName_44 : decode cX9_takeName 44 = .ok (.iconst 1, 1) := by decide +kernel
theorem dX9_takeName_45 : decode cX9_takeName 45 = .ok (.aload_n 0, 1) := by decide +kernel
theorem dX9_takeName_46 : decode cX9_takeName 46 = .ok (.getfield 34, 3) := by decide +kernel
theorem dX9_takeName_49 : decode cX9_takeName 49 = .ok (.bipush 6, 2) := by decide +kernel
theorem dX9_takeName_51 : decode cX9_takeName 51 = .ok (.iadd, 1) := by decide +kernel
theorem dX9_takeName_52 : decode cX9_takeName 52 = .ok (.invokevirtual 51, 3) := by decide +kernel
theorem dX9_takeName_55 : decode cX9_takeName 55 = .ok (.iconst 0, 1) := by decide +kernel
theorem dX9_takeName_56 : decode cX9_takeName 56 = .ok (.ireturn, 1) := by decide +kernel
theorem dX9_takeName_57 : decode cX9_takeName 57 = .ok (.iconst 0, 1) := by decide +kernel
theorem dX9_takeName_58 : decode cX9_takeName 58 = .ok (.istore_n 1, 1) := by decide +kernel
theorem dX9_takeName_59 : decode cX9_takeName 59 = .ok (.aload_n 0, 1) := by decide +kernel
theorem dX9_takeName_60 : decode cX9_takeName 60 = .ok (.getfield 34, 3) := by decide +kernel
theorem dX9_takeName_63 : decode cX9_takeName 63 = .ok (.istore_n 2, 1) := by decide +kernel
theorem dX9_takeName_64 : decode cX9_takeName 64 = .ok (.iload_n 2, 1) := by decide +kernel
theorem dX9_takeName_65 : decode cX9_takeName 65 = .ok (.aload_n 0, 1) := by decide +kernel
theorem dX9_takeName_66 : decode cX9_takeName 66 = .ok (.getfield 28, 3) := by decide +kernel
theorem dX9_takeName_69 : decode cX9_takeName 69 = .ok (.if_icmp .ge 32, 3) := by decide +kernel
theorem dX9_takeName_72 : decode cX9_takeName 72 = .ok (.iload_n 1, 1) := by decide +kernel
theorem dX9_takeName_73 : decode cX9_takeName 73 = .ok (.aload_n 0, 1) := by decide +kernel
theorem dX9_takeName_74 : decode cX9_takeName 74 = .ok (.getfield 9, 3) := by decide +kernel
theorem dX9_takeName_77 : decode cX9_takeName 77 = .ok (.iload_n 2, 1) := by decide +kernel
theorem dX9_takeName_78 : decode cX9_takeName 78 = .ok (.iaload, 1) := by decide +kernel
theorem dX9_takeName_79 : decode cX9_takeName 79 = .ok (.bipush 97, 2) := by decide +kernel
theorem dX9_takeName_81 : decode cX9_takeName 81 = .ok (.isub, 1) := by decide +kernel
theorem dX9_takeName_82 : decode cX9_takeName 82 = .ok (.iconst 1, 1) := by decide +kernel
theorem dX9_takeName_83 : decode cX9_takeName 83 = .ok (.iadd, 1) := by decide +kernel
theorem dX9_takeName_84 : decode cX9_takeName 84 = .ok (.iconst 5, 1) := by decide +kernel
theorem dX9_takeName_85 : decode cX9_takeName 85 = .ok (.iload_n 2, 1) := by decide +kernel
theorem dX9_takeName_86 : decode cX9_takeName 86 = .ok (.aload_n 0, 1) := by decide +kernel
theorem dX9_takeName_87 : decode cX9_takeName 87 = .ok (.getfield 34, 3) := by decide +kernel
theorem dX9_takeName_90 : decode cX9_takeName 90 = .ok (.isub, 1) := by decide +kernel
theorem dX9_takeName_91 : decode cX9_takeName 91 = .ok (.imul, 1) := by decide +kernel
theorem dX9_takeName_92 : decode cX9_takeName 92 = .ok (.ishl, 1) := by decide +kernel
theorem dX9_takeName_93 : decode cX9_takeName 93 = .ok (.ior, 1) := by decide +kernel
theorem dX9_takeName_94 : decode cX9_takeName 94 = .ok (.istore_n 1, 1) := by decide +kernel
theorem dX9_takeName_95 : decode cX9_takeName 95 = .ok (.iinc 2 1, 3) := by decide +kernel
theorem dX9_takeName_98 : decode cX9_takeName 98 = .ok (.goto (-34), 3) := by decide +kernel
theorem dX9_takeName_101 : decode cX9_takeName 101 = .ok (.aload_n 0, 1) := by decide +kernel
theorem dX9_takeName_102 : decode cX9_takeName 102 = .ok (.invokevirtual 31, 3) := by decide +kernel
theorem dX9_takeName_105 : decode cX9_takeName 105 = .ok (.iload_n 1, 1) := by decide +kernel
theorem dX9_takeName_106 : decode cX9_takeName 106 = .ok (.ireturn, 1) := by decide +kernel
def X9_takeName_p18 (sh : Shp) (v0 : Nat) (Q : Int32 → Mem → Prop) (m : Mem) : Prop :=
  Ob sh v0 9 ∧ (wp_X9_fail sh v0 (1 : Int32) (m.1 v0 3) (fun m8 => Q (0 : Int32) m8) m)
def X9_takeName_p64b (sh : Shp) (v0 : Nat) (Q : Int32 → Mem → Prop) (K64 : Int32 → Int32 → Mem → Prop) (v1 : Int32) (v2 : Int32) (m : Mem) : Prop :=
  Ob sh v0 9 ∧ (if (m.1 v0 4) ≤ v2 then (wp_X9_advance sh v0 (fun m11 => Q v1 m11) m) else (∃ b12 : Nat, m.2.2 v0 0 = some b12 ∧ (Ix sh b12 100 v2 ∧ (K64 (v1 ||| ((((m.1 b12 v2.toNatClampNeg) - (97 : Int32)) + (1 : Int32)) <<< (((5 : Int32) * (v2 - (m.1 v0 3))) &&& 31))) (v2 + (1 : Int32)) m))))
def X9_takeName_p64n (sh : Shp) (v0 : Nat) (Q : Int32 → Mem → Prop) : Nat → Int32 → Int32 → Mem → Prop
  | 0 => fun _ _ _ => False
  | n + 1 => X9_takeName_p64b sh v0 Q (X9_takeName_p64n sh v0 Q n)
def X9_takeName_p64 (sh : Shp) (v0 : Nat) (Q : Int32 → Mem → Prop) (v1 : Int32) (v2 : Int32) (m : Mem) : Prop := ∃ n, X9_takeName_p64n sh v0 Q n v1 v2 m
def wp_X9_takeName (sh : Shp) (v0 : Nat) (Q : Int32 → Mem → Prop) (m : Mem) : Prop :=
  Ob sh v0 9 ∧ (if (m.1 v0 2) = (1 : Int32) then (wp_X9_wordIn sh v0 3 (fun r2 m3 => if r2 = (-1 : Int32) then (if ((m3.1 v0 4) - (m3.1 v0 3)) ≤ (6 : Int32) then (X9_takeName_p64 sh v0 Q (0 : Int32) (m3.1 v0 3) m3) else (wp_X9_fail sh v0 (1 : Int32) ((m3.1 v0 3) + (6 : Int32)) (fun m5 => Q (0 : Int32) m5) m3)) else (X9_takeName_p18 sh v0 Q m3)) m) else (X9_takeName_p18 sh v0 Q m))
abbrev M_X9_takeName : Mi := (cX9_takeName, 3, RX9, (Option.some FieldType.int), "takeName", 11, 368, 0, 0)
set_option maxHeartbeats 4000000 in
set_option maxRecDepth 100000 in
theorem v_X9_takeName_p18 {G : Gl} {F : Fr} {sh : Shp} {v0 : Nat} {Q : Int32 → Mem → Prop} {m : Mem} (h : X9_takeName_p18 sh v0 Q m) : V G F M_X9_takeName sh 0 0 (Zi G F sh Q) 18 [(0, .ref (G.1 + v0))] [] m := by
  unfold X9_takeName_p18 at h
  refine v_aload_n 0 0 dX9_takeName_18 rfl rfl ?_
  refine v_iconst (1 : Int32) dX9_takeName_19 (by decide) ?_
  refine v_aload_n 0 0 dX9_takeName_20 rfl rfl ?_
  obtain ⟨o6, h⟩ := h
  refine v_gI 9 3 dX9_takeName_21 fg_RX9_34 o6 ?_
  refine v_cVv [.int _, .int _] mv_X9_fail ml_RX9_51 ⟨_, _, rfl⟩ o6 rfl rfl (Nat.le_of_ble_eq_true rfl) (Nat.le_of_ble_eq_true rfl) (Nat.le_of_ble_eq_true rfl) (Nat.zero_le _) (Nat.zero_le _) dX9_takeName_24 (c_X9_fail h) (fun m8 h => ?_)
  refine v_iconst (0 : Int32) dX9_takeName_27 (by decide) ?_
  exact v_iret dX9_takeName_28 rfl rfl h
set_option maxHeartbeats 4000000 in
set_option maxRecDepth 100000 in
theorem v_X9_takeName_p64b {G : Gl} {F : Fr} {sh : Shp} {v0 : Nat} {v1 : Int32} {v2 : Int32} {Q : Int32 → Mem → Prop} {K64 : Int32 → Int32 → Mem → Prop} {m : Mem} (hK64 : ∀ (x1 : Int32) (x2 : Int32) (m : Mem), K64 x1 x2 m → V G F M_X9_takeName sh 0 0 (Zi G F sh Q) 64 [(0, .ref (G.1 + v0)), (1, .int x1), (2, .int x2)] [] m) (h : X9_takeName_p64b sh v0 Q K64 v1 v2 m) : V G F M_X9_takeName sh 0 0 (Zi G F sh Q) 64 [(0, .ref (G.1 + v0)), (1, .int v1), (2, .int v2)] [] m := by
  unfold X9_takeName_p64b at h
  refine v_iload_n 2 2 dX9_takeName_64 rfl rfl ?_
  refine v_aload_n 0 0 dX9_takeName_65 rfl rfl ?_
  obtain ⟨o9, h⟩ := h
  refine v_gI 9 4 dX9_takeName_66 fg_RX9_28 o9 ?_
  refine v_icmp_ge 101 dX9_takeName_69 (by decide) (fun hc => ?_) (fun hc => ?_)
  · replace h := Eq.mp (if_pos hc) h
    refine v_aload_n 0 0 dX9_takeName_101 rfl rfl ?_
    refine v_cVv [] mv_X9_advance ml_RX9_31 ⟨_, _, rfl⟩ o9 rfl rfl (Nat.le_of_ble_eq_true rfl) (Nat.le_of_ble_eq_true rfl) (Nat.le_of_ble_eq_true rfl) (Nat.zero_le _) (Nat.zero_le _) dX9_takeName_102 (c_X9_advance h) (fun m11 h => ?_)
    refine v_iload_n 1 1 dX9_takeName_105 rfl rfl ?_
    exact v_iret dX9_takeName_106 rfl rfl h
  · replace h := Eq.mp (if_neg hc) h
    refine v_iload_n 1 1 dX9_takeName_72 rfl rfl ?_
    refine v_aload_n 0 0 dX9_takeName_73 rfl rfl ?_
    obtain ⟨b12, e13, h⟩ := h
    refine v_gR 9 0 dX9_takeName_74 fg_RX9_9 o9 e13 ?_
    refine v_iload_n 2 2 dX9_takeName_77 rfl rfl ?_
    obtain ⟨i14, h⟩ := h
    refine v_iald dX9_takeName_78 i14 ?_
    refine v_bipush (97 : Int32) dX9_takeName_79 (by decide) ?_
    refine v_isub dX9_takeName_81 ?_
    refine v_iconst (1 : Int32) dX9_takeName_82 (by decide) ?_
    refine v_iadd dX9_takeName_83 ?_
    refine v_iconst (5 : Int32) dX9_takeName_84 (by decide) ?_
    refine v_iload_n 2 2 dX9_takeName_85 rfl rfl ?_
    refine v_aload_n 0 0 dX9_takeName_86 rfl rfl ?_
    refine v_gI 9 3 dX9_takeName_87 fg_RX9_34 o9 ?_
    refine v_isub dX9_takeName_90 ?_
    refine v_imul dX9_takeName_91 ?_
    refine v_ishl dX9_takeName_92 ?_
    refine v_ior dX9_takeName_93 ?_
    refine v_istore_n (ls' := [(1, .int _), (0, .ref _), (2, .int _)]) 1 dX9_takeName_94 rfl (Nat.le_of_ble_eq_true rfl) rfl ?_
    refine v_iinc (ls' := [(2, .int _), (1, .int _), (0, .ref _)]) 2 2 dX9_takeName_95 rfl (congrArg (HAdd.hAdd _) (by decide : Int32.ofInt (1) = (1 : Int32))) (Nat.le_of_ble_eq_true rfl) rfl ?_
    refine v_goto 64 dX9_takeName_98 (by decide) ?_
    refine v_sub [2, 1, 0] rfl ?_
    exact hK64 _ _ _ h
set_option maxHeartbeats 4000000 in
set_option maxRecDepth 100000 in
theorem v_X9_takeName_p64 {G : Gl} {F : Fr} {sh : Shp} {v0 : Nat} {v1 : Int32} {v2 : Int32} {Q : Int32 → Mem → Prop} {m : Mem} (h : X9_takeName_p64 sh v0 Q v1 v2 m) : V G F M_X9_takeName sh 0 0 (Zi G F sh Q) 64 [(0, .ref (G.1 + v0)), (1, .int v1), (2, .int v2)] [] m := by
  obtain ⟨n, h⟩ := h
  induction n generalizing v1 v2 m with
  | zero => exact h.elim
  | succ n ih => exact v_X9_takeName_p64b (fun _ _ _ h => ih h) h
set_option maxHeartbeats 4000000 in
set_option maxRecDepth 100000 in
theorem c_X9_takeName {l : Launch} {G : Gl} {sh : Shp} {v0 : Nat} {Q : Int32 → Mem → Prop} {m : Mem} (h : wp_X9_takeName sh v0 Q m) : Cni l G yX9_takeName cX9_takeName 3 (Option.some FieldType.int) 11 368 sh [.ref (G.1 + v0)] m Q := by
  refine con_i (ls := [(0, .ref (G.1 + v0))]) (by decide +kernel) rfl (Nat.le_of_ble_eq_true rfl) (fun F => ?_)
  show V G F M_X9_takeName sh 0 0 (Zi G F sh Q) 0 [(0, .ref (G.1 + v0))] [] m
  unfold wp_X9_takeName at h
  refine v_aload_n 0 0 dX9_takeName_0 rfl rfl ?_
  obtain ⟨o1, h⟩ := h
  refine v_gI 9 2 dX9_takeName_1 fg_RX9_25 o1 ?_
  refine v_iconst (1 : Int32) dX9_takeName_4 (by decide) ?_
  refine v_icmp_ne 18 dX9_takeName_5 (by decide) (fun hc => ?_) (fun hc => ?_)
  · replace h := Eq.mp (if_neg hc) h
    refine v_sub [0] rfl ?_
    exact v_X9_takeName_p18 h
  · replace h := Eq.mp (if_pos hc) h
    refine v_aload_n 0 0 dX9_takeName_8 rfl rfl ?_
    refine v_ldcS (tx := "plain by high stone source farm at day pie caller bold kind goes bakes year been height down step wet number column row first or and not all min max") 3 dX9_takeName_9 (List.mem_of_getElem? (i := 3) rfl) ?_
    refine v_cVi [.ref _] mv_X9_wordIn ml_RX9_68 ⟨_, _, rfl⟩ o1 rfl rfl (Nat.le_of_ble_eq_true rfl) (Nat.le_of_ble_eq_true rfl) (Nat.le_of_ble_eq_true rfl) (Nat.zero_le _) (Nat.zero_le _) dX9_takeName_11 (c_X9_wordIn h) (fun r2 m3 h => ?_)
    refine v_iconst (-1 : Int32) dX9_takeName_14 (by decide) ?_
    refine v_icmp_eq 29 dX9_takeName_15 (by decide) (fun hc => ?_) (fun hc => ?_)
    · replace h := Eq.mp (if_pos hc) h
      refine v_aload_n 0 0 dX9_takeName_29 rfl rfl ?_
      refine v_gI 9 4 dX9_takeName_30 fg_RX9_28 o1 ?_
      refine v_aload_n 0 0 dX9_takeName_33 rfl rfl ?_
      refine v_gI 9 3 dX9_takeName_34 fg_RX9_34 o1 ?_
      refine v_isub dX9_takeName_37 ?_
      refine v_bipush (6 : Int32) dX9_takeName_38 (by decide) ?_
      refine v_icmp_le 57 dX9_takeName_40 (by decide) (fun hc => ?_) (fun hc => ?_)
      · replace h := Eq.mp (if_pos hc) h
        refine v_iconst (0 : Int32) dX9_takeName_57 (by decide) ?_
        refine v_istore_n (ls' := [(1, .int _), (0, .ref _)]) 1 dX9_takeName_58 rfl (Nat.le_of_ble_eq_true rfl) rfl ?_
        refine v_aload_n 0 1 dX9_takeName_59 rfl rfl ?_
        refine v_gI 9 3 dX9_takeName_60 fg_RX9_34 o1 ?_
        refine v_istore_n (ls' := [(2, .int _), (1, .int _), (0, .ref _)]) 2 dX9_takeName_63 rfl (Nat.le_of_ble_eq_true rfl) rfl ?_
        refine v_sub [2, 1, 0] rfl ?_
        exact v_X9_takeName_p64 h
      · replace h := Eq.mp (if_neg hc) h
        refine v_aload_n 0 0 dX9_takeName_43 rfl rfl ?_
        refine v_iconst (1 : Int32) dX9_takeName_44 (by decide) ?_
        refine v_aload_n 0 0 dX9_takeName_45 rfl rfl ?_
        refine v_gI 9 3 dX9_takeName_46 fg_RX9_34 o1 ?_
        refine v_bipush (6 : Int32) dX9_takeName_49 (by decide) ?_
        refine v_iadd dX9_takeName_51 ?_
        refine v_cVv [.int _, .int _] mv_X9_fail ml_RX9_51 ⟨_, _, rfl⟩ o1 rfl rfl (Nat.le_of_ble_eq_true rfl) (Nat.le_of_ble_eq_true rfl) (Nat.le_of_ble_eq_true rfl) (Nat.zero_le _) (Nat.zero_le _) dX9_takeName_52 (c_X9_fail h) (fun m5 h => ?_)
        refine v_iconst (0 : Int32) dX9_takeName_55 (by decide) ?_
        exact v_iret dX9_takeName_56 rfl rfl h
    · replace h := Eq.mp (if_neg hc) h
      refine v_sub [0] rfl ?_
      exact v_X9_takeName_p18 h
/-! CalledRiver$Tape.takeNumber -/
theorem dX9_takeNumber_0 : decode cX9_takeNumber 0 = .ok (.aload_n 0, 1) := by decide +kernel
theorem dX9_takeNumber_1 : decode cX9_takeNumber 1 = .ok (.getfield 25, 3) := by decide +kernel
theorem dX9_takeNumber_4 : decode cX9_takeNumber 4 = .ok (.iconst 2, 1) := by decide +kernel
theorem dX9_takeNumber_5 : decode cX9_takeNumber 5 = .ok (.if_icmp .eq 14, 3) := by decide +kernel
theorem dX9_takeNumber_8 : decode cX9_takeNumber 8 = .ok (.aload_n 0, 1) := by decide +kernel
theorem dX9_takeNumber_9 : decode cX9_takeNumber 9 = .ok (.iconst 1, 1) := by decide +kernel
theorem dX9_takeNumber_10 : decode cX9_takeNumber 10 = .ok (.aload_n 0, 1) := by decide +kernel
theorem dX9_takeNumber_11 : decode cX9_takeNumber 11 = .ok (.getfield 34, 3) := by decide +kernel
theorem dX9_takeNumber_14 : decode cX9_takeNumber 14 = .ok (.invokevirtual 51, 3) := by decide +kernel
theorem dX9_takeNumber_17 : decode cX9_takeNumber 17 = .ok (.iload_n 1, 1) := by decide +kernel
theorem dX9_takeNumber_18 : decode cX9_takeNumber 18 = .ok (.ireturn, 1) := by decide +kernel
theorem dX9_takeNumber_19 : decode cX9_takeNumber 19 = .ok (.aload_n 0, 1) := by decide +kernel
theorem dX9_takeNumber_20 : decode cX9_takeNumber 20 = .ok (.getfield 28, 3) := by decide +kernel
theorem dX9_takeNumber_23 : decode cX9_takeNumber 23 = .ok (.aload_n 0, 1) := by decide +kernel
theorem dX9_takeNumber_24 : decode cX9_takeNumber 24 = .ok (.getfield 34, 3) := by decide +kernel
theorem dX9_takeNumber_27 : decode cX9_takeNumber 27 = .ok (.isub, 1) := by decide +kernel
theorem dX9_takeNumber_28 : decode cX9_takeNumber 28 = .ok (.iconst 4, 1) := by decide +kernel
theorem dX9_takeNumber_29 : decode cX9_takeNumber 29 = .ok (.if_icmp .le 16, 3) := by decide +kernel
theorem dX9_takeNumber_32 : decode cX9_takeNumber 32 = .ok (.aload_n 0, 1) := by decide +kernel
theorem dX9_takeNumber_33 : decode cX9_takeNumber 33 = .ok (.iconst 1, 1) := by decide +kernel
theorem dX9_takeNumber_34 : decode cX9_takeNumber 34 = .ok (.aload_n 0, 1) := by decide +kernel
theorem dX9_takeNumber_35 : decode cX9_takeNumber 35 = .ok (.getfield 34, 3) := by decide +kernel
theorem dX9_takeNumber_38 : decode cX9_takeNumber 38 = .ok (.iconst 4, 1) := by decide +kernel
theorem dX9_takeNumber_39 : decode cX9_takeNumber 39 = .ok (.iadd, 1) := by decide +kernel
theorem dX9_takeNumber_40 : decode cX9_takeNumber 40 = .ok (.invokevirtual 51, 3) := by decide +kernel
theorem dX9_takeNumber_43 : decode cX9_takeNumber 43 = .ok (.iload_n 1, 1) := by decide +kernel
theorem dX9_takeNumber_44 : decode cX9_takeNumber 44 = .ok (.ireturn, 1) := by decide +kernel
theorem dX9_takeNumber_45 : decode cX9_takeNumber 45 = .ok (.iconst 0, 1) := by decide +kernel
theorem dX9_takeNumber_46 : decode cX9_takeNumber 46 = .ok (.istore_n 3, 1) := by decide +kernel
theorem dX9_takeNumber_47 : decode cX9_takeNumber 47 = .ok (.aload_n 0, 1) := by decide +kernel
theorem dX9_takeNumber_48 : decode cX9_takeNumber 48 = .ok (.getfield 34, 3) := by decide +kernel
theorem dX9_takeNumber_51 : decode cX9_takeNumber 51 = .ok (.istore 4, 2) := by decide +kernel
theorem dX9_takeNumber_53 : decode cX9_takeNumber 53 = .ok (.iload 4, 2) := by decide +kernel
theorem dX9_takeNumber_55 : decode cX9_takeNumber 55 = .ok (.aload_n 0, 1) := by decide +kernel
theorem dX9_takeNumber_56 : decode cX9_takeNumber 56 = .ok (.getfield 28, 3) := by decide +kernel
theorem dX9_takeNumber_59 : decode cX9_takeNumber 59 = .ok (.if_icmp .ge 25, 3) := by decide +kernel
theorem dX9_takeNumber_62 : decode cX9_takeNumber 62 = .ok (.bipush 10, 2) := by decide +kernel
theorem dX9_takeNumber_64 : decode cX9_takeNumber 64 = .ok (.iload_n 3, 1) := by decide +kernel
theorem dX9_takeNumber_65 : decode cX9_takeNumber 65 = .ok (.imul, 1) := by decide +kernel
theorem dX9_takeNumber_66 : decode cX9_takeNumber 66 = .ok (.aload_n 0, 1) := by decide +kernel
theorem dX9_takeNumber_67 : decode cX9_takeNumber 67 = .ok (.getfield 9, 3) := by decide +kernel
theorem dX9_takeNumber_70 : decode cX9_takeNumber 70 = .ok (.iload 4, 2) := by decide +kernel
theorem dX9_takeNumber_72 : decode cX9_takeNumber 72 = .ok (.iaload, 1) := by decide +kernel
theorem dX9_takeNumber_73 : decode cX9_takeNumber 73 = .ok (.iadd, 1) := by decide +kernel
theorem dX9_takeNumber_74 : decode cX9_takeNumber 74 = .ok (.bipush 48, 2) := by decide +kernel
theorem dX9_takeNumber_76 : decode cX9_takeNumber 76 = .ok (.isub, 1) := by decide +kernel
theorem dX9_takeNumber_77 : decode cX9_takeNumber 77 = .ok (.istore_n 3, 1) := by decide +kernel
theorem dX9_takeNumber_78 : decode cX9_takeNumber 78 = .ok (.iinc 4 1, 3) := by decide +kernel
theorem dX9_takeNumber_81 : decode cX9_takeNumber 81 = .ok (.goto (-28), 3) := by decide +kernel
theorem dX9_takeNumber_84 : decode cX9_takeNumber 84 = .ok (.iload_n 3, 1) := by decide +kernel
theorem dX9_takeNumber_85 : decode cX9_takeNumber 85 = .ok (.iload_n 1, 1) := by decide +kernel
theorem dX9_takeNumber_86 : decode cX9_takeNumber 86 = .ok (.if_icmp .lt 8, 3) := by decide +kernel
theorem dX9_takeNumber_89 : decode cX9_takeNumber 89 = .ok (.iload_n 3, 1) := by decide +kernel
theorem dX9_takeNumber_90 : decode cX9_takeNumber 90 = .ok (.iload_n 2, 1) := by decide +kernel
theorem dX9_takeNumber_91 : decode cX9_takeNumber 91 = .ok (.if_icmp .le 14, 3) := by decide +kernel
theorem dX9_takeNumber_94 : decode cX9_takeNumber 94 = .ok (.aload_n 0, 1) := by decide +kernel
theorem dX9_takeNumber_95 : decode cX9_takeNumber 95 = .ok (.iconst 2, 1) := by decide +kernel
theorem dX9_takeNumber_96 : decode cX9_takeNumber 96 = .ok (.aload_n 0, 1) := by decide +kernel
theorem dX9_takeNumber_97 : decode cX9_takeNumber 97 = .ok (.getfield 34, 3) := by decide +kernel
theorem dX9_takeNumber_100 : decode cX9_takeNumber 100 = .ok (.invokevirtual 51, 3) := by decide +kernel
theorem dX9_takeNumber_103 : decode cX9_takeNumber 103 = .ok (.iload_n 1, 1) := by decide +kernel
theorem dX9_takeNumber_104 : decode cX9_takeNumber 104 = .ok (.ireturn, 1) := by decide +kernel
theorem dX9_takeNumber_105 : decode cX9_takeNumber 105 = .ok (.aload_n 0, 1) := by decide +kernel
theorem dX9_takeNumber_106 : decode cX9_takeNumber 106 = .ok (.invokevirtual 31, 3) := by decide +kernel
theorem dX9_takeNumber_109 : decode cX9_takeNumber 109 = .ok (.iload_n 3, 1) := by decide +kernel
theorem dX9_takeNumber_110 : decode cX9_takeNumber 110 = .ok (.ireturn, 1) := by decide +kernel
def X9_takeNumber_p94 (sh : Shp) (v0 : Nat) (v1 : Int32) (Q : Int32 → Mem → Prop) (m : Mem) : Prop :=
  Ob sh v0 9 ∧ (wp_X9_fail sh v0 (2 : Int32) (m.1 v0 3) (fun m14 => Q v1 m14) m)
def X9_takeNumber_p53b (sh : Shp) (v0 : Nat) (v1 : Int32) (v2 : Int32) (Q : Int32 → Mem → Prop) (K53 : Int32 → Int32 → Mem → Prop) (v3 : Int32) (v4 : Int32) (m : Mem) : Prop :=
  Ob sh v0 9 ∧ (if (m.1 v0 4) ≤ v4 then (if v3 < v1 then (X9_takeNumber_p94 sh v0 v1 Q m) else (if v3 ≤ v2 then (wp_X9_advance sh v0 (fun m8 => Q v3 m8) m) else (X9_takeNumber_p94 sh v0 v1 Q m))) else (∃ b9 : Nat, m.2.2 v0 0 = some b9 ∧ (Ix sh b9 100 v4 ∧ (K53 ((((10 : Int32) * v3) + (m.1 b9 v4.toNatClampNeg)) - (48 : Int32)) (v4 + (1 : Int32)) m))))
def X9_takeNumber_p53n (sh : Shp) (v0 : Nat) (v1 : Int32) (v2 : Int32) (Q : Int32 → Mem → Prop) : Nat → Int32 → Int32 → Mem → Prop
  | 0 => fun _ _ _ => False
  | n + 1 => X9_takeNumber_p53b sh v0 v1 v2 Q (X9_takeNumber_p53n sh v0 v1 v2 Q n)
def X9_takeNumber_p53 (sh : Shp) (v0 : Nat) (v1 : Int32) (v2 : Int32) (Q : Int32 → Mem → Prop) (v3 : Int32) (v4 : Int32) (m : Mem) : Prop := ∃ n, X9_takeNumber_p53n sh v0 v1 v2 Q n v3 v4 m
def wp_X9_takeNumber (sh : Shp) (v0 : Nat) (v1 : Int32) (v2 : Int32) (Q : Int32 → Mem → Prop) (m : Mem) : Prop :=
  Ob sh v0 9 ∧ (if (m.1 v0 2) = (2 : Int32) then (if ((m.1 v0 4) - (m.1 v0 3)) ≤ (4 : Int32) then (X9_takeNumber_p53 sh v0 v1 v2 Q (0 : Int32) (m.1 v0 3) m) else (wp_X9_fail sh v0 (1 : Int32) ((m.1 v0 3) + (4 : Int32)) (fun m3 => Q v1 m3) m)) else (wp_X9_fail sh v0 (1 : Int32) (m.1 v0 3) (fun m5 => Q v1 m5) m))
abbrev M_X9_takeNumber : Mi := (cX9_takeNumber, 5, RX9, (Option.some FieldType.int), "takeNumber", 3, 103, 0, 0)
set_option maxHeartbeats 4000000 in
set_option maxRecDepth 100000 in
theorem v_X9_takeNumber_p94 {G : Gl} {F : Fr} {sh : Shp} {v0 : Nat} {v1 : Int32} {Q : Int32 → Mem → Prop} {m : Mem} (h : X9_takeNumber_p94 sh v0 v1 Q m) : V G F M_X9_takeNumber sh 0 0 (Zi G F sh Q) 94 [(0, .ref (G.1 + v0)), (1, .int v1)] [] m := by
  unfold X9_takeNumber_p94 at h
  refine v_aload_n 0 0 dX9_takeNumber_94 rfl rfl ?_
  refine v_iconst (2 : Int32) dX9_takeNumber_95 (by decide) ?_
  refine v_aload_n 0 0 dX9_takeNumber_96 rfl rfl ?_
  obtain ⟨o12, h⟩ := h
  refine v_gI 9 3 dX9_takeNumber_97 fg_RX9_34 o12 ?_
  refine v_cVv [.int _, .int _] mv_X9_fail ml_RX9_51 ⟨_, _, rfl⟩ o12 rfl rfl (Nat.le_of_ble_eq_true rfl) (Nat.le_of_ble_eq_true rfl) (Nat.le_of_ble_eq_true rfl) (Nat.zero_le _) (Nat.zero_le _) dX9_takeNumber_100 (c_X9_fail h) (fun m14 h => ?_)
  refine v_iload_n 1 1 dX9_takeNumber_103 rfl rfl ?_
  exact v_iret dX9_takeNumber_104 rfl rfl h
set_option maxHeartbeats 4000000 in
set_option maxRecDepth 100000 in
theorem v_X9_takeNumber_p53b {G : Gl} {F : Fr} {sh : Shp} {v0 : Nat} {v1 : Int32} {v2 : Int32} {v3 : Int32} {v4 : Int32} {Q : Int32 → Mem → Prop} {K53 : Int32 → Int32 → Mem → Prop} {m : Mem} (hK53 : ∀ (x3 : Int32) (x4 : Int32) (m : Mem), K53 x3 x4 m → V G F M_X9_takeNumber sh 0 0 (Zi G F sh Q) 53 [(0, .ref (G.1 + v0)), (1, .int v1), (2, .int v2), (3, .int x3), (4, .int x4)] [] m) (h : X9_takeNumber_p53b sh v0 v1 v2 Q K53 v3 v4 m) : V G F M_X9_takeNumber sh 0 0 (Zi G F sh Q) 53 [(0, .ref (G.1 + v0)), (1, .int v1), (2, .int v2), (3, .int v3), (4, .int v4)] [] m := by
  unfold X9_takeNumber_p53b at h
  refine v_iload 4 4 dX9_takeNumber_53 rfl ?_
  refine v_aload_n 0 0 dX9_takeNumber_55 rfl rfl ?_
  obtain ⟨o6, h⟩ := h
  refine v_gI 9 4 dX9_takeNumber_56 fg_RX9_28 o6 ?_
  refine v_icmp_ge 84 dX9_takeNumber_59 (by decide) (fun hc => ?_) (fun hc => ?_)
  · replace h := Eq.mp (if_pos hc) h
    refine v_iload_n 3 3 dX9_takeNumber_84 rfl rfl ?_
    refine v_iload_n 1 1 dX9_takeNumber_85 rfl rfl ?_
    refine v_icmp_lt 94 dX9_takeNumber_86 (by decide) (fun hc => ?_) (fun hc => ?_)
    · replace h := Eq.mp (if_pos hc) h
      refine v_sub [0, 1] rfl ?_
      exact v_X9_takeNumber_p94 h
    · replace h := Eq.mp (if_neg hc) h
      refine v_iload_n 3 3 dX9_takeNumber_89 rfl rfl ?_
      refine v_iload_n 2 2 dX9_takeNumber_90 rfl rfl ?_
      refine v_icmp_le 105 dX9_takeNumber_91 (by decide) (fun hc => ?_) (fun hc => ?_)
      · replace h := Eq.mp (if_pos hc) h
        refine v_aload_n 0 0 dX9_takeNumber_105 rfl rfl ?_
        refine v_cVv [] mv_X9_advance ml_RX9_31 ⟨_, _, rfl⟩ o6 rfl rfl (Nat.le_of_ble_eq_true rfl) (Nat.le_of_ble_eq_true rfl) (Nat.le_of_ble_eq_true rfl) (Nat.zero_le _) (Nat.zero_le _) dX9_takeNumber_106 (c_X9_advance h) (fun m8 h => ?_)
        refine v_iload_n 3 3 dX9_takeNumber_109 rfl rfl ?_
        exact v_iret dX9_takeNumber_110 rfl rfl h
      · replace h := Eq.mp (if_neg hc) h
        refine v_sub [0, 1] rfl ?_
        exact v_X9_takeNumber_p94 h
  · replace h := Eq.mp (if_neg hc) h
    refine v_bipush (10 : Int32) dX9_takeNumber_62 (by decide) ?_
    refine v_iload_n 3 3 dX9_takeNumber_64 rfl rfl ?_
    refine v_imul dX9_takeNumber_65 ?_
    refine v_aload_n 0 0 dX9_takeNumber_66 rfl rfl ?_
    obtain ⟨b9, e10, h⟩ := h
    refine v_gR 9 0 dX9_takeNumber_67 fg_RX9_9 o6 e10 ?_
    refine v_iload 4 4 dX9_takeNumber_70 rfl ?_
    obtain ⟨i11, h⟩ := h
    refine v_iald dX9_takeNumber_72 i11 ?_
    refine v_iadd dX9_takeNumber_73 ?_
    refine v_bipush (48 : Int32) dX9_takeNumber_74 (by decide) ?_
    refine v_isub dX9_takeNumber_76 ?_
    refine v_istore_n (ls' := [(3, .int _), (0, .ref _), (1, .int _), (2, .int _), (4, .int _)]) 3 dX9_takeNumber_77 rfl (Nat.le_of_ble_eq_true rfl) rfl ?_
    refine v_iinc (ls' := [(4, .int _), (3, .int _), (0, .ref _), (1, .int _), (2, .int _)]) 4 4 dX9_takeNumber_78 rfl (congrArg (HAdd.hAdd _) (by decide : Int32.ofInt (1) = (1 : Int32))) (Nat.le_of_ble_eq_true rfl) rfl ?_
    refine v_goto 53 dX9_takeNumber_81 (by decide) ?_
    refine v_sub [2, 3, 4, 1, 0] rfl ?_
    exact hK53 _ _ _ h
set_option maxHeartbeats 4000000 in
set_option maxRecDepth 100000 in
theorem v_X9_takeNumber_p53 {G : Gl} {F : Fr} {sh : Shp} {v0 : Nat} {v1 : Int32} {v2 : Int32} {v3 : Int32} {v4 : Int32} {Q : Int32 → Mem → Prop} {m : Mem} (h : X9_takeNumber_p53 sh v0 v1 v2 Q v3 v4 m) : V G F M_X9_takeNumber sh 0 0 (Zi G F sh Q) 53 [(0, .ref (G.1 + v0)), (1, .int v1), (2, .int v2), (3, .int v3), (4, .int v4)] [] m := by
  obtain ⟨n, h⟩ := h
  induction n generalizing v3 v4 m with
  | zero => exact h.elim
  | succ n ih => exact v_X9_takeNumber_p53b (fun _ _ _ h => ih h) h
set_option maxHeartbeats 4000000 in
set_option maxRecDepth 100000 in
theorem c_X9_takeNumber {l : Launch} {G : Gl} {sh : Shp} {v0 : Nat} {v1 : Int32} {v2 : Int32} {Q : Int32 → Mem → Prop} {m : Mem} (h : wp_X9_takeNumber sh v0 v1 v2 Q m) : Cni l G yX9_takeNumber cX9_takeNumber 5 (Option.some FieldType.int) 3 103 sh [.ref (G.1 + v0), .int v1, .int v2] m Q := by
  refine con_i (ls := [(0, .ref (G.1 + v0)), (1, .int v1), (2, .int v2)]) (by decide +kernel) rfl (Nat.le_of_ble_eq_true rfl) (fun F => ?_)
  show V G F M_X9_takeNumber sh 0 0 (Zi G F sh Q) 0 [(0, .ref (G.1 + v0)), (1, .int v1), (2, .int v2)] [] m
  unfold wp_X9_takeNumber at h
  refine v_aload_n 0 0 dX9_takeNumber_0 rfl rfl ?_
  obtain ⟨o1, h⟩ := h
  refine v_gI 9 2 dX9_takeNumber_1 fg_RX9_25 o1 ?_
  refine v_iconst (2 : Int32) dX9_takeNumber_4 (by decide) ?_
  refine v_icmp_eq 19 dX9_takeNumber_5 (by decide) (fun hc => ?_) (fun hc => ?_)
  · replace h := Eq.mp (if_pos hc) h
    refine v_aload_n 0 0 dX9_takeNumber_19 rfl rfl ?_
    refine v_gI 9 4 dX9_takeNumber_20 fg_RX9_28 o1 ?_
    refine v_aload_n 0 0 dX9_takeNumber_23 rfl rfl ?_
    refine v_gI 9 3 dX9_takeNumber_24 fg_RX9_34 o1 ?_
    refine v_isub dX9_takeNumber_27 ?_
    refine v_iconst (4 : Int32) dX9_takeNumber_28 (by decide) ?_
    refine v_icmp_le 45 dX9_takeNumber_29 (by decide) (fun hc => ?_) (fun hc => ?_)
    · replace h := Eq.mp (if_pos hc) h
      refine v_iconst (0 : Int32) dX9_takeNumber_45 (by decide) ?_
      refine v_istore_n (ls' := [(3, .int _), (0, .ref _), (1, .int _), (2, .int _)]) 3 dX9_takeNumber_46 rfl (Nat.le_of_ble_eq_true rfl) rfl ?_
      refine v_aload_n 0 1 dX9_takeNumber_47 rfl rfl ?_
      refine v_gI 9 3 dX9_takeNumber_48 fg_RX9_34 o1 ?_
      refine v_istore (ls' := [(4, .int _), (3, .int _), (0, .ref _), (1, .int _), (2, .int _)]) 4 dX9_takeNumber_51 (Nat.le_of_ble_eq_true rfl) rfl ?_
      refine v_sub [2, 3, 4, 1, 0] rfl ?_
      exact v_X9_takeNumber_p53 h
    · replace h := Eq.mp (if_neg hc) h
      refine v_aload_n 0 0 dX9_takeNumber_32 rfl rfl ?_
      refine v_iconst (1 : Int32) dX9_takeNumber_33 (by decide) ?_
      refine v_aload_n 0 0 dX9_takeNumber_34 rfl rfl ?_
      refine v_gI 9 3 dX9_takeNumber_35 fg_RX9_34 o1 ?_
      refine v_iconst (4 : Int32) dX9_takeNumber_38 (by decide) ?_
      refine v_iadd dX9_takeNumber_39 ?_
      refine v_cVv [.int _, .int _] mv_X9_fail ml_RX9_51 ⟨_, _, rfl⟩ o1 rfl rfl (Nat.le_of_ble_eq_true rfl) (Nat.le_of_ble_eq_true rfl) (Nat.le_of_ble_eq_true rfl) (Nat.zero_le _) (Nat.zero_le _) dX9_takeNumber_40 (c_X9_fail h) (fun m3 h => ?_)
      refine v_iload_n 1 1 dX9_takeNumber_43 rfl rfl ?_
      exact v_iret dX9_takeNumber_44 rfl rfl h
  · replace h := Eq.mp (if_neg hc) h
    refine v_aload_n 0 0 dX9_takeNumber_8 rfl rfl ?_
    refine v_iconst (1 : Int32) dX9_takeNumber_9 (by decide) ?_
    refine v_aload_n 0 0 dX9_takeNumber_10 rfl rfl ?_
    refine v_gI 9 3 dX9_takeNumber_11 fg_RX9_34 o1 ?_
    refine v_cVv [.int _, .int _] mv_X9_fail ml_RX9_51 ⟨_, _, rfl⟩ o1 rfl rfl (Nat.le_of_ble_eq_true rfl) (Nat.le_of_ble_eq_true rfl) (Nat.le_of_ble_eq_true rfl) (Nat.zero_le _) (Nat.zero_le _) dX9_takeNumber_14 (c_X9_fail h) (fun m5 h => ?_)
    refine v_iload_n 1 1 dX9_takeNumber_17 rfl rfl ?_
    exact v_iret dX9_takeNumber_18 rfl rfl h
/-! CalledRiver$Tape.takeSign -/
theorem dX9_takeSign_0 : decode cX9_takeSign 0 = .ok (.aload_n 0, 1) := by decide +kernel
theorem dX9_takeSign_1 : decode cX9_takeSign 1 = .ok (.iload_n 1, 1) := by decide +kernel
theorem dX9_takeSign_2 : decode cX9_takeSign 2 = .ok (.invokevirtual 47, 3) := by decide +kernel
theorem dX9_takeSign_5 : decode cX9_takeSign 5 = .ok (.ifCond .eq 10, 3) := by decide +kernel
theorem dX9_takeSign_8 : decode cX9_takeSign 8 = .ok (.aload_n 0, 1) := by decide +kernel
theorem dX9_takeSign_9 : decode cX9_takeSign 9 = .ok (.invokevirtual 31, 3) := by decide +kernel
theorem dX9_takeSign_12 : decode cX9_takeSign 12 = .ok (.goto 12, 3) := by decide +kernel
theorem dX9_takeSign_15 : decode cX9_takeSign 15 = .ok (.aload_n 0, 1) := by decide +kernel
theorem dX9_takeSign_16 : decode cX9_takeSign 16 = .ok (.iconst 1, 1) := by decide +kernel
theorem dX9_takeSign_17 : decode cX9_takeSign 17 = .ok (.aload_n 0, 1) := by decide +kernel
theorem dX9_takeSign_18 : decode cX9_takeSign 18 = .ok (.getfield 34, 3) := by decide +kernel
theorem dX9_takeSign_21 : decode cX9_takeSign 21 = .ok (.invokevirtual 51, 3) := by decide +kernel
theorem dX9_takeSign_24 : decode cX9_takeSign 24 = .ok (.return_, 1) := by decide +kernel
def wp_X9_takeSign (sh : Shp) (v0 : Nat) (v1 : Int32) (Q : Mem → Prop) (m : Mem) : Prop :=
  Ob sh v0 9 ∧ wp_X9_isSign sh v0 v1 (fun r1 m2 => if r1 = 0 then (wp_X9_fail sh v0 (1 : Int32) (m2.1 v0 3) (fun m5 => Q m5) m2) else (wp_X9_advance sh v0 (fun m7 => Q m7) m2)) m
abbrev M_X9_takeSign : Mi := (cX9_takeSign, 2, RX9, (none : Option FieldType), "takeSign", 3, 103, 0, 0)
set_option maxHeartbeats 4000000 in
set_option maxRecDepth 100000 in
theorem c_X9_takeSign {l : Launch} {G : Gl} {sh : Shp} {v0 : Nat} {v1 : Int32} {Q : Mem → Prop} {m : Mem} (h : wp_X9_takeSign sh v0 v1 Q m) : Cnv l G yX9_takeSign cX9_takeSign 2 (none : Option FieldType) 3 103 sh [.ref (G.1 + v0), .int v1] m Q := by
  refine con_v (ls := [(0, .ref (G.1 + v0)), (1, .int v1)]) (by decide +kernel) rfl (Nat.le_of_ble_eq_true rfl) (fun F => ?_)
  show V G F M_X9_takeSign sh 0 0 (Zv G F sh Q) 0 [(0, .ref (G.1 + v0)), (1, .int v1)] [] m
  unfold wp_X9_takeSign at h
  refine v_aload_n 0 0 dX9_takeSign_0 rfl rfl ?_
  refine v_iload_n 1 1 dX9_takeSign_1 rfl rfl ?_
  obtain ⟨o3, h⟩ := h
  refine v_cVi [.int _] mv_X9_isSign ml_RX9_47 ⟨_, _, rfl⟩ o3 rfl rfl (Nat.le_of_ble_eq_true rfl) (Nat.le_of_ble_eq_true rfl) (Nat.le_of_ble_eq_true rfl) (Nat.zero_le _) (Nat.zero_le _) dX9_takeSign_2 (c_X9_isSign h) (fun r1 m2 h => ?_)
  refine v_if_eq 15 dX9_takeSign_5 (by decide) (fun hc => ?_) (fun hc => ?_)
  · replace h := Eq.mp (if_pos hc) h
    refine v_aload_n 0 0 dX9_takeSign_15 rfl rfl ?_
    refine v_iconst (1 : Int32) dX9_takeSign_16 (by decide) ?_
    refine v_aload_n 0 0 dX9_takeSign_17 rfl rfl ?_
    refine v_gI 9 3 dX9_takeSign_18 fg_RX9_34 o3 ?_
    refine v_cVv [.int _, .int _] mv_X9_fail ml_RX9_51 ⟨_, _, rfl⟩ o3 rfl rfl (Nat.le_of_ble_eq_true rfl) (Nat.le_of_ble_eq_true rfl) (Nat.le_of_ble_eq_true rfl) (Nat.zero_le _) (Nat.zero_le _) dX9_takeSign_21 (c_X9_fail h) (fun m5 h => ?_)
    exact v_vret dX9_takeSign_24 rfl h
  · replace h := Eq.mp (if_neg hc) h
    refine v_aload_n 0 0 dX9_takeSign_8 rfl rfl ?_
    refine v_cVv [] mv_X9_advance ml_RX9_31 ⟨_, _, rfl⟩ o3 rfl rfl (Nat.le_of_ble_eq_true rfl) (Nat.le_of_ble_eq_true rfl) (Nat.le_of_ble_eq_true rfl) (Nat.zero_le _) (Nat.zero_le _) dX9_takeSign_9 (c_X9_advance h) (fun m7 h => ?_)
    refine v_goto 24 dX9_takeSign_12 (by decide) ?_
    exact v_vret dX9_takeSign_24 rfl h
/-! CalledRiver$Tape.takeWord -/
theorem dX9_takeWord_0 : decode cX9_takeWord 0 = .ok (.aload_n 0, 1) := by decide +kernel
theorem dX9_takeWord_1 : decode cX9_takeWord 1 = .ok (.aload_n 1, 1) := by decide +kernel
theorem dX9_takeWord_2 : decode cX9_takeWord 2 = .ok (.invokevirtual 68, 3) := by decide +kernel
theorem dX9_takeWord_5 : decode cX9_takeWord 5 = .ok (.ifCond .ne 10, 3) := by decide +kernel
theorem dX9_takeWord_8 : decode cX9_takeWord 8 = .ok (.aload_n 0, 1) := by decide +kernel
theorem dX9_takeWord_9 : decode cX9_takeWord 9 = .ok (.invokevirtual 31, 3) := by decide +kernel
theorem dX9_takeWord_12 : decode cX9_takeWord 12 = .ok (.goto 12, 3) := by decide +kernel
theorem dX9_takeWord_15 : decode cX9_takeWord 15 = .ok (.aload_n 0, 1) := by decide +kernel
theorem dX9_takeWord_16 : decode cX9_takeWord 16 = .ok (.iconst 1, 1) := by decide +kernel
theorem dX9_takeWord_17 : decode cX9_takeWord 17 = .ok (.aload_n 0, 1) := by decide +kernel
theorem dX9_takeWord_18 : decode cX9_takeWord 18 = .ok (.getfield 34, 3) := by decide +kernel
theorem dX9_takeWord_21 : decode cX9_takeWord 21 = .ok (.invokevirtual 51, 3) := by decide +kernel
theorem dX9_takeWord_24 : decode cX9_takeWord 24 = .ok (.return_, 1) := by decide +kernel
def wp_X9_takeWord (sh : Shp) (v0 : Nat) (v1 : Nat) (Q : Mem → Prop) (m : Mem) : Prop :=
  Ob sh v0 9 ∧ wp_X9_wordIn sh v0 v1 (fun r1 m2 => if r1 = 0 then (wp_X9_advance sh v0 (fun m7 => Q m7) m2) else (wp_X9_fail sh v0 (1 : Int32) (m2.1 v0 3) (fun m5 => Q m5) m2)) m
abbrev M_X9_takeWord : Mi := (cX9_takeWord, 2, RX9, (none : Option FieldType), "takeWord", 11, 368, 0, 0)
set_option maxHeartbeats 4000000 in
set_option maxRecDepth 100000 in
theorem c_X9_takeWord {l : Launch} {G : Gl} {sh : Shp} {v0 : Nat} {v1 : Nat} {Q : Mem → Prop} {m : Mem} (h : wp_X9_takeWord sh v0 v1 Q m) : Cnv l G yX9_takeWord cX9_takeWord 2 (none : Option FieldType) 11 368 sh [.ref (G.1 + v0), .ref (G.2.2.2.1 v1)] m Q := by
  refine con_v (ls := [(0, .ref (G.1 + v0)), (1, .ref (G.2.2.2.1 v1))]) (by decide +kernel) rfl (Nat.le_of_ble_eq_true rfl) (fun F => ?_)
  show V G F M_X9_takeWord sh 0 0 (Zv G F sh Q) 0 [(0, .ref (G.1 + v0)), (1, .ref (G.2.2.2.1 v1))] [] m
  unfold wp_X9_takeWord at h
  refine v_aload_n 0 0 dX9_takeWord_0 rfl rfl ?_
  refine v_aload_n 1 1 dX9_takeWord_1 rfl rfl ?_
  obtain ⟨o3, h⟩ := h
  refine v_cVi [.ref _] mv_X9_wordIn ml_RX9_68 ⟨_, _, rfl⟩ o3 rfl rfl (Nat.le_of_ble_eq_true rfl) (Nat.le_of_ble_eq_true rfl) (Nat.le_of_ble_eq_true rfl) (Nat.zero_le _) (Nat.zero_le _) dX9_takeWord_2 (c_X9_wordIn h) (fun r1 m2 h => ?_)
  refine v_if_ne 15 dX9_takeWord_5 (by decide) (fun hc => ?_) (fun hc => ?_)
  · replace h := Eq.mp (if_neg hc) h
    refine v_aload_n 0 0 dX9_takeWord_15 rfl rfl ?_
    refine v_iconst (1 : Int32) dX9_takeWord_16 (by decide) ?_
    refine v_aload_n 0 0 dX9_takeWord_17 rfl rfl ?_
    refine v_gI 9 3 dX9_takeWord_18 fg_RX9_34 o3 ?_
    refine v_cVv [.int _, .int _] mv_X9_fail ml_RX9_51 ⟨_, _, rfl⟩ o3 rfl rfl (Nat.le_of_ble_eq_true rfl) (Nat.le_of_ble_eq_true rfl) (Nat.le_of_ble_eq_true rfl) (Nat.zero_le _) (Nat.zero_le _) dX9_takeWord_21 (c_X9_fail h) (fun m5 h => ?_)
    exact v_vret dX9_takeWord_24 rfl h
  · replace h := Eq.mp (if_pos hc) h
    refine v_aload_n 0 0 dX9_takeWord_8 rfl rfl ?_
    refine v_cVv [] mv_X9_advance ml_RX9_31 ⟨_, _, rfl⟩ o3 rfl rfl (Nat.le_of_ble_eq_true rfl) (Nat.le_of_ble_eq_true rfl) (Nat.le_of_ble_eq_true rfl) (Nat.zero_le _) (Nat.zero_le _) dX9_takeWord_9 (c_X9_advance h) (fun m7 h => ?_)
    refine v_goto 24 dX9_takeWord_12 (by decide) ?_
    exact v_vret dX9_takeWord_24 rfl h
