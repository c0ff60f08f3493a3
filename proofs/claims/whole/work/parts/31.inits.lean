/-! rows for constructors, that name the new memory and shape -/
theorem up_up (G : Gl) (a b c d : ClassId) : up (up G a b) c d = up G c d := by
  simp only [up]
  congr 3
  funext k
  by_cases h : k = 104
  · simp [h]
  · by_cases h2 : k = 105
    · simp [h2]
    · simp [h, h2]
theorem a0c_100 (N : Nat) (cA : ClassId) : vp_cell cA (a0n 100 N) = arrV cA N (fun _ => defaultValue .int) := vp_cell_i cA N (fun _ => 0)
theorem a0c_101 (N : Nat) (cA : ClassId) : vp_cell cA (a0n 101 N) = arrV cA N (fun _ => defaultValue .char) := vp_cell_i cA N (fun _ => 0)
theorem a0c_102 (N : Nat) (cA : ClassId) : vp_cell cA (a0n 102 N) = arrV cA N (fun _ => defaultValue .boolean) := vp_cell_i cA N (fun _ => 0)
theorem a0c_103 (N : Nat) (cA : ClassId) : vp_cell cA (a0n 103 N) = arrV cA N (fun _ => defaultValue .long) := vp_cell_l cA N (fun _ => 0)
theorem clm {n : Nat} (h : n < 2147483648) : (OfNat.ofNat n : Int32).toNatClampNeg = n := nI_clamp h
section Rows
variable {G : Gl} {F : Fr} {M : Mi} {sh : Shp} {nc ns : Nat} {Z : State → Prop} {pc : Nat} {ls : List (Nat × Value)} {st stk : List Value} {m : Mem}
theorem g_new {P : Shp → Mem → Prop} {idx c N : Nat} {C : String} {T : u_T} {ty : Nat → FieldType} (ci : CI c C T N ty) (dv : ∀ j, j < N → defaultValue (ty j) = dfv (ft c j)) (cl : Cond.classLink M.2.2.1 idx C ∈ TBg) (ins : Cond.instantiable C N ∈ TBg) (ini : Cond.initialized C ∈ TBg) (h1 : nc + 1 ≤ M.2.2.2.2.2.2.2.1) (h2 : ns + N ≤ M.2.2.2.2.2.2.2.2) (d : decode M.1 pc = .ok (.new idx, 3)) (h : bnd (sh ++ [(c, N)]) (fun sh1 => bnd (nw m sh.length) (fun m1 => P sh1 m1))) (K : ∀ (sh1 : Shp) (m1 : Mem), P sh1 m1 → sh1.length = sh.length + 1 → V G F M sh1 (nc + 1) (ns + N) Z (pc + 3) ls (.ref (G.1 + sh.length) :: st) m1) : V G F M sh nc ns Z pc ls st m :=
  v_new ci dv cl ins ini h1 h2 d (K _ _ h (by rw [List.length_append]; rfl))
theorem g_newa {P : Shp → Mem → Prop} {n : Int32} {N : Nat} (k : Nat) {atype : ArrayType} {ty : FieldType} (hty : newarray.typeOf atype = ty) (hk : tyO k = ty) (hk2 : 100 ≤ k ∧ k < 104) (hcell : ∀ cA : ClassId, vp_cell cA (a0n k N) = arrV cA N (fun _ => defaultValue ty)) (hra : ∀ (U : State) (c : ClassId), va_RA U c ty → U.vm.findClass ("[" ++ ty.toString) = some c) (w : Cond.arrayClass (newarray.typeOf atype) ∈ TBg) (hn : ¬ n < 0) (hN : n.toNatClampNeg = N) (hby : N * componentBytes ty ≤ 536870912) (h1 : nc + 1 ≤ M.2.2.2.2.2.2.2.1) (h2 : ns + N ≤ M.2.2.2.2.2.2.2.2) (d : decode M.1 pc = .ok (.newarray atype, 2)) (h : bnd (sh ++ [(k, N)]) (fun sh1 => bnd (nw m sh.length) (fun m1 => P sh1 m1))) (K : ∀ (sh1 : Shp) (m1 : Mem), P sh1 m1 → sh1.length = sh.length + 1 → V G F M sh1 (nc + 1) (ns + N) Z (pc + 2) ls (.ref (G.1 + sh.length) :: st) m1) : V G F M sh nc ns Z pc ls (.int n :: st) m :=
  v_newa hty hk hk2 hcell hra w hn hN hby h1 h2 d (K _ _ h (by rw [List.length_append]; rfl))
theorem g_anew {P : Shp → Mem → Prop} {idx : Nat} {n : Int32} {N : Nat} (k : Nat) {C : String} (hC : (k = 104 ∧ C = "CalledRiver$Way") ∨ (k = 105 ∧ C = "CalledRiver$Land")) (hno : ∀ q ∈ sh, q.1 ≠ k) (cl : Cond.classLink M.2.2.1 idx C ∈ TBg) (hn : ¬ n < 0) (hN : n.toNatClampNeg = N) (hby : N * 4 ≤ 536870912) (h1 : nc + 1 ≤ M.2.2.2.2.2.2.2.1) (h2 : ns + N ≤ M.2.2.2.2.2.2.2.2) (d : decode M.1 pc = .ok (.anewarray idx, 3)) (h : bnd (sh ++ [(k, N)]) (fun sh1 => bnd (nw m sh.length) (fun m1 => P sh1 m1))) (K : ∀ (c4 c5 : ClassId) (sh1 : Shp) (m1 : Mem), P sh1 m1 → sh1.length = sh.length + 1 → V (up G c4 c5) F M sh1 (nc + 1) (ns + N) Z (pc + 3) ls (.ref (G.1 + sh.length) :: st) m1) : V G F M sh nc ns Z pc ls (.int n :: st) m :=
  v_anew hC hno cl hn hN hby h1 h2 d (fun c4 c5 => K c4 c5 _ _ h (by rw [List.length_append]; rfl))
theorem g_qR {P : Mem → Prop} {idx a b : Nat} {tp : FieldType} (c k : Nat) (d : decode M.1 pc = .ok (.putfield idx, 3)) (g : FW M.2.2.1 idx c k 2 true tp) (o : Ob sh a c) (hi : M.2.2.2.2.1 = "<init>") (hn : ∀ q, narrow tp (.ref q) = .ref q) (hf : ∀ q, fits tp (.ref q) = true) (h : bnd (sR m a k (some b)) P) (K : ∀ m1, P m1 → V G F M sh nc ns Z (pc + 3) ls st m1) : V G F M sh nc ns Z pc ls (.ref (G.1 + b) :: .ref (G.1 + a) :: st) m := v_qR c k d g o hi hn hf (K _ h)
theorem g_pR {P : Mem → Prop} {idx a b : Nat} {tp : FieldType} (c k : Nat) (d : decode M.1 pc = .ok (.putfield idx, 3)) (g : FW M.2.2.1 idx c k 2 false tp) (o : Ob sh a c) (hn : ∀ q, narrow tp (.ref q) = .ref q) (hf : ∀ q, fits tp (.ref q) = true) (h : bnd (sR m a k (some b)) P) (K : ∀ m1, P m1 → V G F M sh nc ns Z (pc + 3) ls st m1) : V G F M sh nc ns Z pc ls (.ref (G.1 + b) :: .ref (G.1 + a) :: st) m := v_pR c k d g o hn hf (K _ h)
theorem g_pI {P : Mem → Prop} {idx a : Nat} {x : Int32} (c k : Nat) (d : decode M.1 pc = .ok (.putfield idx, 3)) (g : FW M.2.2.1 idx c k 0 false .int) (o : Ob sh a c) (h : bnd (sI m a k x) P) (K : ∀ m1, P m1 → V G F M sh nc ns Z (pc + 3) ls st m1) : V G F M sh nc ns Z pc ls (.int x :: .ref (G.1 + a) :: st) m := v_pI c k d g o (K _ h)
theorem g_pL {P : Mem → Prop} {idx a : Nat} {x : Int64} (c k : Nat) (d : decode M.1 pc = .ok (.putfield idx, 3)) (g : FW M.2.2.1 idx c k 1 false .long) (o : Ob sh a c) (h : bnd (sL m a k x) P) (K : ∀ m1, P m1 → V G F M sh nc ns Z (pc + 3) ls st m1) : V G F M sh nc ns Z pc ls (.long x :: .ref (G.1 + a) :: st) m := v_pL c k d g o (K _ h)
theorem g_cast {P : Mem → Prop} {a : Nat} {i x : Int32} (d : decode M.1 pc = .ok (.castore, 1)) (hi : Ix sh a 101 i) (h : bnd (sI m a i.toNatClampNeg (vp_nar .char x)) P) (K : ∀ m1, P m1 → V G F M sh nc ns Z (pc + 1) ls st m1) : V G F M sh nc ns Z pc ls (.int x :: .int i :: .ref (G.1 + a) :: st) m := v_cast d hi (K _ h)
theorem g_iast {P : Mem → Prop} {a : Nat} {i x : Int32} (d : decode M.1 pc = .ok (.iastore, 1)) (hi : Ix sh a 100 i) (h : bnd (sI m a i.toNatClampNeg x) P) (K : ∀ m1, P m1 → V G F M sh nc ns Z (pc + 1) ls st m1) : V G F M sh nc ns Z pc ls (.int x :: .int i :: .ref (G.1 + a) :: st) m := v_iast d hi (K _ h)
theorem g_aast {P : Mem → Prop} {a b c n : Nat} {i : Int32} (k : Nat) (d : decode M.1 pc = .ok (.aastore, 1)) (hk : (k = 104 ∧ c = 10) ∨ (k = 105 ∧ c = 1)) (hi : Ix sh a k i) (ho : sh[b]? = some (c, n)) (h : bnd (sR m a i.toNatClampNeg (some b)) P) (K : ∀ m1, P m1 → V G F M sh nc ns Z (pc + 1) ls st m1) : V G F M sh nc ns Z pc ls (.ref (G.1 + b) :: .int i :: .ref (G.1 + a) :: st) m := v_aast k d hk hi ho (K _ h)
theorem v_cret0 {sh0 : Shp} {mc ms : Nat} {Q : Shp → Mem → Prop} (d : decode M.1 pc = .ok (.return_, 1)) (hr : M.2.2.2.1 = none) (hlen : sh.length = sh0.length + mc) (h1 : nc ≤ mc) (h2 : ns ≤ ms) (h : Q sh m) : V G F M sh nc ns (Za G F sh0 mc ms Q) pc ls [] m := by
  have e := v_cret (G0 := G) (F := F) (M := M) (ls := ls) (c4 := G.2.2.1 104) (c5 := G.2.2.1 105) d hr hlen h1 h2 h
  rw [up_self] at e
  exact e
end Rows
set_option maxHeartbeats 4000000 in
set_option maxRecDepth 100000 in
theorem fw_RX11_12 : FW RX11 12 11 0 2 true (.object "CalledRiver$Tape") := ⟨RX11, TX11, 19, tyX11, ci_11, by decide, rfl, tm_2 149 rfl rfl, rfl, rfl, (fun _ => rfl)⟩
set_option maxHeartbeats 4000000 in
set_option maxRecDepth 100000 in
theorem fw_RX11_19 : FW RX11 19 11 1 2 true (.object "CalledRiver$Code") := ⟨RX11, TX11, 19, tyX11, ci_11, by decide, rfl, tm_2 150 rfl rfl, rfl, rfl, (fun _ => rfl)⟩
set_option maxHeartbeats 4000000 in
set_option maxRecDepth 100000 in
theorem fw_RX11_28 : FW RX11 28 11 2 2 true (.object "CalledRiver$SumReader") := ⟨RX11, TX11, 19, tyX11, ci_11, by decide, rfl, tm_2 151 rfl rfl, rfl, rfl, (fun _ => rfl)⟩
set_option maxHeartbeats 4000000 in
set_option maxRecDepth 100000 in
theorem fw_RX11_47 : FW RX11 47 11 5 2 true (.object "CalledRiver$PlainReader") := ⟨RX11, TX11, 19, tyX11, ci_11, by decide, rfl, tm_2 154 rfl rfl, rfl, rfl, (fun _ => rfl)⟩
set_option maxHeartbeats 4000000 in
set_option maxRecDepth 100000 in
theorem fw_RX11_54 : FW RX11 54 11 6 2 true (.object "CalledRiver$Land") := ⟨RX11, TX11, 19, tyX11, ci_11, by decide, rfl, tm_2 155 rfl rfl, rfl, rfl, (fun _ => rfl)⟩
set_option maxHeartbeats 4000000 in
set_option maxRecDepth 100000 in
theorem fw_RX11_58 : FW RX11 58 11 7 2 true (.object "CalledRiver$Land") := ⟨RX11, TX11, 19, tyX11, ci_11, by decide, rfl, tm_2 156 rfl rfl, rfl, rfl, (fun _ => rfl)⟩
set_option maxHeartbeats 4000000 in
set_option maxRecDepth 100000 in
theorem fw_RX11_64 : FW RX11 64 11 8 2 true (.object "CalledRiver$Past") := ⟨RX11, TX11, 19, tyX11, ci_11, by decide, rfl, tm_2 157 rfl rfl, rfl, rfl, (fun _ => rfl)⟩
set_option maxHeartbeats 4000000 in
set_option maxRecDepth 100000 in
theorem fw_RX11_71 : FW RX11 71 11 9 2 true (.object "CalledRiver$Led") := ⟨RX11, TX11, 19, tyX11, ci_11, by decide, rfl, tm_2 158 rfl rfl, rfl, rfl, (fun _ => rfl)⟩
set_option maxHeartbeats 4000000 in
set_option maxRecDepth 100000 in
theorem fw_RX11_78 : FW RX11 78 11 10 2 true (.object "CalledRiver$Sight") := ⟨RX11, TX11, 19, tyX11, ci_11, by decide, rfl, tm_2 159 rfl rfl, rfl, rfl, (fun _ => rfl)⟩
set_option maxHeartbeats 4000000 in
set_option maxRecDepth 100000 in
theorem fw_RX11_84 : FW RX11 84 11 11 2 true (.array (.object "CalledRiver$Way")) := ⟨RX11, TX11, 19, tyX11, ci_11, by decide, rfl, tm_2 160 rfl rfl, rfl, rfl, (fun _ => rfl)⟩
set_option maxHeartbeats 4000000 in
set_option maxRecDepth 100000 in
theorem fw_RX11_89 : FW RX11 89 11 12 2 true (.object "CalledRiver$Way") := ⟨RX11, TX11, 19, tyX11, ci_11, by decide, rfl, tm_2 161 rfl rfl, rfl, rfl, (fun _ => rfl)⟩
set_option maxHeartbeats 4000000 in
set_option maxRecDepth 100000 in
theorem fw_RX11_93 : FW RX11 93 11 13 2 true (.object "CalledRiver$Way") := ⟨RX11, TX11, 19, tyX11, ci_11, by decide, rfl, tm_2 162 rfl rfl, rfl, rfl, (fun _ => rfl)⟩
set_option maxHeartbeats 4000000 in
set_option maxRecDepth 100000 in
theorem fw_RX11_96 : FW RX11 96 11 14 2 true (.array .int) := ⟨RX11, TX11, 19, tyX11, ci_11, by decide, rfl, tm_2 163 rfl rfl, rfl, rfl, (fun _ => rfl)⟩
set_option maxHeartbeats 4000000 in
set_option maxRecDepth 100000 in
theorem fw_RX11_100 : FW RX11 100 11 15 2 true (.array .int) := ⟨RX11, TX11, 19, tyX11, ci_11, by decide, rfl, tm_2 164 rfl rfl, rfl, rfl, (fun _ => rfl)⟩
set_option maxHeartbeats 4000000 in
set_option maxRecDepth 100000 in
theorem fw_RX11_106 : FW RX11 106 11 16 2 true (.object "CalledRiver$Picture") := ⟨RX11, TX11, 19, tyX11, ci_11, by decide, rfl, tm_2 165 rfl rfl, rfl, rfl, (fun _ => rfl)⟩
set_option maxHeartbeats 4000000 in
set_option maxRecDepth 100000 in
theorem fw_RX11_110 : FW RX11 110 11 17 2 true (.array .int) := ⟨RX11, TX11, 19, tyX11, ci_11, by decide, rfl, tm_2 166 rfl rfl, rfl, rfl, (fun _ => rfl)⟩
set_option maxHeartbeats 4000000 in
set_option maxRecDepth 100000 in
theorem fw_RX0_9 : FW RX0 9 0 0 2 true (.array .int) := ⟨RX0, TX0, 3, tyX0, ci_0, by decide, rfl, tm_1 76 rfl rfl, rfl, rfl, (fun _ => rfl)⟩
set_option maxHeartbeats 4000000 in
set_option maxRecDepth 100000 in
theorem fw_RX0_15 : FW RX0 15 0 1 2 true (.array .int) := ⟨RX0, TX0, 3, tyX0, ci_0, by decide, rfl, tm_1 77 rfl rfl, rfl, rfl, (fun _ => rfl)⟩
set_option maxHeartbeats 4000000 in
set_option maxRecDepth 100000 in
theorem fw_RX1_9 : FW RX1 9 1 2 2 true (.array .int) := ⟨RX1, TX1, 6, tyX1, ci_1, by decide, rfl, tm_2 1 rfl rfl, rfl, rfl, (fun _ => rfl)⟩
set_option maxHeartbeats 4000000 in
set_option maxRecDepth 100000 in
theorem fw_RX1_15 : FW RX1 15 1 3 2 true (.array .int) := ⟨RX1, TX1, 6, tyX1, ci_1, by decide, rfl, tm_2 5 rfl rfl, rfl, rfl, (fun _ => rfl)⟩
set_option maxHeartbeats 4000000 in
set_option maxRecDepth 100000 in
theorem fw_RX1_18 : FW RX1 18 1 4 2 true (.array .int) := ⟨RX1, TX1, 6, tyX1, ci_1, by decide, rfl, tm_2 10 rfl rfl, rfl, rfl, (fun _ => rfl)⟩
set_option maxHeartbeats 4000000 in
set_option maxRecDepth 100000 in
theorem fw_RX1_21 : FW RX1 21 1 5 2 true (.array .int) := ⟨RX1, TX1, 6, tyX1, ci_1, by decide, rfl, tm_2 14 rfl rfl, rfl, rfl, (fun _ => rfl)⟩
set_option maxHeartbeats 4000000 in
set_option maxRecDepth 100000 in
theorem fw_RX2_9 : FW RX2 9 2 0 2 true (.array .int) := ⟨RX2, TX2, 4, tyX2, ci_2, by decide, rfl, tm_2 66 rfl rfl, rfl, rfl, (fun _ => rfl)⟩
set_option maxHeartbeats 4000000 in
set_option maxRecDepth 100000 in
theorem fw_RX2_15 : FW RX2 15 2 1 2 true (.array .int) := ⟨RX2, TX2, 4, tyX2, ci_2, by decide, rfl, tm_2 67 rfl rfl, rfl, rfl, (fun _ => rfl)⟩
set_option maxHeartbeats 4000000 in
set_option maxRecDepth 100000 in
theorem fw_RX2_18 : FW RX2 18 2 3 2 true (.array .int) := ⟨RX2, TX2, 4, tyX2, ci_2, by decide, rfl, tm_2 69 rfl rfl, rfl, rfl, (fun _ => rfl)⟩
set_option maxHeartbeats 4000000 in
set_option maxRecDepth 100000 in
theorem fw_RX3_11 : FW RX3 11 3 2 2 true (.array (.object "CalledRiver$Land")) := ⟨RX3, TX3, 6, tyX3, ci_3, by decide, rfl, tm_2 43 rfl rfl, rfl, rfl, (fun _ => rfl)⟩
set_option maxHeartbeats 4000000 in
set_option maxRecDepth 100000 in
theorem fw_RX3_17 : FW RX3 17 3 3 2 true (.array .int) := ⟨RX3, TX3, 6, tyX3, ci_3, by decide, rfl, tm_2 44 rfl rfl, rfl, rfl, (fun _ => rfl)⟩
set_option maxHeartbeats 4000000 in
set_option maxRecDepth 100000 in
theorem fw_RX3_21 : FW RX3 21 3 4 2 true (.array .int) := ⟨RX3, TX3, 6, tyX3, ci_3, by decide, rfl, tm_2 45 rfl rfl, rfl, rfl, (fun _ => rfl)⟩
set_option maxHeartbeats 4000000 in
set_option maxRecDepth 100000 in
theorem fw_RX3_24 : FW RX3 24 3 5 2 true (.array .int) := ⟨RX3, TX3, 6, tyX3, ci_3, by decide, rfl, tm_2 46 rfl rfl, rfl, rfl, (fun _ => rfl)⟩
set_option maxHeartbeats 4000000 in
set_option maxRecDepth 100000 in
theorem fw_RX4_9 : FW RX4 9 4 0 2 true (.array .int) := ⟨RX4, TX4, 2, tyX4, ci_4, by decide, rfl, tm_2 140 rfl rfl, rfl, rfl, (fun _ => rfl)⟩
set_option maxHeartbeats 4000000 in
set_option maxRecDepth 100000 in
theorem fw_RX5_9 : FW RX5 9 5 5 2 true (.array .int) := ⟨RX5, TX5, 17, tyX5, ci_5, by decide, rfl, tm_1 132 rfl rfl, rfl, rfl, (fun _ => rfl)⟩
set_option maxHeartbeats 4000000 in
set_option maxRecDepth 100000 in
theorem fw_RX5_15 : FW RX5 15 5 6 2 true (.array .int) := ⟨RX5, TX5, 17, tyX5, ci_5, by decide, rfl, tm_1 135 rfl rfl, rfl, rfl, (fun _ => rfl)⟩
set_option maxHeartbeats 4000000 in
set_option maxRecDepth 100000 in
theorem fw_RX5_18 : FW RX5 18 5 7 2 true (.array .int) := ⟨RX5, TX5, 17, tyX5, ci_5, by decide, rfl, tm_1 138 rfl rfl, rfl, rfl, (fun _ => rfl)⟩
set_option maxHeartbeats 4000000 in
set_option maxRecDepth 100000 in
theorem fw_RX5_21 : FW RX5 21 5 8 2 true (.array .int) := ⟨RX5, TX5, 17, tyX5, ci_5, by decide, rfl, tm_1 143 rfl rfl, rfl, rfl, (fun _ => rfl)⟩
set_option maxHeartbeats 4000000 in
set_option maxRecDepth 100000 in
theorem fw_RX5_24 : FW RX5 24 5 9 2 true (.array .int) := ⟨RX5, TX5, 17, tyX5, ci_5, by decide, rfl, tm_1 146 rfl rfl, rfl, rfl, (fun _ => rfl)⟩
set_option maxHeartbeats 4000000 in
set_option maxRecDepth 100000 in
theorem fw_RX5_27 : FW RX5 27 5 10 2 true (.array .int) := ⟨RX5, TX5, 17, tyX5, ci_5, by decide, rfl, tm_1 149 rfl rfl, rfl, rfl, (fun _ => rfl)⟩
set_option maxHeartbeats 4000000 in
set_option maxRecDepth 100000 in
theorem fw_RX5_30 : FW RX5 30 5 11 2 true (.array .int) := ⟨RX5, TX5, 17, tyX5, ci_5, by decide, rfl, tm_1 154 rfl rfl, rfl, rfl, (fun _ => rfl)⟩
set_option maxHeartbeats 4000000 in
set_option maxRecDepth 100000 in
theorem fw_RX5_33 : FW RX5 33 5 12 2 true (.array .int) := ⟨RX5, TX5, 17, tyX5, ci_5, by decide, rfl, tm_1 157 rfl rfl, rfl, rfl, (fun _ => rfl)⟩
set_option maxHeartbeats 4000000 in
set_option maxRecDepth 100000 in
theorem fw_RX5_36 : FW RX5 36 5 13 2 true (.array .int) := ⟨RX5, TX5, 17, tyX5, ci_5, by decide, rfl, tm_1 160 rfl rfl, rfl, rfl, (fun _ => rfl)⟩
set_option maxHeartbeats 4000000 in
set_option maxRecDepth 100000 in
theorem fw_RX5_39 : FW RX5 39 5 14 2 true (.array .int) := ⟨RX5, TX5, 17, tyX5, ci_5, by decide, rfl, tm_1 164 rfl rfl, rfl, rfl, (fun _ => rfl)⟩
set_option maxHeartbeats 4000000 in
set_option maxRecDepth 100000 in
theorem fw_RX5_45 : FW RX5 45 5 15 2 true (.object "CalledRiver$Code") := ⟨RX5, TX5, 17, tyX5, ci_5, by decide, rfl, tm_1 168 rfl rfl, rfl, rfl, (fun _ => rfl)⟩
set_option maxHeartbeats 4000000 in
set_option maxRecDepth 100000 in
theorem fw_RX5_49 : FW RX5 49 5 16 2 true (.object "CalledRiver$Code") := ⟨RX5, TX5, 17, tyX5, ci_5, by decide, rfl, tm_1 171 rfl rfl, rfl, rfl, (fun _ => rfl)⟩
set_option maxHeartbeats 4000000 in
set_option maxRecDepth 100000 in
theorem fw_RX6_9 : FW RX6 9 6 0 2 true (.object "CalledRiver$Tape") := ⟨RX6, TX6, 4, tyX6, ci_6, by decide, rfl, tm_1 215 rfl rfl, rfl, rfl, (fun _ => rfl)⟩
set_option maxHeartbeats 4000000 in
set_option maxRecDepth 100000 in
theorem fw_RX6_15 : FW RX6 15 6 1 2 true (.object "CalledRiver$SumReader") := ⟨RX6, TX6, 4, tyX6, ci_6, by decide, rfl, tm_1 216 rfl rfl, rfl, rfl, (fun _ => rfl)⟩
set_option maxHeartbeats 4000000 in
set_option maxRecDepth 100000 in
theorem fw_RX7_9 : FW RX7 9 7 1 2 true (.array .int) := ⟨RX7, TX7, 3, tyX7, ci_7, by decide, rfl, tm_2 87 rfl rfl, rfl, rfl, (fun _ => rfl)⟩
set_option maxHeartbeats 4000000 in
set_option maxRecDepth 100000 in
theorem fw_RX7_15 : FW RX7 15 7 2 2 true (.array .int) := ⟨RX7, TX7, 3, tyX7, ci_7, by decide, rfl, tm_2 88 rfl rfl, rfl, rfl, (fun _ => rfl)⟩
set_option maxHeartbeats 4000000 in
set_option maxRecDepth 100000 in
theorem fw_RX8_9 : FW RX8 9 8 0 2 true (.object "CalledRiver$Tape") := ⟨RX8, TX8, 3, tyX8, ci_8, by decide, rfl, tm_1 92 rfl rfl, rfl, rfl, (fun _ => rfl)⟩
set_option maxHeartbeats 4000000 in
set_option maxRecDepth 100000 in
theorem fw_RX9_9 : FW RX9 9 9 0 2 true (.array .int) := ⟨RX9, TX9, 7, tyX9, ci_9, by decide, rfl, tm_1 36 rfl rfl, rfl, rfl, (fun _ => rfl)⟩
set_option maxHeartbeats 4000000 in
set_option maxRecDepth 100000 in
theorem fw_RX10_9 : FW RX10 9 10 0 2 true (.array .int) := ⟨RX10, TX10, 7, tyX10, ci_10, by decide, rfl, tm_2 106 rfl rfl, rfl, rfl, (fun _ => rfl)⟩
set_option maxHeartbeats 4000000 in
set_option maxRecDepth 100000 in
theorem fw_RX10_15 : FW RX10 15 10 1 2 true (.array .int) := ⟨RX10, TX10, 7, tyX10, ci_10, by decide, rfl, tm_2 108 rfl rfl, rfl, rfl, (fun _ => rfl)⟩
set_option maxHeartbeats 4000000 in
set_option maxRecDepth 100000 in
theorem fw_RX10_22 : FW RX10 22 10 6 2 true (.array .int) := ⟨RX10, TX10, 7, tyX10, ci_10, by decide, rfl, tm_2 118 rfl rfl, rfl, rfl, (fun _ => rfl)⟩
set_option maxHeartbeats 4000000 in
set_option maxRecDepth 100000 in
theorem fw_RX12_7 : FW RX12 7 12 0 2 true (.array .int) := ⟨RX12, TX12, 120, tyX12, ci_12, by decide, rfl, tm_5 154 rfl rfl, rfl, rfl, (fun _ => rfl)⟩
set_option maxHeartbeats 4000000 in
set_option maxRecDepth 100000 in
theorem fw_RX12_17 : FW RX12 17 12 9 2 true (.array .int) := ⟨RX12, TX12, 120, tyX12, ci_12, by decide, rfl, tm_5 163 rfl rfl, rfl, rfl, (fun _ => rfl)⟩
set_option maxHeartbeats 4000000 in
set_option maxRecDepth 100000 in
theorem fw_RX12_20 : FW RX12 20 12 11 2 true (.array .char) := ⟨RX12, TX12, 120, tyX12, ci_12, by decide, rfl, tm_5 165 rfl rfl, rfl, rfl, (fun _ => rfl)⟩
set_option maxHeartbeats 4000000 in
set_option maxRecDepth 100000 in
theorem fw_RX12_24 : FW RX12 24 12 12 2 true (.array .char) := ⟨RX12, TX12, 120, tyX12, ci_12, by decide, rfl, tm_5 166 rfl rfl, rfl, rfl, (fun _ => rfl)⟩
set_option maxHeartbeats 4000000 in
set_option maxRecDepth 100000 in
theorem fw_RX12_27 : FW RX12 27 12 13 2 true (.array .char) := ⟨RX12, TX12, 120, tyX12, ci_12, by decide, rfl, tm_5 167 rfl rfl, rfl, rfl, (fun _ => rfl)⟩
set_option maxHeartbeats 4000000 in
set_option maxRecDepth 100000 in
theorem fw_RX12_30 : FW RX12 30 12 14 2 true (.array .char) := ⟨RX12, TX12, 120, tyX12, ci_12, by decide, rfl, tm_5 168 rfl rfl, rfl, rfl, (fun _ => rfl)⟩
set_option maxHeartbeats 4000000 in
set_option maxRecDepth 100000 in
theorem fw_RX12_33 : FW RX12 33 12 15 2 true (.array .char) := ⟨RX12, TX12, 120, tyX12, ci_12, by decide, rfl, tm_5 169 rfl rfl, rfl, rfl, (fun _ => rfl)⟩
set_option maxHeartbeats 4000000 in
set_option maxRecDepth 100000 in
theorem fw_RX12_36 : FW RX12 36 12 16 2 true (.array .char) := ⟨RX12, TX12, 120, tyX12, ci_12, by decide, rfl, tm_5 170 rfl rfl, rfl, rfl, (fun _ => rfl)⟩
set_option maxHeartbeats 4000000 in
set_option maxRecDepth 100000 in
theorem fw_RX12_39 : FW RX12 39 12 17 2 true (.array .char) := ⟨RX12, TX12, 120, tyX12, ci_12, by decide, rfl, tm_5 171 rfl rfl, rfl, rfl, (fun _ => rfl)⟩
set_option maxHeartbeats 4000000 in
set_option maxRecDepth 100000 in
theorem fw_RX12_42 : FW RX12 42 12 18 2 true (.array .char) := ⟨RX12, TX12, 120, tyX12, ci_12, by decide, rfl, tm_5 172 rfl rfl, rfl, rfl, (fun _ => rfl)⟩
set_option maxHeartbeats 4000000 in
set_option maxRecDepth 100000 in
theorem fw_RX12_45 : FW RX12 45 12 19 2 true (.array .char) := ⟨RX12, TX12, 120, tyX12, ci_12, by decide, rfl, tm_5 173 rfl rfl, rfl, rfl, (fun _ => rfl)⟩
set_option maxHeartbeats 4000000 in
set_option maxRecDepth 100000 in
theorem fw_RX12_48 : FW RX12 48 12 20 2 true (.array .char) := ⟨RX12, TX12, 120, tyX12, ci_12, by decide, rfl, tm_5 174 rfl rfl, rfl, rfl, (fun _ => rfl)⟩
set_option maxHeartbeats 4000000 in
set_option maxRecDepth 100000 in
theorem fw_RX12_51 : FW RX12 51 12 21 2 true (.array .char) := ⟨RX12, TX12, 120, tyX12, ci_12, by decide, rfl, tm_5 175 rfl rfl, rfl, rfl, (fun _ => rfl)⟩
set_option maxHeartbeats 4000000 in
set_option maxRecDepth 100000 in
theorem fw_RX12_54 : FW RX12 54 12 22 2 true (.array .char) := ⟨RX12, TX12, 120, tyX12, ci_12, by decide, rfl, tm_5 176 rfl rfl, rfl, rfl, (fun _ => rfl)⟩
set_option maxHeartbeats 4000000 in
set_option maxRecDepth 100000 in
theorem fw_RX12_57 : FW RX12 57 12 23 2 true (.array .char) := ⟨RX12, TX12, 120, tyX12, ci_12, by decide, rfl, tm_5 177 rfl rfl, rfl, rfl, (fun _ => rfl)⟩
set_option maxHeartbeats 4000000 in
set_option maxRecDepth 100000 in
theorem fw_RX12_60 : FW RX12 60 12 24 2 true (.array .char) := ⟨RX12, TX12, 120, tyX12, ci_12, by decide, rfl, tm_5 178 rfl rfl, rfl, rfl, (fun _ => rfl)⟩
set_option maxHeartbeats 4000000 in
set_option maxRecDepth 100000 in
theorem fw_RX12_63 : FW RX12 63 12 25 2 true (.array .char) := ⟨RX12, TX12, 120, tyX12, ci_12, by decide, rfl, tm_5 179 rfl rfl, rfl, rfl, (fun _ => rfl)⟩
set_option maxHeartbeats 4000000 in
set_option maxRecDepth 100000 in
theorem fw_RX12_66 : FW RX12 66 12 26 2 true (.array .char) := ⟨RX12, TX12, 120, tyX12, ci_12, by decide, rfl, tm_5 180 rfl rfl, rfl, rfl, (fun _ => rfl)⟩
set_option maxHeartbeats 4000000 in
set_option maxRecDepth 100000 in
theorem fw_RX12_69 : FW RX12 69 12 27 2 true (.array .char) := ⟨RX12, TX12, 120, tyX12, ci_12, by decide, rfl, tm_5 181 rfl rfl, rfl, rfl, (fun _ => rfl)⟩
set_option maxHeartbeats 4000000 in
set_option maxRecDepth 100000 in
theorem fw_RX12_72 : FW RX12 72 12 28 2 true (.array .char) := ⟨RX12, TX12, 120, tyX12, ci_12, by decide, rfl, tm_5 182 rfl rfl, rfl, rfl, (fun _ => rfl)⟩
set_option maxHeartbeats 4000000 in
set_option maxRecDepth 100000 in
theorem fw_RX12_75 : FW RX12 75 12 29 2 true (.array .char) := ⟨RX12, TX12, 120, tyX12, ci_12, by decide, rfl, tm_5 183 rfl rfl, rfl, rfl, (fun _ => rfl)⟩
set_option maxHeartbeats 4000000 in
set_option maxRecDepth 100000 in
theorem fw_RX12_78 : FW RX12 78 12 30 2 true (.array .char) := ⟨RX12, TX12, 120, tyX12, ci_12, by decide, rfl, tm_5 184 rfl rfl, rfl, rfl, (fun _ => rfl)⟩
set_option maxHeartbeats 4000000 in
set_option maxRecDepth 100000 in
theorem fw_RX12_81 : FW RX12 81 12 31 2 true (.array .char) := ⟨RX12, TX12, 120, tyX12, ci_12, by decide, rfl, tm_5 185 rfl rfl, rfl, rfl, (fun _ => rfl)⟩
set_option maxHeartbeats 4000000 in
set_option maxRecDepth 100000 in
theorem fw_RX12_84 : FW RX12 84 12 32 2 true (.array .char) := ⟨RX12, TX12, 120, tyX12, ci_12, by decide, rfl, tm_5 186 rfl rfl, rfl, rfl, (fun _ => rfl)⟩
set_option maxHeartbeats 4000000 in
set_option maxRecDepth 100000 in
theorem fw_RX12_87 : FW RX12 87 12 33 2 true (.array .char) := ⟨RX12, TX12, 120, tyX12, ci_12, by decide, rfl, tm_5 187 rfl rfl, rfl, rfl, (fun _ => rfl)⟩
set_option maxHeartbeats 4000000 in
set_option maxRecDepth 100000 in
theorem fw_RX12_90 : FW RX12 90 12 34 2 true (.array .char) := ⟨RX12, TX12, 120, tyX12, ci_12, by decide, rfl, tm_5 188 rfl rfl, rfl, rfl, (fun _ => rfl)⟩
set_option maxHeartbeats 4000000 in
set_option maxRecDepth 100000 in
theorem fw_RX12_93 : FW RX12 93 12 35 2 true (.array .char) := ⟨RX12, TX12, 120, tyX12, ci_12, by decide, rfl, tm_5 189 rfl rfl, rfl, rfl, (fun _ => rfl)⟩
set_option maxHeartbeats 4000000 in
set_option maxRecDepth 100000 in
theorem fw_RX12_96 : FW RX12 96 12 36 2 true (.array .char) := ⟨RX12, TX12, 120, tyX12, ci_12, by decide, rfl, tm_5 190 rfl rfl, rfl, rfl, (fun _ => rfl)⟩
set_option maxHeartbeats 4000000 in
set_option maxRecDepth 100000 in
theorem fw_RX12_99 : FW RX12 99 12 37 2 true (.array .char) := ⟨RX12, TX12, 120, tyX12, ci_12, by decide, rfl, tm_5 191 rfl rfl, rfl, rfl, (fun _ => rfl)⟩
set_option maxHeartbeats 4000000 in
set_option maxRecDepth 100000 in
theorem fw_RX12_102 : FW RX12 102 12 38 2 true (.array .char) := ⟨RX12, TX12, 120, tyX12, ci_12, by decide, rfl, tm_5 192 rfl rfl, rfl, rfl, (fun _ => rfl)⟩
set_option maxHeartbeats 4000000 in
set_option maxRecDepth 100000 in
theorem fw_RX12_105 : FW RX12 105 12 39 2 true (.array .char) := ⟨RX12, TX12, 120, tyX12, ci_12, by decide, rfl, tm_5 193 rfl rfl, rfl, rfl, (fun _ => rfl)⟩
set_option maxHeartbeats 4000000 in
set_option maxRecDepth 100000 in
theorem fw_RX12_108 : FW RX12 108 12 40 2 true (.array .char) := ⟨RX12, TX12, 120, tyX12, ci_12, by decide, rfl, tm_5 194 rfl rfl, rfl, rfl, (fun _ => rfl)⟩
set_option maxHeartbeats 4000000 in
set_option maxRecDepth 100000 in
theorem fw_RX12_111 : FW RX12 111 12 42 2 true (.array .int) := ⟨RX12, TX12, 120, tyX12, ci_12, by decide, rfl, tm_5 196 rfl rfl, rfl, rfl, (fun _ => rfl)⟩
set_option maxHeartbeats 4000000 in
set_option maxRecDepth 100000 in
theorem fw_RX12_114 : FW RX12 114 12 45 2 true (.array .int) := ⟨RX12, TX12, 120, tyX12, ci_12, by decide, rfl, tm_5 199 rfl rfl, rfl, rfl, (fun _ => rfl)⟩
set_option maxHeartbeats 4000000 in
set_option maxRecDepth 100000 in
theorem fw_RX12_117 : FW RX12 117 12 46 2 true (.array .long) := ⟨RX12, TX12, 120, tyX12, ci_12, by decide, rfl, tm_5 200 rfl rfl, rfl, rfl, (fun _ => rfl)⟩
set_option maxHeartbeats 4000000 in
set_option maxRecDepth 100000 in
theorem fw_RX12_121 : FW RX12 121 12 47 2 true (.array .int) := ⟨RX12, TX12, 120, tyX12, ci_12, by decide, rfl, tm_5 201 rfl rfl, rfl, rfl, (fun _ => rfl)⟩
set_option maxHeartbeats 4000000 in
set_option maxRecDepth 100000 in
theorem fw_RX12_124 : FW RX12 124 12 48 2 true (.array .int) := ⟨RX12, TX12, 120, tyX12, ci_12, by decide, rfl, tm_5 202 rfl rfl, rfl, rfl, (fun _ => rfl)⟩
set_option maxHeartbeats 4000000 in
set_option maxRecDepth 100000 in
theorem fw_RX12_127 : FW RX12 127 12 49 2 true (.array .int) := ⟨RX12, TX12, 120, tyX12, ci_12, by decide, rfl, tm_5 203 rfl rfl, rfl, rfl, (fun _ => rfl)⟩
set_option maxHeartbeats 4000000 in
set_option maxRecDepth 100000 in
theorem fw_RX12_130 : FW RX12 130 12 50 2 true (.array .boolean) := ⟨RX12, TX12, 120, tyX12, ci_12, by decide, rfl, tm_5 204 rfl rfl, rfl, rfl, (fun _ => rfl)⟩
set_option maxHeartbeats 4000000 in
set_option maxRecDepth 100000 in
theorem fw_RX12_134 : FW RX12 134 12 51 2 true (.array .int) := ⟨RX12, TX12, 120, tyX12, ci_12, by decide, rfl, tm_5 205 rfl rfl, rfl, rfl, (fun _ => rfl)⟩
set_option maxHeartbeats 4000000 in
set_option maxRecDepth 100000 in
theorem fw_RX12_137 : FW RX12 137 12 52 2 true (.array .int) := ⟨RX12, TX12, 120, tyX12, ci_12, by decide, rfl, tm_5 206 rfl rfl, rfl, rfl, (fun _ => rfl)⟩
set_option maxHeartbeats 4000000 in
set_option maxRecDepth 100000 in
theorem fw_RX12_140 : FW RX12 140 12 53 2 true (.array .int) := ⟨RX12, TX12, 120, tyX12, ci_12, by decide, rfl, tm_5 207 rfl rfl, rfl, rfl, (fun _ => rfl)⟩
set_option maxHeartbeats 4000000 in
set_option maxRecDepth 100000 in
theorem fw_RX12_143 : FW RX12 143 12 58 2 true (.array .int) := ⟨RX12, TX12, 120, tyX12, ci_12, by decide, rfl, tm_5 212 rfl rfl, rfl, rfl, (fun _ => rfl)⟩
set_option maxHeartbeats 4000000 in
set_option maxRecDepth 100000 in
theorem fw_RX12_146 : FW RX12 146 12 63 2 true (.array .int) := ⟨RX12, TX12, 120, tyX12, ci_12, by decide, rfl, tm_5 217 rfl rfl, rfl, rfl, (fun _ => rfl)⟩
set_option maxHeartbeats 4000000 in
set_option maxRecDepth 100000 in
theorem fw_RX12_149 : FW RX12 149 12 65 2 true (.array .int) := ⟨RX12, TX12, 120, tyX12, ci_12, by decide, rfl, tm_5 219 rfl rfl, rfl, rfl, (fun _ => rfl)⟩
set_option maxHeartbeats 4000000 in
set_option maxRecDepth 100000 in
theorem fw_RX12_152 : FW RX12 152 12 66 2 true (.array .int) := ⟨RX12, TX12, 120, tyX12, ci_12, by decide, rfl, tm_5 220 rfl rfl, rfl, rfl, (fun _ => rfl)⟩
set_option maxHeartbeats 4000000 in
set_option maxRecDepth 100000 in
theorem fw_RX12_155 : FW RX12 155 12 67 2 true (.array .boolean) := ⟨RX12, TX12, 120, tyX12, ci_12, by decide, rfl, tm_5 221 rfl rfl, rfl, rfl, (fun _ => rfl)⟩
set_option maxHeartbeats 4000000 in
set_option maxRecDepth 100000 in
theorem fw_RX12_158 : FW RX12 158 12 68 2 true (.array .boolean) := ⟨RX12, TX12, 120, tyX12, ci_12, by decide, rfl, tm_5 222 rfl rfl, rfl, rfl, (fun _ => rfl)⟩
set_option maxHeartbeats 4000000 in
set_option maxRecDepth 100000 in
theorem fw_RX12_161 : FW RX12 161 12 69 2 true (.array .boolean) := ⟨RX12, TX12, 120, tyX12, ci_12, by decide, rfl, tm_5 223 rfl rfl, rfl, rfl, (fun _ => rfl)⟩
set_option maxHeartbeats 4000000 in
set_option maxRecDepth 100000 in
theorem fw_RX12_164 : FW RX12 164 12 70 2 true (.array .int) := ⟨RX12, TX12, 120, tyX12, ci_12, by decide, rfl, tm_5 224 rfl rfl, rfl, rfl, (fun _ => rfl)⟩
set_option maxHeartbeats 4000000 in
set_option maxRecDepth 100000 in
theorem fw_RX12_167 : FW RX12 167 12 71 2 true (.array .int) := ⟨RX12, TX12, 120, tyX12, ci_12, by decide, rfl, tm_5 225 rfl rfl, rfl, rfl, (fun _ => rfl)⟩
set_option maxHeartbeats 4000000 in
set_option maxRecDepth 100000 in
theorem fw_RX12_170 : FW RX12 170 12 72 2 true (.array .int) := ⟨RX12, TX12, 120, tyX12, ci_12, by decide, rfl, tm_5 226 rfl rfl, rfl, rfl, (fun _ => rfl)⟩
set_option maxHeartbeats 4000000 in
set_option maxRecDepth 100000 in
theorem fw_RX12_173 : FW RX12 173 12 73 2 true (.array .int) := ⟨RX12, TX12, 120, tyX12, ci_12, by decide, rfl, tm_5 227 rfl rfl, rfl, rfl, (fun _ => rfl)⟩
set_option maxHeartbeats 4000000 in
set_option maxRecDepth 100000 in
theorem fw_RX12_176 : FW RX12 176 12 75 2 true (.array .int) := ⟨RX12, TX12, 120, tyX12, ci_12, by decide, rfl, tm_5 229 rfl rfl, rfl, rfl, (fun _ => rfl)⟩
set_option maxHeartbeats 4000000 in
set_option maxRecDepth 100000 in
theorem fw_RX12_179 : FW RX12 179 12 76 2 true (.array .int) := ⟨RX12, TX12, 120, tyX12, ci_12, by decide, rfl, tm_5 230 rfl rfl, rfl, rfl, (fun _ => rfl)⟩
set_option maxHeartbeats 4000000 in
set_option maxRecDepth 100000 in
theorem fw_RX12_182 : FW RX12 182 12 77 2 true (.array .int) := ⟨RX12, TX12, 120, tyX12, ci_12, by decide, rfl, tm_5 231 rfl rfl, rfl, rfl, (fun _ => rfl)⟩
set_option maxHeartbeats 4000000 in
set_option maxRecDepth 100000 in
theorem fw_RX12_189 : FW RX12 189 12 81 2 true (.array .char) := ⟨RX12, TX12, 120, tyX12, ci_12, by decide, rfl, tm_5 235 rfl rfl, rfl, rfl, (fun _ => rfl)⟩
set_option maxHeartbeats 4000000 in
set_option maxRecDepth 100000 in
theorem fw_RX12_192 : FW RX12 192 12 82 2 true (.array .char) := ⟨RX12, TX12, 120, tyX12, ci_12, by decide, rfl, tm_5 236 rfl rfl, rfl, rfl, (fun _ => rfl)⟩
set_option maxHeartbeats 4000000 in
set_option maxRecDepth 100000 in
theorem fw_RX12_195 : FW RX12 195 12 83 2 true (.array .char) := ⟨RX12, TX12, 120, tyX12, ci_12, by decide, rfl, tm_5 237 rfl rfl, rfl, rfl, (fun _ => rfl)⟩
set_option maxHeartbeats 4000000 in
set_option maxRecDepth 100000 in
theorem fw_RX12_198 : FW RX12 198 12 84 2 true (.array .char) := ⟨RX12, TX12, 120, tyX12, ci_12, by decide, rfl, tm_5 238 rfl rfl, rfl, rfl, (fun _ => rfl)⟩
set_option maxHeartbeats 4000000 in
set_option maxRecDepth 100000 in
theorem fw_RX12_201 : FW RX12 201 12 85 2 true (.array .char) := ⟨RX12, TX12, 120, tyX12, ci_12, by decide, rfl, tm_5 239 rfl rfl, rfl, rfl, (fun _ => rfl)⟩
set_option maxHeartbeats 4000000 in
set_option maxRecDepth 100000 in
theorem fw_RX12_204 : FW RX12 204 12 86 2 true (.array .char) := ⟨RX12, TX12, 120, tyX12, ci_12, by decide, rfl, tm_6 0 rfl rfl, rfl, rfl, (fun _ => rfl)⟩
set_option maxHeartbeats 4000000 in
set_option maxRecDepth 100000 in
theorem fw_RX12_207 : FW RX12 207 12 87 2 true (.array .char) := ⟨RX12, TX12, 120, tyX12, ci_12, by decide, rfl, tm_6 1 rfl rfl, rfl, rfl, (fun _ => rfl)⟩
set_option maxHeartbeats 4000000 in
set_option maxRecDepth 100000 in
theorem fw_RX12_210 : FW RX12 210 12 88 2 true (.array .char) := ⟨RX12, TX12, 120, tyX12, ci_12, by decide, rfl, tm_6 2 rfl rfl, rfl, rfl, (fun _ => rfl)⟩
set_option maxHeartbeats 4000000 in
set_option maxRecDepth 100000 in
theorem fw_RX12_213 : FW RX12 213 12 89 2 true (.array .char) := ⟨RX12, TX12, 120, tyX12, ci_12, by decide, rfl, tm_6 3 rfl rfl, rfl, rfl, (fun _ => rfl)⟩
set_option maxHeartbeats 4000000 in
set_option maxRecDepth 100000 in
theorem fw_RX12_216 : FW RX12 216 12 90 2 true (.array .char) := ⟨RX12, TX12, 120, tyX12, ci_12, by decide, rfl, tm_6 4 rfl rfl, rfl, rfl, (fun _ => rfl)⟩
set_option maxHeartbeats 4000000 in
set_option maxRecDepth 100000 in
theorem fw_RX12_219 : FW RX12 219 12 91 2 true (.array .char) := ⟨RX12, TX12, 120, tyX12, ci_12, by decide, rfl, tm_6 5 rfl rfl, rfl, rfl, (fun _ => rfl)⟩
set_option maxHeartbeats 4000000 in
set_option maxRecDepth 100000 in
theorem fw_RX12_222 : FW RX12 222 12 92 2 true (.array .char) := ⟨RX12, TX12, 120, tyX12, ci_12, by decide, rfl, tm_6 6 rfl rfl, rfl, rfl, (fun _ => rfl)⟩
set_option maxHeartbeats 4000000 in
set_option maxRecDepth 100000 in
theorem fw_RX12_225 : FW RX12 225 12 93 2 true (.array .char) := ⟨RX12, TX12, 120, tyX12, ci_12, by decide, rfl, tm_6 7 rfl rfl, rfl, rfl, (fun _ => rfl)⟩
set_option maxHeartbeats 4000000 in
set_option maxRecDepth 100000 in
theorem fw_RX12_228 : FW RX12 228 12 94 2 true (.array .char) := ⟨RX12, TX12, 120, tyX12, ci_12, by decide, rfl, tm_6 8 rfl rfl, rfl, rfl, (fun _ => rfl)⟩
set_option maxHeartbeats 4000000 in
set_option maxRecDepth 100000 in
theorem fw_RX12_231 : FW RX12 231 12 95 2 true (.array .char) := ⟨RX12, TX12, 120, tyX12, ci_12, by decide, rfl, tm_6 9 rfl rfl, rfl, rfl, (fun _ => rfl)⟩
set_option maxHeartbeats 4000000 in
set_option maxRecDepth 100000 in
theorem fw_RX12_234 : FW RX12 234 12 96 2 true (.array .char) := ⟨RX12, TX12, 120, tyX12, ci_12, by decide, rfl, tm_6 10 rfl rfl, rfl, rfl, (fun _ => rfl)⟩
set_option maxHeartbeats 4000000 in
set_option maxRecDepth 100000 in
theorem fw_RX12_237 : FW RX12 237 12 97 2 true (.array .char) := ⟨RX12, TX12, 120, tyX12, ci_12, by decide, rfl, tm_6 11 rfl rfl, rfl, rfl, (fun _ => rfl)⟩
set_option maxHeartbeats 4000000 in
set_option maxRecDepth 100000 in
theorem fw_RX12_240 : FW RX12 240 12 98 2 true (.array .char) := ⟨RX12, TX12, 120, tyX12, ci_12, by decide, rfl, tm_6 12 rfl rfl, rfl, rfl, (fun _ => rfl)⟩
set_option maxHeartbeats 4000000 in
set_option maxRecDepth 100000 in
theorem fw_RX12_243 : FW RX12 243 12 99 2 true (.array .char) := ⟨RX12, TX12, 120, tyX12, ci_12, by decide, rfl, tm_6 13 rfl rfl, rfl, rfl, (fun _ => rfl)⟩
set_option maxHeartbeats 4000000 in
set_option maxRecDepth 100000 in
theorem fw_RX12_246 : FW RX12 246 12 100 2 true (.array .char) := ⟨RX12, TX12, 120, tyX12, ci_12, by decide, rfl, tm_6 14 rfl rfl, rfl, rfl, (fun _ => rfl)⟩
set_option maxHeartbeats 4000000 in
set_option maxRecDepth 100000 in
theorem fw_RX12_249 : FW RX12 249 12 101 2 true (.array .char) := ⟨RX12, TX12, 120, tyX12, ci_12, by decide, rfl, tm_6 15 rfl rfl, rfl, rfl, (fun _ => rfl)⟩
set_option maxHeartbeats 4000000 in
set_option maxRecDepth 100000 in
theorem fw_RX12_252 : FW RX12 252 12 102 2 true (.array .char) := ⟨RX12, TX12, 120, tyX12, ci_12, by decide, rfl, tm_6 16 rfl rfl, rfl, rfl, (fun _ => rfl)⟩
set_option maxHeartbeats 4000000 in
set_option maxRecDepth 100000 in
theorem fw_RX12_255 : FW RX12 255 12 103 2 true (.array .char) := ⟨RX12, TX12, 120, tyX12, ci_12, by decide, rfl, tm_6 17 rfl rfl, rfl, rfl, (fun _ => rfl)⟩
set_option maxHeartbeats 4000000 in
set_option maxRecDepth 100000 in
theorem fw_RX12_258 : FW RX12 258 12 104 2 true (.array .char) := ⟨RX12, TX12, 120, tyX12, ci_12, by decide, rfl, tm_6 18 rfl rfl, rfl, rfl, (fun _ => rfl)⟩
set_option maxHeartbeats 4000000 in
set_option maxRecDepth 100000 in
theorem fw_RX12_261 : FW RX12 261 12 105 2 true (.array .char) := ⟨RX12, TX12, 120, tyX12, ci_12, by decide, rfl, tm_6 19 rfl rfl, rfl, rfl, (fun _ => rfl)⟩
set_option maxHeartbeats 4000000 in
set_option maxRecDepth 100000 in
theorem fw_RX12_264 : FW RX12 264 12 106 2 true (.array .char) := ⟨RX12, TX12, 120, tyX12, ci_12, by decide, rfl, tm_6 20 rfl rfl, rfl, rfl, (fun _ => rfl)⟩
set_option maxHeartbeats 4000000 in
set_option maxRecDepth 100000 in
theorem fw_RX12_267 : FW RX12 267 12 107 2 true (.array .char) := ⟨RX12, TX12, 120, tyX12, ci_12, by decide, rfl, tm_6 21 rfl rfl, rfl, rfl, (fun _ => rfl)⟩
set_option maxHeartbeats 4000000 in
set_option maxRecDepth 100000 in
theorem fw_RX12_270 : FW RX12 270 12 108 2 true (.array .int) := ⟨RX12, TX12, 120, tyX12, ci_12, by decide, rfl, tm_6 22 rfl rfl, rfl, rfl, (fun _ => rfl)⟩
set_option maxHeartbeats 4000000 in
set_option maxRecDepth 100000 in
theorem fw_RX12_273 : FW RX12 273 12 110 2 true (.array .int) := ⟨RX12, TX12, 120, tyX12, ci_12, by decide, rfl, tm_6 24 rfl rfl, rfl, rfl, (fun _ => rfl)⟩
set_option maxHeartbeats 4000000 in
set_option maxRecDepth 100000 in
theorem fw_RX12_276 : FW RX12 276 12 114 2 true (.array .long) := ⟨RX12, TX12, 120, tyX12, ci_12, by decide, rfl, tm_6 28 rfl rfl, rfl, rfl, (fun _ => rfl)⟩
set_option maxHeartbeats 4000000 in
set_option maxRecDepth 100000 in
theorem fw_RX12_279 : FW RX12 279 12 118 2 true (.array .int) := ⟨RX12, TX12, 120, tyX12, ci_12, by decide, rfl, tm_6 32 rfl rfl, rfl, rfl, (fun _ => rfl)⟩
set_option maxHeartbeats 4000000 in
set_option maxRecDepth 100000 in
theorem ml_RX11_25 : Cond.methodLink RX11 25 yX8_init ∈ TBg := tm_1 88 rfl rfl
set_option maxHeartbeats 4000000 in
set_option maxRecDepth 100000 in
theorem ml_RX11_44 : Cond.methodLink RX11 44 yX6_init ∈ TBg := tm_1 211 rfl rfl
set_option maxHeartbeats 4000000 in
set_option maxRecDepth 100000 in
theorem ml_RX11_63 : Cond.methodLink RX11 63 yX3_init ∈ TBg := tm_2 33 rfl rfl
set_option maxHeartbeats 4000000 in
set_option maxRecDepth 100000 in
theorem ml_RX11_88 : Cond.methodLink RX11 88 yX10_init ∈ TBg := tm_2 99 rfl rfl
theorem dv_0 : ∀ j, j < 3 → defaultValue (tyX0 j) = dfv (ft 0 j) := by decide +kernel
set_option maxHeartbeats 4000000 in
set_option maxRecDepth 100000 in
theorem in_0 : Cond.instantiable RX0 3 ∈ TBg := tm_1 71 rfl rfl
set_option maxHeartbeats 4000000 in
set_option maxRecDepth 100000 in
theorem it_0 : Cond.initialized RX0 ∈ TBg := tm_1 3 rfl rfl
theorem dv_1 : ∀ j, j < 6 → defaultValue (tyX1 j) = dfv (ft 1 j) := by decide +kernel
set_option maxHeartbeats 4000000 in
set_option maxRecDepth 100000 in
theorem in_1 : Cond.instantiable RX1 6 ∈ TBg := tm_1 229 rfl rfl
set_option maxHeartbeats 4000000 in
set_option maxRecDepth 100000 in
theorem it_1 : Cond.initialized RX1 ∈ TBg := tm_1 7 rfl rfl
theorem dv_2 : ∀ j, j < 4 → defaultValue (tyX2 j) = dfv (ft 2 j) := by decide +kernel
set_option maxHeartbeats 4000000 in
set_option maxRecDepth 100000 in
theorem in_2 : Cond.instantiable RX2 4 ∈ TBg := tm_2 61 rfl rfl
set_option maxHeartbeats 4000000 in
set_option maxRecDepth 100000 in
theorem it_2 : Cond.initialized RX2 ∈ TBg := tm_1 9 rfl rfl
theorem dv_3 : ∀ j, j < 6 → defaultValue (tyX3 j) = dfv (ft 3 j) := by decide +kernel
set_option maxHeartbeats 4000000 in
set_option maxRecDepth 100000 in
theorem in_3 : Cond.instantiable RX3 6 ∈ TBg := tm_2 32 rfl rfl
set_option maxHeartbeats 4000000 in
set_option maxRecDepth 100000 in
theorem it_3 : Cond.initialized RX3 ∈ TBg := tm_1 8 rfl rfl
theorem dv_4 : ∀ j, j < 2 → defaultValue (tyX4 j) = dfv (ft 4 j) := by decide +kernel
set_option maxHeartbeats 4000000 in
set_option maxRecDepth 100000 in
theorem in_4 : Cond.instantiable RX4 2 ∈ TBg := tm_2 135 rfl rfl
set_option maxHeartbeats 4000000 in
set_option maxRecDepth 100000 in
theorem it_4 : Cond.initialized RX4 ∈ TBg := tm_1 13 rfl rfl
theorem dv_5 : ∀ j, j < 17 → defaultValue (tyX5 j) = dfv (ft 5 j) := by decide +kernel
set_option maxHeartbeats 4000000 in
set_option maxRecDepth 100000 in
theorem in_5 : Cond.instantiable RX5 17 ∈ TBg := tm_1 103 rfl rfl
set_option maxHeartbeats 4000000 in
set_option maxRecDepth 100000 in
theorem it_5 : Cond.initialized RX5 ∈ TBg := tm_1 5 rfl rfl
theorem dv_6 : ∀ j, j < 4 → defaultValue (tyX6 j) = dfv (ft 6 j) := by decide +kernel
set_option maxHeartbeats 4000000 in
set_option maxRecDepth 100000 in
theorem in_6 : Cond.instantiable RX6 4 ∈ TBg := tm_1 210 rfl rfl
set_option maxHeartbeats 4000000 in
set_option maxRecDepth 100000 in
theorem it_6 : Cond.initialized RX6 ∈ TBg := tm_1 6 rfl rfl
theorem dv_7 : ∀ j, j < 3 → defaultValue (tyX7 j) = dfv (ft 7 j) := by decide +kernel
set_option maxHeartbeats 4000000 in
set_option maxRecDepth 100000 in
theorem in_7 : Cond.instantiable RX7 3 ∈ TBg := tm_2 80 rfl rfl
set_option maxHeartbeats 4000000 in
set_option maxRecDepth 100000 in
theorem it_7 : Cond.initialized RX7 ∈ TBg := tm_1 10 rfl rfl
theorem dv_8 : ∀ j, j < 3 → defaultValue (tyX8 j) = dfv (ft 8 j) := by decide +kernel
set_option maxHeartbeats 4000000 in
set_option maxRecDepth 100000 in
theorem in_8 : Cond.instantiable RX8 3 ∈ TBg := tm_1 87 rfl rfl
set_option maxHeartbeats 4000000 in
set_option maxRecDepth 100000 in
theorem it_8 : Cond.initialized RX8 ∈ TBg := tm_1 4 rfl rfl
theorem dv_9 : ∀ j, j < 7 → defaultValue (tyX9 j) = dfv (ft 9 j) := by decide +kernel
set_option maxHeartbeats 4000000 in
set_option maxRecDepth 100000 in
theorem in_9 : Cond.instantiable RX9 7 ∈ TBg := tm_1 31 rfl rfl
set_option maxHeartbeats 4000000 in
set_option maxRecDepth 100000 in
theorem it_9 : Cond.initialized RX9 ∈ TBg := tm_1 2 rfl rfl
theorem dv_10 : ∀ j, j < 7 → defaultValue (tyX10 j) = dfv (ft 10 j) := by decide +kernel
set_option maxHeartbeats 4000000 in
set_option maxRecDepth 100000 in
theorem in_10 : Cond.instantiable RX10 7 ∈ TBg := tm_2 98 rfl rfl
set_option maxHeartbeats 4000000 in
set_option maxRecDepth 100000 in
theorem it_10 : Cond.initialized RX10 ∈ TBg := tm_1 11 rfl rfl
theorem dv_11 : ∀ j, j < 19 → defaultValue (tyX11 j) = dfv (ft 11 j) := by decide +kernel
set_option maxHeartbeats 4000000 in
set_option maxRecDepth 100000 in
theorem in_11 : Cond.instantiable RX11 19 ∈ TBg := tm_1 23 rfl rfl
set_option maxHeartbeats 4000000 in
set_option maxRecDepth 100000 in
theorem it_11 : Cond.initialized RX11 ∈ TBg := tm_1 1 rfl rfl
theorem dv_12 : ∀ j, j < 120 → defaultValue (tyX12 j) = dfv (ft 12 j) := by decide +kernel
set_option maxHeartbeats 4000000 in
set_option maxRecDepth 100000 in
theorem in_12 : Cond.instantiable RX12 120 ∈ TBg := tm_5 149 rfl rfl
set_option maxHeartbeats 4000000 in
set_option maxRecDepth 100000 in
theorem it_12 : Cond.initialized RX12 ∈ TBg := tm_1 14 rfl rfl
set_option maxHeartbeats 4000000 in
set_option maxRecDepth 100000 in
theorem cl_RX11_9 : Cond.classLink RX11 9 "CalledRiver$Tape" ∈ TBg := tm_1 30 rfl rfl
set_option maxHeartbeats 4000000 in
set_option maxRecDepth 100000 in
theorem cl_RX11_16 : Cond.classLink RX11 16 "CalledRiver$Code" ∈ TBg := tm_1 70 rfl rfl
set_option maxHeartbeats 4000000 in
set_option maxRecDepth 100000 in
theorem cl_RX11_23 : Cond.classLink RX11 23 "CalledRiver$SumReader" ∈ TBg := tm_1 86 rfl rfl
set_option maxHeartbeats 4000000 in
set_option maxRecDepth 100000 in
theorem cl_RX11_32 : Cond.classLink RX11 32 "CalledRiver$Plain" ∈ TBg := tm_1 102 rfl rfl
set_option maxHeartbeats 4000000 in
set_option maxRecDepth 100000 in
theorem cl_RX11_42 : Cond.classLink RX11 42 "CalledRiver$PlainReader" ∈ TBg := tm_1 209 rfl rfl
set_option maxHeartbeats 4000000 in
set_option maxRecDepth 100000 in
theorem cl_RX11_51 : Cond.classLink RX11 51 "CalledRiver$Land" ∈ TBg := tm_1 228 rfl rfl
set_option maxHeartbeats 4000000 in
set_option maxRecDepth 100000 in
theorem cl_RX11_61 : Cond.classLink RX11 61 "CalledRiver$Past" ∈ TBg := tm_2 31 rfl rfl
set_option maxHeartbeats 4000000 in
set_option maxRecDepth 100000 in
theorem cl_RX11_68 : Cond.classLink RX11 68 "CalledRiver$Led" ∈ TBg := tm_2 60 rfl rfl
set_option maxHeartbeats 4000000 in
set_option maxRecDepth 100000 in
theorem cl_RX11_75 : Cond.classLink RX11 75 "CalledRiver$Sight" ∈ TBg := tm_2 79 rfl rfl
set_option maxHeartbeats 4000000 in
set_option maxRecDepth 100000 in
theorem cl_RX11_82 : Cond.classLink RX11 82 "CalledRiver$Way" ∈ TBg := tm_2 96 rfl rfl
set_option maxHeartbeats 4000000 in
set_option maxRecDepth 100000 in
theorem cl_RX11_103 : Cond.classLink RX11 103 "CalledRiver$Picture" ∈ TBg := tm_2 134 rfl rfl
set_option maxHeartbeats 4000000 in
set_option maxRecDepth 100000 in
theorem cl_RX3_9 : Cond.classLink RX3 9 "CalledRiver$Land" ∈ TBg := tm_2 37 rfl rfl
set_option maxHeartbeats 4000000 in
set_option maxRecDepth 100000 in
theorem cl_RX5_42 : Cond.classLink RX5 42 "CalledRiver$Code" ∈ TBg := tm_1 108 rfl rfl
set_option maxHeartbeats 4000000 in
set_option maxRecDepth 100000 in
theorem mo_RX11_3 : Cond.methodLink RX11 3 Lib.objectInit ∈ TBg := tm_1 27 rfl rfl
set_option maxHeartbeats 4000000 in
set_option maxRecDepth 100000 in
theorem mo_RX0_3 : Cond.methodLink RX0 3 Lib.objectInit ∈ TBg := tm_1 75 rfl rfl
set_option maxHeartbeats 4000000 in
set_option maxRecDepth 100000 in
theorem mo_RX1_3 : Cond.methodLink RX1 3 Lib.objectInit ∈ TBg := tm_1 233 rfl rfl
set_option maxHeartbeats 4000000 in
set_option maxRecDepth 100000 in
theorem mo_RX2_3 : Cond.methodLink RX2 3 Lib.objectInit ∈ TBg := tm_2 65 rfl rfl
set_option maxHeartbeats 4000000 in
set_option maxRecDepth 100000 in
theorem mo_RX3_3 : Cond.methodLink RX3 3 Lib.objectInit ∈ TBg := tm_2 36 rfl rfl
set_option maxHeartbeats 4000000 in
set_option maxRecDepth 100000 in
theorem mo_RX4_3 : Cond.methodLink RX4 3 Lib.objectInit ∈ TBg := tm_2 139 rfl rfl
set_option maxHeartbeats 4000000 in
set_option maxRecDepth 100000 in
theorem mo_RX5_3 : Cond.methodLink RX5 3 Lib.objectInit ∈ TBg := tm_1 107 rfl rfl
set_option maxHeartbeats 4000000 in
set_option maxRecDepth 100000 in
theorem mo_RX6_3 : Cond.methodLink RX6 3 Lib.objectInit ∈ TBg := tm_1 214 rfl rfl
set_option maxHeartbeats 4000000 in
set_option maxRecDepth 100000 in
theorem mo_RX7_3 : Cond.methodLink RX7 3 Lib.objectInit ∈ TBg := tm_2 84 rfl rfl
set_option maxHeartbeats 4000000 in
set_option maxRecDepth 100000 in
theorem mo_RX8_3 : Cond.methodLink RX8 3 Lib.objectInit ∈ TBg := tm_1 91 rfl rfl
set_option maxHeartbeats 4000000 in
set_option maxRecDepth 100000 in
theorem mo_RX9_3 : Cond.methodLink RX9 3 Lib.objectInit ∈ TBg := tm_1 35 rfl rfl
set_option maxHeartbeats 4000000 in
set_option maxRecDepth 100000 in
theorem mo_RX10_3 : Cond.methodLink RX10 3 Lib.objectInit ∈ TBg := tm_2 102 rfl rfl
set_option maxHeartbeats 4000000 in
set_option maxRecDepth 100000 in
theorem mo_RX12_1 : Cond.methodLink RX12 1 Lib.objectInit ∈ TBg := tm_5 153 rfl rfl
set_option maxHeartbeats 4000000 in
set_option maxRecDepth 100000 in
theorem mi_X0_init : MI yX0_init cX0_init 1 0 := ⟨tm_1 74 rfl rfl, tm_1 73 rfl rfl, tm_1 3 rfl rfl, rfl, by decide +kernel, by decide +kernel, by decide +kernel⟩
set_option maxHeartbeats 4000000 in
set_option maxRecDepth 100000 in
theorem mi_X1_init : MI yX1_init cX1_init 1 0 := ⟨tm_1 232 rfl rfl, tm_1 231 rfl rfl, tm_1 7 rfl rfl, rfl, by decide +kernel, by decide +kernel, by decide +kernel⟩
set_option maxHeartbeats 4000000 in
set_option maxRecDepth 100000 in
theorem mi_X2_init : MI yX2_init cX2_init 1 0 := ⟨tm_2 64 rfl rfl, tm_2 63 rfl rfl, tm_1 9 rfl rfl, rfl, by decide +kernel, by decide +kernel, by decide +kernel⟩
set_option maxHeartbeats 4000000 in
set_option maxRecDepth 100000 in
theorem mi_X3_init : MI yX3_init cX3_init 2 0 := ⟨tm_2 35 rfl rfl, tm_2 34 rfl rfl, tm_1 8 rfl rfl, rfl, by decide +kernel, by decide +kernel, by decide +kernel⟩
set_option maxHeartbeats 4000000 in
set_option maxRecDepth 100000 in
theorem mi_X4_init : MI yX4_init cX4_init 1 0 := ⟨tm_2 138 rfl rfl, tm_2 137 rfl rfl, tm_1 13 rfl rfl, rfl, by decide +kernel, by decide +kernel, by decide +kernel⟩
set_option maxHeartbeats 4000000 in
set_option maxRecDepth 100000 in
theorem mi_X5_init : MI yX5_init cX5_init 1 0 := ⟨tm_1 106 rfl rfl, tm_1 105 rfl rfl, tm_1 5 rfl rfl, rfl, by decide +kernel, by decide +kernel, by decide +kernel⟩
set_option maxHeartbeats 4000000 in
set_option maxRecDepth 100000 in
theorem mi_X6_init : MI yX6_init cX6_init 4 3 := ⟨tm_1 213 rfl rfl, tm_1 212 rfl rfl, tm_1 6 rfl rfl, rfl, by decide +kernel, by decide +kernel, by decide +kernel⟩
set_option maxHeartbeats 4000000 in
set_option maxRecDepth 100000 in
theorem mi_X7_init : MI yX7_init cX7_init 1 0 := ⟨tm_2 83 rfl rfl, tm_2 82 rfl rfl, tm_1 10 rfl rfl, rfl, by decide +kernel, by decide +kernel, by decide +kernel⟩
set_option maxHeartbeats 4000000 in
set_option maxRecDepth 100000 in
theorem mi_X8_init : MI yX8_init cX8_init 3 2 := ⟨tm_1 90 rfl rfl, tm_1 89 rfl rfl, tm_1 4 rfl rfl, rfl, by decide +kernel, by decide +kernel, by decide +kernel⟩
set_option maxHeartbeats 4000000 in
set_option maxRecDepth 100000 in
theorem mi_X9_init : MI yX9_init cX9_init 1 0 := ⟨tm_1 34 rfl rfl, tm_1 33 rfl rfl, tm_1 2 rfl rfl, rfl, by decide +kernel, by decide +kernel, by decide +kernel⟩
set_option maxHeartbeats 4000000 in
set_option maxRecDepth 100000 in
theorem mi_X10_init : MI yX10_init cX10_init 1 0 := ⟨tm_2 101 rfl rfl, tm_2 100 rfl rfl, tm_1 11 rfl rfl, rfl, by decide +kernel, by decide +kernel, by decide +kernel⟩
set_option maxHeartbeats 4000000 in
set_option maxRecDepth 100000 in
theorem mi_X11_init : MI yX11_init cX11_init 2 0 := ⟨tm_1 26 rfl rfl, tm_1 25 rfl rfl, tm_1 1 rfl rfl, rfl, by decide +kernel, by decide +kernel, by decide +kernel⟩
set_option maxHeartbeats 4000000 in
set_option maxRecDepth 100000 in
theorem mi_X12_init : MI yX12_init cX12_init 1 0 := ⟨tm_5 152 rfl rfl, tm_5 151 rfl rfl, tm_1 14 rfl rfl, rfl, by decide +kernel, by decide +kernel, by decide +kernel⟩
set_option maxHeartbeats 4000000 in
set_option maxRecDepth 100000 in
theorem aw_100 : Cond.arrayClass (.int) ∈ TBg := tm_1 69 rfl rfl
set_option maxHeartbeats 4000000 in
set_option maxRecDepth 100000 in
theorem aw_101 : Cond.arrayClass (.char) ∈ TBg := tm_7 35 rfl rfl
set_option maxHeartbeats 4000000 in
set_option maxRecDepth 100000 in
theorem aw_102 : Cond.arrayClass (.boolean) ∈ TBg := tm_7 37 rfl rfl
set_option maxHeartbeats 4000000 in
set_option maxRecDepth 100000 in
theorem aw_103 : Cond.arrayClass (.long) ∈ TBg := tm_7 36 rfl rfl
/-! CalledRiver$Code constructor -/
theorem dX0_init_0 : decode cX0_init 0 = .ok (.aload_n 0, 1) := by decide +kernel
theorem dX0_init_1 : decode cX0_init 1 = .ok (.invokespecial 3, 3) := by decide +kernel
theorem dX0_init_4 : decode cX0_init 4 = .ok (.aload_n 0, 1) := by decide +kernel
theorem dX0_init_5 : decode cX0_init 5 = .ok (.sipush 1600, 3) := by decide +kernel
theorem dX0_init_8 : decode cX0_init 8 = .ok (.newarray .int, 2) := by decide +kernel
theorem dX0_init_10 : decode cX0_init 10 = .ok (.putfield 9, 3) := by decide +kernel
theorem dX0_init_13 : decode cX0_init 13 = .ok (.aload_n 0, 1) := by decide +kernel
theorem dX0_init_14 : decode cX0_init 14 = .ok (.bipush 64, 2) := by decide +kernel
theorem dX0_init_16 : decode cX0_init 16 = .ok (.newarray .int, 2) := by decide +kernel
theorem dX0_init_18 : decode cX0_init 18 = .ok (.putfield 15, 3) := by decide +kernel
theorem dX0_init_21 : decode cX0_init 21 = .ok (.return_, 1) := by decide +kernel
set_option maxHeartbeats 4000000 in
set_option maxRecDepth 100000 in
def wp_X0_init (sh : Shp) (v0 : Nat) (Q : Shp → Mem → Prop) (m : Mem) : Prop :=
  bnd (sh ++ [(100, 1600)]) (fun sh1 => bnd (nw m sh.length) (fun m2 => Ob sh1 v0 0 ∧ bnd (sR m2 v0 0 (some sh.length)) (fun m5 => bnd (sh1 ++ [(100, 64)]) (fun sh6 => bnd (nw m5 sh1.length) (fun m7 => Ob sh6 v0 0 ∧ bnd (sR m7 v0 1 (some sh1.length)) (fun m10 => Q sh6 m10))))))
set_option maxHeartbeats 4000000 in
set_option maxRecDepth 100000 in
theorem c_X0_init {l : Launch} {G : Gl} {sh : Shp} {v0 : Nat} {Q : Shp → Mem → Prop} {m : Mem} (h : wp_X0_init sh v0 Q m) : CnA l G yX0_init cX0_init 1 1 60 2 1664 sh [.ref (G.1 + v0)] m Q := by
  refine con_A (ls := [(0, .ref (G.1 + v0))]) (by decide +kernel) rfl (Nat.le_of_ble_eq_true rfl) (fun F => ?_)
  show V G F (cX0_init, 1, RX0, none, "<init>", 1, 60, 2, 1664) sh 0 0 (Za G F sh 2 1664 Q) 0 [(0, .ref (G.1 + v0))] [] m
  unfold wp_X0_init at h
  refine v_aload_n 0 0 dX0_init_0 rfl rfl ?_
  refine v_oinit mo_RX0_3 (Nat.le_of_ble_eq_true rfl) (Nat.le_of_ble_eq_true rfl) (Nat.le_of_ble_eq_true rfl) dX0_init_1 ?_
  refine v_aload_n 0 0 dX0_init_4 rfl rfl ?_
  refine v_sipush (1600 : Int32) dX0_init_5 (by decide) ?_
  refine g_newa (atype := .int) (ty := .int) (N := 1600) 100 rfl rfl (by decide) (a0c_100 _) (fun _ _ h => h) aw_100 (by decide) (by decide +kernel) (Nat.le_of_ble_eq_true rfl) (Nat.le_of_ble_eq_true rfl) (Nat.le_of_ble_eq_true rfl) dX0_init_8 h ?_
  clear h
  intro sh1 m2 h hl3
  obtain ⟨o4, h⟩ := h
  refine g_qR 0 0 dX0_init_10 fw_RX0_9 o4 rfl (fun _ => rfl) (fun _ => rfl) h ?_
  clear h
  intro m5 h
  refine v_aload_n 0 0 dX0_init_13 rfl rfl ?_
  refine v_bipush (64 : Int32) dX0_init_14 (by decide) ?_
  refine g_newa (atype := .int) (ty := .int) (N := 64) 100 rfl rfl (by decide) (a0c_100 _) (fun _ _ h => h) aw_100 (by decide) (by decide +kernel) (Nat.le_of_ble_eq_true rfl) (Nat.le_of_ble_eq_true rfl) (Nat.le_of_ble_eq_true rfl) dX0_init_16 h ?_
  clear h
  intro sh6 m7 h hl8
  obtain ⟨o9, h⟩ := h
  refine g_qR 0 1 dX0_init_18 fw_RX0_15 o9 rfl (fun _ => rfl) (fun _ => rfl) h ?_
  clear h
  intro m10 h
  exact v_cret0 dX0_init_21 rfl (by omega) (Nat.le_of_ble_eq_true rfl) (Nat.le_of_ble_eq_true rfl) h
/-! CalledRiver$Land constructor -/
theorem dX1_init_0 : decode cX1_init 0 = .ok (.aload_n 0, 1) := by decide +kernel
theorem dX1_init_1 : decode cX1_init 1 = .ok (.invokespecial 3, 3) := by decide +kernel
theorem dX1_init_4 : decode cX1_init 4 = .ok (.aload_n 0, 1) := by decide +kernel
theorem dX1_init_5 : decode cX1_init 5 = .ok (.bipush 36, 2) := by decide +kernel
theorem dX1_init_7 : decode cX1_init 7 = .ok (.newarray .int, 2) := by decide +kernel
theorem dX1_init_9 : decode cX1_init 9 = .ok (.putfield 9, 3) := by decide +kernel
theorem dX1_init_12 : decode cX1_init 12 = .ok (.aload_n 0, 1) := by decide +kernel
theorem dX1_init_13 : decode cX1_init 13 = .ok (.bipush 36, 2) := by decide +kernel
theorem dX1_init_15 : decode cX1_init 15 = .ok (.newarray .int, 2) := by decide +kernel
theorem dX1_init_17 : decode cX1_init 17 = .ok (.putfield 15, 3) := by decide +kernel
theorem dX1_init_20 : decode cX1_init 20 = .ok (.aload_n 0, 1) := by decide +kernel
theorem dX1_init_21 : decode cX1_init 21 = .ok (.bipush 36, 2) := by decide +kernel
theorem dX1_init_23 : decode cX1_init 23 = .ok (.newarray .int, 2) := by decide +kernel
theorem dX1_init_25 : decode cX1_init 25 = .ok (.putfield 18, 3) := by decide +kernel
theorem dX1_init_28 : decode cX1_init 28 = .ok (.aload_n 0, 1) := by decide +kernel
theorem dX1_init_29 : decode cX1_init 29 = .ok (.bipush 6, 2) := by decide +kernel
theorem dX1_init_31 : decode cX1_init 31 = .ok (.newarray .int, 2) := by decide +kernel
theorem dX1_init_33 : decode cX1_init 33 = .ok (.putfield 21, 3) := by decide +kernel
theorem dX1_init_36 : decode cX1_init 36 = .ok (.return_, 1) := by decide +kernel
set_option maxHeartbeats 4000000 in
set_option maxRecDepth 100000 in
def wp_X1_init (sh : Shp) (v0 : Nat) (Q : Shp → Mem → Prop) (m : Mem) : Prop :=
  bnd (sh ++ [(100, 36)]) (fun sh1 => bnd (nw m sh.length) (fun m2 => Ob sh1 v0 1 ∧ bnd (sR m2 v0 2 (some sh.length)) (fun m5 => bnd (sh1 ++ [(100, 36)]) (fun sh6 => bnd (nw m5 sh1.length) (fun m7 => Ob sh6 v0 1 ∧ bnd (sR m7 v0 3 (some sh1.length)) (fun m10 => bnd (sh6 ++ [(100, 36)]) (fun sh11 => bnd (nw m10 sh6.length) (fun m12 => Ob sh11 v0 1 ∧ bnd (sR m12 v0 4 (some sh6.length)) (fun m15 => bnd (sh11 ++ [(100, 6)]) (fun sh16 => bnd (nw m15 sh11.length) (fun m17 => Ob sh16 v0 1 ∧ bnd (sR m17 v0 5 (some sh11.length)) (fun m20 => Q sh16 m20))))))))))))
set_option maxHeartbeats 4000000 in
set_option maxRecDepth 100000 in
theorem c_X1_init {l : Launch} {G : Gl} {sh : Shp} {v0 : Nat} {Q : Shp → Mem → Prop} {m : Mem} (h : wp_X1_init sh v0 Q m) : CnA l G yX1_init cX1_init 1 1 60 4 114 sh [.ref (G.1 + v0)] m Q := by
  refine con_A (ls := [(0, .ref (G.1 + v0))]) (by decide +kernel) rfl (Nat.le_of_ble_eq_true rfl) (fun F => ?_)
  show V G F (cX1_init, 1, RX1, none, "<init>", 1, 60, 4, 114) sh 0 0 (Za G F sh 4 114 Q) 0 [(0, .ref (G.1 + v0))] [] m
  unfold wp_X1_init at h
  refine v_aload_n 0 0 dX1_init_0 rfl rfl ?_
  refine v_oinit mo_RX1_3 (Nat.le_of_ble_eq_true rfl) (Nat.le_of_ble_eq_true rfl) (Nat.le_of_ble_eq_true rfl) dX1_init_1 ?_
  refine v_aload_n 0 0 dX1_init_4 rfl rfl ?_
  refine v_bipush (36 : Int32) dX1_init_5 (by decide) ?_
  refine g_newa (atype := .int) (ty := .int) (N := 36) 100 rfl rfl (by decide) (a0c_100 _) (fun _ _ h => h) aw_100 (by decide) (by decide +kernel) (Nat.le_of_ble_eq_true rfl) (Nat.le_of_ble_eq_true rfl) (Nat.le_of_ble_eq_true rfl) dX1_init_7 h ?_
  clear h
  intro sh1 m2 h hl3
  obtain ⟨o4, h⟩ := h
  refine g_qR 1 2 dX1_init_9 fw_RX1_9 o4 rfl (fun _ => rfl) (fun _ => rfl) h ?_
  clear h
  intro m5 h
  refine v_aload_n 0 0 dX1_init_12 rfl rfl ?_
  refine v_bipush (36 : Int32) dX1_init_13 (by decide) ?_
  refine g_newa (atype := .int) (ty := .int) (N := 36) 100 rfl rfl (by decide) (a0c_100 _) (fun _ _ h => h) aw_100 (by decide) (by decide +kernel) (Nat.le_of_ble_eq_true rfl) (Nat.le_of_ble_eq_true rfl) (Nat.le_of_ble_eq_true rfl) dX1_init_15 h ?_
  clear h
  intro sh6 m7 h hl8
  obtain ⟨o9, h⟩ := h
  refine g_qR 1 3 dX1_init_17 fw_RX1_15 o9 rfl (fun _ => rfl) (fun _ => rfl) h ?_
  clear h
  intro m10 h
  refine v_aload_n 0 0 dX1_init_20 rfl rfl ?_
  refine v_bipush (36 : Int32) dX1_init_21 (by decide) ?_
  refine g_newa (atype := .int) (ty := .int) (N := 36) 100 rfl rfl (by decide) (a0c_100 _) (fun _ _ h => h) aw_100 (by decide) (by decide +kernel) (Nat.le_of_ble_eq_true rfl) (Nat.le_of_ble_eq_true rfl) (Nat.le_of_ble_eq_true rfl) dX1_init_23 h ?_
  clear h
  intro sh11 m12 h hl13
  obtain ⟨o14, h⟩ := h
  refine g_qR 1 4 dX1_init_25 fw_RX1_18 o14 rfl (fun _ => rfl) (fun _ => rfl) h ?_
  clear h
  intro m15 h
  refine v_aload_n 0 0 dX1_init_28 rfl rfl ?_
  refine v_bipush (6 : Int32) dX1_init_29 (by decide) ?_
  refine g_newa (atype := .int) (ty := .int) (N := 6) 100 rfl rfl (by decide) (a0c_100 _) (fun _ _ h => h) aw_100 (by decide) (by decide +kernel) (Nat.le_of_ble_eq_true rfl) (Nat.le_of_ble_eq_true rfl) (Nat.le_of_ble_eq_true rfl) dX1_init_31 h ?_
  clear h
  intro sh16 m17 h hl18
  obtain ⟨o19, h⟩ := h
  refine g_qR 1 5 dX1_init_33 fw_RX1_21 o19 rfl (fun _ => rfl) (fun _ => rfl) h ?_
  clear h
  intro m20 h
  exact v_cret0 dX1_init_36 rfl (by omega) (Nat.le_of_ble_eq_true rfl) (Nat.le_of_ble_eq_true rfl) h
/-! CalledRiver$Led constructor -/
theorem dX2_init_0 : decode cX2_init 0 = .ok (.aload_n 0, 1) := by decide +kernel
theorem dX2_init_1 : decode cX2_init 1 = .ok (.invokespecial 3, 3) := by decide +kernel
theorem dX2_init_4 : decode cX2_init 4 = .ok (.aload_n 0, 1) := by decide +kernel
theorem dX2_init_5 : decode cX2_init 5 = .ok (.sipush 2304, 3) := by decide +kernel
theorem dX2_init_8 : decode cX2_init 8 = .ok (.newarray .int, 2) := by decide +kernel
theorem dX2_init_10 : decode cX2_init 10 = .ok (.putfield 9, 3) := by decide +kernel
theorem dX2_init_13 : decode cX2_init 13 = .ok (.aload_n 0, 1) := by decide +kernel
theorem dX2_init_14 : decode cX2_init 14 = .ok (.sipush 2304, 3) := by decide +kernel
theorem dX2_init_17 : decode cX2_init 17 = .ok (.newarray .int, 2) := by decide +kernel
theorem dX2_init_19 : decode cX2_init 19 = .ok (.putfield 15, 3) := by decide +kernel
theorem dX2_init_22 : decode cX2_init 22 = .ok (.aload_n 0, 1) := by decide +kernel
theorem dX2_init_23 : decode cX2_init 23 = .ok (.bipush 64, 2) := by decide +kernel
theorem dX2_init_25 : decode cX2_init 25 = .ok (.newarray .int, 2) := by decide +kernel
theorem dX2_init_27 : decode cX2_init 27 = .ok (.putfield 18, 3) := by decide +kernel
theorem dX2_init_30 : decode cX2_init 30 = .ok (.return_, 1) := by decide +kernel
set_option maxHeartbeats 4000000 in
set_option maxRecDepth 100000 in
def wp_X2_init (sh : Shp) (v0 : Nat) (Q : Shp → Mem → Prop) (m : Mem) : Prop :=
  bnd (sh ++ [(100, 2304)]) (fun sh1 => bnd (nw m sh.length) (fun m2 => Ob sh1 v0 2 ∧ bnd (sR m2 v0 0 (some sh.length)) (fun m5 => bnd (sh1 ++ [(100, 2304)]) (fun sh6 => bnd (nw m5 sh1.length) (fun m7 => Ob sh6 v0 2 ∧ bnd (sR m7 v0 1 (some sh1.length)) (fun m10 => bnd (sh6 ++ [(100, 64)]) (fun sh11 => bnd (nw m10 sh6.length) (fun m12 => Ob sh11 v0 2 ∧ bnd (sR m12 v0 3 (some sh6.length)) (fun m15 => Q sh11 m15)))))))))
set_option maxHeartbeats 4000000 in
set_option maxRecDepth 100000 in
theorem c_X2_init {l : Launch} {G : Gl} {sh : Shp} {v0 : Nat} {Q : Shp → Mem → Prop} {m : Mem} (h : wp_X2_init sh v0 Q m) : CnA l G yX2_init cX2_init 1 1 60 3 4672 sh [.ref (G.1 + v0)] m Q := by
  refine con_A (ls := [(0, .ref (G.1 + v0))]) (by decide +kernel) rfl (Nat.le_of_ble_eq_true rfl) (fun F => ?_)
  show V G F (cX2_init, 1, RX2, none, "<init>", 1, 60, 3, 4672) sh 0 0 (Za G F sh 3 4672 Q) 0 [(0, .ref (G.1 + v0))] [] m
  unfold wp_X2_init at h
  refine v_aload_n 0 0 dX2_init_0 rfl rfl ?_
  refine v_oinit mo_RX2_3 (Nat.le_of_ble_eq_true rfl) (Nat.le_of_ble_eq_true rfl) (Nat.le_of_ble_eq_true rfl) dX2_init_1 ?_
  refine v_aload_n 0 0 dX2_init_4 rfl rfl ?_
  refine v_sipush (2304 : Int32) dX2_init_5 (by decide) ?_
  refine g_newa (atype := .int) (ty := .int) (N := 2304) 100 rfl rfl (by decide) (a0c_100 _) (fun _ _ h => h) aw_100 (by decide) (by decide +kernel) (Nat.le_of_ble_eq_true rfl) (Nat.le_of_ble_eq_true rfl) (Nat.le_of_ble_eq_true rfl) dX2_init_8 h ?_
  clear h
  intro sh1 m2 h hl3
  obtain ⟨o4, h⟩ := h
  refine g_qR 2 0 dX2_init_10 fw_RX2_9 o4 rfl (fun _ => rfl) (fun _ => rfl) h ?_
  clear h
  intro m5 h
  refine v_aload_n 0 0 dX2_init_13 rfl rfl ?_
  refine v_sipush (2304 : Int32) dX2_init_14 (by decide) ?_
  refine g_newa (atype := .int) (ty := .int) (N := 2304) 100 rfl rfl (by decide) (a0c_100 _) (fun _ _ h => h) aw_100 (by decide) (by decide +kernel) (Nat.le_of_ble_eq_true rfl) (Nat.le_of_ble_eq_true rfl) (Nat.le_of_ble_eq_true rfl) dX2_init_17 h ?_
  clear h
  intro sh6 m7 h hl8
  obtain ⟨o9, h⟩ := h
  refine g_qR 2 1 dX2_init_19 fw_RX2_15 o9 rfl (fun _ => rfl) (fun _ => rfl) h ?_
  clear h
  intro m10 h
  refine v_aload_n 0 0 dX2_init_22 rfl rfl ?_
  refine v_bipush (64 : Int32) dX2_init_23 (by decide) ?_
  refine g_newa (atype := .int) (ty := .int) (N := 64) 100 rfl rfl (by decide) (a0c_100 _) (fun _ _ h => h) aw_100 (by decide) (by decide +kernel) (Nat.le_of_ble_eq_true rfl) (Nat.le_of_ble_eq_true rfl) (Nat.le_of_ble_eq_true rfl) dX2_init_25 h ?_
  clear h
  intro sh11 m12 h hl13
  obtain ⟨o14, h⟩ := h
  refine g_qR 2 3 dX2_init_27 fw_RX2_18 o14 rfl (fun _ => rfl) (fun _ => rfl) h ?_
  clear h
  intro m15 h
  exact v_cret0 dX2_init_30 rfl (by omega) (Nat.le_of_ble_eq_true rfl) (Nat.le_of_ble_eq_true rfl) h
/-! CalledRiver$Past constructor -/
theorem dX3_init_0 : decode cX3_init 0 = .ok (.aload_n 0, 1) := by decide +kernel
theorem dX3_init_1 : decode cX3_init 1 = .ok (.invokespecial 3, 3) := by decide +kernel
theorem dX3_init_4 : decode cX3_init 4 = .ok (.aload_n 0, 1) := by decide +kernel
theorem dX3_init_5 : decode cX3_init 5 = .ok (.bipush 20, 2) := by decide +kernel
theorem dX3_init_7 : decode cX3_init 7 = .ok (.anewarray 9, 3) := by decide +kernel
theorem dX3_init_10 : decode cX3_init 10 = .ok (.putfield 11, 3) := by decide +kernel
theorem dX3_init_13 : decode cX3_init 13 = .ok (.aload_n 0, 1) := by decide +kernel
theorem dX3_init_14 : decode cX3_init 14 = .ok (.sipush 999, 3) := by decide +kernel
theorem dX3_init_17 : decode cX3_init 17 = .ok (.newarray .int, 2) := by decide +kernel
theorem dX3_init_19 : decode cX3_init 19 = .ok (.putfield 17, 3) := by decide +kernel
theorem dX3_init_22 : decode cX3_init 22 = .ok (.aload_n 0, 1) := by decide +kernel
theorem dX3_init_23 : decode cX3_init 23 = .ok (.sipush 999, 3) := by decide +kernel
theorem dX3_init_26 : decode cX3_init 26 = .ok (.newarray .int, 2) := by decide +kernel
theorem dX3_init_28 : decode cX3_init 28 = .ok (.putfield 21, 3) := by decide +kernel
theorem dX3_init_31 : decode cX3_init 31 = .ok (.aload_n 0, 1) := by decide +kernel
theorem dX3_init_32 : decode cX3_init 32 = .ok (.sipush 999, 3) := by decide +kernel
theorem dX3_init_35 : decode cX3_init 35 = .ok (.newarray .int, 2) := by decide +kernel
theorem dX3_init_37 : decode cX3_init 37 = .ok (.putfield 24, 3) := by decide +kernel
theorem dX3_init_40 : decode cX3_init 40 = .ok (.iconst 0, 1) := by decide +kernel
theorem dX3_init_41 : decode cX3_init 41 = .ok (.istore_n 1, 1) := by decide +kernel
theorem dX3_init_42 : decode cX3_init 42 = .ok (.iload_n 1, 1) := by decide +kernel
theorem dX3_init_43 : decode cX3_init 43 = .ok (.bipush 20, 2) := by decide +kernel
theorem dX3_init_45 : decode cX3_init 45 = .ok (.if_icmp .ge 22, 3) := by decide +kernel
theorem dX3_init_48 : decode cX3_init 48 = .ok (.aload_n 0, 1) := by decide +kernel
theorem dX3_init_49 : decode cX3_init 49 = .ok (.getfield 11, 3) := by decide +kernel
theorem dX3_init_52 : decode cX3_init 52 = .ok (.iload_n 1, 1) := by decide +kernel
theorem dX3_init_53 : decode cX3_init 53 = .ok (.new 9, 3) := by decide +kernel
theorem dX3_init_56 : decode cX3_init 56 = .ok (.dup, 1) := by decide +kernel
theorem dX3_init_57 : decode cX3_init 57 = .ok (.invokespecial 27, 3) := by decide +kernel
theorem dX3_init_60 : decode cX3_init 60 = .ok (.aastore, 1) := by decide +kernel
theorem dX3_init_61 : decode cX3_init 61 = .ok (.iinc 1 1, 3) := by decide +kernel
theorem dX3_init_64 : decode cX3_init 64 = .ok (.goto (-22), 3) := by decide +kernel
theorem dX3_init_67 : decode cX3_init 67 = .ok (.return_, 1) := by decide +kernel
set_option maxHeartbeats 4000000 in
set_option maxRecDepth 100000 in
def wp_X3_init (sh : Shp) (v0 : Nat) (Q : Shp → Mem → Prop) (m : Mem) : Prop :=
  (∀ q ∈ sh, q.1 ≠ 105) ∧ bnd (sh ++ [(105, 20)]) (fun sh1 => bnd (nw m sh.length) (fun m2 => Ob sh1 v0 3 ∧ bnd (sR m2 v0 2 (some sh.length)) (fun m5 => bnd (sh1 ++ [(100, 999)]) (fun sh6 => bnd (nw m5 sh1.length) (fun m7 => Ob sh6 v0 3 ∧ bnd (sR m7 v0 3 (some sh1.length)) (fun m10 => bnd (sh6 ++ [(100, 999)]) (fun sh11 => bnd (nw m10 sh6.length) (fun m12 => Ob sh11 v0 3 ∧ bnd (sR m12 v0 4 (some sh6.length)) (fun m15 => bnd (sh11 ++ [(100, 999)]) (fun sh16 => bnd (nw m15 sh11.length) (fun m17 => Ob sh16 v0 3 ∧ bnd (sR m17 v0 5 (some sh11.length)) (fun m20 => Ob sh16 v0 3 ∧ ∃ b21 : Nat, m20.2.2 v0 2 = some b21 ∧ bnd (sh16 ++ [(1, 6)]) (fun sh24 => bnd (nw m20 sh16.length) (fun m25 => wp_X1_init sh24 sh16.length (fun sh27 m28 => Ix sh27 (b21) 105 (0 : Int32) ∧ (∃ n : Nat, sh27[sh16.length]? = some (1, n)) ∧ bnd (sR m28 (b21) (0 : Int32).toNatClampNeg (some (sh16.length))) (fun m30 => Ob sh27 v0 3 ∧ ∃ b34 : Nat, m30.2.2 v0 2 = some b34 ∧ bnd (sh27 ++ [(1, 6)]) (fun sh37 => bnd (nw m30 sh27.length) (fun m38 => wp_X1_init sh37 sh27.length (fun sh40 m41 => Ix sh40 (b34) 105 (1 : Int32) ∧ (∃ n : Nat, sh40[sh27.length]? = some (1, n)) ∧ bnd (sR m41 (b34) (1 : Int32).toNatClampNeg (some (sh27.length))) (fun m43 => Ob sh40 v0 3 ∧ ∃ b47 : Nat, m43.2.2 v0 2 = some b47 ∧ bnd (sh40 ++ [(1, 6)]) (fun sh50 => bnd (nw m43 sh40.length) (fun m51 => wp_X1_init sh50 sh40.length (fun sh53 m54 => Ix sh53 (b47) 105 (2 : Int32) ∧ (∃ n : Nat, sh53[sh40.length]? = some (1, n)) ∧ bnd (sR m54 (b47) (2 : Int32).toNatClampNeg (some (sh40.length))) (fun m56 => Ob sh53 v0 3 ∧ ∃ b60 : Nat, m56.2.2 v0 2 = some b60 ∧ bnd (sh53 ++ [(1, 6)]) (fun sh63 => bnd (nw m56 sh53.length) (fun m64 => wp_X1_init sh63 sh53.length (fun sh66 m67 => Ix sh66 (b60) 105 (3 : Int32) ∧ (∃ n : Nat, sh66[sh53.length]? = some (1, n)) ∧ bnd (sR m67 (b60) (3 : Int32).toNatClampNeg (some (sh53.length))) (fun m69 => Ob sh66 v0 3 ∧ ∃ b73 : Nat, m69.2.2 v0 2 = some b73 ∧ bnd (sh66 ++ [(1, 6)]) (fun sh76 => bnd (nw m69 sh66.length) (fun m77 => wp_X1_init sh76 sh66.length (fun sh79 m80 => Ix sh79 (b73) 105 (4 : Int32) ∧ (∃ n : Nat, sh79[sh66.length]? = some (1, n)) ∧ bnd (sR m80 (b73) (4 : Int32).toNatClampNeg (some (sh66.length))) (fun m82 => Ob sh79 v0 3 ∧ ∃ b86 : Nat, m82.2.2 v0 2 = some b86 ∧ bnd (sh79 ++ [(1, 6)]) (fun sh89 => bnd (nw m82 sh79.length) (fun m90 => wp_X1_init sh89 sh79.length (fun sh92 m93 => Ix sh92 (b86) 105 (5 : Int32) ∧ (∃ n : Nat, sh92[sh79.length]? = some (1, n)) ∧ bnd (sR m93 (b86) (5 : Int32).toNatClampNeg (some (sh79.length))) (fun m95 => Ob sh92 v0 3 ∧ ∃ b99 : Nat, m95.2.2 v0 2 = some b99 ∧ bnd (sh92 ++ [(1, 6)]) (fun sh102 => bnd (nw m95 sh92.length) (fun m103 => wp_X1_init sh102 sh92.length (fun sh105 m106 => Ix sh105 (b99) 105 (6 : Int32) ∧ (∃ n : Nat, sh105[sh92.length]? = some (1, n)) ∧ bnd (sR m106 (b99) (6 : Int32).toNatClampNeg (some (sh92.length))) (fun m108 => Ob sh105 v0 3 ∧ ∃ b112 : Nat, m108.2.2 v0 2 = some b112 ∧ bnd (sh105 ++ [(1, 6)]) (fun sh115 => bnd (nw m108 sh105.length) (fun m116 => wp_X1_init sh115 sh105.length (fun sh118 m119 => Ix sh118 (b112) 105 (7 : Int32) ∧ (∃ n : Nat, sh118[sh105.length]? = some (1, n)) ∧ bnd (sR m119 (b112) (7 : Int32).toNatClampNeg (some (sh105.length))) (fun m121 => Ob sh118 v0 3 ∧ ∃ b125 : Nat, m121.2.2 v0 2 = some b125 ∧ bnd (sh118 ++ [(1, 6)]) (fun sh128 => bnd (nw m121 sh118.length) (fun m129 => wp_X1_init sh128 sh118.length (fun sh131 m132 => Ix sh131 (b125) 105 (8 : Int32) ∧ (∃ n : Nat, sh131[sh118.length]? = some (1, n)) ∧ bnd (sR m132 (b125) (8 : Int32).toNatClampNeg (some (sh118.length))) (fun m134 => Ob sh131 v0 3 ∧ ∃ b138 : Nat, m134.2.2 v0 2 = some b138 ∧ bnd (sh131 ++ [(1, 6)]) (fun sh141 => bnd (nw m134 sh131.length) (fun m142 => wp_X1_init sh141 sh131.length (fun sh144 m145 => Ix sh144 (b138) 105 (9 : Int32) ∧ (∃ n : Nat, sh144[sh131.length]? = some (1, n)) ∧ bnd (sR m145 (b138) (9 : Int32).toNatClampNeg (some (sh131.length))) (fun m147 => Ob sh144 v0 3 ∧ ∃ b151 : Nat, m147.2.2 v0 2 = some b151 ∧ bnd (sh144 ++ [(1, 6)]) (fun sh154 => bnd (nw m147 sh144.length) (fun m155 => wp_X1_init sh154 sh144.length (fun sh157 m158 => Ix sh157 (b151) 105 (10 : Int32) ∧ (∃ n : Nat, sh157[sh144.length]? = some (1, n)) ∧ bnd (sR m158 (b151) (10 : Int32).toNatClampNeg (some (sh144.length))) (fun m160 => Ob sh157 v0 3 ∧ ∃ b164 : Nat, m160.2.2 v0 2 = some b164 ∧ bnd (sh157 ++ [(1, 6)]) (fun sh167 => bnd (nw m160 sh157.length) (fun m168 => wp_X1_init sh167 sh157.length (fun sh170 m171 => Ix sh170 (b164) 105 (11 : Int32) ∧ (∃ n : Nat, sh170[sh157.length]? = some (1, n)) ∧ bnd (sR m171 (b164) (11 : Int32).toNatClampNeg (some (sh157.length))) (fun m173 => Ob sh170 v0 3 ∧ ∃ b177 : Nat, m173.2.2 v0 2 = some b177 ∧ bnd (sh170 ++ [(1, 6)]) (fun sh180 => bnd (nw m173 sh170.length) (fun m181 => wp_X1_init sh180 sh170.length (fun sh183 m184 => Ix sh183 (b177) 105 (12 : Int32) ∧ (∃ n : Nat, sh183[sh170.length]? = some (1, n)) ∧ bnd (sR m184 (b177) (12 : Int32).toNatClampNeg (some (sh170.length))) (fun m186 => Ob sh183 v0 3 ∧ ∃ b190 : Nat, m186.2.2 v0 2 = some b190 ∧ bnd (sh183 ++ [(1, 6)]) (fun sh193 => bnd (nw m186 sh183.length) (fun m194 => wp_X1_init sh193 sh183.length (fun sh196 m197 => Ix sh196 (b190) 105 (13 : Int32) ∧ (∃ n : Nat, sh196[sh183.length]? = some (1, n)) ∧ bnd (sR m197 (b190) (13 : Int32).toNatClampNeg (some (sh183.length))) (fun m199 => Ob sh196 v0 3 ∧ ∃ b203 : Nat, m199.2.2 v0 2 = some b203 ∧ bnd (sh196 ++ [(1, 6)]) (fun sh206 => bnd (nw m199 sh196.length) (fun m207 => wp_X1_init sh206 sh196.length (fun sh209 m210 => Ix sh209 (b203) 105 (14 : Int32) ∧ (∃ n : Nat, sh209[sh196.length]? = some (1, n)) ∧ bnd (sR m210 (b203) (14 : Int32).toNatClampNeg (some (sh196.length))) (fun m212 => Ob sh209 v0 3 ∧ ∃ b216 : Nat, m212.2.2 v0 2 = some b216 ∧ bnd (sh209 ++ [(1, 6)]) (fun sh219 => bnd (nw m212 sh209.length) (fun m220 => wp_X1_init sh219 sh209.length (fun sh222 m223 => Ix sh222 (b216) 105 (15 : Int32) ∧ (∃ n : Nat, sh222[sh209.length]? = some (1, n)) ∧ bnd (sR m223 (b216) (15 : Int32).toNatClampNeg (some (sh209.length))) (fun m225 => Ob sh222 v0 3 ∧ ∃ b229 : Nat, m225.2.2 v0 2 = some b229 ∧ bnd (sh222 ++ [(1, 6)]) (fun sh232 => bnd (nw m225 sh222.length) (fun m233 => wp_X1_init sh232 sh222.length (fun sh235 m236 => Ix sh235 (b229) 105 (16 : Int32) ∧ (∃ n : Nat, sh235[sh222.length]? = some (1, n)) ∧ bnd (sR m236 (b229) (16 : Int32).toNatClampNeg (some (sh222.length))) (fun m238 => Ob sh235 v0 3 ∧ ∃ b242 : Nat, m238.2.2 v0 2 = some b242 ∧ bnd (sh235 ++ [(1, 6)]) (fun sh245 => bnd (nw m238 sh235.length) (fun m246 => wp_X1_init sh245 sh235.length (fun sh248 m249 => Ix sh248 (b242) 105 (17 : Int32) ∧ (∃ n : Nat, sh248[sh235.length]? = some (1, n)) ∧ bnd (sR m249 (b242) (17 : Int32).toNatClampNeg (some (sh235.length))) (fun m251 => Ob sh248 v0 3 ∧ ∃ b255 : Nat, m251.2.2 v0 2 = some b255 ∧ bnd (sh248 ++ [(1, 6)]) (fun sh258 => bnd (nw m251 sh248.length) (fun m259 => wp_X1_init sh258 sh248.length (fun sh261 m262 => Ix sh261 (b255) 105 (18 : Int32) ∧ (∃ n : Nat, sh261[sh248.length]? = some (1, n)) ∧ bnd (sR m262 (b255) (18 : Int32).toNatClampNeg (some (sh248.length))) (fun m264 => Ob sh261 v0 3 ∧ ∃ b268 : Nat, m264.2.2 v0 2 = some b268 ∧ bnd (sh261 ++ [(1, 6)]) (fun sh271 => bnd (nw m264 sh261.length) (fun m272 => wp_X1_init sh271 sh261.length (fun sh274 m275 => Ix sh274 (b268) 105 (19 : Int32) ∧ (∃ n : Nat, sh274[sh261.length]? = some (1, n)) ∧ bnd (sR m275 (b268) (19 : Int32).toNatClampNeg (some (sh261.length))) (fun m277 => Q sh274 m277)) m272)))) m259)))) m246)))) m233)))) m220)))) m207)))) m194)))) m181)))) m168)))) m155)))) m142)))) m129)))) m116)))) m103)))) m90)))) m77)))) m64)))) m51)))) m38)))) m25))))))))))))))
set_option maxHeartbeats 4000000 in
set_option maxRecDepth 100000 in
theorem c_X3_init {l : Launch} {G : Gl} {sh : Shp} {v0 : Nat} {Q : Shp → Mem → Prop} {m : Mem} (h : wp_X3_init sh v0 Q m) : CnA l G yX3_init cX3_init 2 2 80 104 5417 sh [.ref (G.1 + v0)] m Q := by
  refine con_A (ls := [(0, .ref (G.1 + v0))]) (by decide +kernel) rfl (Nat.le_of_ble_eq_true rfl) (fun F => ?_)
  show V G F (cX3_init, 2, RX3, none, "<init>", 2, 80, 104, 5417) sh 0 0 (Za G F sh 104 5417 Q) 0 [(0, .ref (G.1 + v0))] [] m
  unfold wp_X3_init at h
  refine v_aload_n 0 0 dX3_init_0 rfl rfl ?_
  refine v_oinit mo_RX3_3 (Nat.le_of_ble_eq_true rfl) (Nat.le_of_ble_eq_true rfl) (Nat.le_of_ble_eq_true rfl) dX3_init_1 ?_
  refine v_aload_n 0 0 dX3_init_4 rfl rfl ?_
  refine v_bipush (20 : Int32) dX3_init_5 (by decide) ?_
  obtain ⟨hno, h⟩ := h
  refine g_anew (N := 20) 105 (by decide) hno cl_RX3_9 (by decide) (by decide +kernel) (Nat.le_of_ble_eq_true rfl) (Nat.le_of_ble_eq_true rfl) (Nat.le_of_ble_eq_true rfl) dX3_init_7 h ?_
  clear h
  intro c4 c5 sh1 m2 h hl3
  obtain ⟨o4, h⟩ := h
  refine g_qR 3 2 dX3_init_10 fw_RX3_11 o4 rfl (fun _ => rfl) (fun _ => rfl) h ?_
  clear h
  intro m5 h
  refine v_aload_n 0 0 dX3_init_13 rfl rfl ?_
  refine v_sipush (999 : Int32) dX3_init_14 (by decide) ?_
  refine g_newa (atype := .int) (ty := .int) (N := 999) 100 rfl rfl (by decide) (a0c_100 _) (fun _ _ h => h) aw_100 (by decide) (by decide +kernel) (Nat.le_of_ble_eq_true rfl) (Nat.le_of_ble_eq_true rfl) (Nat.le_of_ble_eq_true rfl) dX3_init_17 h ?_
  clear h
  intro sh6 m7 h hl8
  obtain ⟨o9, h⟩ := h
  refine g_qR 3 3 dX3_init_19 fw_RX3_17 o9 rfl (fun _ => rfl) (fun _ => rfl) h ?_
  clear h
  intro m10 h
  refine v_aload_n 0 0 dX3_init_22 rfl rfl ?_
  refine v_sipush (999 : Int32) dX3_init_23 (by decide) ?_
  refine g_newa (atype := .int) (ty := .int) (N := 999) 100 rfl rfl (by decide) (a0c_100 _) (fun _ _ h => h) aw_100 (by decide) (by decide +kernel) (Nat.le_of_ble_eq_true rfl) (Nat.le_of_ble_eq_true rfl) (Nat.le_of_ble_eq_true rfl) dX3_init_26 h ?_
  clear h
  intro sh11 m12 h hl13
  obtain ⟨o14, h⟩ := h
  refine g_qR 3 4 dX3_init_28 fw_RX3_21 o14 rfl (fun _ => rfl) (fun _ => rfl) h ?_
  clear h
  intro m15 h
  refine v_aload_n 0 0 dX3_init_31 rfl rfl ?_
  refine v_sipush (999 : Int32) dX3_init_32 (by decide) ?_
  refine g_newa (atype := .int) (ty := .int) (N := 999) 100 rfl rfl (by decide) (a0c_100 _) (fun _ _ h => h) aw_100 (by decide) (by decide +kernel) (Nat.le_of_ble_eq_true rfl) (Nat.le_of_ble_eq_true rfl) (Nat.le_of_ble_eq_true rfl) dX3_init_35 h ?_
  clear h
  intro sh16 m17 h hl18
  obtain ⟨o19, h⟩ := h
  refine g_qR 3 5 dX3_init_37 fw_RX3_24 o19 rfl (fun _ => rfl) (fun _ => rfl) h ?_
  clear h
  intro m20 h
  refine v_iconst (0 : Int32) dX3_init_40 (by decide) ?_
  refine v_istore_n (ls' := [(1, .int _), (0, .ref _)]) 1 dX3_init_41 rfl (Nat.le_of_ble_eq_true rfl) rfl ?_
  refine v_iload_n 1 0 dX3_init_42 rfl rfl ?_
  refine v_bipush (20 : Int32) dX3_init_43 (by decide) ?_
  refine v_icmp_ge 67 dX3_init_45 (by decide) (fun hc => absurd hc (by decide)) (fun hc => ?_)
  refine v_aload_n 0 1 dX3_init_48 rfl rfl ?_
  obtain ⟨o23, b21, e22, h⟩ := h
  refine v_gR 3 2 dX3_init_49 fg_RX3_11 o23 e22 ?_
  refine v_iload_n 1 0 dX3_init_52 rfl rfl ?_
  refine g_new ci_1 dv_1 cl_RX3_9 in_1 it_1 (Nat.le_of_ble_eq_true rfl) (Nat.le_of_ble_eq_true rfl) dX3_init_53 h ?_
  clear h
  intro sh24 m25 h hl26
  refine v_dup dX3_init_56 rfl ?_
  refine v_cI [] mi_X1_init (Or.inr (List.mem_of_getElem? (i := 5) rfl)) rfl rfl (Nat.le_of_ble_eq_true rfl) (Nat.le_of_ble_eq_true rfl) (Nat.le_of_ble_eq_true rfl) (Nat.le_of_ble_eq_true rfl) (Nat.le_of_ble_eq_true rfl) dX3_init_57 (c_X1_init h) ?_
  clear h
  intro c4 c5 sh27 m28 h hl29
  rw [up_up]
  obtain ⟨i31, ⟨n32, o33⟩, h⟩ := h
  refine g_aast 105 dX3_init_60 (by decide) i31 o33 h ?_
  clear h
  intro m30 h
  refine v_iinc (v := (1 : Int32)) (ls' := [(1, .int _), (0, .ref _)]) 1 0 dX3_init_61 rfl (by decide) (Nat.le_of_ble_eq_true rfl) rfl ?_
  refine v_goto 42 dX3_init_64 (by decide) ?_
  refine v_iload_n 1 0 dX3_init_42 rfl rfl ?_
  refine v_bipush (20 : Int32) dX3_init_43 (by decide) ?_
  refine v_icmp_ge 67 dX3_init_45 (by decide) (fun hc => absurd hc (by decide)) (fun hc => ?_)
  refine v_aload_n 0 1 dX3_init_48 rfl rfl ?_
  obtain ⟨o36, b34, e35, h⟩ := h
  refine v_gR 3 2 dX3_init_49 fg_RX3_11 o36 e35 ?_
  refine v_iload_n 1 0 dX3_init_52 rfl rfl ?_
  refine g_new ci_1 dv_1 cl_RX3_9 in_1 it_1 (Nat.le_of_ble_eq_true rfl) (Nat.le_of_ble_eq_true rfl) dX3_init_53 h ?_
  clear h
  intro sh37 m38 h hl39
  refine v_dup dX3_init_56 rfl ?_
  refine v_cI [] mi_X1_init (Or.inr (List.mem_of_getElem? (i := 5) rfl)) rfl rfl (Nat.le_of_ble_eq_true rfl) (Nat.le_of_ble_eq_true rfl) (Nat.le_of_ble_eq_true rfl) (Nat.le_of_ble_eq_true rfl) (Nat.le_of_ble_eq_true rfl) dX3_init_57 (c_X1_init h) ?_
  clear h
  intro c4 c5 sh40 m41 h hl42
  rw [up_up]
  obtain ⟨i44, ⟨n45, o46⟩, h⟩ := h
  refine g_aast 105 dX3_init_60 (by decide) i44 o46 h ?_
  clear h
  intro m43 h
  refine v_iinc (v := (2 : Int32)) (ls' := [(1, .int _), (0, .ref _)]) 1 0 dX3_init_61 rfl (by decide) (Nat.le_of_ble_eq_true rfl) rfl ?_
  refine v_goto 42 dX3_init_64 (by decide) ?_
  refine v_iload_n 1 0 dX3_init_42 rfl rfl ?_
  refine v_bipush (20 : Int32) dX3_init_43 (by decide) ?_
  refine v_icmp_ge 67 dX3_init_45 (by decide) (fun hc => absurd hc (by decide)) (fun hc => ?_)
  refine v_aload_n 0 1 dX3_init_48 rfl rfl ?_
  obtain ⟨o49, b47, e48, h⟩ := h
  refine v_gR 3 2 dX3_init_49 fg_RX3_11 o49 e48 ?_
  refine v_iload_n 1 0 dX3_init_52 rfl rfl ?_
  refine g_new ci_1 dv_1 cl_RX3_9 in_1 it_1 (Nat.le_of_ble_eq_true rfl) (Nat.le_of_ble_eq_true rfl) dX3_init_53 h ?_
  clear h
  intro sh50 m51 h hl52
  refine v_dup dX3_init_56 rfl ?_
  refine v_cI [] mi_X1_init (Or.inr (List.mem_of_getElem? (i := 5) rfl)) rfl rfl (Nat.le_of_ble_eq_true rfl) (Nat.le_of_ble_eq_true rfl) (Nat.le_of_ble_eq_true rfl) (Nat.le_of_ble_eq_true rfl) (Nat.le_of_ble_eq_true rfl) dX3_init_57 (c_X1_init h) ?_
  clear h
  intro c4 c5 sh53 m54 h hl55
  rw [up_up]
  obtain ⟨i57, ⟨n58, o59⟩, h⟩ := h
  refine g_aast 105 dX3_init_60 (by decide) i57 o59 h ?_
  clear h
  intro m56 h
  refine v_iinc (v := (3 : Int32)) (ls' := [(1, .int _), (0, .ref _)]) 1 0 dX3_init_61 rfl (by decide) (Nat.le_of_ble_eq_true rfl) rfl ?_
  refine v_goto 42 dX3_init_64 (by decide) ?_
  refine v_iload_n 1 0 dX3_init_42 rfl rfl ?_
  refine v_bipush (20 : Int32) dX3_init_43 (by decide) ?_
  refine v_icmp_ge 67 dX3_init_45 (by decide) (fun hc => absurd hc (by decide)) (fun hc => ?_)
  refine v_aload_n 0 1 dX3_init_48 rfl rfl ?_
  obtain ⟨o62, b60, e61, h⟩ := h
  refine v_gR 3 2 dX3_init_49 fg_RX3_11 o62 e61 ?_
  refine v_iload_n 1 0 dX3_init_52 rfl rfl ?_
  refine g_new ci_1 dv_1 cl_RX3_9 in_1 it_1 (Nat.le_of_ble_eq_true rfl) (Nat.le_of_ble_eq_true rfl) dX3_init_53 h ?_
  clear h
  intro sh63 m64 h hl65
  refine v_dup dX3_init_56 rfl ?_
  refine v_cI [] mi_X1_init (Or.inr (List.mem_of_getElem? (i := 5) rfl)) rfl rfl (Nat.le_of_ble_eq_true rfl) (Nat.le_of_ble_eq_true rfl) (Nat.le_of_ble_eq_true rfl) (Nat.le_of_ble_eq_true rfl) (Nat.le_of_ble_eq_true rfl) dX3_init_57 (c_X1_init h) ?_
  clear h
  intro c4 c5 sh66 m67 h hl68
  rw [up_up]
  obtain ⟨i70, ⟨n71, o72⟩, h⟩ := h
  refine g_aast 105 dX3_init_60 (by decide) i70 o72 h ?_
  clear h
  intro m69 h
  refine v_iinc (v := (4 : Int32)) (ls' := [(1, .int _), (0, .ref _)]) 1 0 dX3_init_61 rfl (by decide) (Nat.le_of_ble_eq_true rfl) rfl ?_
  refine v_goto 42 dX3_init_64 (by decide) ?_
  refine v_iload_n 1 0 dX3_init_42 rfl rfl ?_
  refine v_bipush (20 : Int32) dX3_init_43 (by decide) ?_
  refine v_icmp_ge 67 dX3_init_45 (by decide) (fun hc => absurd hc (by decide)) (fun hc => ?_)
  refine v_aload_n 0 1 dX3_init_48 rfl rfl ?_
  obtain ⟨o75, b73, e74, h⟩ := h
  refine v_gR 3 2 dX3_init_49 fg_RX3_11 o75 e74 ?_
  refine v_iload_n 1 0 dX3_init_52 rfl rfl ?_
  refine g_new ci_1 dv_1 cl_RX3_9 in_1 it_1 (Nat.le_of_ble_eq_true rfl) (Nat.le_of_ble_eq_true rfl) dX3_init_53 h ?_
  clear h
  intro sh76 m77 h hl78
  refine v_dup dX3_init_56 rfl ?_
  refine v_cI [] mi_X1_init (Or.inr (List.mem_of_getElem? (i := 5) rfl)) rfl rfl (Nat.le_of_ble_eq_true rfl) (Nat.le_of_ble_eq_true rfl) (Nat.le_of_ble_eq_true rfl) (Nat.le_of_ble_eq_true rfl) (Nat.le_of_ble_eq_true rfl) dX3_init_57 (c_X1_init h) ?_
  clear h
  intro c4 c5 sh79 m80 h hl81
  rw [up_up]
  obtain ⟨i83, ⟨n84, o85⟩, h⟩ := h
  refine g_aast 105 dX3_init_60 (by decide) i83 o85 h ?_
  clear h
  intro m82 h
  refine v_iinc (v := (5 : Int32)) (ls' := [(1, .int _), (0, .ref _)]) 1 0 dX3_init_61 rfl (by decide) (Nat.le_of_ble_eq_true rfl) rfl ?_
  refine v_goto 42 dX3_init_64 (by decide) ?_
  refine v_iload_n 1 0 dX3_init_42 rfl rfl ?_
  refine v_bipush (20 : Int32) dX3_init_43 (by decide) ?_
  refine v_icmp_ge 67 dX3_init_45 (by decide) (fun hc => absurd hc (by decide)) (fun hc => ?_)
  refine v_aload_n 0 1 dX3_init_48 rfl rfl ?_
  obtain ⟨o88, b86, e87, h⟩ := h
  refine v_gR 3 2 dX3_init_49 fg_RX3_11 o88 e87 ?_
  refine v_iload_n 1 0 dX3_init_52 rfl rfl ?_
  refine g_new ci_1 dv_1 cl_RX3_9 in_1 it_1 (Nat.le_of_ble_eq_true rfl) (Nat.le_of_ble_eq_true rfl) dX3_init_53 h ?_
  clear h
  intro sh89 m90 h hl91
  refine v_dup dX3_init_56 rfl ?_
  refine v_cI [] mi_X1_init (Or.inr (List.mem_of_getElem? (i := 5) rfl)) rfl rfl (Nat.le_of_ble_eq_true rfl) (Nat.le_of_ble_eq_true rfl) (Nat.le_of_ble_eq_true rfl) (Nat.le_of_ble_eq_true rfl) (Nat.le_of_ble_eq_true rfl) dX3_init_57 (c_X1_init h) ?_
  clear h
  intro c4 c5 sh92 m93 h hl94
  rw [up_up]
  obtain ⟨i96, ⟨n97, o98⟩, h⟩ := h
  refine g_aast 105 dX3_init_60 (by decide) i96 o98 h ?_
  clear h
  intro m95 h
  refine v_iinc (v := (6 : Int32)) (ls' := [(1, .int _), (0, .ref _)]) 1 0 dX3_init_61 rfl (by decide) (Nat.le_of_ble_eq_true rfl) rfl ?_
  refine v_goto 42 dX3_init_64 (by decide) ?_
  refine v_iload_n 1 0 dX3_init_42 rfl rfl ?_
  refine v_bipush (20 : Int32) dX3_init_43 (by decide) ?_
  refine v_icmp_ge 67 dX3_init_45 (by decide) (fun hc => absurd hc (by decide)) (fun hc => ?_)
  refine v_aload_n 0 1 dX3_init_48 rfl rfl ?_
  obtain ⟨o101, b99, e100, h⟩ := h
  refine v_gR 3 2 dX3_init_49 fg_RX3_11 o101 e100 ?_
  refine v_iload_n 1 0 dX3_init_52 rfl rfl ?_
  refine g_new ci_1 dv_1 cl_RX3_9 in_1 it_1 (Nat.le_of_ble_eq_true rfl) (Nat.le_of_ble_eq_true rfl) dX3_init_53 h ?_
  clear h
  intro sh102 m103 h hl104
  refine v_dup dX3_init_56 rfl ?_
  refine v_cI [] mi_X1_init (Or.inr (List.mem_of_getElem? (i := 5) rfl)) rfl rfl (Nat.le_of_ble_eq_true rfl) (Nat.le_of_ble_eq_true rfl) (Nat.le_of_ble_eq_true rfl) (Nat.le_of_ble_eq_true rfl) (Nat.le_of_ble_eq_true rfl) dX3_init_57 (c_X1_init h) ?_
  clear h
  intro c4 c5 sh105 m106 h hl107
  rw [up_up]
  obtain ⟨i109, ⟨n110, o111⟩, h⟩ := h
  refine g_aast 105 dX3_init_60 (by decide) i109 o111 h ?_
  clear h
  intro m108 h
  refine v_iinc (v := (7 : Int32)) (ls' := [(1, .int _), (0, .ref _)]) 1 0 dX3_init_61 rfl (by decide) (Nat.le_of_ble_eq_true rfl) rfl ?_
  refine v_goto 42 dX3_init_64 (by decide) ?_
  refine v_iload_n 1 0 dX3_init_42 rfl rfl ?_
  refine v_bipush (20 : Int32) dX3_init_43 (by decide) ?_
  refine v_icmp_ge 67 dX3_init_45 (by decide) (fun hc => absurd hc (by decide)) (fun hc => ?_)
  refine v_aload_n 0 1 dX3_init_48 rfl rfl ?_
  obtain ⟨o114, b112, e113, h⟩ := h
  refine v_gR 3 2 dX3_init_49 fg_RX3_11 o114 e113 ?_
  refine v_iload_n 1 0 dX3_init_52 rfl rfl ?_
  refine g_new ci_1 dv_1 cl_RX3_9 in_1 it_1 (Nat.le_of_ble_eq_true rfl) (Nat.le_of_ble_eq_true rfl) dX3_init_53 h ?_
  clear h
  intro sh115 m116 h hl117
  refine v_dup dX3_init_56 rfl ?_
  refine v_cI [] mi_X1_init (Or.inr (List.mem_of_getElem? (i := 5) rfl)) rfl rfl (Nat.le_of_ble_eq_true rfl) (Nat.le_of_ble_eq_true rfl) (Nat.le_of_ble_eq_true rfl) (Nat.le_of_ble_eq_true rfl) (Nat.le_of_ble_eq_true rfl) dX3_init_57 (c_X1_init h) ?_
  clear h
  intro c4 c5 sh118 m119 h hl120
  rw [up_up]
  obtain ⟨i122, ⟨n123, o124⟩, h⟩ := h
  refine g_aast 105 dX3_init_60 (by decide) i122 o124 h ?_
  clear h
  intro m121 h
  refine v_iinc (v := (8 : Int32)) (ls' := [(1, .int _), (0, .ref _)]) 1 0 dX3_init_61 rfl (by decide) (Nat.le_of_ble_eq_true rfl) rfl ?_
  refine v_goto 42 dX3_init_64 (by decide) ?_
  refine v_iload_n 1 0 dX3_init_42 rfl rfl ?_
  refine v_bipush (20 : Int32) dX3_init_43 (by decide) ?_
  refine v_icmp_ge 67 dX3_init_45 (by decide) (fun hc => absurd hc (by decide)) (fun hc => ?_)
  refine v_aload_n 0 1 dX3_init_48 rfl rfl ?_
  obtain ⟨o127, b125, e126, h⟩ := h
  refine v_gR 3 2 dX3_init_49 fg_RX3_11 o127 e126 ?_
  refine v_iload_n 1 0 dX3_init_52 rfl rfl ?_
  refine g_new ci_1 dv_1 cl_RX3_9 in_1 it_1 (Nat.le_of_ble_eq_true rfl) (Nat.le_of_ble_eq_true rfl) dX3_init_53 h ?_
  clear h
  intro sh128 m129 h hl130
  refine v_dup dX3_init_56 rfl ?_
  refine v_cI [] mi_X1_init (Or.inr (List.mem_of_getElem? (i := 5) rfl)) rfl rfl (Nat.le_of_ble_eq_true rfl) (Nat.le_of_ble_eq_true rfl) (Nat.le_of_ble_eq_true rfl) (Nat.le_of_ble_eq_true rfl) (Nat.le_of_ble_eq_true rfl) dX3_init_57 (c_X1_init h) ?_
  clear h
  intro c4 c5 sh131 m132 h hl133
  rw [up_up]
  obtain ⟨i135, ⟨n136, o137⟩, h⟩ := h
  refine g_aast 105 dX3_init_60 (by decide) i135 o137 h ?_
  clear h
  intro m134 h
  refine v_iinc (v := (9 : Int32)) (ls' := [(1, .int _), (0, .ref _)]) 1 0 dX3_init_61 rfl (by decide) (Nat.le_of_ble_eq_true rfl) rfl ?_
  refine v_goto 42 dX3_init_64 (by decide) ?_
  refine v_iload_n 1 0 dX3_init_42 rfl rfl ?_
  refine v_bipush (20 : Int32) dX3_init_43 (by decide) ?_
  refine v_icmp_ge 67 dX3_init_45 (by decide) (fun hc => absurd hc (by decide)) (fun hc => ?_)
  refine v_aload_n 0 1 dX3_init_48 rfl rfl ?_
  obtain ⟨o140, b138, e139, h⟩ := h
  refine v_gR 3 2 dX3_init_49 fg_RX3_11 o140 e139 ?_
  refine v_iload_n 1 0 dX3_init_52 rfl rfl ?_
  refine g_new ci_1 dv_1 cl_RX3_9 in_1 it_1 (Nat.le_of_ble_eq_true rfl) (Nat.le_of_ble_eq_true rfl) dX3_init_53 h ?_
  clear h
  intro sh141 m142 h hl143
  refine v_dup dX3_init_56 rfl ?_
  refine v_cI [] mi_X1_init (Or.inr (List.mem_of_getElem? (i := 5) rfl)) rfl rfl (Nat.le_of_ble_eq_true rfl) (Nat.le_of_ble_eq_true rfl) (Nat.le_of_ble_eq_true rfl) (Nat.le_of_ble_eq_true rfl) (Nat.le_of_ble_eq_true rfl) dX3_init_57 (c_X1_init h) ?_
  clear h
  intro c4 c5 sh144 m145 h hl146
  rw [up_up]
  obtain ⟨i148, ⟨n149, o150⟩, h⟩ := h
  refine g_aast 105 dX3_init_60 (by decide) i148 o150 h ?_
  clear h
  intro m147 h
  refine v_iinc (v := (10 : Int32)) (ls' := [(1, .int _), (0, .ref _)]) 1 0 dX3_init_61 rfl (by decide) (Nat.le_of_ble_eq_true rfl) rfl ?_
  refine v_goto 42 dX3_init_64 (by decide) ?_
  refine v_iload_n 1 0 dX3_init_42 rfl rfl ?_
  refine v_bipush (20 : Int32) dX3_init_43 (by decide) ?_
  refine v_icmp_ge 67 dX3_init_45 (by decide) (fun hc => absurd hc (by decide)) (fun hc => ?_)
  refine v_aload_n 0 1 dX3_init_48 rfl rfl ?_
  obtain ⟨o153, b151, e152, h⟩ := h
  refine v_gR 3 2 dX3_init_49 fg_RX3_11 o153 e152 ?_
  refine v_iload_n 1 0 dX3_init_52 rfl rfl ?_
  refine g_new ci_1 dv_1 cl_RX3_9 in_1 it_1 (Nat.le_of_ble_eq_true rfl) (Nat.le_of_ble_eq_true rfl) dX3_init_53 h ?_
  clear h
  intro sh154 m155 h hl156
  refine v_dup dX3_init_56 rfl ?_
  refine v_cI [] mi_X1_init (Or.inr (List.mem_of_getElem? (i := 5) rfl)) rfl rfl (Nat.le_of_ble_eq_true rfl) (Nat.le_of_ble_eq_true rfl) (Nat.le_of_ble_eq_true rfl) (Nat.le_of_ble_eq_true rfl) (Nat.le_of_ble_eq_true rfl) dX3_init_57 (c_X1_init h) ?_
  clear h
  intro c4 c5 sh157 m158 h hl159
  rw [up_up]
  obtain ⟨i161, ⟨n162, o163⟩, h⟩ := h
  refine g_aast 105 dX3_init_60 (by decide) i161 o163 h ?_
  clear h
  intro m160 h
  refine v_iinc (v := (11 : Int32)) (ls' := [(1, .int _), (0, .ref _)]) 1 0 dX3_init_61 rfl (by decide) (Nat.le_of_ble_eq_true rfl) rfl ?_
  refine v_goto 42 dX3_init_64 (by decide) ?_
  refine v_iload_n 1 0 dX3_init_42 rfl rfl ?_
  refine v_bipush (20 : Int32) dX3_init_43 (by decide) ?_
  refine v_icmp_ge 67 dX3_init_45 (by decide) (fun hc => absurd hc (by decide)) (fun hc => ?_)
  refine v_aload_n 0 1 dX3_init_48 rfl rfl ?_
  obtain ⟨o166, b164, e165, h⟩ := h
  refine v_gR 3 2 dX3_init_49 fg_RX3_11 o166 e165 ?_
  refine v_iload_n 1 0 dX3_init_52 rfl rfl ?_
  refine g_new ci_1 dv_1 cl_RX3_9 in_1 it_1 (Nat.le_of_ble_eq_true rfl) (Nat.le_of_ble_eq_true rfl) dX3_init_53 h ?_
  clear h
  intro sh167 m168 h hl169
  refine v_dup dX3_init_56 rfl ?_
  refine v_cI [] mi_X1_init (Or.inr (List.mem_of_getElem? (i := 5) rfl)) rfl rfl (Nat.le_of_ble_eq_true rfl) (Nat.le_of_ble_eq_true rfl) (Nat.le_of_ble_eq_true rfl) (Nat.le_of_ble_eq_true rfl) (Nat.le_of_ble_eq_true rfl) dX3_init_57 (c_X1_init h) ?_
  clear h
  intro c4 c5 sh170 m171 h hl172
  rw [up_up]
  obtain ⟨i174, ⟨n175, o176⟩, h⟩ := h
  refine g_aast 105 dX3_init_60 (by decide) i174 o176 h ?_
  clear h
  intro m173 h
  refine v_iinc (v := (12 : Int32)) (ls' := [(1, .int _), (0, .ref _)]) 1 0 dX3_init_61 rfl (by decide) (Nat.le_of_ble_eq_true rfl) rfl ?_
  refine v_goto 42 dX3_init_64 (by decide) ?_
  refine v_iload_n 1 0 dX3_init_42 rfl rfl ?_
  refine v_bipush (20 : Int32) dX3_init_43 (by decide) ?_
  refine v_icmp_ge 67 dX3_init_45 (by decide) (fun hc => absurd hc (by decide)) (fun hc => ?_)
  refine v_aload_n 0 1 dX3_init_48 rfl rfl ?_
  obtain ⟨o179, b177, e178, h⟩ := h
  refine v_gR 3 2 dX3_init_49 fg_RX3_11 o179 e178 ?_
  refine v_iload_n 1 0 dX3_init_52 rfl rfl ?_
  refine g_new ci_1 dv_1 cl_RX3_9 in_1 it_1 (Nat.le_of_ble_eq_true rfl) (Nat.le_of_ble_eq_true rfl) dX3_init_53 h ?_
  clear h
  intro sh180 m181 h hl182
  refine v_dup dX3_init_56 rfl ?_
  refine v_cI [] mi_X1_init (Or.inr (List.mem_of_getElem? (i := 5) rfl)) rfl rfl (Nat.le_of_ble_eq_true rfl) (Nat.le_of_ble_eq_true rfl) (Nat.le_of_ble_eq_true rfl) (Nat.le_of_ble_eq_true rfl) (Nat.le_of_ble_eq_true rfl) dX3_init_57 (c_X1_init h) ?_
  clear h
  intro c4 c5 sh183 m184 h hl185
  rw [up_up]
  obtain ⟨i187, ⟨n188, o189⟩, h⟩ := h
  refine g_aast 105 dX3_init_60 (by decide) i187 o189 h ?_
  clear h
  intro m186 h
  refine v_iinc (v := (13 : Int32)) (ls' := [(1, .int _), (0, .ref _)]) 1 0 dX3_init_61 rfl (by decide) (Nat.le_of_ble_eq_true rfl) rfl ?_
  refine v_goto 42 dX3_init_64 (by decide) ?_
  refine v_iload_n 1 0 dX3_init_42 rfl rfl ?_
  refine v_bipush (20 : Int32) dX3_init_43 (by decide) ?_
  refine v_icmp_ge 67 dX3_init_45 (by decide) (fun hc => absurd hc (by decide)) (fun hc => ?_)
  refine v_aload_n 0 1 dX3_init_48 rfl rfl ?_
  obtain ⟨o192, b190, e191, h⟩ := h
  refine v_gR 3 2 dX3_init_49 fg_RX3_11 o192 e191 ?_
  refine v_iload_n 1 0 dX3_init_52 rfl rfl ?_
  refine g_new ci_1 dv_1 cl_RX3_9 in_1 it_1 (Nat.le_of_ble_eq_true rfl) (Nat.le_of_ble_eq_true rfl) dX3_init_53 h ?_
  clear h
  intro sh193 m194 h hl195
  refine v_dup dX3_init_56 rfl ?_
  refine v_cI [] mi_X1_init (Or.inr (List.mem_of_getElem? (i := 5) rfl)) rfl rfl (Nat.le_of_ble_eq_true rfl) (Nat.le_of_ble_eq_true rfl) (Nat.le_of_ble_eq_true rfl) (Nat.le_of_ble_eq_true rfl) (Nat.le_of_ble_eq_true rfl) dX3_init_57 (c_X1_init h) ?_
  clear h
  intro c4 c5 sh196 m197 h hl198
  rw [up_up]
  obtain ⟨i200, ⟨n201, o202⟩, h⟩ := h
  refine g_aast 105 dX3_init_60 (by decide) i200 o202 h ?_
  clear h
  intro m199 h
  refine v_iinc (v := (14 : Int32)) (ls' := [(1, .int _), (0, .ref _)]) 1 0 dX3_init_61 rfl (by decide) (Nat.le_of_ble_eq_true rfl) rfl ?_
  refine v_goto 42 dX3_init_64 (by decide) ?_
  refine v_iload_n 1 0 dX3_init_42 rfl rfl ?_
  refine v_bipush (20 : Int32) dX3_init_43 (by decide) ?_
  refine v_icmp_ge 67 dX3_init_45 (by decide) (fun hc => absurd hc (by decide)) (fun hc => ?_)
  refine v_aload_n 0 1 dX3_init_48 rfl rfl ?_
  obtain ⟨o205, b203, e204, h⟩ := h
  refine v_gR 3 2 dX3_init_49 fg_RX3_11 o205 e204 ?_
  refine v_iload_n 1 0 dX3_init_52 rfl rfl ?_
  refine g_new ci_1 dv_1 cl_RX3_9 in_1 it_1 (Nat.le_of_ble_eq_true rfl) (Nat.le_of_ble_eq_true rfl) dX3_init_53 h ?_
  clear h
  intro sh206 m207 h hl208
  refine v_dup dX3_init_56 rfl ?_
  refine v_cI [] mi_X1_init (Or.inr (List.mem_of_getElem? (i := 5) rfl)) rfl rfl (Nat.le_of_ble_eq_true rfl) (Nat.le_of_ble_eq_true rfl) (Nat.le_of_ble_eq_true rfl) (Nat.le_of_ble_eq_true rfl) (Nat.le_of_ble_eq_true rfl) dX3_init_57 (c_X1_init h) ?_
  clear h
  intro c4 c5 sh209 m210 h hl211
  rw [up_up]
  obtain ⟨i213, ⟨n214, o215⟩, h⟩ := h
  refine g_aast 105 dX3_init_60 (by decide) i213 o215 h ?_
  clear h
  intro m212 h
  refine v_iinc (v := (15 : Int32)) (ls' := [(1, .int _), (0, .ref _)]) 1 0 dX3_init_61 rfl (by decide) (Nat.le_of_ble_eq_true rfl) rfl ?_
  refine v_goto 42 dX3_init_64 (by decide) ?_
  refine v_iload_n 1 0 dX3_init_42 rfl rfl ?_
  refine v_bipush (20 : Int32) dX3_init_43 (by decide) ?_
  refine v_icmp_ge 67 dX3_init_45 (by decide) (fun hc => absurd hc (by decide)) (fun hc => ?_)
  refine v_aload_n 0 1 dX3_init_48 rfl rfl ?_
  obtain ⟨o218, b216, e217, h⟩ := h
  refine v_gR 3 2 dX3_init_49 fg_RX3_11 o218 e217 ?_
  refine v_iload_n 1 0 dX3_init_52 rfl rfl ?_
  refine g_new ci_1 dv_1 cl_RX3_9 in_1 it_1 (Nat.le_of_ble_eq_true rfl) (Nat.le_of_ble_eq_true rfl) dX3_init_53 h ?_
  clear h
  intro sh219 m220 h hl221
  refine v_dup dX3_init_56 rfl ?_
  refine v_cI [] mi_X1_init (Or.inr (List.mem_of_getElem? (i := 5) rfl)) rfl rfl (Nat.le_of_ble_eq_true rfl) (Nat.le_of_ble_eq_true rfl) (Nat.le_of_ble_eq_true rfl) (Nat.le_of_ble_eq_true rfl) (Nat.le_of_ble_eq_true rfl) dX3_init_57 (c_X1_init h) ?_
  clear h
  intro c4 c5 sh222 m223 h hl224
  rw [up_up]
  obtain ⟨i226, ⟨n227, o228⟩, h⟩ := h
  refine g_aast 105 dX3_init_60 (by decide) i226 o228 h ?_
  clear h
  intro m225 h
  refine v_iinc (v := (16 : Int32)) (ls' := [(1, .int _), (0, .ref _)]) 1 0 dX3_init_61 rfl (by decide) (Nat.le_of_ble_eq_true rfl) rfl ?_
  refine v_goto 42 dX3_init_64 (by decide) ?_
  refine v_iload_n 1 0 dX3_init_42 rfl rfl ?_
  refine v_bipush (20 : Int32) dX3_init_43 (by decide) ?_
  refine v_icmp_ge 67 dX3_init_45 (by decide) (fun hc => absurd hc (by decide)) (fun hc => ?_)
  refine v_aload_n 0 1 dX3_init_48 rfl rfl ?_
  obtain ⟨o231, b229, e230, h⟩ := h
  refine v_gR 3 2 dX3_init_49 fg_RX3_11 o231 e230 ?_
  refine v_iload_n 1 0 dX3_init_52 rfl rfl ?_
  refine g_new ci_1 dv_1 cl_RX3_9 in_1 it_1 (Nat.le_of_ble_eq_true rfl) (Nat.le_of_ble_eq_true rfl) dX3_init_53 h ?_
  clear h
  intro sh232 m233 h hl234
  refine v_dup dX3_init_56 rfl ?_
  refine v_cI [] mi_X1_init (Or.inr (List.mem_of_getElem? (i := 5) rfl)) rfl rfl (Nat.le_of_ble_eq_true rfl) (Nat.le_of_ble_eq_true rfl) (Nat.le_of_ble_eq_true rfl) (Nat.le_of_ble_eq_true rfl) (Nat.le_of_ble_eq_true rfl) dX3_init_57 (c_X1_init h) ?_
  clear h
  intro c4 c5 sh235 m236 h hl237
  rw [up_up]
  obtain ⟨i239, ⟨n240, o241⟩, h⟩ := h
  refine g_aast 105 dX3_init_60 (by decide) i239 o241 h ?_
  clear h
  intro m238 h
  refine v_iinc (v := (17 : Int32)) (ls' := [(1, .int _), (0, .ref _)]) 1 0 dX3_init_61 rfl (by decide) (Nat.le_of_ble_eq_true rfl) rfl ?_
  refine v_goto 42 dX3_init_64 (by decide) ?_
  refine v_iload_n 1 0 dX3_init_42 rfl rfl ?_
  refine v_bipush (20 : Int32) dX3_init_43 (by decide) ?_
  refine v_icmp_ge 67 dX3_init_45 (by decide) (fun hc => absurd hc (by decide)) (fun hc => ?_)
  refine v_aload_n 0 1 dX3_init_48 rfl rfl ?_
  obtain ⟨o244, b242, e243, h⟩ := h
  refine v_gR 3 2 dX3_init_49 fg_RX3_11 o244 e243 ?_
  refine v_iload_n 1 0 dX3_init_52 rfl rfl ?_
  refine g_new ci_1 dv_1 cl_RX3_9 in_1 it_1 (Nat.le_of_ble_eq_true rfl) (Nat.le_of_ble_eq_true rfl) dX3_init_53 h ?_
  clear h
  intro sh245 m246 h hl247
  refine v_dup dX3_init_56 rfl ?_
  refine v_cI [] mi_X1_init (Or.inr (List.mem_of_getElem? (i := 5) rfl)) rfl rfl (Nat.le_of_ble_eq_true rfl) (Nat.le_of_ble_eq_true rfl) (Nat.le_of_ble_eq_true rfl) (Nat.le_of_ble_eq_true rfl) (Nat.le_of_ble_eq_true rfl) dX3_init_57 (c_X1_init h) ?_
  clear h
  intro c4 c5 sh248 m249 h hl250
  rw [up_up]
  obtain ⟨i252, ⟨n253, o254⟩, h⟩ := h
  refine g_aast 105 dX3_init_60 (by decide) i252 o254 h ?_
  clear h
  intro m251 h
  refine v_iinc (v := (18 : Int32)) (ls' := [(1, .int _), (0, .ref _)]) 1 0 dX3_init_61 rfl (by decide) (Nat.le_of_ble_eq_true rfl) rfl ?_
  refine v_goto 42 dX3_init_64 (by decide) ?_
  refine v_iload_n 1 0 dX3_init_42 rfl rfl ?_
  refine v_bipush (20 : Int32) dX3_init_43 (by decide) ?_
  refine v_icmp_ge 67 dX3_init_45 (by decide) (fun hc => absurd hc (by decide)) (fun hc => ?_)
  refine v_aload_n 0 1 dX3_init_48 rfl rfl ?_
  obtain ⟨o257, b255, e256, h⟩ := h
  refine v_gR 3 2 dX3_init_49 fg_RX3_11 o257 e256 ?_
  refine v_iload_n 1 0 dX3_init_52 rfl rfl ?_
  refine g_new ci_1 dv_1 cl_RX3_9 in_1 it_1 (Nat.le_of_ble_eq_true rfl) (Nat.le_of_ble_eq_true rfl) dX3_init_53 h ?_
  clear h
  intro sh258 m259 h hl260
  refine v_dup dX3_init_56 rfl ?_
  refine v_cI [] mi_X1_init (Or.inr (List.mem_of_getElem? (i := 5) rfl)) rfl rfl (Nat.le_of_ble_eq_true rfl) (Nat.le_of_ble_eq_true rfl) (Nat.le_of_ble_eq_true rfl) (Nat.le_of_ble_eq_true rfl) (Nat.le_of_ble_eq_true rfl) dX3_init_57 (c_X1_init h) ?_
  clear h
  intro c4 c5 sh261 m262 h hl263
  rw [up_up]
  obtain ⟨i265, ⟨n266, o267⟩, h⟩ := h
  refine g_aast 105 dX3_init_60 (by decide) i265 o267 h ?_
  clear h
  intro m264 h
  refine v_iinc (v := (19 : Int32)) (ls' := [(1, .int _), (0, .ref _)]) 1 0 dX3_init_61 rfl (by decide) (Nat.le_of_ble_eq_true rfl) rfl ?_
  refine v_goto 42 dX3_init_64 (by decide) ?_
  refine v_iload_n 1 0 dX3_init_42 rfl rfl ?_
  refine v_bipush (20 : Int32) dX3_init_43 (by decide) ?_
  refine v_icmp_ge 67 dX3_init_45 (by decide) (fun hc => absurd hc (by decide)) (fun hc => ?_)
  refine v_aload_n 0 1 dX3_init_48 rfl rfl ?_
  obtain ⟨o270, b268, e269, h⟩ := h
  refine v_gR 3 2 dX3_init_49 fg_RX3_11 o270 e269 ?_
  refine v_iload_n 1 0 dX3_init_52 rfl rfl ?_
  refine g_new ci_1 dv_1 cl_RX3_9 in_1 it_1 (Nat.le_of_ble_eq_true rfl) (Nat.le_of_ble_eq_true rfl) dX3_init_53 h ?_
  clear h
  intro sh271 m272 h hl273
  refine v_dup dX3_init_56 rfl ?_
  refine v_cI [] mi_X1_init (Or.inr (List.mem_of_getElem? (i := 5) rfl)) rfl rfl (Nat.le_of_ble_eq_true rfl) (Nat.le_of_ble_eq_true rfl) (Nat.le_of_ble_eq_true rfl) (Nat.le_of_ble_eq_true rfl) (Nat.le_of_ble_eq_true rfl) dX3_init_57 (c_X1_init h) ?_
  clear h
  intro c4 c5 sh274 m275 h hl276
  rw [up_up]
  obtain ⟨i278, ⟨n279, o280⟩, h⟩ := h
  refine g_aast 105 dX3_init_60 (by decide) i278 o280 h ?_
  clear h
  intro m277 h
  refine v_iinc (v := (20 : Int32)) (ls' := [(1, .int _), (0, .ref _)]) 1 0 dX3_init_61 rfl (by decide) (Nat.le_of_ble_eq_true rfl) rfl ?_
  refine v_goto 42 dX3_init_64 (by decide) ?_
  refine v_iload_n 1 0 dX3_init_42 rfl rfl ?_
  refine v_bipush (20 : Int32) dX3_init_43 (by decide) ?_
  refine v_icmp_ge 67 dX3_init_45 (by decide) (fun hc => ?_) (fun hc => absurd (by decide) hc)
  exact v_cret dX3_init_67 rfl (by omega) (Nat.le_of_ble_eq_true rfl) (Nat.le_of_ble_eq_true rfl) h
/-! CalledRiver$Picture constructor -/
theorem dX4_init_0 : decode cX4_init 0 = .ok (.aload_n 0, 1) := by decide +kernel
theorem dX4_init_1 : decode cX4_init 1 = .ok (.invokespecial 3, 3) := by decide +kernel
theorem dX4_init_4 : decode cX4_init 4 = .ok (.aload_n 0, 1) := by decide +kernel
theorem dX4_init_5 : decode cX4_init 5 = .ok (.bipush 117, 2) := by decide +kernel
theorem dX4_init_7 : decode cX4_init 7 = .ok (.newarray .int, 2) := by decide +kernel
theorem dX4_init_9 : decode cX4_init 9 = .ok (.putfield 9, 3) := by decide +kernel
theorem dX4_init_12 : decode cX4_init 12 = .ok (.return_, 1) := by decide +kernel
set_option maxHeartbeats 4000000 in
set_option maxRecDepth 100000 in
def wp_X4_init (sh : Shp) (v0 : Nat) (Q : Shp → Mem → Prop) (m : Mem) : Prop :=
  bnd (sh ++ [(100, 117)]) (fun sh1 => bnd (nw m sh.length) (fun m2 => Ob sh1 v0 4 ∧ bnd (sR m2 v0 0 (some sh.length)) (fun m5 => Q sh1 m5)))
set_option maxHeartbeats 4000000 in
set_option maxRecDepth 100000 in
theorem c_X4_init {l : Launch} {G : Gl} {sh : Shp} {v0 : Nat} {Q : Shp → Mem → Prop} {m : Mem} (h : wp_X4_init sh v0 Q m) : CnA l G yX4_init cX4_init 1 1 60 1 117 sh [.ref (G.1 + v0)] m Q := by
  refine con_A (ls := [(0, .ref (G.1 + v0))]) (by decide +kernel) rfl (Nat.le_of_ble_eq_true rfl) (fun F => ?_)
  show V G F (cX4_init, 1, RX4, none, "<init>", 1, 60, 1, 117) sh 0 0 (Za G F sh 1 117 Q) 0 [(0, .ref (G.1 + v0))] [] m
  unfold wp_X4_init at h
  refine v_aload_n 0 0 dX4_init_0 rfl rfl ?_
  refine v_oinit mo_RX4_3 (Nat.le_of_ble_eq_true rfl) (Nat.le_of_ble_eq_true rfl) (Nat.le_of_ble_eq_true rfl) dX4_init_1 ?_
  refine v_aload_n 0 0 dX4_init_4 rfl rfl ?_
  refine v_bipush (117 : Int32) dX4_init_5 (by decide) ?_
  refine g_newa (atype := .int) (ty := .int) (N := 117) 100 rfl rfl (by decide) (a0c_100 _) (fun _ _ h => h) aw_100 (by decide) (by decide +kernel) (Nat.le_of_ble_eq_true rfl) (Nat.le_of_ble_eq_true rfl) (Nat.le_of_ble_eq_true rfl) dX4_init_7 h ?_
  clear h
  intro sh1 m2 h hl3
  obtain ⟨o4, h⟩ := h
  refine g_qR 4 0 dX4_init_9 fw_RX4_9 o4 rfl (fun _ => rfl) (fun _ => rfl) h ?_
  clear h
  intro m5 h
  exact v_cret0 dX4_init_12 rfl (by omega) (Nat.le_of_ble_eq_true rfl) (Nat.le_of_ble_eq_true rfl) h
/-! CalledRiver$Plain constructor -/
theorem dX5_init_0 : decode cX5_init 0 = .ok (.aload_n 0, 1) := by decide +kernel
theorem dX5_init_1 : decode cX5_init 1 = .ok (.invokespecial 3, 3) := by decide +kernel
theorem dX5_init_4 : decode cX5_init 4 = .ok (.aload_n 0, 1) := by decide +kernel
theorem dX5_init_5 : decode cX5_init 5 = .ok (.bipush 36, 2) := by decide +kernel
theorem dX5_init_7 : decode cX5_init 7 = .ok (.newarray .int, 2) := by decide +kernel
theorem dX5_init_9 : decode cX5_init 9 = .ok (.putfield 9, 3) := by decide +kernel
theorem dX5_init_12 : decode cX5_init 12 = .ok (.aload_n 0, 1) := by decide +kernel
theorem dX5_init_13 : decode cX5_init 13 = .ok (.bipush 36, 2) := by decide +kernel
theorem dX5_init_15 : decode cX5_init 15 = .ok (.newarray .int, 2) := by decide +kernel
theorem dX5_init_17 : decode cX5_init 17 = .ok (.putfield 15, 3) := by decide +kernel
theorem dX5_init_20 : decode cX5_init 20 = .ok (.aload_n 0, 1) := by decide +kernel
theorem dX5_init_21 : decode cX5_init 21 = .ok (.bipush 36, 2) := by decide +kernel
theorem dX5_init_23 : decode cX5_init 23 = .ok (.newarray .int, 2) := by decide +kernel
theorem dX5_init_25 : decode cX5_init 25 = .ok (.putfield 18, 3) := by decide +kernel
theorem dX5_init_28 : decode cX5_init 28 = .ok (.aload_n 0, 1) := by decide +kernel
theorem dX5_init_29 : decode cX5_init 29 = .ok (.bipush 6, 2) := by decide +kernel
theorem dX5_init_31 : decode cX5_init 31 = .ok (.newarray .int, 2) := by decide +kernel
theorem dX5_init_33 : decode cX5_init 33 = .ok (.putfield 21, 3) := by decide +kernel
theorem dX5_init_36 : decode cX5_init 36 = .ok (.aload_n 0, 1) := by decide +kernel
theorem dX5_init_37 : decode cX5_init 37 = .ok (.bipush 6, 2) := by decide +kernel
theorem dX5_init_39 : decode cX5_init 39 = .ok (.newarray .int, 2) := by decide +kernel
theorem dX5_init_41 : decode cX5_init 41 = .ok (.putfield 24, 3) := by decide +kernel
theorem dX5_init_44 : decode cX5_init 44 = .ok (.aload_n 0, 1) := by decide +kernel
theorem dX5_init_45 : decode cX5_init 45 = .ok (.bipush 6, 2) := by decide +kernel
theorem dX5_init_47 : decode cX5_init 47 = .ok (.newarray .int, 2) := by decide +kernel
theorem dX5_init_49 : decode cX5_init 49 = .ok (.putfield 27, 3) := by decide +kernel
theorem dX5_init_52 : decode cX5_init 52 = .ok (.aload_n 0, 1) := by decide +kernel
theorem dX5_init_53 : decode cX5_init 53 = .ok (.bipush 6, 2) := by decide +kernel
theorem dX5_init_55 : decode cX5_init 55 = .ok (.newarray .int, 2) := by decide +kernel
theorem dX5_init_57 : decode cX5_init 57 = .ok (.putfield 30, 3) := by decide +kernel
theorem dX5_init_60 : decode cX5_init 60 = .ok (.aload_n 0, 1) := by decide +kernel
theorem dX5_init_61 : decode cX5_init 61 = .ok (.iconst 5, 1) := by decide +kernel
theorem dX5_init_62 : decode cX5_init 62 = .ok (.newarray .int, 2) := by decide +kernel
theorem dX5_init_64 : decode cX5_init 64 = .ok (.putfield 33, 3) := by decide +kernel
theorem dX5_init_67 : decode cX5_init 67 = .ok (.aload_n 0, 1) := by decide +kernel
theorem dX5_init_68 : decode cX5_init 68 = .ok (.iconst 5, 1) := by decide +kernel
theorem dX5_init_69 : decode cX5_init 69 = .ok (.newarray .int, 2) := by decide +kernel
theorem dX5_init_71 : decode cX5_init 71 = .ok (.putfield 36, 3) := by decide +kernel
theorem dX5_init_74 : decode cX5_init 74 = .ok (.aload_n 0, 1) := by decide +kernel
theorem dX5_init_75 : decode cX5_init 75 = .ok (.iconst 5, 1) := by decide +kernel
theorem dX5_init_76 : decode cX5_init 76 = .ok (.newarray .int, 2) := by decide +kernel
theorem dX5_init_78 : decode cX5_init 78 = .ok (.putfield 39, 3) := by decide +kernel
theorem dX5_init_81 : decode cX5_init 81 = .ok (.aload_n 0, 1) := by decide +kernel
theorem dX5_init_82 : decode cX5_init 82 = .ok (.new 42, 3) := by decide +kernel
theorem dX5_init_85 : decode cX5_init 85 = .ok (.dup, 1) := by decide +kernel
theorem dX5_init_86 : decode cX5_init 86 = .ok (.invokespecial 44, 3) := by decide +kernel
theorem dX5_init_89 : decode cX5_init 89 = .ok (.putfield 45, 3) := by decide +kernel
theorem dX5_init_92 : decode cX5_init 92 = .ok (.aload_n 0, 1) := by decide +kernel
theorem dX5_init_93 : decode cX5_init 93 = .ok (.new 42, 3) := by decide +kernel
theorem dX5_init_96 : decode cX5_init 96 = .ok (.dup, 1) := by decide +kernel
theorem dX5_init_97 : decode cX5_init 97 = .ok (.invokespecial 44, 3) := by decide +kernel
theorem dX5_init_100 : decode cX5_init 100 = .ok (.putfield 49, 3) := by decide +kernel
theorem dX5_init_103 : decode cX5_init 103 = .ok (.return_, 1) := by decide +kernel
set_option maxHeartbeats 4000000 in
set_option maxRecDepth 100000 in
def wp_X5_init (sh : Shp) (v0 : Nat) (Q : Shp → Mem → Prop) (m : Mem) : Prop :=
  bnd (sh ++ [(100, 36)]) (fun sh1 => bnd (nw m sh.length) (fun m2 => Ob sh1 v0 5 ∧ bnd (sR m2 v0 5 (some sh.length)) (fun m5 => bnd (sh1 ++ [(100, 36)]) (fun sh6 => bnd (nw m5 sh1.length) (fun m7 => Ob sh6 v0 5 ∧ bnd (sR m7 v0 6 (some sh1.length)) (fun m10 => bnd (sh6 ++ [(100, 36)]) (fun sh11 => bnd (nw m10 sh6.length) (fun m12 => Ob sh11 v0 5 ∧ bnd (sR m12 v0 7 (some sh6.length)) (fun m15 => bnd (sh11 ++ [(100, 6)]) (fun sh16 => bnd (nw m15 sh11.length) (fun m17 => Ob sh16 v0 5 ∧ bnd (sR m17 v0 8 (some sh11.length)) (fun m20 => bnd (sh16 ++ [(100, 6)]) (fun sh21 => bnd (nw m20 sh16.length) (fun m22 => Ob sh21 v0 5 ∧ bnd (sR m22 v0 9 (some sh16.length)) (fun m25 => bnd (sh21 ++ [(100, 6)]) (fun sh26 => bnd (nw m25 sh21.length) (fun m27 => Ob sh26 v0 5 ∧ bnd (sR m27 v0 10 (some sh21.length)) (fun m30 => bnd (sh26 ++ [(100, 6)]) (fun sh31 => bnd (nw m30 sh26.length) (fun m32 => Ob sh31 v0 5 ∧ bnd (sR m32 v0 11 (some sh26.length)) (fun m35 => bnd (sh31 ++ [(100, 5)]) (fun sh36 => bnd (nw m35 sh31.length) (fun m37 => Ob sh36 v0 5 ∧ bnd (sR m37 v0 12 (some sh31.length)) (fun m40 => bnd (sh36 ++ [(100, 5)]) (fun sh41 => bnd (nw m40 sh36.length) (fun m42 => Ob sh41 v0 5 ∧ bnd (sR m42 v0 13 (some sh36.length)) (fun m45 => bnd (sh41 ++ [(100, 5)]) (fun sh46 => bnd (nw m45 sh41.length) (fun m47 => Ob sh46 v0 5 ∧ bnd (sR m47 v0 14 (some sh41.length)) (fun m50 => bnd (sh46 ++ [(0, 3)]) (fun sh51 => bnd (nw m50 sh46.length) (fun m52 => wp_X0_init sh51 sh46.length (fun sh54 m55 => Ob sh54 v0 5 ∧ bnd (sR m55 v0 15 (some sh46.length)) (fun m58 => bnd (sh54 ++ [(0, 3)]) (fun sh59 => bnd (nw m58 sh54.length) (fun m60 => wp_X0_init sh59 sh54.length (fun sh62 m63 => Ob sh62 v0 5 ∧ bnd (sR m63 v0 16 (some sh54.length)) (fun m66 => Q sh62 m66)) m60)))) m52))))))))))))))))))))))))))))))))
set_option maxHeartbeats 4000000 in
set_option maxRecDepth 100000 in
theorem c_X5_init {l : Launch} {G : Gl} {sh : Shp} {v0 : Nat} {Q : Shp → Mem → Prop} {m : Mem} (h : wp_X5_init sh v0 Q m) : CnA l G yX5_init cX5_init 1 2 80 16 3481 sh [.ref (G.1 + v0)] m Q := by
  refine con_A (ls := [(0, .ref (G.1 + v0))]) (by decide +kernel) rfl (Nat.le_of_ble_eq_true rfl) (fun F => ?_)
  show V G F (cX5_init, 1, RX5, none, "<init>", 2, 80, 16, 3481) sh 0 0 (Za G F sh 16 3481 Q) 0 [(0, .ref (G.1 + v0))] [] m
  unfold wp_X5_init at h
  refine v_aload_n 0 0 dX5_init_0 rfl rfl ?_
  refine v_oinit mo_RX5_3 (Nat.le_of_ble_eq_true rfl) (Nat.le_of_ble_eq_true rfl) (Nat.le_of_ble_eq_true rfl) dX5_init_1 ?_
  refine v_aload_n 0 0 dX5_init_4 rfl rfl ?_
  refine v_bipush (36 : Int32) dX5_init_5 (by decide) ?_
  refine g_newa (atype := .int) (ty := .int) (N := 36) 100 rfl rfl (by decide) (a0c_100 _) (fun _ _ h => h) aw_100 (by decide) (by decide +kernel) (Nat.le_of_ble_eq_true rfl) (Nat.le_of_ble_eq_true rfl) (Nat.le_of_ble_eq_true rfl) dX5_init_7 h ?_
  clear h
  intro sh1 m2 h hl3
  obtain ⟨o4, h⟩ := h
  refine g_qR 5 5 dX5_init_9 fw_RX5_9 o4 rfl (fun _ => rfl) (fun _ => rfl) h ?_
  clear h
  intro m5 h
  refine v_aload_n 0 0 dX5_init_12 rfl rfl ?_
  refine v_bipush (36 : Int32) dX5_init_13 (by decide) ?_
  refine g_newa (atype := .int) (ty := .int) (N := 36) 100 rfl rfl (by decide) (a0c_100 _) (fun _ _ h => h) aw_100 (by decide) (by decide +kernel) (Nat.le_of_ble_eq_true rfl) (Nat.le_of_ble_eq_true rfl) (Nat.le_of_ble_eq_true rfl) dX5_init_15 h ?_
  clear h
  intro sh6 m7 h hl8
  obtain ⟨o9, h⟩ := h
  refine g_qR 5 6 dX5_init_17 fw_RX5_15 o9 rfl (fun _ => rfl) (fun _ => rfl) h ?_
  clear h
  intro m10 h
  refine v_aload_n 0 0 dX5_init_20 rfl rfl ?_
  refine v_bipush (36 : Int32) dX5_init_21 (by decide) ?_
  refine g_newa (atype := .int) (ty := .int) (N := 36) 100 rfl rfl (by decide) (a0c_100 _) (fun _ _ h => h) aw_100 (by decide) (by decide +kernel) (Nat.le_of_ble_eq_true rfl) (Nat.le_of_ble_eq_true rfl) (Nat.le_of_ble_eq_true rfl) dX5_init_23 h ?_
  clear h
  intro sh11 m12 h hl13
  obtain ⟨o14, h⟩ := h
  refine g_qR 5 7 dX5_init_25 fw_RX5_18 o14 rfl (fun _ => rfl) (fun _ => rfl) h ?_
  clear h
  intro m15 h
  refine v_aload_n 0 0 dX5_init_28 rfl rfl ?_
  refine v_bipush (6 : Int32) dX5_init_29 (by decide) ?_
  refine g_newa (atype := .int) (ty := .int) (N := 6) 100 rfl rfl (by decide) (a0c_100 _) (fun _ _ h => h) aw_100 (by decide) (by decide +kernel) (Nat.le_of_ble_eq_true rfl) (Nat.le_of_ble_eq_true rfl) (Nat.le_of_ble_eq_true rfl) dX5_init_31 h ?_
  clear h
  intro sh16 m17 h hl18
  obtain ⟨o19, h⟩ := h
  refine g_qR 5 8 dX5_init_33 fw_RX5_21 o19 rfl (fun _ => rfl) (fun _ => rfl) h ?_
  clear h
  intro m20 h
  refine v_aload_n 0 0 dX5_init_36 rfl rfl ?_
  refine v_bipush (6 : Int32) dX5_init_37 (by decide) ?_
  refine g_newa (atype := .int) (ty := .int) (N := 6) 100 rfl rfl (by decide) (a0c_100 _) (fun _ _ h => h) aw_100 (by decide) (by decide +kernel) (Nat.le_of_ble_eq_true rfl) (Nat.le_of_ble_eq_true rfl) (Nat.le_of_ble_eq_true rfl) dX5_init_39 h ?_
  clear h
  intro sh21 m22 h hl23
  obtain ⟨o24, h⟩ := h
  refine g_qR 5 9 dX5_init_41 fw_RX5_24 o24 rfl (fun _ => rfl) (fun _ => rfl) h ?_
  clear h
  intro m25 h
  refine v_aload_n 0 0 dX5_init_44 rfl rfl ?_
  refine v_bipush (6 : Int32) dX5_init_45 (by decide) ?_
  refine g_newa (atype := .int) (ty := .int) (N := 6) 100 rfl rfl (by decide) (a0c_100 _) (fun _ _ h => h) aw_100 (by decide) (by decide +kernel) (Nat.le_of_ble_eq_true rfl) (Nat.le_of_ble_eq_true rfl) (Nat.le_of_ble_eq_true rfl) dX5_init_47 h ?_
  clear h
  intro sh26 m27 h hl28
  obtain ⟨o29, h⟩ := h
  refine g_qR 5 10 dX5_init_49 fw_RX5_27 o29 rfl (fun _ => rfl) (fun _ => rfl) h ?_
  clear h
  intro m30 h
  refine v_aload_n 0 0 dX5_init_52 rfl rfl ?_
  refine v_bipush (6 : Int32) dX5_init_53 (by decide) ?_
  refine g_newa (atype := .int) (ty := .int) (N := 6) 100 rfl rfl (by decide) (a0c_100 _) (fun _ _ h => h) aw_100 (by decide) (by decide +kernel) (Nat.le_of_ble_eq_true rfl) (Nat.le_of_ble_eq_true rfl) (Nat.le_of_ble_eq_true rfl) dX5_init_55 h ?_
  clear h
  intro sh31 m32 h hl33
  obtain ⟨o34, h⟩ := h
  refine g_qR 5 11 dX5_init_57 fw_RX5_30 o34 rfl (fun _ => rfl) (fun _ => rfl) h ?_
  clear h
  intro m35 h
  refine v_aload_n 0 0 dX5_init_60 rfl rfl ?_
  refine v_iconst (5 : Int32) dX5_init_61 (by decide) ?_
  refine g_newa (atype := .int) (ty := .int) (N := 5) 100 rfl rfl (by decide) (a0c_100 _) (fun _ _ h => h) aw_100 (by decide) (by decide +kernel) (Nat.le_of_ble_eq_true rfl) (Nat.le_of_ble_eq_true rfl) (Nat.le_of_ble_eq_true rfl) dX5_init_62 h ?_
  clear h
  intro sh36 m37 h hl38
  obtain ⟨o39, h⟩ := h
  refine g_qR 5 12 dX5_init_64 fw_RX5_33 o39 rfl (fun _ => rfl) (fun _ => rfl) h ?_
  clear h
  intro m40 h
  refine v_aload_n 0 0 dX5_init_67 rfl rfl ?_
  refine v_iconst (5 : Int32) dX5_init_68 (by decide) ?_
  refine g_newa (atype := .int) (ty := .int) (N := 5) 100 rfl rfl (by decide) (a0c_100 _) (fun _ _ h => h) aw_100 (by decide) (by decide +kernel) (Nat.le_of_ble_eq_true rfl) (Nat.le_of_ble_eq_true rfl) (Nat.le_of_ble_eq_true rfl) dX5_init_69 h ?_
  clear h
  intro sh41 m42 h hl43
  obtain ⟨o44, h⟩ := h
  refine g_qR 5 13 dX5_init_71 fw_RX5_36 o44 rfl (fun _ => rfl) (fun _ => rfl) h ?_
  clear h
  intro m45 h
  refine v_aload_n 0 0 dX5_init_74 rfl rfl ?_
  refine v_iconst (5 : Int32) dX5_init_75 (by decide) ?_
  refine g_newa (atype := .int) (ty := .int) (N := 5) 100 rfl rfl (by decide) (a0c_100 _) (fun _ _ h => h) aw_100 (by decide) (by decide +kernel) (Nat.le_of_ble_eq_true rfl) (Nat.le_of_ble_eq_true rfl) (Nat.le_of_ble_eq_true rfl) dX5_init_76 h ?_
  clear h
  intro sh46 m47 h hl48
  obtain ⟨o49, h⟩ := h
  refine g_qR 5 14 dX5_init_78 fw_RX5_39 o49 rfl (fun _ => rfl) (fun _ => rfl) h ?_
  clear h
  intro m50 h
  refine v_aload_n 0 0 dX5_init_81 rfl rfl ?_
  refine g_new ci_0 dv_0 cl_RX5_42 in_0 it_0 (Nat.le_of_ble_eq_true rfl) (Nat.le_of_ble_eq_true rfl) dX5_init_82 h ?_
  clear h
  intro sh51 m52 h hl53
  refine v_dup dX5_init_85 rfl ?_
  refine v_cI [] mi_X0_init (Or.inr (List.mem_of_getElem? (i := 3) rfl)) rfl rfl (Nat.le_of_ble_eq_true rfl) (Nat.le_of_ble_eq_true rfl) (Nat.le_of_ble_eq_true rfl) (Nat.le_of_ble_eq_true rfl) (Nat.le_of_ble_eq_true rfl) dX5_init_86 (c_X0_init h) ?_
  clear h
  intro c4 c5 sh54 m55 h hl56
  obtain ⟨o57, h⟩ := h
  refine g_qR 5 15 dX5_init_89 fw_RX5_45 o57 rfl (fun _ => rfl) (fun _ => rfl) h ?_
  clear h
  intro m58 h
  refine v_aload_n 0 0 dX5_init_92 rfl rfl ?_
  refine g_new ci_0 dv_0 cl_RX5_42 in_0 it_0 (Nat.le_of_ble_eq_true rfl) (Nat.le_of_ble_eq_true rfl) dX5_init_93 h ?_
  clear h
  intro sh59 m60 h hl61
  refine v_dup dX5_init_96 rfl ?_
  refine v_cI [] mi_X0_init (Or.inr (List.mem_of_getElem? (i := 3) rfl)) rfl rfl (Nat.le_of_ble_eq_true rfl) (Nat.le_of_ble_eq_true rfl) (Nat.le_of_ble_eq_true rfl) (Nat.le_of_ble_eq_true rfl) (Nat.le_of_ble_eq_true rfl) dX5_init_97 (c_X0_init h) ?_
  clear h
  intro c4 c5 sh62 m63 h hl64
  rw [up_up]
  obtain ⟨o65, h⟩ := h
  refine g_qR 5 16 dX5_init_100 fw_RX5_49 o65 rfl (fun _ => rfl) (fun _ => rfl) h ?_
  clear h
  intro m66 h
  exact v_cret dX5_init_103 rfl (by omega) (Nat.le_of_ble_eq_true rfl) (Nat.le_of_ble_eq_true rfl) h
/-! CalledRiver$PlainReader constructor -/
theorem dX6_init_0 : decode cX6_init 0 = .ok (.aload_n 0, 1) := by decide +kernel
theorem dX6_init_1 : decode cX6_init 1 = .ok (.invokespecial 3, 3) := by decide +kernel
theorem dX6_init_4 : decode cX6_init 4 = .ok (.aload_n 0, 1) := by decide +kernel
theorem dX6_init_5 : decode cX6_init 5 = .ok (.aload_n 1, 1) := by decide +kernel
theorem dX6_init_6 : decode cX6_init 6 = .ok (.putfield 9, 3) := by decide +kernel
theorem dX6_init_9 : decode cX6_init 9 = .ok (.aload_n 0, 1) := by decide +kernel
theorem dX6_init_10 : decode cX6_init 10 = .ok (.aload_n 2, 1) := by decide +kernel
theorem dX6_init_11 : decode cX6_init 11 = .ok (.putfield 15, 3) := by decide +kernel
theorem dX6_init_14 : decode cX6_init 14 = .ok (.aload_n 0, 1) := by decide +kernel
theorem dX6_init_15 : decode cX6_init 15 = .ok (.aload_n 3, 1) := by decide +kernel
theorem dX6_init_16 : decode cX6_init 16 = .ok (.putfield 19, 3) := by decide +kernel
theorem dX6_init_19 : decode cX6_init 19 = .ok (.return_, 1) := by decide +kernel
set_option maxHeartbeats 4000000 in
set_option maxRecDepth 100000 in
def wp_X6_init (sh : Shp) (v0 : Nat) (v1 : Nat) (v2 : Nat) (v3 : Nat) (Q : Shp → Mem → Prop) (m : Mem) : Prop :=
  Ob sh v0 6 ∧ bnd (sR m v0 0 (some v1)) (fun m2 => Ob sh v0 6 ∧ bnd (sR m2 v0 1 (some v2)) (fun m4 => Ob sh v0 6 ∧ bnd (sR m4 v0 2 (some v3)) (fun m6 => Q sh m6)))
set_option maxHeartbeats 4000000 in
set_option maxRecDepth 100000 in
theorem c_X6_init {l : Launch} {G : Gl} {sh : Shp} {v0 : Nat} {v1 : Nat} {v2 : Nat} {v3 : Nat} {Q : Shp → Mem → Prop} {m : Mem} (h : wp_X6_init sh v0 v1 v2 v3 Q m) : CnA l G yX6_init cX6_init 4 1 60 0 0 sh [.ref (G.1 + v0), .ref (G.1 + v1), .ref (G.1 + v2), .ref (G.1 + v3)] m Q := by
  refine con_A (ls := [(0, .ref (G.1 + v0)), (1, .ref (G.1 + v1)), (2, .ref (G.1 + v2)), (3, .ref (G.1 + v3))]) (by decide +kernel) rfl (Nat.le_of_ble_eq_true rfl) (fun F => ?_)
  show V G F (cX6_init, 4, RX6, none, "<init>", 1, 60, 0, 0) sh 0 0 (Za G F sh 0 0 Q) 0 [(0, .ref (G.1 + v0)), (1, .ref (G.1 + v1)), (2, .ref (G.1 + v2)), (3, .ref (G.1 + v3))] [] m
  unfold wp_X6_init at h
  refine v_aload_n 0 0 dX6_init_0 rfl rfl ?_
  refine v_oinit mo_RX6_3 (Nat.le_of_ble_eq_true rfl) (Nat.le_of_ble_eq_true rfl) (Nat.le_of_ble_eq_true rfl) dX6_init_1 ?_
  refine v_aload_n 0 0 dX6_init_4 rfl rfl ?_
  refine v_aload_n 1 1 dX6_init_5 rfl rfl ?_
  obtain ⟨o1, h⟩ := h
  refine g_qR 6 0 dX6_init_6 fw_RX6_9 o1 rfl (fun _ => rfl) (fun _ => rfl) h ?_
  clear h
  intro m2 h
  refine v_aload_n 0 0 dX6_init_9 rfl rfl ?_
  refine v_aload_n 2 2 dX6_init_10 rfl rfl ?_
  obtain ⟨o3, h⟩ := h
  refine g_qR 6 1 dX6_init_11 fw_RX6_15 o3 rfl (fun _ => rfl) (fun _ => rfl) h ?_
  clear h
  intro m4 h
  refine v_aload_n 0 0 dX6_init_14 rfl rfl ?_
  refine v_aload_n 3 3 dX6_init_15 rfl rfl ?_
  obtain ⟨o5, h⟩ := h
  refine g_pR 6 2 dX6_init_16 fw_RX6_19 o5 (fun _ => rfl) (fun _ => rfl) h ?_
  clear h
  intro m6 h
  exact v_cret0 dX6_init_19 rfl rfl (Nat.le_of_ble_eq_true rfl) (Nat.le_of_ble_eq_true rfl) h
/-! CalledRiver$Sight constructor -/
theorem dX7_init_0 : decode cX7_init 0 = .ok (.aload_n 0, 1) := by decide +kernel
theorem dX7_init_1 : decode cX7_init 1 = .ok (.invokespecial 3, 3) := by decide +kernel
theorem dX7_init_4 : decode cX7_init 4 = .ok (.aload_n 0, 1) := by decide +kernel
theorem dX7_init_5 : decode cX7_init 5 = .ok (.bipush 16, 2) := by decide +kernel
theorem dX7_init_7 : decode cX7_init 7 = .ok (.newarray .int, 2) := by decide +kernel
theorem dX7_init_9 : decode cX7_init 9 = .ok (.putfield 9, 3) := by decide +kernel
theorem dX7_init_12 : decode cX7_init 12 = .ok (.aload_n 0, 1) := by decide +kernel
theorem dX7_init_13 : decode cX7_init 13 = .ok (.bipush 16, 2) := by decide +kernel
theorem dX7_init_15 : decode cX7_init 15 = .ok (.newarray .int, 2) := by decide +kernel
theorem dX7_init_17 : decode cX7_init 17 = .ok (.putfield 15, 3) := by decide +kernel
theorem dX7_init_20 : decode cX7_init 20 = .ok (.return_, 1) := by decide +kernel
set_option maxHeartbeats 4000000 in
set_option maxRecDepth 100000 in
def wp_X7_init (sh : Shp) (v0 : Nat) (Q : Shp → Mem → Prop) (m : Mem) : Prop :=
  bnd (sh ++ [(100, 16)]) (fun sh1 => bnd (nw m sh.length) (fun m2 => Ob sh1 v0 7 ∧ bnd (sR m2 v0 1 (some sh.length)) (fun m5 => bnd (sh1 ++ [(100, 16)]) (fun sh6 => bnd (nw m5 sh1.length) (fun m7 => Ob sh6 v0 7 ∧ bnd (sR m7 v0 2 (some sh1.length)) (fun m10 => Q sh6 m10))))))
set_option maxHeartbeats 4000000 in
set_option maxRecDepth 100000 in
theorem c_X7_init {l : Launch} {G : Gl} {sh : Shp} {v0 : Nat} {Q : Shp → Mem → Prop} {m : Mem} (h : wp_X7_init sh v0 Q m) : CnA l G yX7_init cX7_init 1 1 60 2 32 sh [.ref (G.1 + v0)] m Q := by
  refine con_A (ls := [(0, .ref (G.1 + v0))]) (by decide +kernel) rfl (Nat.le_of_ble_eq_true rfl) (fun F => ?_)
  show V G F (cX7_init, 1, RX7, none, "<init>", 1, 60, 2, 32) sh 0 0 (Za G F sh 2 32 Q) 0 [(0, .ref (G.1 + v0))] [] m
  unfold wp_X7_init at h
  refine v_aload_n 0 0 dX7_init_0 rfl rfl ?_
  refine v_oinit mo_RX7_3 (Nat.le_of_ble_eq_true rfl) (Nat.le_of_ble_eq_true rfl) (Nat.le_of_ble_eq_true rfl) dX7_init_1 ?_
  refine v_aload_n 0 0 dX7_init_4 rfl rfl ?_
  refine v_bipush (16 : Int32) dX7_init_5 (by decide) ?_
  refine g_newa (atype := .int) (ty := .int) (N := 16) 100 rfl rfl (by decide) (a0c_100 _) (fun _ _ h => h) aw_100 (by decide) (by decide +kernel) (Nat.le_of_ble_eq_true rfl) (Nat.le_of_ble_eq_true rfl) (Nat.le_of_ble_eq_true rfl) dX7_init_7 h ?_
  clear h
  intro sh1 m2 h hl3
  obtain ⟨o4, h⟩ := h
  refine g_qR 7 1 dX7_init_9 fw_RX7_9 o4 rfl (fun _ => rfl) (fun _ => rfl) h ?_
  clear h
  intro m5 h
  refine v_aload_n 0 0 dX7_init_12 rfl rfl ?_
  refine v_bipush (16 : Int32) dX7_init_13 (by decide) ?_
  refine g_newa (atype := .int) (ty := .int) (N := 16) 100 rfl rfl (by decide) (a0c_100 _) (fun _ _ h => h) aw_100 (by decide) (by decide +kernel) (Nat.le_of_ble_eq_true rfl) (Nat.le_of_ble_eq_true rfl) (Nat.le_of_ble_eq_true rfl) dX7_init_15 h ?_
  clear h
  intro sh6 m7 h hl8
  obtain ⟨o9, h⟩ := h
  refine g_qR 7 2 dX7_init_17 fw_RX7_15 o9 rfl (fun _ => rfl) (fun _ => rfl) h ?_
  clear h
  intro m10 h
  exact v_cret0 dX7_init_20 rfl (by omega) (Nat.le_of_ble_eq_true rfl) (Nat.le_of_ble_eq_true rfl) h
/-! CalledRiver$SumReader constructor -/
theorem dX8_init_0 : decode cX8_init 0 = .ok (.aload_n 0, 1) := by decide +kernel
theorem dX8_init_1 : decode cX8_init 1 = .ok (.invokespecial 3, 3) := by decide +kernel
theorem dX8_init_4 : decode cX8_init 4 = .ok (.aload_n 0, 1) := by decide +kernel
theorem dX8_init_5 : decode cX8_init 5 = .ok (.aload_n 1, 1) := by decide +kernel
theorem dX8_init_6 : decode cX8_init 6 = .ok (.putfield 9, 3) := by decide +kernel
theorem dX8_init_9 : decode cX8_init 9 = .ok (.aload_n 0, 1) := by decide +kernel
theorem dX8_init_10 : decode cX8_init 10 = .ok (.aload_n 2, 1) := by decide +kernel
theorem dX8_init_11 : decode cX8_init 11 = .ok (.putfield 15, 3) := by decide +kernel
theorem dX8_init_14 : decode cX8_init 14 = .ok (.return_, 1) := by decide +kernel
set_option maxHeartbeats 4000000 in
set_option maxRecDepth 100000 in
def wp_X8_init (sh : Shp) (v0 : Nat) (v1 : Nat) (v2 : Nat) (Q : Shp → Mem → Prop) (m : Mem) : Prop :=
  Ob sh v0 8 ∧ bnd (sR m v0 0 (some v1)) (fun m2 => Ob sh v0 8 ∧ bnd (sR m2 v0 1 (some v2)) (fun m4 => Q sh m4))
set_option maxHeartbeats 4000000 in
set_option maxRecDepth 100000 in
theorem c_X8_init {l : Launch} {G : Gl} {sh : Shp} {v0 : Nat} {v1 : Nat} {v2 : Nat} {Q : Shp → Mem → Prop} {m : Mem} (h : wp_X8_init sh v0 v1 v2 Q m) : CnA l G yX8_init cX8_init 3 1 60 0 0 sh [.ref (G.1 + v0), .ref (G.1 + v1), .ref (G.1 + v2)] m Q := by
  refine con_A (ls := [(0, .ref (G.1 + v0)), (1, .ref (G.1 + v1)), (2, .ref (G.1 + v2))]) (by decide +kernel) rfl (Nat.le_of_ble_eq_true rfl) (fun F => ?_)
  show V G F (cX8_init, 3, RX8, none, "<init>", 1, 60, 0, 0) sh 0 0 (Za G F sh 0 0 Q) 0 [(0, .ref (G.1 + v0)), (1, .ref (G.1 + v1)), (2, .ref (G.1 + v2))] [] m
  unfold wp_X8_init at h
  refine v_aload_n 0 0 dX8_init_0 rfl rfl ?_
  refine v_oinit mo_RX8_3 (Nat.le_of_ble_eq_true rfl) (Nat.le_of_ble_eq_true rfl) (Nat.le_of_ble_eq_true rfl) dX8_init_1 ?_
  refine v_aload_n 0 0 dX8_init_4 rfl rfl ?_
  refine v_aload_n 1 1 dX8_init_5 rfl rfl ?_
  obtain ⟨o1, h⟩ := h
  refine g_qR 8 0 dX8_init_6 fw_RX8_9 o1 rfl (fun _ => rfl) (fun _ => rfl) h ?_
  clear h
  intro m2 h
  refine v_aload_n 0 0 dX8_init_9 rfl rfl ?_
  refine v_aload_n 2 2 dX8_init_10 rfl rfl ?_
  obtain ⟨o3, h⟩ := h
  refine g_pR 8 1 dX8_init_11 fw_RX8_15 o3 (fun _ => rfl) (fun _ => rfl) h ?_
  clear h
  intro m4 h
  exact v_cret0 dX8_init_14 rfl rfl (Nat.le_of_ble_eq_true rfl) (Nat.le_of_ble_eq_true rfl) h
/-! CalledRiver$Tape constructor -/
theorem dX9_init_0 : decode cX9_init 0 = .ok (.aload_n 0, 1) := by decide +kernel
theorem dX9_init_1 : decode cX9_init 1 = .ok (.invokespecial 3, 3) := by decide +kernel
theorem dX9_init_4 : decode cX9_init 4 = .ok (.aload_n 0, 1) := by decide +kernel
theorem dX9_init_5 : decode cX9_init 5 = .ok (.sipush 1600, 3) := by decide +kernel
theorem dX9_init_8 : decode cX9_init 8 = .ok (.newarray .int, 2) := by decide +kernel
theorem dX9_init_10 : decode cX9_init 10 = .ok (.putfield 9, 3) := by decide +kernel
theorem dX9_init_13 : decode cX9_init 13 = .ok (.aload_n 0, 1) := by decide +kernel
theorem dX9_init_14 : decode cX9_init 14 = .ok (.iconst (-1), 1) := by decide +kernel
theorem dX9_init_15 : decode cX9_init 15 = .ok (.putfield 15, 3) := by decide +kernel
theorem dX9_init_18 : decode cX9_init 18 = .ok (.return_, 1) := by decide +kernel
set_option maxHeartbeats 4000000 in
set_option maxRecDepth 100000 in
def wp_X9_init (sh : Shp) (v0 : Nat) (Q : Shp → Mem → Prop) (m : Mem) : Prop :=
  bnd (sh ++ [(100, 1600)]) (fun sh1 => bnd (nw m sh.length) (fun m2 => Ob sh1 v0 9 ∧ bnd (sR m2 v0 0 (some sh.length)) (fun m5 => Ob sh1 v0 9 ∧ bnd (sI m5 v0 6 (-1 : Int32)) (fun m7 => Q sh1 m7))))
set_option maxHeartbeats 4000000 in
set_option maxRecDepth 100000 in
theorem c_X9_init {l : Launch} {G : Gl} {sh : Shp} {v0 : Nat} {Q : Shp → Mem → Prop} {m : Mem} (h : wp_X9_init sh v0 Q m) : CnA l G yX9_init cX9_init 1 1 60 1 1600 sh [.ref (G.1 + v0)] m Q := by
  refine con_A (ls := [(0, .ref (G.1 + v0))]) (by decide +kernel) rfl (Nat.le_of_ble_eq_true rfl) (fun F => ?_)
  show V G F (cX9_init, 1, RX9, none, "<init>", 1, 60, 1, 1600) sh 0 0 (Za G F sh 1 1600 Q) 0 [(0, .ref (G.1 + v0))] [] m
  unfold wp_X9_init at h
  refine v_aload_n 0 0 dX9_init_0 rfl rfl ?_
  refine v_oinit mo_RX9_3 (Nat.le_of_ble_eq_true rfl) (Nat.le_of_ble_eq_true rfl) (Nat.le_of_ble_eq_true rfl) dX9_init_1 ?_
  refine v_aload_n 0 0 dX9_init_4 rfl rfl ?_
  refine v_sipush (1600 : Int32) dX9_init_5 (by decide) ?_
  refine g_newa (atype := .int) (ty := .int) (N := 1600) 100 rfl rfl (by decide) (a0c_100 _) (fun _ _ h => h) aw_100 (by decide) (by decide +kernel) (Nat.le_of_ble_eq_true rfl) (Nat.le_of_ble_eq_true rfl) (Nat.le_of_ble_eq_true rfl) dX9_init_8 h ?_
  clear h
  intro sh1 m2 h hl3
  obtain ⟨o4, h⟩ := h
  refine g_qR 9 0 dX9_init_10 fw_RX9_9 o4 rfl (fun _ => rfl) (fun _ => rfl) h ?_
  clear h
  intro m5 h
  refine v_aload_n 0 0 dX9_init_13 rfl rfl ?_
  refine v_iconst (-1 : Int32) dX9_init_14 (by decide) ?_
  obtain ⟨o6, h⟩ := h
  refine g_pI 9 6 dX9_init_15 fw_RX9_15 o6 h ?_
  clear h
  intro m7 h
  exact v_cret0 dX9_init_18 rfl (by omega) (Nat.le_of_ble_eq_true rfl) (Nat.le_of_ble_eq_true rfl) h
/-! CalledRiver$Way constructor -/
theorem dX10_init_0 : decode cX10_init 0 = .ok (.aload_n 0, 1) := by decide +kernel
theorem dX10_init_1 : decode cX10_init 1 = .ok (.invokespecial 3, 3) := by decide +kernel
theorem dX10_init_4 : decode cX10_init 4 = .ok (.aload_n 0, 1) := by decide +kernel
theorem dX10_init_5 : decode cX10_init 5 = .ok (.bipush 36, 2) := by decide +kernel
theorem dX10_init_7 : decode cX10_init 7 = .ok (.newarray .int, 2) := by decide +kernel
theorem dX10_init_9 : decode cX10_init 9 = .ok (.putfield 9, 3) := by decide +kernel
theorem dX10_init_12 : decode cX10_init 12 = .ok (.aload_n 0, 1) := by decide +kernel
theorem dX10_init_13 : decode cX10_init 13 = .ok (.bipush 36, 2) := by decide +kernel
theorem dX10_init_15 : decode cX10_init 15 = .ok (.newarray .int, 2) := by decide +kernel
theorem dX10_init_17 : decode cX10_init 17 = .ok (.putfield 15, 3) := by decide +kernel
theorem dX10_init_20 : decode cX10_init 20 = .ok (.aload_n 0, 1) := by decide +kernel
theorem dX10_init_21 : decode cX10_init 21 = .ok (.iconst (-1), 1) := by decide +kernel
theorem dX10_init_22 : decode cX10_init 22 = .ok (.putfield 18, 3) := by decide +kernel
theorem dX10_init_25 : decode cX10_init 25 = .ok (.aload_n 0, 1) := by decide +kernel
theorem dX10_init_26 : decode cX10_init 26 = .ok (.bipush 23, 2) := by decide +kernel
theorem dX10_init_28 : decode cX10_init 28 = .ok (.newarray .int, 2) := by decide +kernel
theorem dX10_init_30 : decode cX10_init 30 = .ok (.putfield 22, 3) := by decide +kernel
theorem dX10_init_33 : decode cX10_init 33 = .ok (.aload_n 0, 1) := by decide +kernel
theorem dX10_init_34 : decode cX10_init 34 = .ok (.getfield 15, 3) := by decide +kernel
theorem dX10_init_37 : decode cX10_init 37 = .ok (.iconst (-1), 1) := by decide +kernel
theorem dX10_init_38 : decode cX10_init 38 = .ok (.invokestatic 25, 3) := by decide +kernel
theorem dX10_init_41 : decode cX10_init 41 = .ok (.return_, 1) := by decide +kernel
set_option maxHeartbeats 4000000 in
set_option maxRecDepth 100000 in
def wp_X10_init (sh : Shp) (v0 : Nat) (Q : Shp → Mem → Prop) (m : Mem) : Prop :=
  bnd (sh ++ [(100, 36)]) (fun sh1 => bnd (nw m sh.length) (fun m2 => Ob sh1 v0 10 ∧ bnd (sR m2 v0 0 (some sh.length)) (fun m5 => bnd (sh1 ++ [(100, 36)]) (fun sh6 => bnd (nw m5 sh1.length) (fun m7 => Ob sh6 v0 10 ∧ bnd (sR m7 v0 1 (some sh1.length)) (fun m10 => Ob sh6 v0 10 ∧ bnd (sI m10 v0 2 (-1 : Int32)) (fun m12 => bnd (sh6 ++ [(100, 23)]) (fun sh13 => bnd (nw m12 sh6.length) (fun m14 => Ob sh13 v0 10 ∧ bnd (sR m14 v0 6 (some sh6.length)) (fun m17 => Ob sh13 v0 10 ∧ ∃ b18 : Nat, m17.2.2 v0 1 = some b18 ∧ wp_J7_fill_53178 sh13 b18 (-1 : Int32) (fun m21 => Q sh13 m21) m17))))))))))
set_option maxHeartbeats 4000000 in
set_option maxRecDepth 100000 in
theorem c_X10_init {l : Launch} {G : Gl} {sh : Shp} {v0 : Nat} {Q : Shp → Mem → Prop} {m : Mem} (h : wp_X10_init sh v0 Q m) : CnA l G yX10_init cX10_init 1 2 83 3 95 sh [.ref (G.1 + v0)] m Q := by
  refine con_A (ls := [(0, .ref (G.1 + v0))]) (by decide +kernel) rfl (Nat.le_of_ble_eq_true rfl) (fun F => ?_)
  show V G F (cX10_init, 1, RX10, none, "<init>", 2, 83, 3, 95) sh 0 0 (Za G F sh 3 95 Q) 0 [(0, .ref (G.1 + v0))] [] m
  unfold wp_X10_init at h
  refine v_aload_n 0 0 dX10_init_0 rfl rfl ?_
  refine v_oinit mo_RX10_3 (Nat.le_of_ble_eq_true rfl) (Nat.le_of_ble_eq_true rfl) (Nat.le_of_ble_eq_true rfl) dX10_init_1 ?_
  refine v_aload_n 0 0 dX10_init_4 rfl rfl ?_
  refine v_bipush (36 : Int32) dX10_init_5 (by decide) ?_
  refine g_newa (atype := .int) (ty := .int) (N := 36) 100 rfl rfl (by decide) (a0c_100 _) (fun _ _ h => h) aw_100 (by decide) (by decide +kernel) (Nat.le_of_ble_eq_true rfl) (Nat.le_of_ble_eq_true rfl) (Nat.le_of_ble_eq_true rfl) dX10_init_7 h ?_
  clear h
  intro sh1 m2 h hl3
  obtain ⟨o4, h⟩ := h
  refine g_qR 10 0 dX10_init_9 fw_RX10_9 o4 rfl (fun _ => rfl) (fun _ => rfl) h ?_
  clear h
  intro m5 h
  refine v_aload_n 0 0 dX10_init_12 rfl rfl ?_
  refine v_bipush (36 : Int32) dX10_init_13 (by decide) ?_
  refine g_newa (atype := .int) (ty := .int) (N := 36) 100 rfl rfl (by decide) (a0c_100 _) (fun _ _ h => h) aw_100 (by decide) (by decide +kernel) (Nat.le_of_ble_eq_true rfl) (Nat.le_of_ble_eq_true rfl) (Nat.le_of_ble_eq_true rfl) dX10_init_15 h ?_
  clear h
  intro sh6 m7 h hl8
  obtain ⟨o9, h⟩ := h
  refine g_qR 10 1 dX10_init_17 fw_RX10_15 o9 rfl (fun _ => rfl) (fun _ => rfl) h ?_
  clear h
  intro m10 h
  refine v_aload_n 0 0 dX10_init_20 rfl rfl ?_
  refine v_iconst (-1 : Int32) dX10_init_21 (by decide) ?_
  obtain ⟨o11, h⟩ := h
  refine g_pI 10 2 dX10_init_22 fw_RX10_18 o11 h ?_
  clear h
  intro m12 h
  refine v_aload_n 0 0 dX10_init_25 rfl rfl ?_
  refine v_bipush (23 : Int32) dX10_init_26 (by decide) ?_
  refine g_newa (atype := .int) (ty := .int) (N := 23) 100 rfl rfl (by decide) (a0c_100 _) (fun _ _ h => h) aw_100 (by decide) (by decide +kernel) (Nat.le_of_ble_eq_true rfl) (Nat.le_of_ble_eq_true rfl) (Nat.le_of_ble_eq_true rfl) dX10_init_28 h ?_
  clear h
  intro sh13 m14 h hl15
  obtain ⟨o16, h⟩ := h
  refine g_qR 10 6 dX10_init_30 fw_RX10_22 o16 rfl (fun _ => rfl) (fun _ => rfl) h ?_
  clear h
  intro m17 h
  refine v_aload_n 0 0 dX10_init_33 rfl rfl ?_
  obtain ⟨o20, b18, e19, h⟩ := h
  refine v_gR 10 1 dX10_init_34 fg_RX10_15 o20 e19 ?_
  refine v_iconst (-1 : Int32) dX10_init_37 (by decide) ?_
  refine v_cSv [.ref _, .int _] mv_J7_fill_53178 ml_RX10_25 rfl rfl (Nat.le_of_ble_eq_true rfl) (Nat.le_of_ble_eq_true rfl) (Nat.le_of_ble_eq_true rfl) (Nat.le_of_ble_eq_true rfl) (Nat.le_of_ble_eq_true rfl) dX10_init_38 (c_J7_fill_53178 h) ?_
  clear h
  intro m21 h
  exact v_cret0 dX10_init_41 rfl (by omega) (Nat.le_of_ble_eq_true rfl) (Nat.le_of_ble_eq_true rfl) h
/-! CalledRiver constructor -/
theorem dX11_init_0 : decode cX11_init 0 = .ok (.aload_n 0, 1) := by decide +kernel
theorem dX11_init_1 : decode cX11_init 1 = .ok (.invokespecial 3, 3) := by decide +kernel
theorem dX11_init_4 : decode cX11_init 4 = .ok (.aload_n 0, 1) := by decide +kernel
theorem dX11_init_5 : decode cX11_init 5 = .ok (.new 9, 3) := by decide +kernel
theorem dX11_init_8 : decode cX11_init 8 = .ok (.dup, 1) := by decide +kernel
theorem dX11_init_9 : decode cX11_init 9 = .ok (.invokespecial 11, 3) := by decide +kernel
theorem dX11_init_12 : decode cX11_init 12 = .ok (.putfield 12, 3) := by decide +kernel
theorem dX11_init_15 : decode cX11_init 15 = .ok (.aload_n 0, 1) := by decide +kernel
theorem dX11_init_16 : decode cX11_init 16 = .ok (.new 16, 3) := by decide +kernel
theorem dX11_init_19 : decode cX11_init 19 = .ok (.dup, 1) := by decide +kernel
theorem dX11_init_20 : decode cX11_init 20 = .ok (.invokespecial 18, 3) := by decide +kernel
theorem dX11_init_23 : decode cX11_init 23 = .ok (.putfield 19, 3) := by decide +kernel
theorem dX11_init_26 : decode cX11_init 26 = .ok (.aload_n 0, 1) := by decide +kernel
theorem dX11_init_27 : decode cX11_init 27 = .ok (.new 23, 3) := by decide +kernel
theorem dX11_init_30 : decode cX11_init 30 = .ok (.dup, 1) := by decide +kernel
theorem dX11_init_31 : decode cX11_init 31 = .ok (.aload_n 0, 1) := by decide +kernel
theorem dX11_init_32 : decode cX11_init 32 = .ok (.getfield 12, 3) := by decide +kernel
theorem dX11_init_35 : decode cX11_init 35 = .ok (.aload_n 0, 1) := by decide +kernel
theorem dX11_init_36 : decode cX11_init 36 = .ok (.getfield 19, 3) := by decide +kernel
theorem dX11_init_39 : decode cX11_init 39 = .ok (.invokespecial 25, 3) := by decide +kernel
theorem dX11_init_42 : decode cX11_init 42 = .ok (.putfield 28, 3) := by decide +kernel
theorem dX11_init_45 : decode cX11_init 45 = .ok (.aload_n 0, 1) := by decide +kernel
theorem dX11_init_46 : decode cX11_init 46 = .ok (.new 32, 3) := by decide +kernel
theorem dX11_init_49 : decode cX11_init 49 = .ok (.dup, 1) := by decide +kernel
theorem dX11_init_50 : decode cX11_init 50 = .ok (.invokespecial 34, 3) := by decide +kernel
theorem dX11_init_53 : decode cX11_init 53 = .ok (.putfield 35, 3) := by decide +kernel
theorem dX11_init_56 : decode cX11_init 56 = .ok (.aload_n 0, 1) := by decide +kernel
theorem dX11_init_57 : decode cX11_init 57 = .ok (.new 32, 3) := by decide +kernel
theorem dX11_init_60 : decode cX11_init 60 = .ok (.dup, 1) := by decide +kernel
theorem dX11_init_61 : decode cX11_init 61 = .ok (.invokespecial 34, 3) := by decide +kernel
theorem dX11_init_64 : decode cX11_init 64 = .ok (.putfield 39, 3) := by decide +kernel
theorem dX11_init_67 : decode cX11_init 67 = .ok (.aload_n 0, 1) := by decide +kernel
theorem dX11_init_68 : decode cX11_init 68 = .ok (.new 42, 3) := by decide +kernel
theorem dX11_init_71 : decode cX11_init 71 = .ok (.dup, 1) := by decide +kernel
theorem dX11_init_72 : decode cX11_init 72 = .ok (.aload_n 0, 1) := by decide +kernel
theorem dX11_init_73 : decode cX11_init 73 = .ok (.getfield 12, 3) := by decide +kernel
theorem dX11_init_76 : decode cX11_init 76 = .ok (.aload_n 0, 1) := by decide +kernel
theorem dX11_init_77 : decode cX11_init 77 = .ok (.getfield 28, 3) := by decide +kernel
theorem dX11_init_80 : decode cX11_init 80 = .ok (.aload_n 0, 1) := by decide +kernel
theorem dX11_init_81 : decode cX11_init 81 = .ok (.getfield 39, 3) := by decide +kernel
theorem dX11_init_84 : decode cX11_init 84 = .ok (.invokespecial 44, 3) := by decide +kernel
theorem dX11_init_87 : decode cX11_init 87 = .ok (.putfield 47, 3) := by decide +kernel
theorem dX11_init_90 : decode cX11_init 90 = .ok (.aload_n 0, 1) := by decide +kernel
theorem dX11_init_91 : decode cX11_init 91 = .ok (.new 51, 3) := by decide +kernel
theorem dX11_init_94 : decode cX11_init 94 = .ok (.dup, 1) := by decide +kernel
theorem dX11_init_95 : decode cX11_init 95 = .ok (.invokespecial 53, 3) := by decide +kernel
theorem dX11_init_98 : decode cX11_init 98 = .ok (.putfield 54, 3) := by decide +kernel
theorem dX11_init_101 : decode cX11_init 101 = .ok (.aload_n 0, 1) := by decide +kernel
theorem dX11_init_102 : decode cX11_init 102 = .ok (.new 51, 3) := by decide +kernel
theorem dX11_init_105 : decode cX11_init 105 = .ok (.dup, 1) := by decide +kernel
theorem dX11_init_106 : decode cX11_init 106 = .ok (.invokespecial 53, 3) := by decide +kernel
theorem dX11_init_109 : decode cX11_init 109 = .ok (.putfield 58, 3) := by decide +kernel
theorem dX11_init_112 : decode cX11_init 112 = .ok (.aload_n 0, 1) := by decide +kernel
theorem dX11_init_113 : decode cX11_init 113 = .ok (.new 61, 3) := by decide +kernel
theorem dX11_init_116 : decode cX11_init 116 = .ok (.dup, 1) := by decide +kernel
theorem dX11_init_117 : decode cX11_init 117 = .ok (.invokespecial 63, 3) := by decide +kernel
theorem dX11_init_120 : decode cX11_init 120 = .ok (.putfield 64, 3) := by decide +kernel
theorem dX11_init_123 : decode cX11_init 123 = .ok (.aload_n 0, 1) := by decide +kernel
theorem dX11_init_124 : decode cX11_init 124 = .ok (.new 68, 3) := by decide +kernel
theorem dX11_init_127 : decode cX11_init 127 = .ok (.dup, 1) := by decide +kernel
theorem dX11_init_128 : decode cX11_init 128 = .ok (.invokespecial 70, 3) := by decide +kernel
theorem dX11_init_131 : decode cX11_init 131 = .ok (.putfield 71, 3) := by decide +kernel
theorem dX11_init_134 : decode cX11_init 134 = .ok (.aload_n 0, 1) := by decide +kernel
theorem dX11_init_135 : decode cX11_init 135 = .ok (.new 75, 3) := by decide +kernel
theorem dX11_init_138 : decode cX11_init 138 = .ok (.dup, 1) := by decide +kernel
theorem dX11_init_139 : decode cX11_init 139 = .ok (.invokespecial 77, 3) := by decide +kernel
theorem dX11_init_142 : decode cX11_init 142 = .ok (.putfield 78, 3) := by decide +kernel
theorem dX11_init_145 : decode cX11_init 145 = .ok (.aload_n 0, 1) := by decide +kernel
theorem dX11_init_146 : decode cX11_init 146 = .ok (.iconst 5, 1) := by decide +kernel
theorem dX11_init_147 : decode cX11_init 147 = .ok (.anewarray 82, 3) := by decide +kernel
theorem dX11_init_150 : decode cX11_init 150 = .ok (.putfield 84, 3) := by decide +kernel
theorem dX11_init_153 : decode cX11_init 153 = .ok (.aload_n 0, 1) := by decide +kernel
theorem dX11_init_154 : decode cX11_init 154 = .ok (.new 82, 3) := by decide +kernel
theorem dX11_init_157 : decode cX11_init 157 = .ok (.dup, 1) := by decide +kernel
theorem dX11_init_158 : decode cX11_init 158 = .ok (.invokespecial 88, 3) := by decide +kernel
theorem dX11_init_161 : decode cX11_init 161 = .ok (.putfield 89, 3) := by decide +kernel
theorem dX11_init_164 : decode cX11_init 164 = .ok (.aload_n 0, 1) := by decide +kernel
theorem dX11_init_165 : decode cX11_init 165 = .ok (.new 82, 3) := by decide +kernel
theorem dX11_init_168 : decode cX11_init 168 = .ok (.dup, 1) := by decide +kernel
theorem dX11_init_169 : decode cX11_init 169 = .ok (.invokespecial 88, 3) := by decide +kernel
theorem dX11_init_172 : decode cX11_init 172 = .ok (.putfield 93, 3) := by decide +kernel
theorem dX11_init_175 : decode cX11_init 175 = .ok (.aload_n 0, 1) := by decide +kernel
theorem dX11_init_176 : decode cX11_init 176 = .ok (.bipush 23, 2) := by decide +kernel
theorem dX11_init_178 : decode cX11_init 178 = .ok (.newarray .int, 2) := by decide +kernel
theorem dX11_init_180 : decode cX11_init 180 = .ok (.putfield 96, 3) := by decide +kernel
theorem dX11_init_183 : decode cX11_init 183 = .ok (.aload_n 0, 1) := by decide +kernel
theorem dX11_init_184 : decode cX11_init 184 = .ok (.bipush 64, 2) := by decide +kernel
theorem dX11_init_186 : decode cX11_init 186 = .ok (.newarray .int, 2) := by decide +kernel
theorem dX11_init_188 : decode cX11_init 188 = .ok (.putfield 100, 3) := by decide +kernel
theorem dX11_init_191 : decode cX11_init 191 = .ok (.aload_n 0, 1) := by decide +kernel
theorem dX11_init_192 : decode cX11_init 192 = .ok (.new 103, 3) := by decide +kernel
theorem dX11_init_195 : decode cX11_init 195 = .ok (.dup, 1) := by decide +kernel
theorem dX11_init_196 : decode cX11_init 196 = .ok (.invokespecial 105, 3) := by decide +kernel
theorem dX11_init_199 : decode cX11_init 199 = .ok (.putfield 106, 3) := by decide +kernel
theorem dX11_init_202 : decode cX11_init 202 = .ok (.aload_n 0, 1) := by decide +kernel
theorem dX11_init_203 : decode cX11_init 203 = .ok (.bipush 6, 2) := by decide +kernel
theorem dX11_init_205 : decode cX11_init 205 = .ok (.newarray .int, 2) := by decide +kernel
theorem dX11_init_207 : decode cX11_init 207 = .ok (.putfield 110, 3) := by decide +kernel
theorem dX11_init_210 : decode cX11_init 210 = .ok (.aload_n 0, 1) := by decide +kernel
theorem dX11_init_211 : decode cX11_init 211 = .ok (.lconst 1, 1) := by decide +kernel
theorem dX11_init_212 : decode cX11_init 212 = .ok (.putfield 113, 3) := by decide +kernel
theorem dX11_init_215 : decode cX11_init 215 = .ok (.iconst 0, 1) := by decide +kernel
theorem dX11_init_216 : decode cX11_init 216 = .ok (.istore_n 1, 1) := by decide +kernel
theorem dX11_init_217 : decode cX11_init 217 = .ok (.iload_n 1, 1) := by decide +kernel
theorem dX11_init_218 : decode cX11_init 218 = .ok (.iconst 5, 1) := by decide +kernel
theorem dX11_init_219 : decode cX11_init 219 = .ok (.if_icmp .ge 22, 3) := by decide +kernel
theorem dX11_init_222 : decode cX11_init 222 = .ok (.aload_n 0, 1) := by decide +kernel
theorem dX11_init_223 : decode cX11_init 223 = .ok (.getfield 84, 3) := by decide +kernel
theorem dX11_init_226 : decode cX11_init 226 = .ok (.iload_n 1, 1) := by decide +kernel
theorem dX11_init_227 : decode cX11_init 227 = .ok (.new 82, 3) := by decide +kernel
theorem dX11_init_230 : decode cX11_init 230 = .ok (.dup, 1) := by decide +kernel
theorem dX11_init_231 : decode cX11_init 231 = .ok (.invokespecial 88, 3) := by decide +kernel
theorem dX11_init_234 : decode cX11_init 234 = .ok (.aastore, 1) := by decide +kernel
theorem dX11_init_235 : decode cX11_init 235 = .ok (.iinc 1 1, 3) := by decide +kernel
theorem dX11_init_238 : decode cX11_init 238 = .ok (.goto (-21), 3) := by decide +kernel
theorem dX11_init_241 : decode cX11_init 241 = .ok (.return_, 1) := by decide +kernel
set_option maxHeartbeats 4000000 in
set_option maxRecDepth 100000 in
def wp_X11_init (sh : Shp) (v0 : Nat) (Q : Shp → Mem → Prop) (m : Mem) : Prop :=
  bnd (sh ++ [(9, 7)]) (fun sh1 => bnd (nw m sh.length) (fun m2 => wp_X9_init sh1 sh.length (fun sh4 m5 => Ob sh4 v0 11 ∧ bnd (sR m5 v0 0 (some sh.length)) (fun m8 => bnd (sh4 ++ [(0, 3)]) (fun sh9 => bnd (nw m8 sh4.length) (fun m10 => wp_X0_init sh9 sh4.length (fun sh12 m13 => Ob sh12 v0 11 ∧ bnd (sR m13 v0 1 (some sh4.length)) (fun m16 => bnd (sh12 ++ [(8, 3)]) (fun sh17 => bnd (nw m16 sh12.length) (fun m18 => Ob sh17 v0 11 ∧ ∃ b20 : Nat, m18.2.2 v0 0 = some b20 ∧ Ob sh17 v0 11 ∧ ∃ b23 : Nat, m18.2.2 v0 1 = some b23 ∧ wp_X8_init sh17 sh12.length b20 b23 (fun sh26 m27 => Ob sh26 v0 11 ∧ bnd (sR m27 v0 2 (some sh12.length)) (fun m30 => bnd (sh26 ++ [(5, 17)]) (fun sh31 => bnd (nw m30 sh26.length) (fun m32 => wp_X5_init sh31 sh26.length (fun sh34 m35 => Ob sh34 v0 11 ∧ bnd (sR m35 v0 3 (some sh26.length)) (fun m38 => bnd (sh34 ++ [(5, 17)]) (fun sh39 => bnd (nw m38 sh34.length) (fun m40 => wp_X5_init sh39 sh34.length (fun sh42 m43 => Ob sh42 v0 11 ∧ bnd (sR m43 v0 4 (some sh34.length)) (fun m46 => bnd (sh42 ++ [(6, 4)]) (fun sh47 => bnd (nw m46 sh42.length) (fun m48 => Ob sh47 v0 11 ∧ ∃ b50 : Nat, m48.2.2 v0 0 = some b50 ∧ Ob sh47 v0 11 ∧ ∃ b53 : Nat, m48.2.2 v0 2 = some b53 ∧ Ob sh47 v0 11 ∧ ∃ b56 : Nat, m48.2.2 v0 4 = some b56 ∧ wp_X6_init sh47 sh42.length b50 b53 b56 (fun sh59 m60 => Ob sh59 v0 11 ∧ bnd (sR m60 v0 5 (some sh42.length)) (fun m63 => bnd (sh59 ++ [(1, 6)]) (fun sh64 => bnd (nw m63 sh59.length) (fun m65 => wp_X1_init sh64 sh59.length (fun sh67 m68 => Ob sh67 v0 11 ∧ bnd (sR m68 v0 6 (some sh59.length)) (fun m71 => bnd (sh67 ++ [(1, 6)]) (fun sh72 => bnd (nw m71 sh67.length) (fun m73 => wp_X1_init sh72 sh67.length (fun sh75 m76 => Ob sh75 v0 11 ∧ bnd (sR m76 v0 7 (some sh67.length)) (fun m79 => bnd (sh75 ++ [(3, 6)]) (fun sh80 => bnd (nw m79 sh75.length) (fun m81 => wp_X3_init sh80 sh75.length (fun sh83 m84 => Ob sh83 v0 11 ∧ bnd (sR m84 v0 8 (some sh75.length)) (fun m87 => bnd (sh83 ++ [(2, 4)]) (fun sh88 => bnd (nw m87 sh83.length) (fun m89 => wp_X2_init sh88 sh83.length (fun sh91 m92 => Ob sh91 v0 11 ∧ bnd (sR m92 v0 9 (some sh83.length)) (fun m95 => bnd (sh91 ++ [(7, 3)]) (fun sh96 => bnd (nw m95 sh91.length) (fun m97 => wp_X7_init sh96 sh91.length (fun sh99 m100 => Ob sh99 v0 11 ∧ bnd (sR m100 v0 10 (some sh91.length)) (fun m103 => (∀ q ∈ sh99, q.1 ≠ 104) ∧ bnd (sh99 ++ [(104, 5)]) (fun sh104 => bnd (nw m103 sh99.length) (fun m105 => Ob sh104 v0 11 ∧ bnd (sR m105 v0 11 (some sh99.length)) (fun m108 => bnd (sh104 ++ [(10, 7)]) (fun sh109 => bnd (nw m108 sh104.length) (fun m110 => wp_X10_init sh109 sh104.length (fun sh112 m113 => Ob sh112 v0 11 ∧ bnd (sR m113 v0 12 (some sh104.length)) (fun m116 => bnd (sh112 ++ [(10, 7)]) (fun sh117 => bnd (nw m116 sh112.length) (fun m118 => wp_X10_init sh117 sh112.length (fun sh120 m121 => Ob sh120 v0 11 ∧ bnd (sR m121 v0 13 (some sh112.length)) (fun m124 => bnd (sh120 ++ [(100, 23)]) (fun sh125 => bnd (nw m124 sh120.length) (fun m126 => Ob sh125 v0 11 ∧ bnd (sR m126 v0 14 (some sh120.length)) (fun m129 => bnd (sh125 ++ [(100, 64)]) (fun sh130 => bnd (nw m129 sh125.length) (fun m131 => Ob sh130 v0 11 ∧ bnd (sR m131 v0 15 (some sh125.length)) (fun m134 => bnd (sh130 ++ [(4, 2)]) (fun sh135 => bnd (nw m134 sh130.length) (fun m136 => wp_X4_init sh135 sh130.length (fun sh138 m139 => Ob sh138 v0 11 ∧ bnd (sR m139 v0 16 (some sh130.length)) (fun m142 => bnd (sh138 ++ [(100, 6)]) (fun sh143 => bnd (nw m142 sh138.length) (fun m144 => Ob sh143 v0 11 ∧ bnd (sR m144 v0 17 (some sh138.length)) (fun m147 => Ob sh143 v0 11 ∧ bnd (sL m147 v0 18 (1 : Int64)) (fun m149 => Ob sh143 v0 11 ∧ ∃ b150 : Nat, m149.2.2 v0 11 = some b150 ∧ bnd (sh143 ++ [(10, 7)]) (fun sh153 => bnd (nw m149 sh143.length) (fun m154 => wp_X10_init sh153 sh143.length (fun sh156 m157 => Ix sh156 (b150) 104 (0 : Int32) ∧ (∃ n : Nat, sh156[sh143.length]? = some (10, n)) ∧ bnd (sR m157 (b150) (0 : Int32).toNatClampNeg (some (sh143.length))) (fun m159 => Ob sh156 v0 11 ∧ ∃ b163 : Nat, m159.2.2 v0 11 = some b163 ∧ bnd (sh156 ++ [(10, 7)]) (fun sh166 => bnd (nw m159 sh156.length) (fun m167 => wp_X10_init sh166 sh156.length (fun sh169 m170 => Ix sh169 (b163) 104 (1 : Int32) ∧ (∃ n : Nat, sh169[sh156.length]? = some (10, n)) ∧ bnd (sR m170 (b163) (1 : Int32).toNatClampNeg (some (sh156.length))) (fun m172 => Ob sh169 v0 11 ∧ ∃ b176 : Nat, m172.2.2 v0 11 = some b176 ∧ bnd (sh169 ++ [(10, 7)]) (fun sh179 => bnd (nw m172 sh169.length) (fun m180 => wp_X10_init sh179 sh169.length (fun sh182 m183 => Ix sh182 (b176) 104 (2 : Int32) ∧ (∃ n : Nat, sh182[sh169.length]? = some (10, n)) ∧ bnd (sR m183 (b176) (2 : Int32).toNatClampNeg (some (sh169.length))) (fun m185 => Ob sh182 v0 11 ∧ ∃ b189 : Nat, m185.2.2 v0 11 = some b189 ∧ bnd (sh182 ++ [(10, 7)]) (fun sh192 => bnd (nw m185 sh182.length) (fun m193 => wp_X10_init sh192 sh182.length (fun sh195 m196 => Ix sh195 (b189) 104 (3 : Int32) ∧ (∃ n : Nat, sh195[sh182.length]? = some (10, n)) ∧ bnd (sR m196 (b189) (3 : Int32).toNatClampNeg (some (sh182.length))) (fun m198 => Ob sh195 v0 11 ∧ ∃ b202 : Nat, m198.2.2 v0 11 = some b202 ∧ bnd (sh195 ++ [(10, 7)]) (fun sh205 => bnd (nw m198 sh195.length) (fun m206 => wp_X10_init sh205 sh195.length (fun sh208 m209 => Ix sh208 (b202) 104 (4 : Int32) ∧ (∃ n : Nat, sh208[sh195.length]? = some (10, n)) ∧ bnd (sR m209 (b202) (4 : Int32).toNatClampNeg (some (sh195.length))) (fun m211 => Q sh208 m211)) m206)))) m193)))) m180)))) m167)))) m154)))))))) m136)))))))))) m118)))) m110))))))) m97)))) m89)))) m81)))) m73)))) m65)))) m48)))) m40)))) m32)))) m18)))) m10)))) m2))
set_option maxHeartbeats 4000000 in
set_option maxRecDepth 100000 in
theorem c_X11_init {l : Launch} {G : Gl} {sh : Shp} {v0 : Nat} {Q : Shp → Mem → Prop} {m : Mem} (h : wp_X11_init sh v0 Q m) : CnA l G yX11_init cX11_init 2 3 103 197 21582 sh [.ref (G.1 + v0)] m Q := by
  refine con_A (ls := [(0, .ref (G.1 + v0))]) (by decide +kernel) rfl (Nat.le_of_ble_eq_true rfl) (fun F => ?_)
  show V G F (cX11_init, 2, RX11, none, "<init>", 3, 103, 197, 21582) sh 0 0 (Za G F sh 197 21582 Q) 0 [(0, .ref (G.1 + v0))] [] m
  unfold wp_X11_init at h
  refine v_aload_n 0 0 dX11_init_0 rfl rfl ?_
  refine v_oinit mo_RX11_3 (Nat.le_of_ble_eq_true rfl) (Nat.le_of_ble_eq_true rfl) (Nat.le_of_ble_eq_true rfl) dX11_init_1 ?_
  refine v_aload_n 0 0 dX11_init_4 rfl rfl ?_
  refine g_new ci_9 dv_9 cl_RX11_9 in_9 it_9 (Nat.le_of_ble_eq_true rfl) (Nat.le_of_ble_eq_true rfl) dX11_init_5 h ?_
  clear h
  intro sh1 m2 h hl3
  refine v_dup dX11_init_8 rfl ?_
  refine v_cI [] mi_X9_init (Or.inr (List.mem_of_getElem? (i := 0) rfl)) rfl rfl (Nat.le_of_ble_eq_true rfl) (Nat.le_of_ble_eq_true rfl) (Nat.le_of_ble_eq_true rfl) (Nat.le_of_ble_eq_true rfl) (Nat.le_of_ble_eq_true rfl) dX11_init_9 (c_X9_init h) ?_
  clear h
  intro c4 c5 sh4 m5 h hl6
  obtain ⟨o7, h⟩ := h
  refine g_qR 11 0 dX11_init_12 fw_RX11_12 o7 rfl (fun _ => rfl) (fun _ => rfl) h ?_
  clear h
  intro m8 h
  refine v_aload_n 0 0 dX11_init_15 rfl rfl ?_
  refine g_new ci_0 dv_0 cl_RX11_16 in_0 it_0 (Nat.le_of_ble_eq_true rfl) (Nat.le_of_ble_eq_true rfl) dX11_init_16 h ?_
  clear h
  intro sh9 m10 h hl11
  refine v_dup dX11_init_19 rfl ?_
  refine v_cI [] mi_X0_init (Or.inr (List.mem_of_getElem? (i := 1) rfl)) rfl rfl (Nat.le_of_ble_eq_true rfl) (Nat.le_of_ble_eq_true rfl) (Nat.le_of_ble_eq_true rfl) (Nat.le_of_ble_eq_true rfl) (Nat.le_of_ble_eq_true rfl) dX11_init_20 (c_X0_init h) ?_
  clear h
  intro c4 c5 sh12 m13 h hl14
  rw [up_up]
  obtain ⟨o15, h⟩ := h
  refine g_qR 11 1 dX11_init_23 fw_RX11_19 o15 rfl (fun _ => rfl) (fun _ => rfl) h ?_
  clear h
  intro m16 h
  refine v_aload_n 0 0 dX11_init_26 rfl rfl ?_
  refine g_new ci_8 dv_8 cl_RX11_23 in_8 it_8 (Nat.le_of_ble_eq_true rfl) (Nat.le_of_ble_eq_true rfl) dX11_init_27 h ?_
  clear h
  intro sh17 m18 h hl19
  refine v_dup dX11_init_30 rfl ?_
  refine v_aload_n 0 0 dX11_init_31 rfl rfl ?_
  obtain ⟨o22, b20, e21, h⟩ := h
  refine v_gR 11 0 dX11_init_32 fg_RX11_12 o22 e21 ?_
  refine v_aload_n 0 0 dX11_init_35 rfl rfl ?_
  obtain ⟨o25, b23, e24, h⟩ := h
  refine v_gR 11 1 dX11_init_36 fg_RX11_19 o25 e24 ?_
  refine v_cI [.ref _, .ref _] mi_X8_init (Or.inl ml_RX11_25) rfl rfl (Nat.le_of_ble_eq_true rfl) (Nat.le_of_ble_eq_true rfl) (Nat.le_of_ble_eq_true rfl) (Nat.le_of_ble_eq_true rfl) (Nat.le_of_ble_eq_true rfl) dX11_init_39 (c_X8_init h) ?_
  clear h
  intro c4 c5 sh26 m27 h hl28
  rw [up_up]
  obtain ⟨o29, h⟩ := h
  refine g_qR 11 2 dX11_init_42 fw_RX11_28 o29 rfl (fun _ => rfl) (fun _ => rfl) h ?_
  clear h
  intro m30 h
  refine v_aload_n 0 0 dX11_init_45 rfl rfl ?_
  refine g_new ci_5 dv_5 cl_RX11_32 in_5 it_5 (Nat.le_of_ble_eq_true rfl) (Nat.le_of_ble_eq_true rfl) dX11_init_46 h ?_
  clear h
  intro sh31 m32 h hl33
  refine v_dup dX11_init_49 rfl ?_
  refine v_cI [] mi_X5_init (Or.inr (List.mem_of_getElem? (i := 2) rfl)) rfl rfl (Nat.le_of_ble_eq_true rfl) (Nat.le_of_ble_eq_true rfl) (Nat.le_of_ble_eq_true rfl) (Nat.le_of_ble_eq_true rfl) (Nat.le_of_ble_eq_true rfl) dX11_init_50 (c_X5_init h) ?_
  clear h
  intro c4 c5 sh34 m35 h hl36
  rw [up_up]
  obtain ⟨o37, h⟩ := h
  refine g_pR 11 3 dX11_init_53 fw_RX11_35 o37 (fun _ => rfl) (fun _ => rfl) h ?_
  clear h
  intro m38 h
  refine v_aload_n 0 0 dX11_init_56 rfl rfl ?_
  refine g_new ci_5 dv_5 cl_RX11_32 in_5 it_5 (Nat.le_of_ble_eq_true rfl) (Nat.le_of_ble_eq_true rfl) dX11_init_57 h ?_
  clear h
  intro sh39 m40 h hl41
  refine v_dup dX11_init_60 rfl ?_
  refine v_cI [] mi_X5_init (Or.inr (List.mem_of_getElem? (i := 2) rfl)) rfl rfl (Nat.le_of_ble_eq_true rfl) (Nat.le_of_ble_eq_true rfl) (Nat.le_of_ble_eq_true rfl) (Nat.le_of_ble_eq_true rfl) (Nat.le_of_ble_eq_true rfl) dX11_init_61 (c_X5_init h) ?_
  clear h
  intro c4 c5 sh42 m43 h hl44
  rw [up_up]
  obtain ⟨o45, h⟩ := h
  refine g_pR 11 4 dX11_init_64 fw_RX11_39 o45 (fun _ => rfl) (fun _ => rfl) h ?_
  clear h
  intro m46 h
  refine v_aload_n 0 0 dX11_init_67 rfl rfl ?_
  refine g_new ci_6 dv_6 cl_RX11_42 in_6 it_6 (Nat.le_of_ble_eq_true rfl) (Nat.le_of_ble_eq_true rfl) dX11_init_68 h ?_
  clear h
  intro sh47 m48 h hl49
  refine v_dup dX11_init_71 rfl ?_
  refine v_aload_n 0 0 dX11_init_72 rfl rfl ?_
  obtain ⟨o52, b50, e51, h⟩ := h
  refine v_gR 11 0 dX11_init_73 fg_RX11_12 o52 e51 ?_
  refine v_aload_n 0 0 dX11_init_76 rfl rfl ?_
  obtain ⟨o55, b53, e54, h⟩ := h
  refine v_gR 11 2 dX11_init_77 fg_RX11_28 o55 e54 ?_
  refine v_aload_n 0 0 dX11_init_80 rfl rfl ?_
  obtain ⟨o58, b56, e57, h⟩ := h
  refine v_gR 11 4 dX11_init_81 fg_RX11_39 o58 e57 ?_
  refine v_cI [.ref _, .ref _, .ref _] mi_X6_init (Or.inl ml_RX11_44) rfl rfl (Nat.le_of_ble_eq_true rfl) (Nat.le_of_ble_eq_true rfl) (Nat.le_of_ble_eq_true rfl) (Nat.le_of_ble_eq_true rfl) (Nat.le_of_ble_eq_true rfl) dX11_init_84 (c_X6_init h) ?_
  clear h
  intro c4 c5 sh59 m60 h hl61
  rw [up_up]
  obtain ⟨o62, h⟩ := h
  refine g_qR 11 5 dX11_init_87 fw_RX11_47 o62 rfl (fun _ => rfl) (fun _ => rfl) h ?_
  clear h
  intro m63 h
  refine v_aload_n 0 0 dX11_init_90 rfl rfl ?_
  refine g_new ci_1 dv_1 cl_RX11_51 in_1 it_1 (Nat.le_of_ble_eq_true rfl) (Nat.le_of_ble_eq_true rfl) dX11_init_91 h ?_
  clear h
  intro sh64 m65 h hl66
  refine v_dup dX11_init_94 rfl ?_
  refine v_cI [] mi_X1_init (Or.inr (List.mem_of_getElem? (i := 4) rfl)) rfl rfl (Nat.le_of_ble_eq_true rfl) (Nat.le_of_ble_eq_true rfl) (Nat.le_of_ble_eq_true rfl) (Nat.le_of_ble_eq_true rfl) (Nat.le_of_ble_eq_true rfl) dX11_init_95 (c_X1_init h) ?_
  clear h
  intro c4 c5 sh67 m68 h hl69
  rw [up_up]
  obtain ⟨o70, h⟩ := h
  refine g_qR 11 6 dX11_init_98 fw_RX11_54 o70 rfl (fun _ => rfl) (fun _ => rfl) h ?_
  clear h
  intro m71 h
  refine v_aload_n 0 0 dX11_init_101 rfl rfl ?_
  refine g_new ci_1 dv_1 cl_RX11_51 in_1 it_1 (Nat.le_of_ble_eq_true rfl) (Nat.le_of_ble_eq_true rfl) dX11_init_102 h ?_
  clear h
  intro sh72 m73 h hl74
  refine v_dup dX11_init_105 rfl ?_
  refine v_cI [] mi_X1_init (Or.inr (List.mem_of_getElem? (i := 4) rfl)) rfl rfl (Nat.le_of_ble_eq_true rfl) (Nat.le_of_ble_eq_true rfl) (Nat.le_of_ble_eq_true rfl) (Nat.le_of_ble_eq_true rfl) (Nat.le_of_ble_eq_true rfl) dX11_init_106 (c_X1_init h) ?_
  clear h
  intro c4 c5 sh75 m76 h hl77
  rw [up_up]
  obtain ⟨o78, h⟩ := h
  refine g_qR 11 7 dX11_init_109 fw_RX11_58 o78 rfl (fun _ => rfl) (fun _ => rfl) h ?_
  clear h
  intro m79 h
  refine v_aload_n 0 0 dX11_init_112 rfl rfl ?_
  refine g_new ci_3 dv_3 cl_RX11_61 in_3 it_3 (Nat.le_of_ble_eq_true rfl) (Nat.le_of_ble_eq_true rfl) dX11_init_113 h ?_
  clear h
  intro sh80 m81 h hl82
  refine v_dup dX11_init_116 rfl ?_
  refine v_cI [] mi_X3_init (Or.inl ml_RX11_63) rfl rfl (Nat.le_of_ble_eq_true rfl) (Nat.le_of_ble_eq_true rfl) (Nat.le_of_ble_eq_true rfl) (Nat.le_of_ble_eq_true rfl) (Nat.le_of_ble_eq_true rfl) dX11_init_117 (c_X3_init h) ?_
  clear h
  intro c4 c5 sh83 m84 h hl85
  rw [up_up]
  obtain ⟨o86, h⟩ := h
  refine g_qR 11 8 dX11_init_120 fw_RX11_64 o86 rfl (fun _ => rfl) (fun _ => rfl) h ?_
  clear h
  intro m87 h
  refine v_aload_n 0 0 dX11_init_123 rfl rfl ?_
  refine g_new ci_2 dv_2 cl_RX11_68 in_2 it_2 (Nat.le_of_ble_eq_true rfl) (Nat.le_of_ble_eq_true rfl) dX11_init_124 h ?_
  clear h
  intro sh88 m89 h hl90
  refine v_dup dX11_init_127 rfl ?_
  refine v_cI [] mi_X2_init (Or.inr (List.mem_of_getElem? (i := 6) rfl)) rfl rfl (Nat.le_of_ble_eq_true rfl) (Nat.le_of_ble_eq_true rfl) (Nat.le_of_ble_eq_true rfl) (Nat.le_of_ble_eq_true rfl) (Nat.le_of_ble_eq_true rfl) dX11_init_128 (c_X2_init h) ?_
  clear h
  intro c4 c5 sh91 m92 h hl93
  rw [up_up]
  obtain ⟨o94, h⟩ := h
  refine g_qR 11 9 dX11_init_131 fw_RX11_71 o94 rfl (fun _ => rfl) (fun _ => rfl) h ?_
  clear h
  intro m95 h
  refine v_aload_n 0 0 dX11_init_134 rfl rfl ?_
  refine g_new ci_7 dv_7 cl_RX11_75 in_7 it_7 (Nat.le_of_ble_eq_true rfl) (Nat.le_of_ble_eq_true rfl) dX11_init_135 h ?_
  clear h
  intro sh96 m97 h hl98
  refine v_dup dX11_init_138 rfl ?_
  refine v_cI [] mi_X7_init (Or.inr (List.mem_of_getElem? (i := 7) rfl)) rfl rfl (Nat.le_of_ble_eq_true rfl) (Nat.le_of_ble_eq_true rfl) (Nat.le_of_ble_eq_true rfl) (Nat.le_of_ble_eq_true rfl) (Nat.le_of_ble_eq_true rfl) dX11_init_139 (c_X7_init h) ?_
  clear h
  intro c4 c5 sh99 m100 h hl101
  rw [up_up]
  obtain ⟨o102, h⟩ := h
  refine g_qR 11 10 dX11_init_142 fw_RX11_78 o102 rfl (fun _ => rfl) (fun _ => rfl) h ?_
  clear h
  intro m103 h
  refine v_aload_n 0 0 dX11_init_145 rfl rfl ?_
  refine v_iconst (5 : Int32) dX11_init_146 (by decide) ?_
  obtain ⟨hno, h⟩ := h
  refine g_anew (N := 5) 104 (by decide) hno cl_RX11_82 (by decide) (by decide +kernel) (Nat.le_of_ble_eq_true rfl) (Nat.le_of_ble_eq_true rfl) (Nat.le_of_ble_eq_true rfl) dX11_init_147 h ?_
  clear h
  intro c4 c5 sh104 m105 h hl106
  rw [up_up]
  obtain ⟨o107, h⟩ := h
  refine g_qR 11 11 dX11_init_150 fw_RX11_84 o107 rfl (fun _ => rfl) (fun _ => rfl) h ?_
  clear h
  intro m108 h
  refine v_aload_n 0 0 dX11_init_153 rfl rfl ?_
  refine g_new ci_10 dv_10 cl_RX11_82 in_10 it_10 (Nat.le_of_ble_eq_true rfl) (Nat.le_of_ble_eq_true rfl) dX11_init_154 h ?_
  clear h
  intro sh109 m110 h hl111
  refine v_dup dX11_init_157 rfl ?_
  refine v_cI [] mi_X10_init (Or.inl ml_RX11_88) rfl rfl (Nat.le_of_ble_eq_true rfl) (Nat.le_of_ble_eq_true rfl) (Nat.le_of_ble_eq_true rfl) (Nat.le_of_ble_eq_true rfl) (Nat.le_of_ble_eq_true rfl) dX11_init_158 (c_X10_init h) ?_
  clear h
  intro c4 c5 sh112 m113 h hl114
  rw [up_up]
  obtain ⟨o115, h⟩ := h
  refine g_qR 11 12 dX11_init_161 fw_RX11_89 o115 rfl (fun _ => rfl) (fun _ => rfl) h ?_
  clear h
  intro m116 h
  refine v_aload_n 0 0 dX11_init_164 rfl rfl ?_
  refine g_new ci_10 dv_10 cl_RX11_82 in_10 it_10 (Nat.le_of_ble_eq_true rfl) (Nat.le_of_ble_eq_true rfl) dX11_init_165 h ?_
  clear h
  intro sh117 m118 h hl119
  refine v_dup dX11_init_168 rfl ?_
  refine v_cI [] mi_X10_init (Or.inl ml_RX11_88) rfl rfl (Nat.le_of_ble_eq_true rfl) (Nat.le_of_ble_eq_true rfl) (Nat.le_of_ble_eq_true rfl) (Nat.le_of_ble_eq_true rfl) (Nat.le_of_ble_eq_true rfl) dX11_init_169 (c_X10_init h) ?_
  clear h
  intro c4 c5 sh120 m121 h hl122
  rw [up_up]
  obtain ⟨o123, h⟩ := h
  refine g_qR 11 13 dX11_init_172 fw_RX11_93 o123 rfl (fun _ => rfl) (fun _ => rfl) h ?_
  clear h
  intro m124 h
  refine v_aload_n 0 0 dX11_init_175 rfl rfl ?_
  refine v_bipush (23 : Int32) dX11_init_176 (by decide) ?_
  refine g_newa (atype := .int) (ty := .int) (N := 23) 100 rfl rfl (by decide) (a0c_100 _) (fun _ _ h => h) aw_100 (by decide) (by decide +kernel) (Nat.le_of_ble_eq_true rfl) (Nat.le_of_ble_eq_true rfl) (Nat.le_of_ble_eq_true rfl) dX11_init_178 h ?_
  clear h
  intro sh125 m126 h hl127
  obtain ⟨o128, h⟩ := h
  refine g_qR 11 14 dX11_init_180 fw_RX11_96 o128 rfl (fun _ => rfl) (fun _ => rfl) h ?_
  clear h
  intro m129 h
  refine v_aload_n 0 0 dX11_init_183 rfl rfl ?_
  refine v_bipush (64 : Int32) dX11_init_184 (by decide) ?_
  refine g_newa (atype := .int) (ty := .int) (N := 64) 100 rfl rfl (by decide) (a0c_100 _) (fun _ _ h => h) aw_100 (by decide) (by decide +kernel) (Nat.le_of_ble_eq_true rfl) (Nat.le_of_ble_eq_true rfl) (Nat.le_of_ble_eq_true rfl) dX11_init_186 h ?_
  clear h
  intro sh130 m131 h hl132
  obtain ⟨o133, h⟩ := h
  refine g_qR 11 15 dX11_init_188 fw_RX11_100 o133 rfl (fun _ => rfl) (fun _ => rfl) h ?_
  clear h
  intro m134 h
  refine v_aload_n 0 0 dX11_init_191 rfl rfl ?_
  refine g_new ci_4 dv_4 cl_RX11_103 in_4 it_4 (Nat.le_of_ble_eq_true rfl) (Nat.le_of_ble_eq_true rfl) dX11_init_192 h ?_
  clear h
  intro sh135 m136 h hl137
  refine v_dup dX11_init_195 rfl ?_
  refine v_cI [] mi_X4_init (Or.inr (List.mem_of_getElem? (i := 8) rfl)) rfl rfl (Nat.le_of_ble_eq_true rfl) (Nat.le_of_ble_eq_true rfl) (Nat.le_of_ble_eq_true rfl) (Nat.le_of_ble_eq_true rfl) (Nat.le_of_ble_eq_true rfl) dX11_init_196 (c_X4_init h) ?_
  clear h
  intro c4 c5 sh138 m139 h hl140
  rw [up_up]
  obtain ⟨o141, h⟩ := h
  refine g_qR 11 16 dX11_init_199 fw_RX11_106 o141 rfl (fun _ => rfl) (fun _ => rfl) h ?_
  clear h
  intro m142 h
  refine v_aload_n 0 0 dX11_init_202 rfl rfl ?_
  refine v_bipush (6 : Int32) dX11_init_203 (by decide) ?_
  refine g_newa (atype := .int) (ty := .int) (N := 6) 100 rfl rfl (by decide) (a0c_100 _) (fun _ _ h => h) aw_100 (by decide) (by decide +kernel) (Nat.le_of_ble_eq_true rfl) (Nat.le_of_ble_eq_true rfl) (Nat.le_of_ble_eq_true rfl) dX11_init_205 h ?_
  clear h
  intro sh143 m144 h hl145
  obtain ⟨o146, h⟩ := h
  refine g_qR 11 17 dX11_init_207 fw_RX11_110 o146 rfl (fun _ => rfl) (fun _ => rfl) h ?_
  clear h
  intro m147 h
  refine v_aload_n 0 0 dX11_init_210 rfl rfl ?_
  refine v_lconst (1 : Int64) dX11_init_211 (by decide) ?_
  obtain ⟨o148, h⟩ := h
  refine g_pL 11 18 dX11_init_212 fw_RX11_113 o148 h ?_
  clear h
  intro m149 h
  refine v_iconst (0 : Int32) dX11_init_215 (by decide) ?_
  refine v_istore_n (ls' := [(1, .int _), (0, .ref _)]) 1 dX11_init_216 rfl (Nat.le_of_ble_eq_true rfl) rfl ?_
  refine v_iload_n 1 0 dX11_init_217 rfl rfl ?_
  refine v_iconst (5 : Int32) dX11_init_218 (by decide) ?_
  refine v_icmp_ge 241 dX11_init_219 (by decide) (fun hc => absurd hc (by decide)) (fun hc => ?_)
  refine v_aload_n 0 1 dX11_init_222 rfl rfl ?_
  obtain ⟨o152, b150, e151, h⟩ := h
  refine v_gR 11 11 dX11_init_223 fg_RX11_84 o152 e151 ?_
  refine v_iload_n 1 0 dX11_init_226 rfl rfl ?_
  refine g_new ci_10 dv_10 cl_RX11_82 in_10 it_10 (Nat.le_of_ble_eq_true rfl) (Nat.le_of_ble_eq_true rfl) dX11_init_227 h ?_
  clear h
  intro sh153 m154 h hl155
  refine v_dup dX11_init_230 rfl ?_
  refine v_cI [] mi_X10_init (Or.inl ml_RX11_88) rfl rfl (Nat.le_of_ble_eq_true rfl) (Nat.le_of_ble_eq_true rfl) (Nat.le_of_ble_eq_true rfl) (Nat.le_of_ble_eq_true rfl) (Nat.le_of_ble_eq_true rfl) dX11_init_231 (c_X10_init h) ?_
  clear h
  intro c4 c5 sh156 m157 h hl158
  rw [up_up]
  obtain ⟨i160, ⟨n161, o162⟩, h⟩ := h
  refine g_aast 104 dX11_init_234 (by decide) i160 o162 h ?_
  clear h
  intro m159 h
  refine v_iinc (v := (1 : Int32)) (ls' := [(1, .int _), (0, .ref _)]) 1 0 dX11_init_235 rfl (by decide) (Nat.le_of_ble_eq_true rfl) rfl ?_
  refine v_goto 217 dX11_init_238 (by decide) ?_
  refine v_iload_n 1 0 dX11_init_217 rfl rfl ?_
  refine v_iconst (5 : Int32) dX11_init_218 (by decide) ?_
  refine v_icmp_ge 241 dX11_init_219 (by decide) (fun hc => absurd hc (by decide)) (fun hc => ?_)
  refine v_aload_n 0 1 dX11_init_222 rfl rfl ?_
  obtain ⟨o165, b163, e164, h⟩ := h
  refine v_gR 11 11 dX11_init_223 fg_RX11_84 o165 e164 ?_
  refine v_iload_n 1 0 dX11_init_226 rfl rfl ?_
  refine g_new ci_10 dv_10 cl_RX11_82 in_10 it_10 (Nat.le_of_ble_eq_true rfl) (Nat.le_of_ble_eq_true rfl) dX11_init_227 h ?_
  clear h
  intro sh166 m167 h hl168
  refine v_dup dX11_init_230 rfl ?_
  refine v_cI [] mi_X10_init (Or.inl ml_RX11_88) rfl rfl (Nat.le_of_ble_eq_true rfl) (Nat.le_of_ble_eq_true rfl) (Nat.le_of_ble_eq_true rfl) (Nat.le_of_ble_eq_true rfl) (Nat.le_of_ble_eq_true rfl) dX11_init_231 (c_X10_init h) ?_
  clear h
  intro c4 c5 sh169 m170 h hl171
  rw [up_up]
  obtain ⟨i173, ⟨n174, o175⟩, h⟩ := h
  refine g_aast 104 dX11_init_234 (by decide) i173 o175 h ?_
  clear h
  intro m172 h
  refine v_iinc (v := (2 : Int32)) (ls' := [(1, .int _), (0, .ref _)]) 1 0 dX11_init_235 rfl (by decide) (Nat.le_of_ble_eq_true rfl) rfl ?_
  refine v_goto 217 dX11_init_238 (by decide) ?_
  refine v_iload_n 1 0 dX11_init_217 rfl rfl ?_
  refine v_iconst (5 : Int32) dX11_init_218 (by decide) ?_
  refine v_icmp_ge 241 dX11_init_219 (by decide) (fun hc => absurd hc (by decide)) (fun hc => ?_)
  refine v_aload_n 0 1 dX11_init_222 rfl rfl ?_
  obtain ⟨o178, b176, e177, h⟩ := h
  refine v_gR 11 11 dX11_init_223 fg_RX11_84 o178 e177 ?_
  refine v_iload_n 1 0 dX11_init_226 rfl rfl ?_
  refine g_new ci_10 dv_10 cl_RX11_82 in_10 it_10 (Nat.le_of_ble_eq_true rfl) (Nat.le_of_ble_eq_true rfl) dX11_init_227 h ?_
  clear h
  intro sh179 m180 h hl181
  refine v_dup dX11_init_230 rfl ?_
  refine v_cI [] mi_X10_init (Or.inl ml_RX11_88) rfl rfl (Nat.le_of_ble_eq_true rfl) (Nat.le_of_ble_eq_true rfl) (Nat.le_of_ble_eq_true rfl) (Nat.le_of_ble_eq_true rfl) (Nat.le_of_ble_eq_true rfl) dX11_init_231 (c_X10_init h) ?_
  clear h
  intro c4 c5 sh182 m183 h hl184
  rw [up_up]
  obtain ⟨i186, ⟨n187, o188⟩, h⟩ := h
  refine g_aast 104 dX11_init_234 (by decide) i186 o188 h ?_
  clear h
  intro m185 h
  refine v_iinc (v := (3 : Int32)) (ls' := [(1, .int _), (0, .ref _)]) 1 0 dX11_init_235 rfl (by decide) (Nat.le_of_ble_eq_true rfl) rfl ?_
  refine v_goto 217 dX11_init_238 (by decide) ?_
  refine v_iload_n 1 0 dX11_init_217 rfl rfl ?_
  refine v_iconst (5 : Int32) dX11_init_218 (by decide) ?_
  refine v_icmp_ge 241 dX11_init_219 (by decide) (fun hc => absurd hc (by decide)) (fun hc => ?_)
  refine v_aload_n 0 1 dX11_init_222 rfl rfl ?_
  obtain ⟨o191, b189, e190, h⟩ := h
  refine v_gR 11 11 dX11_init_223 fg_RX11_84 o191 e190 ?_
  refine v_iload_n 1 0 dX11_init_226 rfl rfl ?_
  refine g_new ci_10 dv_10 cl_RX11_82 in_10 it_10 (Nat.le_of_ble_eq_true rfl) (Nat.le_of_ble_eq_true rfl) dX11_init_227 h ?_
  clear h
  intro sh192 m193 h hl194
  refine v_dup dX11_init_230 rfl ?_
  refine v_cI [] mi_X10_init (Or.inl ml_RX11_88) rfl rfl (Nat.le_of_ble_eq_true rfl) (Nat.le_of_ble_eq_true rfl) (Nat.le_of_ble_eq_true rfl) (Nat.le_of_ble_eq_true rfl) (Nat.le_of_ble_eq_true rfl) dX11_init_231 (c_X10_init h) ?_
  clear h
  intro c4 c5 sh195 m196 h hl197
  rw [up_up]
  obtain ⟨i199, ⟨n200, o201⟩, h⟩ := h
  refine g_aast 104 dX11_init_234 (by decide) i199 o201 h ?_
  clear h
  intro m198 h
  refine v_iinc (v := (4 : Int32)) (ls' := [(1, .int _), (0, .ref _)]) 1 0 dX11_init_235 rfl (by decide) (Nat.le_of_ble_eq_true rfl) rfl ?_
  refine v_goto 217 dX11_init_238 (by decide) ?_
  refine v_iload_n 1 0 dX11_init_217 rfl rfl ?_
  refine v_iconst (5 : Int32) dX11_init_218 (by decide) ?_
  refine v_icmp_ge 241 dX11_init_219 (by decide) (fun hc => absurd hc (by decide)) (fun hc => ?_)
  refine v_aload_n 0 1 dX11_init_222 rfl rfl ?_
  obtain ⟨o204, b202, e203, h⟩ := h
  refine v_gR 11 11 dX11_init_223 fg_RX11_84 o204 e203 ?_
  refine v_iload_n 1 0 dX11_init_226 rfl rfl ?_
  refine g_new ci_10 dv_10 cl_RX11_82 in_10 it_10 (Nat.le_of_ble_eq_true rfl) (Nat.le_of_ble_eq_true rfl) dX11_init_227 h ?_
  clear h
  intro sh205 m206 h hl207
  refine v_dup dX11_init_230 rfl ?_
  refine v_cI [] mi_X10_init (Or.inl ml_RX11_88) rfl rfl (Nat.le_of_ble_eq_true rfl) (Nat.le_of_ble_eq_true rfl) (Nat.le_of_ble_eq_true rfl) (Nat.le_of_ble_eq_true rfl) (Nat.le_of_ble_eq_true rfl) dX11_init_231 (c_X10_init h) ?_
  clear h
  intro c4 c5 sh208 m209 h hl210
  rw [up_up]
  obtain ⟨i212, ⟨n213, o214⟩, h⟩ := h
  refine g_aast 104 dX11_init_234 (by decide) i212 o214 h ?_
  clear h
  intro m211 h
  refine v_iinc (v := (5 : Int32)) (ls' := [(1, .int _), (0, .ref _)]) 1 0 dX11_init_235 rfl (by decide) (Nat.le_of_ble_eq_true rfl) rfl ?_
  refine v_goto 217 dX11_init_238 (by decide) ?_
  refine v_iload_n 1 0 dX11_init_217 rfl rfl ?_
  refine v_iconst (5 : Int32) dX11_init_218 (by decide) ?_
  refine v_icmp_ge 241 dX11_init_219 (by decide) (fun hc => ?_) (fun hc => absurd (by decide) hc)
  exact v_cret dX11_init_241 rfl (by omega) (Nat.le_of_ble_eq_true rfl) (Nat.le_of_ble_eq_true rfl) h
