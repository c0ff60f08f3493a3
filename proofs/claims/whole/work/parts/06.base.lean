/-! ===== what the formulas are made of, and rows for switches, constants, Strings, copies ===== -/
def bnd {α : Type} (x : α) (P : α → Prop) : Prop := P x
theorem bnd_e {α : Type} {x : α} {P : α → Prop} (h : bnd x P) : P x := h
theorem nar_z {x : Int32} (h : x = 0 ∨ x = 1) : narrow .boolean (.int x) = .int x := by rcases h with rfl | rfl <;> rfl
abbrev Zi (G : Gl) (F : Fr) (sh : Shp) (Q : Int32 → Mem → Prop) : State → Prop := MQ (Fb F) (va_Qi Q (Ok G sh) (Aof G)) (Fa F) (Fs F) 0 0 (Aof G)
abbrev Zl (G : Gl) (F : Fr) (sh : Shp) (Q : Int64 → Mem → Prop) : State → Prop := MQ (Fb F) (va_Ql Q (Ok G sh) (Aof G)) (Fa F) (Fs F) 0 0 (Aof G)
abbrev Zv (G : Gl) (F : Fr) (sh : Shp) (Q : Mem → Prop) : State → Prop := MQ (Fb F) (va_Qv Q (Ok G sh) (Aof G)) (Fa F) (Fs F) 0 0 (Aof G)
abbrev Zr (G : Gl) (F : Fr) (sh : Shp) (Q : Nat → Mem → Prop) : State → Prop := MQ (Fb F) (va_Qr (fun u : Nat × Mem => Q u.1 u.2) (fun u a t => a = G.1 + u.1 ∧ Ok G sh u.2 t) (Aof G)) (Fa F) (Fs F) 0 0 (Aof G)
/-- a String constant's letter -/
def sch (w : Nat) (i : Int32) : Int32 := (sbyt.getD w []).getD i.toNatClampNeg 0
/-- a copy of ints from one array to another (or the same) -/
def Cp (sh : Shp) (a : Nat) (sp : Int32) (b : Nat) (dp n : Int32) : Prop := ∃ na nb : Nat, sh[a]? = some (100, na) ∧ sh[b]? = some (100, nb) ∧ ¬ sp < 0 ∧ ¬ dp < 0 ∧ ¬ n < 0 ∧ sp.toNatClampNeg + n.toNatClampNeg ≤ na ∧ dp.toNatClampNeg + n.toNatClampNeg ≤ nb
def cpI (m : Mem) (a : Nat) (sp : Int32) (b : Nat) (dp n : Int32) : Mem := (fun a' k' => if a' = b then va_cpy (m.1 a) (m.1 b) sp.toNatClampNeg dp.toNatClampNeg n.toNatClampNeg k' else m.1 a' k', m.2)
theorem fls_cp {B : Nat} {m : Mem} {a b x c : Nat} {sp dp n : Int32} (h : x ≠ b) : fls B (cpI m a sp b dp n) x c = fls B m x c := by
  unfold fls
  apply List.map_congr_left
  intro j _
  simp [fvl, cpI, h]
theorem cel_cp {ac : Nat → ClassId} {B : Nat} {m : Mem} {a b x : Nat} {sp dp n : Int32} (h : x ≠ b) (r : Nat × Nat) : celE ac B (cpI m a sp b dp n) x r = celE ac B m x r := by
  have e : (cpI m a sp b dp n).1 x = m.1 x := by funext j; simp [cpI, h]
  simp only [celE, fls_cp h, e]
  rfl
theorem set_cp {G : Gl} {sh : Shp} {m : Mem} {a b n : Nat} {sp dp k : Int32} (ho : sh[b]? = some (100, n)) : (wld G sh m).set b (G.1 + b, .inl (G.2.2.1 100, n, .inl (va_cpy (m.1 a) (m.1 b) sp.toNatClampNeg dp.toNatClampNeg k.toNatClampNeg))) = wld G sh (cpI m a sp b dp k) := by
  refine wld_set ho ?_ (fun j r hj => cel_cp hj r)
  rw [cel_i ⟨by decide, by decide⟩]
  have e : (cpI m a sp b dp k).1 b = va_cpy (m.1 a) (m.1 b) sp.toNatClampNeg dp.toNatClampNeg k.toNatClampNeg := by funext j; simp [cpI]
  rw [e]
set_option maxRecDepth 20000 in
theorem cp_nat : Cond.native arraycopyName ∈ TBg := tm_3 217 rfl rfl
set_option maxRecDepth 20000 in
theorem cp_sta : Cond.static arraycopyName ∈ TBg := tm_3 216 rfl rfl
set_option maxRecDepth 20000 in
theorem cp_ini : Cond.initialized "java/lang/System" ∈ TBg := tm_1 20 rfl rfl
section Rows
variable {G : Gl} {F : Fr} {M : Mi} {sh : Shp} {nc ns : Nat} {Z : State → Prop} {pc : Nat} {ls : List (Nat × Value)} {st stk : List Value} {m : Mem}
theorem v_tabK {dflt lo hi : Int} {offs : Array Int} {len : Nat} {x : Int32} {off : Int} (k : Int32) (hx : x = k) (tgt : Nat) (d : decode M.1 pc = .ok (.tableswitch dflt lo hi offs, len)) (h1 : ¬ k.toInt < lo) (h2 : ¬ hi < k.toInt) (ho : offs[(k.toInt - lo).toNat]? = some off) (ht : (pc : Int) + off = (tgt : Int)) (K : V G F M sh nc ns Z tgt ls st m) : V G F M sh nc ns Z pc ls (.int x :: st) m := by
  subst hx
  exact v_tabIn tgt d h1 h2 ho ht K
theorem v_lookK {dflt : Int} {ps : Array (Int × Int)} {len : Nat} {x : Int32} {off : Int} (k : Int32) (hx : x = k) (tgt : Nat) (d : decode M.1 pc = .ok (.lookupswitch dflt ps, len)) (hp : (ps.toList.zip (ps.toList.drop 1)).all (fun (a, next) => a.1 < next.1) = true) (ho : Op.lookupswitch.offset ps.toList dflt k.toInt = off) (ht : (pc : Int) + off = (tgt : Int)) (K : V G F M sh nc ns Z tgt ls st m) : V G F M sh nc ns Z pc ls (.int x :: st) m := by
  subst hx
  exact v_lookup tgt d hp ho ht K
theorem v_gets1 (hM : M.2.2.1 = "CalledRiver$Plain") (d : decode M.1 pc = .ok (.getstatic 81, 3)) (K : V G F M sh nc ns Z (pc + 3) ls (.ref G.2.2.2.2.2.1 :: st) m) : V G F M sh nc ns Z pc ls st m :=
  fun hF H locs LS hH hl => va_getsN hF.1 hF.2.1 hH.2.2.2.2.1.2.2.1 hH.2.2.1 hF.2.2.2.1 (by rw [hM]; exact va_Nw.use rfl hH.2.2.2.2.1.2.2.2.2.2.2.2.2.1) (fun _ h => h) d (K hF H locs LS hH hl)
theorem v_gets2 (hM : M.2.2.1 = "CalledRiver$Plain") (d : decode M.1 pc = .ok (.getstatic 87, 3)) (K : V G F M sh nc ns Z (pc + 3) ls (.ref G.2.2.2.2.2.2 :: st) m) : V G F M sh nc ns Z pc ls st m :=
  fun hF H locs LS hH hl => va_getsN hF.1 hF.2.1 hH.2.2.2.2.1.2.2.2.2.1 hH.2.2.1 hF.2.2.2.1 (by rw [hM]; exact va_Nw.use rfl hH.2.2.2.2.1.2.2.2.2.2.2.2.2.2.1) (fun _ h => h) d (K hF H locs LS hH hl)
theorem v_sald1 {i : Int32} (d : decode M.1 pc = .ok (.iaload, 1)) (hi : vp_in i 4) (K : V G F M sh nc ns Z (pc + 1) ls (.int (acr i.toNatClampNeg) :: st) m) : V G F M sh nc ns Z pc ls (.int i :: .ref G.2.2.2.2.2.1 :: st) m :=
  fun hF H locs LS hH hl => va_ti hF.1 hF.2.1 hH.2.2.2.2.1.2.2.2.1 hH.2.2.1 hi rfl d (K hF H locs LS hH hl)
theorem v_sald2 {i : Int32} (d : decode M.1 pc = .ok (.iaload, 1)) (hi : vp_in i 4) (K : V G F M sh nc ns Z (pc + 1) ls (.int (dwn i.toNatClampNeg) :: st) m) : V G F M sh nc ns Z pc ls (.int i :: .ref G.2.2.2.2.2.2 :: st) m :=
  fun hF H locs LS hH hl => va_ti hF.1 hF.2.1 hH.2.2.2.2.1.2.2.2.2.2.1 hH.2.2.1 hi rfl d (K hF H locs LS hH hl)
theorem v_cpy {a b idx : Nat} {sp dp n : Int32} (q : Cp sh a sp b dp n) (lk : Cond.methodLink M.2.2.1 idx arraycopyName ∈ TBg) (hcat : (st.map fun v => v.category).sum ≤ 8) (hfr : 1 ≤ M.2.2.2.2.2.1) (hlo : 8 + (nativeFrameWords "java/lang/System" "arraycopy" 5 + 11) ≤ M.2.2.2.2.2.2.1) (d : decode M.1 pc = .ok (.invokestatic idx, 3)) (K : V G F M sh nc ns Z (pc + 3) ls st (cpI m a sp b dp n)) : V G F M sh nc ns Z pc ls (.int n :: .int dp :: .ref (G.1 + b) :: .int sp :: .ref (G.1 + a) :: st) m := by
  obtain ⟨na, nb, ha, hb, h1, h2, h3, h4, h5⟩ := q
  obtain ⟨t0, ht⟩ := ty_in (G := G) ha ⟨by decide, by decide⟩
  intro hF H locs LS hH hl
  refine va_copyi hF.1 hF.2.1 (by rw [hF.2.2.1]; exact hl.1.symm) hF.2.2.2.1 (hF.2.2.2.2.1 _ lk) (hF.2.2.2.2.1 _ cp_nat) (hF.2.2.2.2.1 _ cp_sta) (hF.2.2.2.2.1 _ cp_ini) hH.2.2.2.1 hH.2.1 (wld_D G sh m) hH.2.2.1 a b t0 t0 (by rw [wld_get ha, cel_i ⟨by decide, by decide⟩]) (by rw [wld_get hb, cel_i ⟨by decide, by decide⟩]) ht ht rfl h1 h2 h3 h4 h5 (fun _ _ => rfl) (Nat.le_trans hfr hF.2.2.2.2.2.2.2.2.1) (Nat.le_trans (Nat.add_le_add_right hcat _) (Nat.le_trans hlo hF.2.2.2.2.2.2.2.2.2.1)) d ?_
  intro H1 locs1 hP hD hS
  rw [set_cp hb] at hP
  exact K hF H1 locs1 LS ⟨hH.1, hP, hS, hH.2.2.2⟩ hl
/-! Strings -/
theorem v_getsZ {idx : Nat} (w : Cond.fieldLink M.2.2.1 idx "java/lang/String" "COMPACT_STRINGS" "Z" ∈ TBg) (d : decode M.1 pc = .ok (.getstatic idx, 3)) (K : V G F M sh nc ns Z (pc + 3) ls (.int 1 :: st) m) : V G F M sh nc ns Z pc ls st m :=
  fun hF H locs LS hH hl => va_gets hF.1 hF.2.1 hH.2.2.2.2.1.2.2.2.2.2.2.1 hH.2.2.1 hF.2.2.2.1 (hF.2.2.2.2.1 _ w) (fun _ h => h) d (K hF H locs LS hH hl)
theorem v_getsQ {idx : Nat} (w : Cond.fieldLink M.2.2.1 idx "jdk/internal/util/Preconditions" "SIOOBE_FORMATTER" "Ljava/util/function/BiFunction;" ∈ TBg) (d : decode M.1 pc = .ok (.getstatic idx, 3)) (K : ∀ v : Value, (v = .null ∨ ∃ t, v = .ref t) → V G F M sh nc ns Z (pc + 3) ls (v :: st) m) : V G F M sh nc ns Z pc ls st m := by
  intro hF H locs LS hH hl
  rcases hH.2.2.2.2.1.2.2.2.2.2.2.2.2.2.2.2.2 with h | ⟨t, h⟩
  · exact va_gets hF.1 hF.2.1 h hH.2.2.1 hF.2.2.2.1 (hF.2.2.2.2.1 _ w) (fun _ h => h) d (K _ (Or.inl rfl) hF H locs LS hH hl)
  · exact va_gets hF.1 hF.2.1 h hH.2.2.1 hF.2.2.2.1 (hF.2.2.2.2.1 _ w) (fun _ h => h) d (K _ (Or.inr ⟨t, rfl⟩) hF H locs LS hH hl)
theorem v_scod {idx w : Nat} (hw : w < 19) (lk : Cond.fieldLink M.2.2.1 idx "java/lang/String" "coder" "B" ∈ TBg) (d : decode M.1 pc = .ok (.getfield idx, 3)) (K : V G F M sh nc ns Z (pc + 3) ls (.int 0 :: st) m) : V G F M sh nc ns Z pc ls (.ref (G.2.2.2.1 w) :: st) m :=
  fun hF H locs LS hH hl => vk_getf hF.1 hF.2.1 (hH.2.2.2.2.1.1.1 w hw).2.1 hH.2.2.1 hF.2.2.2.1 (hF.2.2.2.2.1 _ lk) (fun _ h => h) d (K hF H locs LS hH hl)
theorem v_sval {idx w : Nat} (hw : w < 19) (lk : Cond.fieldLink M.2.2.1 idx "java/lang/String" "value" "[B" ∈ TBg) (d : decode M.1 pc = .ok (.getfield idx, 3)) (K : V G F M sh nc ns Z (pc + 3) ls (.ref (G.2.2.2.2.1 w) :: st) m) : V G F M sh nc ns Z pc ls (.ref (G.2.2.2.1 w) :: st) m :=
  fun hF H locs LS hH hl => vk_getf hF.1 hF.2.1 (hH.2.2.2.2.1.1.1 w hw).2.2.1 hH.2.2.1 hF.2.2.2.1 (hF.2.2.2.2.1 _ lk) (fun _ h => h) d (K hF H locs LS hH hl)
theorem v_slen {w : Nat} (hw : w < 19) (d : decode M.1 pc = .ok (.arraylength, 1)) (K : V G F M sh nc ns Z (pc + 1) ls (.int (nI (slen.getD w 0)) :: st) m) : V G F M sh nc ns Z pc ls (.ref (G.2.2.2.2.1 w) :: st) m :=
  fun hF H locs LS hH hl => va_tlen hF.1 hF.2.1 (hH.2.2.2.2.1.1.1 w hw).2.2.2 hH.2.2.1 rfl d (K hF H locs LS hH hl)
theorem v_sbald {w : Nat} {i : Int32} (hw : w < 19) (hi : vp_in i (slen.getD w 0)) (d : decode M.1 pc = .ok (.baload, 1)) (K : V G F M sh nc ns Z (pc + 1) ls (.int (sch w i) :: st) m) : V G F M sh nc ns Z pc ls (.int i :: .ref (G.2.2.2.2.1 w) :: st) m :=
  fun hF H locs LS hH hl => va_tb hF.1 hF.2.1 (hH.2.2.2.2.1.1.1 w hw).2.2.2 hH.2.2.1 hi rfl d (K hF H locs LS hH hl)
theorem v_cSt {y : MethodName} {b : ByteArray} {nL n fr lo idx w : Nat} {ret : Option FieldType} {Q : Int32 → Mem → Prop} (As : List Value) (hw : w < 19) (hy : y.cls = "java/lang/String") (mv : MV y b nL ret n) (lk : Cond.methodLink M.2.2.1 idx y ∈ TBg) (hst : stk = As.reverse ++ .ref (G.2.2.2.1 w) :: st) (hn : As.length = n) (hcat : (st.map fun v => v.category).sum ≤ 8) (hfr : fr + 1 ≤ M.2.2.2.2.2.1) (hlo : 8 + (nL + 11) + lo ≤ M.2.2.2.2.2.2.1) (hnc : nc ≤ M.2.2.2.2.2.2.2.1) (hns : ns ≤ M.2.2.2.2.2.2.2.2) (d : decode M.1 pc = .ok (.invokevirtual idx, 3)) (cn : Cni (Fl F) G y b nL ret fr lo sh (.ref (G.2.2.2.1 w) :: As) m Q) (K : ∀ (r : Int32) (m' : Mem), Q r m' → V G F M sh nc ns Z (pc + 3) ls (.int r :: st) m') : V G F M sh nc ns Z pc ls stk m := by
  intro hF H locs LS hH hl
  refine W_sz fun hle => ?_
  refine va_calli (va_runV (As := As) (rest := st) (nL := M.2.1) (C := y.cls) ⟨hF.1, hF.2.1, hF.2.2.1, hF.2.2.2.1, hF.2.2.2.2.1⟩ cn ⟨cb_of hF mv.1 mv.2.2.2.1 mv.2.2.2.2 lk hfr hlo, hF.2.2.2.2.1 _ mv.2.1, hF.2.2.2.2.1 _ mv.2.2.1⟩ ⟨Ok.blind, by rw [hy]; exact vk_recv hH.2.2.2.2.1.1 hw hH.2.2.1, fun U hU hW => ⟨rfl, hH.ok hle hU hW⟩⟩ rfl hn hl.1 hst (lv_room hcat) d ⟨Nat.le_trans hnc hF.2.2.2.2.2.2.2.2.2.2.1, Nat.le_trans hns hF.2.2.2.2.2.2.2.2.2.2.2⟩) hH.2.2.1 (fun q _ h => h) (fun q h => h) (fun r u t H1 locs1 ht hvm hw hB hz hk hS => K r u hw hF H1 locs1 LS ⟨hH.1, by rw [← ht]; exact hB.2.1, hS, hH.2.2.2⟩ hl)
end Rows
