/-! ===== new cells: rows for constructors ===== -/
def a0n (k N : Nat) : vp_A := if k = 103 then (N, .inr (.inl (fun _ => 0))) else (N, .inl (fun _ => 0))
def dfv (t : Nat) : Value := if t = 0 then .int 0 else if t = 1 then .long 0 else .null
/-- the cell a is new: all of it is as a new cell is -/
def nw (m : Mem) (a : Nat) : Mem := (fun a' k' => if a' = a then 0 else m.1 a' k', fun a' k' => if a' = a then 0 else m.2.1 a' k', fun a' k' => if a' = a then none else m.2.2 a' k')
/-- the classes of arrays of references, found when such an array is made -/
abbrev up (G : Gl) (c4 c5 : ClassId) : Gl := (G.1, G.2.1, fun k => if k = 104 then c4 else if k = 105 then c5 else G.2.2.1 k, G.2.2.2)
theorem up_self (G : Gl) : up G (G.2.2.1 104) (G.2.2.1 105) = G := by
  obtain ⟨a, b, c, d⟩ := G
  simp only [up]
  congr 3
  funext k
  by_cases h : k = 104
  · subst h; rfl
  · by_cases h2 : k = 105
    · subst h2; rfl
    · simp [h, h2]
theorem cel_nw {ac : Nat → ClassId} {B : Nat} {m : Mem} {a i : Nat} (h : i ≠ a) (r : Nat × Nat) : celE ac B (nw m a) i r = celE ac B m i r := by
  have e1 : (nw m a).1 i = m.1 i := by funext j; simp [nw, h]
  have e2 : (nw m a).2.1 i = m.2.1 i := by funext j; simp [nw, h]
  have e3 : (nw m a).2.2 i = m.2.2 i := by funext j; simp [nw, h]
  have e4 : ∀ c, fls B (nw m a) i c = fls B m i c := by
    intro c
    unfold fls
    apply List.map_congr_left
    intro j _
    simp only [fvl, e1, e2, e3]
  simp only [celE, e1, e2, e3, e4]
theorem wld_push {G G' : Gl} {sh : Shp} {m m' : Mem} {x : Nat × Nat} (hB : G'.1 = G.1) (h : ∀ i, i < sh.length → celE G'.2.2.1 G.1 m' i (sh.getD i (0, 0)) = celE G.2.2.1 G.1 m i (sh.getD i (0, 0))) : wld G' (sh ++ [x]) m' = wld G sh m ++ [(G.1 + sh.length, celE G'.2.2.1 G.1 m' sh.length x)] := by
  unfold wld
  rw [List.length_append, List.length_singleton, List.range_succ, List.map_append, hB]
  congr 1
  · apply List.map_congr_left
    intro i hi
    have hi : i < sh.length := List.mem_range.mp hi
    have e : (sh ++ [x]).getD i (0, 0) = sh.getD i (0, 0) := by
      rw [List.getD_eq_getElem?_getD, List.getD_eq_getElem?_getD, List.getElem?_append_left hi]
    rw [e, h i hi]
  · simp
theorem tyl_push {G : Gl} {sh : Shp} {x : Nat × Nat} (h : x.1 < 104) : tyl G (sh ++ [x]) = tyl G sh := by
  unfold tyl
  congr 1
  apply List.filter_congr
  intro k hk
  by_cases h2 : k < 104
  · simp [h2]
  · have : (x.1 == k) = false := by simp; omega
    simp [List.any_append, this]
theorem q_new {G : Gl} {F : Fr} {sh : Shp} {nc q : Nat} {m : Mem} {H H1 : Heap} {locs : List Loc} {e : va_E} (hH : HOK G F sh nc m H locs) (hP : va_P G.2.1 vwCl (wld G sh m ++ [(q, e)]) H1) (hD : va_D (fun q => G.1 ≤ q) (wld G sh m ++ [(q, e)])) (hle : H1.size ≤ (Fs F).heap.size + (nc + 1)) : q = G.1 + sh.length := by
  have hl : (wld G sh m).length = sh.length := wld_len G sh m
  have g1 : (wld G sh m ++ [(q, e)])[sh.length]? = some (q, e) := by
    rw [List.getElem?_append_right (by omega), hl, Nat.sub_self]
    rfl
  have h1 : q < H1.size := (hP _ _ g1).lt
  have h2 : G.1 ≤ q := hD.2 _ _ g1
  have h3 := hH.1
  apply Classical.byContradiction
  intro hne
  have hi : q - G.1 < sh.length := by omega
  have g2 : (wld G sh m ++ [(q, e)])[q - G.1]? = some (G.1 + (q - G.1), celE G.2.2.1 G.1 m (q - G.1) sh[q - G.1]) := by
    rw [List.getElem?_append_left (by omega), wld_get (List.getElem?_eq_getElem hi)]
  have h4 := hD.1 _ _ _ _ g1 g2 (by show q = G.1 + (q - G.1); omega)
  omega
set_option maxRecDepth 20000 in
theorem oi_inst : Cond.instanceMethod Lib.objectInit ∈ TBg := tm_1 28 rfl rfl
set_option maxRecDepth 20000 in
theorem oi_code : Cond.code Lib.objectInit ⟨#[0xb1]⟩ 1 none ∈ TBg := tm_1 29 rfl rfl
section Rows
variable {G : Gl} {F : Fr} {M : Mi} {sh : Shp} {nc ns : Nat} {Z : State → Prop} {pc : Nat} {ls : List (Nat × Value)} {st stk : List Value} {m : Mem}
theorem v_new {idx c N : Nat} {C : String} {T : u_T} {ty : Nat → FieldType} (ci : CI c C T N ty) (dv : ∀ j, j < N → defaultValue (ty j) = dfv (ft c j)) (cl : Cond.classLink M.2.2.1 idx C ∈ TBg) (ins : Cond.instantiable C N ∈ TBg) (ini : Cond.initialized C ∈ TBg) (h1 : nc + 1 ≤ M.2.2.2.2.2.2.2.1) (h2 : ns + N ≤ M.2.2.2.2.2.2.2.2) (d : decode M.1 pc = .ok (.new idx, 3)) (K : V G F M (sh ++ [(c, N)]) (nc + 1) (ns + N) Z (pc + 3) ls (.ref (G.1 + sh.length) :: st) (nw m sh.length)) : V G F M sh nc ns Z pc ls st m := by
  obtain ⟨hc, hin, hty, hnm, hN, hlt⟩ := ci
  intro hF H locs LS hH hl
  refine va_new (A := fun q => G.1 ≤ q) (fs := fls G.1 (nw m sh.length) sh.length c) hF.1 hF.2.1 hF.2.2.2.2.1 hin ty hty hF.2.2.2.1 (hF.2.2.2.2.1 _ cl) (hF.2.2.2.2.1 _ ins) (hF.2.2.2.2.1 _ ini) hH.2.2.2.1 hH.2.1 (wld_D G sh m) hH.2.2.1 (fun q h => Nat.le_trans hH.2.2.2.2.2 h) hc ?_ (Nat.le_trans h1 hF.2.2.2.2.2.2.2.2.2.2.1) (Nat.le_trans h2 hF.2.2.2.2.2.2.2.2.2.2.2) d ?_
  · intro j hj
    rw [dv j hj]
    have e : (fls G.1 (nw m sh.length) sh.length c)[j]? = some (dfv (ft c j)) := by
      rw [fls_get (by rw [← hN]; exact hj)]
      simp [fvl, dfv, nw, va_rf]
    simp [vp_V, List.getD_eq_getElem?_getD, e]
  · intro q H1 hP hD hS
    refine W_sz fun hle => ?_
    obtain rfl := q_new hH hP hD hle
    refine K hF H1 locs LS ⟨?_, ?_, hS, ?_, hH.2.2.2.2⟩ hl
    · have := hH.1
      rw [List.length_append, List.length_singleton]
      omega
    · rw [wld_push (G := G) rfl (fun i hi => cel_nw (by omega) _), cel_o hlt]
      exact hP
    · rw [tyl_push (by show c < 104; omega)]
      exact hH.2.2.2.1
theorem v_newa {n : Int32} {N k : Nat} {atype : ArrayType} {ty : FieldType} (hty : newarray.typeOf atype = ty) (hk : tyO k = ty) (hk2 : 100 ≤ k ∧ k < 104) (hcell : ∀ cA : ClassId, vp_cell cA (a0n k N) = arrV cA N (fun _ => defaultValue ty)) (hra : ∀ (U : State) (c : ClassId), va_RA U c ty → U.vm.findClass ("[" ++ ty.toString) = some c) (w : Cond.arrayClass (newarray.typeOf atype) ∈ TBg) (hn : ¬ n < 0) (hN : n.toNatClampNeg = N) (hby : N * componentBytes ty ≤ 536870912) (h1 : nc + 1 ≤ M.2.2.2.2.2.2.2.1) (h2 : ns + N ≤ M.2.2.2.2.2.2.2.2) (d : decode M.1 pc = .ok (.newarray atype, 2)) (K : V G F M (sh ++ [(k, N)]) (nc + 1) (ns + N) Z (pc + 2) ls (.ref (G.1 + sh.length) :: st) (nw m sh.length)) : V G F M sh nc ns Z pc ls (.int n :: st) m := by
  intro hF H locs LS hH hl
  refine va_newa (A := fun q => G.1 ≤ q) hF.1 hF.2.1 (hF.2.2.2.2.1 _ w) hty hH.2.2.2.1 hH.2.1 (wld_D G sh m) hH.2.2.1 (fun q h => Nat.le_trans hH.2.2.2.2.2 h) hcell hn hN hby (Nat.le_trans h1 hF.2.2.2.2.2.2.2.2.2.2.1) (Nat.le_trans h2 hF.2.2.2.2.2.2.2.2.2.2.2) d ?_
  intro q cA H1 hKK hP hD hS
  refine W_sz fun hle => ?_
  obtain rfl := q_new hH hP hD hle
  have e1 : (Fs F).vm.findClass ("[" ++ ty.toString) = some cA := hra _ _ (hKK.2 (tyl G sh).length (cA, ty) (by rw [List.getElem?_append_right (Nat.le_refl _), Nat.sub_self]; rfl)).2
  obtain ⟨t0, ht0⟩ : ∃ t0 : Nat, (tyl G sh)[t0]? = some (G.2.2.1 k, ty) := by
    apply List.getElem?_of_mem
    unfold tyl
    refine List.mem_map.mpr ⟨k, List.mem_filter.mpr ⟨?_, by simp [hk2.2]⟩, by rw [hk]⟩
    have : k = 100 ∨ k = 101 ∨ k = 102 ∨ k = 103 := by omega
    rcases this with rfl | rfl | rfl | rfl <;> simp
  have e2 := hra _ _ (hH.2.2.2.1.2 t0 _ ht0).2
  obtain rfl : cA = G.2.2.1 k := Option.some.inj (e1.symm.trans e2)
  refine K hF H1 locs LS ⟨?_, ?_, hS, ?_, hH.2.2.2.2⟩ hl
  · have := hH.1
    rw [List.length_append, List.length_singleton]
    omega
  · rw [wld_push (G := G) rfl (fun i hi => cel_nw (by omega) _)]
    have e3 : celE G.2.2.1 G.1 (nw m sh.length) sh.length (k, N) = .inl (G.2.2.1 k, a0n k N) := by
      have : k = 100 ∨ k = 101 ∨ k = 102 ∨ k = 103 := by omega
      rcases this with rfl | rfl | rfl | rfl <;> simp [celE, nw, a0n]
    rw [e3]
    exact hP
  · rw [tyl_push (by exact hk2.2)]
    exact hH.2.2.2.1
theorem v_oinit {idx x : Nat} (lk : Cond.methodLink M.2.2.1 idx Lib.objectInit ∈ TBg) (hcat : (st.map fun v => v.category).sum ≤ 8) (hfr : 1 ≤ M.2.2.2.2.2.1) (hlo : 20 ≤ M.2.2.2.2.2.2.1) (d : decode M.1 pc = .ok (.invokespecial idx, 3)) (K : V G F M sh nc ns Z (pc + 3) ls st m) : V G F M sh nc ns Z pc ls (.ref x :: st) m :=
  fun hF H locs LS hH hl => W.objInit hF.1 hF.2.1 hF.2.2.2.1 (hF.2.2.2.2.1 _ lk) (hF.2.2.2.2.1 _ oi_inst) (hF.2.2.2.2.1 _ oi_code) rfl (by rw [hF.2.2.1]; exact hl.1) rfl d (Nat.le_trans hfr hF.2.2.2.2.2.2.2.2.1) (by have h1 := hF.2.2.2.2.2.2.2.2.2.1; show 2 * 0 + _ + 12 ≤ _; omega) (K hF H locs LS hH hl)
theorem tyl_up {G : Gl} {sh : Shp} {c4 c5 : ClassId} {k n : Nat} {s : State} {cA : ClassId} (hk : (k = 104 ∧ cA = c4 ∧ c5 = G.2.2.1 105) ∨ (k = 105 ∧ cA = c5 ∧ c4 = G.2.2.1 104)) (hno : ∀ q ∈ sh, q.1 ≠ k) (hK : va_K G.2.1 vwCl (tyl G sh ++ [(cA, tyO k)]) s) : va_K (up G c4 c5).2.1 vwCl (tyl (up G c4 c5) (sh ++ [(k, n)])) s := by
  refine ⟨hK.1, fun j q hj => ?_⟩
  have hm : q ∈ tyl (up G c4 c5) (sh ++ [(k, n)]) := List.mem_of_getElem? hj
  unfold tyl at hm
  obtain ⟨r, hr, rfl⟩ := List.mem_map.mp hm
  obtain ⟨hr1, hr2⟩ := List.mem_filter.mp hr
  have key : ∀ x : ClassId × FieldType, x ∈ tyl G sh ++ [(cA, tyO k)] → ArrOfT s x.1 x.2 ∧ va_RA s x.1 x.2 := by
    intro x hx
    obtain ⟨i, hi⟩ := List.getElem?_of_mem hx
    exact hK.2 i x hi
  apply key
  by_cases h : r = k
  · subst h
    apply List.mem_append_right
    rcases hk with ⟨rfl, rfl, -⟩ | ⟨rfl, rfl, -⟩ <;> simp
  · apply List.mem_append_left
    unfold tyl
    refine List.mem_map.mpr ⟨r, List.mem_filter.mpr ⟨hr1, ?_⟩, ?_⟩
    · have : (k == r) = false := by simp; omega
      simpa [List.any_append, this] using hr2
    · have e : G.2.2.1 r = (if r = 104 then c4 else if r = 105 then c5 else G.2.2.1 r) := by
        rcases hk with ⟨rfl, -, rfl⟩ | ⟨rfl, -, rfl⟩
        · rw [if_neg h]
          by_cases h5 : r = 105
          · subst h5; rfl
          · rw [if_neg h5]
        · by_cases h4 : r = 104
          · subst h4; rfl
          · rw [if_neg h4, if_neg h]
      rw [e]
theorem wld_up {G : Gl} {sh : Shp} {c4 c5 cA : ClassId} {k n : Nat} {m : Mem} (hk : (k = 104 ∧ cA = c4 ∧ c5 = G.2.2.1 105) ∨ (k = 105 ∧ cA = c5 ∧ c4 = G.2.2.1 104)) (hno : ∀ q ∈ sh, q.1 ≠ k) : wld (up G c4 c5) (sh ++ [(k, n)]) (nw m sh.length) = wld G sh m ++ [(G.1 + sh.length, .inl (cA, n, .inr (.inr (.inr (.inr (fun _ => none))))))] := by
  rw [wld_push (G := G) (G' := up G c4 c5) (m := m) rfl]
  · congr 3
    rcases hk with ⟨rfl, rfl, -⟩ | ⟨rfl, rfl, -⟩ <;> simp [celE, nw]
  · intro i hi
    rw [cel_nw (by omega)]
    have hq : sh.getD i (0, 0) ∈ sh := by
      rw [List.getD_eq_getElem?_getD, List.getElem?_eq_getElem hi]
      exact List.getElem_mem hi
    have hne := hno _ hq
    generalize sh.getD i (0, 0) = r at hne
    have e : (if r.1 = 104 then c4 else if r.1 = 105 then c5 else G.2.2.1 r.1) = G.2.2.1 r.1 := by
      rcases hk with ⟨rfl, -, rfl⟩ | ⟨rfl, -, rfl⟩
      · rw [if_neg hne]
        by_cases h5 : r.1 = 105
        · rw [if_pos h5, h5]
        · rw [if_neg h5]
      · by_cases h4 : r.1 = 104
        · rw [if_pos h4, h4]
        · rw [if_neg h4, if_neg hne]
    simp only [celE, e]
theorem Kst.up {G : Gl} {U : State} {H : Heap} {c4 c5 : ClassId} (h : Kst G U H) : Kst (up G c4 c5) U H := h
theorem v_anew {idx : Nat} {n : Int32} {N k : Nat} {C : String} (hC : (k = 104 ∧ C = "CalledRiver$Way") ∨ (k = 105 ∧ C = "CalledRiver$Land")) (hno : ∀ q ∈ sh, q.1 ≠ k) (cl : Cond.classLink M.2.2.1 idx C ∈ TBg) (hn : ¬ n < 0) (hN : n.toNatClampNeg = N) (hby : N * 4 ≤ 536870912) (h1 : nc + 1 ≤ M.2.2.2.2.2.2.2.1) (h2 : ns + N ≤ M.2.2.2.2.2.2.2.2) (d : decode M.1 pc = .ok (.anewarray idx, 3)) (K : ∀ c4 c5 : ClassId, V (up G c4 c5) F M (sh ++ [(k, N)]) (nc + 1) (ns + N) Z (pc + 3) ls (.ref (G.1 + sh.length) :: st) (nw m sh.length)) : V G F M sh nc ns Z pc ls (.int n :: st) m := by
  intro hF H locs LS hH hl
  have hao : va_AO C (Fs F) := by
    rcases hC with ⟨-, rfl⟩ | ⟨-, rfl⟩
    · exact hH.2.2.2.2.1.2.2.2.2.2.2.2.2.2.2.1
    · exact hH.2.2.2.2.1.2.2.2.2.2.2.2.2.2.2.2.1
  have hty : FieldType.object C = tyO k := by rcases hC with ⟨rfl, rfl⟩ | ⟨rfl, rfl⟩ <;> rfl
  refine va_newq (A := fun q => G.1 ≤ q) hF.1 hF.2.1 hF.2.2.2.1 (hF.2.2.2.2.1 _ cl) hao hH.2.2.2.1 hH.2.1 (wld_D G sh m) hH.2.2.1 (fun q h => Nat.le_trans hH.2.2.2.2.2 h) hn hN hby (Nat.le_trans h1 hF.2.2.2.2.2.2.2.2.2.2.1) (Nat.le_trans h2 hF.2.2.2.2.2.2.2.2.2.2.2) d ?_
  intro q cA H1 hKK hP hD hS
  refine W_sz fun hle => ?_
  obtain rfl := q_new hH hP hD hle
  rw [hty] at hKK
  have hsz : (Fs F).heap.size + (nc + 1) = (G.1 : Nat) + (sh ++ [(k, N)]).length := by
    have := hH.1
    rw [List.length_append, List.length_singleton]
    omega
  rcases hC with ⟨rfl, rfl⟩ | ⟨rfl, rfl⟩
  · refine K cA (G.2.2.1 105) hF H1 locs LS ⟨hsz, ?_, hS, tyl_up (Or.inl ⟨rfl, rfl, rfl⟩) hno hKK, hH.2.2.2.2⟩ hl
    rw [wld_up (Or.inl ⟨rfl, rfl, rfl⟩) hno]
    exact hP
  · refine K (G.2.2.1 104) cA hF H1 locs LS ⟨hsz, ?_, hS, tyl_up (Or.inr ⟨rfl, rfl, rfl⟩) hno hKK, hH.2.2.2.2⟩ hl
    rw [wld_up (Or.inr ⟨rfl, rfl, rfl⟩) hno]
    exact hP
theorem v_aast {a b c n : Nat} {i : Int32} (k : Nat) (d : decode M.1 pc = .ok (.aastore, 1)) (hk : (k = 104 ∧ c = 10) ∨ (k = 105 ∧ c = 1)) (h : Ix sh a k i) (ho : sh[b]? = some (c, n)) (K : V G F M sh nc ns Z (pc + 1) ls st (sR m a i.toNatClampNeg (some b))) : V G F M sh nc ns Z pc ls (.ref (G.1 + b) :: .int i :: .ref (G.1 + a) :: st) m := by
  obtain ⟨n0, ha, hi⟩ := h
  obtain ⟨t0, ht⟩ := ty_in (G := G) ha (by omega)
  intro hF H locs LS hH hl
  obtain ⟨r, hr, hrt⟩ : ∃ r : vw_C, vwCl[c]? = some r ∧ tyO k = .object r.1 := by
    rcases hk with ⟨rfl, rfl⟩ | ⟨rfl, rfl⟩
    · exact ⟨_, rfl, rfl⟩
    · exact ⟨_, rfl, rfl⟩
  rw [hrt] at ht
  refine va_astq hF.1 hF.2.1 hH.2.2.2.1 hH.2.1 (wld_D G sh m) hH.2.2.1 a t0 b c (by rw [wld_get ha, cel_r (by omega)]) ht (by rw [wld_get ho, cel_o (by omega)]) hr hi d ?_
  intro H1 locs1 hP hD hS
  rw [set_aR ha (by omega)] at hP
  exact K hF H1 locs1 LS ⟨hH.1, hP, hS, hH.2.2.2⟩ hl
end Rows
/-- a constructor's contract: the cells that it makes come behind those that there are -/
abbrev QA (G : Gl) (sh : Shp) (mc : Nat) (Q : Shp → Mem → Prop) : Array Value → State → Outcome → State → Prop := va_Qv (fun u : (ClassId × ClassId) × Shp × Mem => Q u.2.1 u.2.2 ∧ u.2.1.length = sh.length + mc) (fun u t => Ok (up G u.1.1 u.1.2) u.2.1 u.2.2 t) (Aof G)
abbrev Za (G : Gl) (F : Fr) (sh : Shp) (mc ms : Nat) (Q : Shp → Mem → Prop) : State → Prop := MQ (Fb F) (QA G sh mc Q) (Fa F) (Fs F) mc ms (Aof G)
def CnA (l : Launch) (G : Gl) (y : MethodName) (b : ByteArray) (nL fr lo mc ms : Nat) (sh : Shp) (av : List Value) (m : Mem) (Q : Shp → Mem → Prop) : Prop := Met l y (wsOf y b nL none) { frames := fr, cells := mc, slots := ms, locals := lo } (va_Pc av (Ok G sh m)) (QA G sh mc Q) mc ms (Aof G)
theorem con_A {l : Launch} {G : Gl} {y : MethodName} {b : ByteArray} {nL fr lo mc ms : Nat} {sh : Shp} {av : List Value} {m : Mem} {Q : Shp → Mem → Prop} {ls : List (Nat × Value)} (hy : plainFor y = true) (hls : lv_args 0 av = ls) (hlen : (lg_sl av).length ≤ nL) (h : ∀ F : Fr, V G F (b, nL, y.cls, none, y.name, fr, lo, mc, ms) sh 0 0 (Za G F sh mc ms Q) 0 ls [] m) : CnA l G y b nL fr lo mc ms sh av m Q := by
  refine met_F (cc := b) (maxL := nL) (ret := none) hy rfl ?_
  intro p e s mt args below meth c s₁ B hml hv
  obtain ⟨rfl, hok⟩ := hv
  have hts := atoms_spec (ws := wsOf y b nL none) B.pre
  have hl := lv_entry av hlen
  rw [hls] at hl
  rw [lg_entry_eq]
  exact h (p, l, e, (headSpec (wsOf y b nL none) { frames := fr, cells := mc, slots := ms, locals := lo }).room, s, mt, av.toArray, below, meth, c) ⟨B.exec, B.bytes, hml, findClass_of_methodNamed B.named, fun w hw => hts w (List.mem_cons_of_mem _ hw), B.notSynchronized, B.returns, (name_of_methodNamed B.named B.method).1, Nat.le_refl _, Nat.le_refl _, Nat.le_refl _, Nat.le_refl _⟩ s.heap [] _ ⟨hok.1, hok.2.1, va_S.rf, hok.2.2.1, hok.2.2.2, by rw [hok.1]; exact Nat.le_add_right _ _⟩ hl
section Rows
variable {G G0 : Gl} {F : Fr} {M : Mi} {sh sh0 : Shp} {nc ns mc ms : Nat} {Z : State → Prop} {pc : Nat} {ls : List (Nat × Value)} {st stk : List Value} {m : Mem}
variable {y : MethodName} {b : ByteArray} {nL n fr lo idx a c : Nat} {As : List Value}
theorem v_cret {Q : Shp → Mem → Prop} {c4 c5 : ClassId} (d : decode M.1 pc = .ok (.return_, 1)) (hr : M.2.2.2.1 = none) (hlen : sh.length = sh0.length + mc) (h1 : nc ≤ mc) (h2 : ns ≤ ms) (h : Q sh m) : V (up G0 c4 c5) F M sh nc ns (Za G0 F sh0 mc ms Q) pc ls [] m := by
  intro hF H locs LS hH hl
  refine W_sz fun hle => W.widen h1 h2 ?_
  exact W.vret hF.1 hF.2.1 (hF.2.2.2.2.2.2.1.trans hr) (fun t ht hW => ⟨⟨((c4, c5), sh, m), rfl, ⟨h, hlen⟩, hH.ok hle ht hW⟩, hH.2.2.1.F ht⟩) hH.2.2.1.2.2 d hF.2.2.2.2.2.1
/-- a constructor's words -/
def MI (y : MethodName) (b : ByteArray) (nL n : Nat) : Prop := Cond.code y b nL none ∈ TBg ∧ Cond.instanceMethod y ∈ TBg ∧ Cond.initialized y.cls ∈ TBg ∧ y.name = "<init>" ∧ (y.cls ≠ "java/lang/invoke/MethodHandle" ∧ y.cls ≠ "java/lang/invoke/VarHandle" ∧ (parseMethodDescriptor y.desc).map (fun d => d.parameters.length) = some n)
theorem v_cI {Q : Shp → Mem → Prop} (As : List Value) (mi : MI y b nL n) (lk : Cond.methodLink M.2.2.1 idx y ∈ TBg ∨ (M.2.2.1, idx, y) ∈ nestM) (hst : stk = As.reverse ++ .ref (G.1 + a) :: st) (hn : As.length = n) (hcat : (st.map fun v => v.category).sum ≤ 8) (hfr : fr + 1 ≤ M.2.2.2.2.2.1) (hlo : 8 + (nL + 11) + lo ≤ M.2.2.2.2.2.2.1) (hnc : nc + mc ≤ M.2.2.2.2.2.2.2.1) (hns : ns + ms ≤ M.2.2.2.2.2.2.2.2) (d : decode M.1 pc = .ok (.invokespecial idx, 3)) (cn : CnA (Fl F) G y b nL fr lo mc ms sh (.ref (G.1 + a) :: As) m Q) (K : ∀ (c4 c5 : ClassId) (sh' : Shp) (m' : Mem), Q sh' m' → sh'.length = sh.length + mc → V (up G c4 c5) F M sh' (nc + mc) (ns + ms) Z (pc + 3) ls st m') : V G F M sh nc ns Z pc ls stk m := by
  intro hF H locs LS hH hl
  refine W_sz fun hle => ?_
  have hrm : fr + 1 ≤ (FR F).frames ∧ 8 + (nL + 11) + lo ≤ (FR F).locals := ⟨Nat.le_trans hfr hF.2.2.2.2.2.2.2.2.1, Nat.le_trans hlo hF.2.2.2.2.2.2.2.2.2.1⟩
  have hroom : nc + mc ≤ (FR F).cells ∧ ns + ms ≤ (FR F).slots := ⟨Nat.le_trans hnc hF.2.2.2.2.2.2.2.2.2.2.1, Nat.le_trans hns hF.2.2.2.2.2.2.2.2.2.2.2⟩
  have hrun : va_Run (Fp F) (Fl F) (Fe F) (FR F) (Fs F) (Fm F) (Fa F) (Fb F) (Ft F) (Fc F) H locs nc ns mc ms (F0 (Fm F) pc LS stk) st (QA G sh mc Q (Value.ref (G.1 + a) :: As).toArray) (Aof G) := by
    rcases lk with lk | lk
    · exact va_runI (As := As) (rest := st) (nL := M.2.1) ⟨hF.1, hF.2.1, hF.2.2.1, hF.2.2.2.1, hF.2.2.2.2.1⟩ cn ⟨callB_of n hF.2.2.2.2.1 (gd_of mi.1) rfl rfl rfl (hF.2.2.2.2.1 _ mi.2.2.1) (hF.2.2.2.2.1 _ lk) mi.2.2.2.2 hrm, mi.2.2.2.1, hF.2.2.2.2.1 _ mi.2.1⟩ (pre_s hH hle) rfl hn hl.1 hst (lv_room hcat) d hroom
    · exact va_runIN (As := As) (rest := st) (nL := M.2.1) ⟨hF.1, hF.2.1, hF.2.2.1, hF.2.2.2.1, hF.2.2.2.2.1⟩ cn ⟨va_cnB n hF.2.2.2.2.1 (gd_of mi.1) rfl rfl rfl (hH.2.2.2.2.1.2.2.2.2.2.2.2.1 _ lk) (hF.2.2.2.2.1 _ mi.2.2.1) mi.2.2.2.2 hrm, mi.2.2.2.1, hF.2.2.2.2.1 _ mi.2.1⟩ (pre_s hH hle) rfl hn hl.1 hst (lv_room hcat) d hroom
  refine va_callv hrun hH.2.2.1 (fun q _ h => h) (fun q h => h) (fun u t H1 locs1 ht hvm hw hB hz hk hS => ?_)
  obtain ⟨hw, hlen⟩ := hw
  have hB : Ok (up G u.1.1 u.1.2) u.2.1 u.2.2 t := hB
  refine K u.1.1 u.1.2 u.2.1 u.2.2 hw hlen hF H1 locs1 LS ⟨?_, by rw [← ht]; exact hB.2.1, hS, va_K.moved hvm.symm hB.2.2.1, hH.2.2.2.2⟩ hl
  have := hH.1
  show (Fs F).heap.size + (nc + mc) = G.1 + u.2.1.length
  omega
end Rows
