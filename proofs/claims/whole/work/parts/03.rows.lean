/-! ===== the layer: what a method's frame knows, and the judgement V over the memory ===== -/
/-- the String constants: class, place in its pool, text, number; their lengths and bytes -/
def strs : List (String × Nat × String × Nat) := [("CalledRiver$PlainReader", 57, "plain", 0), ("CalledRiver$PlainReader", 69, "by", 1), ("CalledRiver$PlainReader", 78, "high stone source farm caller goes bakes", 2), ("CalledRiver$Tape", 72, "plain by high stone source farm at day pie caller bold kind goes bakes year been height down step wet number column row first or and not all min max", 3), ("CalledRiver$PlainReader", 150, "at", 4), ("CalledRiver$PlainReader", 155, "day", 5), ("CalledRiver$PlainReader", 160, "pie", 6), ("CalledRiver$PlainReader", 171, "bold", 7), ("CalledRiver$PlainReader", 175, "kind", 8), ("CalledRiver$SumReader", 105, "min max", 9), ("CalledRiver$SumReader", 118, "min", 10), ("CalledRiver$SumReader", 110, "wet step", 11), ("CalledRiver$SumReader", 120, "wet", 12), ("CalledRiver$SumReader", 122, "year pie been bold kind height down step wet number column row day", 13), ("CalledRiver$SumReader", 32, "first last often total most least", 14), ("CalledRiver$SumReader", 76, "not", 15), ("CalledRiver$SumReader", 90, "all", 16), ("CalledRiver$SumReader", 74, "and", 17), ("CalledRiver$SumReader", 66, "or", 18)]
def slen : List Nat := [5, 2, 40, 148, 2, 3, 3, 4, 4, 7, 3, 8, 3, 66, 33, 3, 3, 3, 2]
def sbyt : List (List Int32) := [[112, 108, 97, 105, 110], [98, 121], [104, 105, 103, 104, 32, 115, 116, 111, 110, 101, 32, 115, 111, 117, 114, 99, 101, 32, 102, 97, 114, 109, 32, 99, 97, 108, 108, 101, 114, 32, 103, 111, 101, 115, 32, 98, 97, 107, 101, 115], [112, 108, 97, 105, 110, 32, 98, 121, 32, 104, 105, 103, 104, 32, 115, 116, 111, 110, 101, 32, 115, 111, 117, 114, 99, 101, 32, 102, 97, 114, 109, 32, 97, 116, 32, 100, 97, 121, 32, 112, 105, 101, 32, 99, 97, 108, 108, 101, 114, 32, 98, 111, 108, 100, 32, 107, 105, 110, 100, 32, 103, 111, 101, 115, 32, 98, 97, 107, 101, 115, 32, 121, 101, 97, 114, 32, 98, 101, 101, 110, 32, 104, 101, 105, 103, 104, 116, 32, 100, 111, 119, 110, 32, 115, 116, 101, 112, 32, 119, 101, 116, 32, 110, 117, 109, 98, 101, 114, 32, 99, 111, 108, 117, 109, 110, 32, 114, 111, 119, 32, 102, 105, 114, 115, 116, 32, 111, 114, 32, 97, 110, 100, 32, 110, 111, 116, 32, 97, 108, 108, 32, 109, 105, 110, 32, 109, 97, 120], [97, 116], [100, 97, 121], [112, 105, 101], [98, 111, 108, 100], [107, 105, 110, 100], [109, 105, 110, 32, 109, 97, 120], [109, 105, 110], [119, 101, 116, 32, 115, 116, 101, 112], [119, 101, 116], [121, 101, 97, 114, 32, 112, 105, 101, 32, 98, 101, 101, 110, 32, 98, 111, 108, 100, 32, 107, 105, 110, 100, 32, 104, 101, 105, 103, 104, 116, 32, 100, 111, 119, 110, 32, 115, 116, 101, 112, 32, 119, 101, 116, 32, 110, 117, 109, 98, 101, 114, 32, 99, 111, 108, 117, 109, 110, 32, 114, 111, 119, 32, 100, 97, 121], [102, 105, 114, 115, 116, 32, 108, 97, 115, 116, 32, 111, 102, 116, 101, 110, 32, 116, 111, 116, 97, 108, 32, 109, 111, 115, 116, 32, 108, 101, 97, 115, 116], [110, 111, 116], [97, 108, 108], [97, 110, 100], [111, 114]]
def nestM : List (String × Nat × MethodName) := [("CalledRiver", 11, ({ cls := "CalledRiver$Tape", name := "<init>", desc := "()V" } : MethodName)), ("CalledRiver", 18, ({ cls := "CalledRiver$Code", name := "<init>", desc := "()V" } : MethodName)), ("CalledRiver", 34, ({ cls := "CalledRiver$Plain", name := "<init>", desc := "()V" } : MethodName)), ("CalledRiver$Plain", 44, ({ cls := "CalledRiver$Code", name := "<init>", desc := "()V" } : MethodName)), ("CalledRiver", 53, ({ cls := "CalledRiver$Land", name := "<init>", desc := "()V" } : MethodName)), ("CalledRiver$Past", 27, ({ cls := "CalledRiver$Land", name := "<init>", desc := "()V" } : MethodName)), ("CalledRiver", 70, ({ cls := "CalledRiver$Led", name := "<init>", desc := "()V" } : MethodName)), ("CalledRiver", 77, ({ cls := "CalledRiver$Sight", name := "<init>", desc := "()V" } : MethodName)), ("CalledRiver", 105, ({ cls := "CalledRiver$Picture", name := "<init>", desc := "()V" } : MethodName))]
def acr : Nat → Int32 := fun j => if j = 0 then 0 else if j = 1 then -1 else if j = 2 then 1 else 0
def dwn : Nat → Int32 := fun j => if j = 0 then -1 else if j = 1 then 0 else if j = 2 then 0 else 1
/-- the constants: Strings, static arrays, what the tables say of nest mates -/
def Kst (G : Gl) (U : State) (H : Heap) : Prop :=
  vk_S 19 slen sbyt G.2.2.2.1 G.2.2.2.2.1 (fun q => G.1 ≤ q) U H ∧ (∀ q ∈ strs, vk_R q.1 q.2.1 q.2.2.1 (G.2.2.2.1 q.2.2.2) U) ∧
  va_Z "CalledRiver" "ACROSS" "[I" (.ref G.2.2.2.2.2.1) (fun q => G.1 ≤ q) U H ∧ va_T .int G.2.2.2.2.2.1 4 (fun j => .int (acr j)) (fun q => G.1 ≤ q) U H ∧
  va_Z "CalledRiver" "DOWNWARD" "[I" (.ref G.2.2.2.2.2.2) (fun q => G.1 ≤ q) U H ∧ va_T .int G.2.2.2.2.2.2 4 (fun j => .int (dwn j)) (fun q => G.1 ≤ q) U H ∧
  va_Z "java/lang/String" "COMPACT_STRINGS" "Z" (.int 1) (fun q => G.1 ≤ q) U H ∧
  (∀ q ∈ nestM, va_Nw (.methodLinkNest q.1 q.2.1 q.2.2 "CalledRiver") U) ∧ va_Nw (.fieldLinkNest "CalledRiver$Plain" 81 "CalledRiver" "ACROSS" "[I" "CalledRiver") U ∧ va_Nw (.fieldLinkNest "CalledRiver$Plain" 87 "CalledRiver" "DOWNWARD" "[I" "CalledRiver") U ∧
  va_AO "CalledRiver$Way" U ∧ va_AO "CalledRiver$Land" U ∧ va_Zq "jdk/internal/util/Preconditions" "SIOOBE_FORMATTER" "Ljava/util/function/BiFunction;" (fun q => G.1 ≤ q) U H
theorem Kst.warm {G : Gl} {s U : State} {H : Heap} (hW : s.WarmedH U.vm) (h : Kst G s H) : Kst G U H := by
  obtain ⟨h1, h2, h3, h4, h5, h6, h7, h8, h9, h10, h11, h12, h13⟩ := h
  exact ⟨h1.moved hW.alike, fun q hq => (h2 q hq).warm hW, h3.moved hW.alike, h4.moved hW.alike, h5.moved hW.alike, h6.moved hW.alike, h7.moved hW.alike, fun q hq => (h8 q hq).warmM hW, h9.warmF hW, h10.warmF hW, va_AO.moved hW.alike h11, va_AO.moved hW.alike h12, h13.moved hW.alike⟩
theorem Kst.kept {G : Gl} {U : State} {H H1 : Heap} (h : Kst G U H) (hq : ∀ a : Nat, a < H.size → ¬ G.1 ≤ a → H1[a]? = H[a]?) : Kst G U H1 := by
  obtain ⟨h1, h2, h3, h4, h5, h6, h7, h8, h9, h10, h11, h12, h13⟩ := h
  exact ⟨h1.kept hq, h2, h3.kept hq, h4.kept hq, h5.kept hq, h6.kept hq, h7.kept hq, h8, h9, h10, h11, h12, h13.kept hq⟩
/-- a state holds a memory -/
def Ok (G : Gl) (sh : Shp) (m : Mem) (U : State) : Prop := U.heap.size = G.1 + sh.length ∧ va_P G.2.1 vwCl (wld G sh m) U.heap ∧ va_K G.2.1 vwCl (tyl G sh) U ∧ Kst G U U.heap
abbrev Fp (F : Fr) : Program := F.1
abbrev Fl (F : Fr) : Launch := F.2.1
abbrev Fe (F : Fr) : Env := F.2.2.1
abbrev FR (F : Fr) : Room := F.2.2.2.1
abbrev Fs (F : Fr) : State := F.2.2.2.2.1
abbrev Fm (F : Fr) : MethodId := F.2.2.2.2.2.1
abbrev Fa (F : Fr) : Array Value := F.2.2.2.2.2.2.1
abbrev Fb (F : Fr) : List Frame := F.2.2.2.2.2.2.2.1
abbrev Ft (F : Fr) : Method := F.2.2.2.2.2.2.2.2.1
abbrev Fc (F : Fr) : Code := F.2.2.2.2.2.2.2.2.2
/-- what a frame knows: machine, code, locals, class, words, no lock, answer, name, room -/
def FOK (F : Fr) (M : Mi) : Prop := (Fp F).tables.exec = Jvm.exec ∧ (Fc F).code = M.1 ∧ (Fc F).maxLocals = M.2.1 ∧ (Fs F).vm.findClass M.2.2.1 = some (Fm F).cls ∧ (∀ w ∈ TBg, w.before (Fa F) (Fs F) = true) ∧ (Ft F).locks = false ∧ (Ft F).sig.returnType = M.2.2.2.1 ∧ (Ft F).name = M.2.2.2.2.1 ∧ M.2.2.2.2.2.1 ≤ (FR F).frames ∧ M.2.2.2.2.2.2.1 ≤ (FR F).locals ∧ M.2.2.2.2.2.2.2.1 ≤ (FR F).cells ∧ M.2.2.2.2.2.2.2.2 ≤ (FR F).slots
/-- the heap now holds the memory; nothing older has changed; what the tables and the constants say of the state at entry -/
def HOK (G : Gl) (F : Fr) (sh : Shp) (nc : Nat) (m : Mem) (H : Heap) (locs : List Loc) : Prop := (Fs F).heap.size + nc = G.1 + sh.length ∧ va_P G.2.1 vwCl (wld G sh m) H ∧ va_S (fun q => G.1 ≤ q) (Fs F).heap H locs ∧ va_K G.2.1 vwCl (tyl G sh) (Fs F) ∧ Kst G (Fs F) (Fs F).heap ∧ G.1 ≤ (Fs F).heap.size
def V (G : Gl) (F : Fr) (M : Mi) (sh : Shp) (nc ns : Nat) (Z : State → Prop) (pc : Nat) (ls : List (Nat × Value)) (st : List Value) (m : Mem) : Prop :=
  FOK F M → ∀ (H : Heap) (locs : List Loc) (LS : Array Slot), HOK G F sh nc m H locs → lv_has LS M.2.1 ls → W (Fp F) (Fl F) (Fe F) (FR F) (Fs F) (Fm F) (Fa F) (Fb F) (Ft F) (Fc F) H locs nc ns Z (F0 (Fm F) pc LS st)
section Rows
variable {G : Gl} {F : Fr} {M : Mi} {sh : Shp} {nc ns : Nat} {Z : State → Prop} {pc : Nat} {ls : List (Nat × Value)} {st : List Value} {m : Mem}
theorem v_sub {ls' : List (Nat × Value)} (ks : List Nat) (h : lv_pick ls ks = ls') (K : V G F M sh nc ns Z pc ls' st m) : V G F M sh nc ns Z pc ls st m :=
  fun hF H locs LS hH hl => K hF H locs LS hH (lv_sub hl ks h)
theorem v_iconst {n : Int} (v : Int32) (d : decode M.1 pc = .ok (.iconst n, 1)) (hv : Int32.ofInt n = v) (K : V G F M sh nc ns Z (pc + 1) ls (.int v :: st) m) : V G F M sh nc ns Z pc ls st m :=
  fun hF H locs LS hH hl => lv_iconst hF.1 hF.2.1 d hv (K hF H locs LS hH hl)
theorem v_bipush {n : Int} (v : Int32) (d : decode M.1 pc = .ok (.bipush n, 2)) (hv : (Int8.ofInt n).toInt32 = v) (K : V G F M sh nc ns Z (pc + 2) ls (.int v :: st) m) : V G F M sh nc ns Z pc ls st m :=
  fun hF H locs LS hH hl => lv_bipush hF.1 hF.2.1 d hv (K hF H locs LS hH hl)
theorem v_sipush {n : Int} (v : Int32) (d : decode M.1 pc = .ok (.sipush n, 3)) (hv : (Int16.ofInt n).toInt32 = v) (K : V G F M sh nc ns Z (pc + 3) ls (.int v :: st) m) : V G F M sh nc ns Z pc ls st m :=
  fun hF H locs LS hH hl => lv_sipush hF.1 hF.2.1 d hv (K hF H locs LS hH hl)
theorem v_lconst {n : Fin 2} (v : Int64) (d : decode M.1 pc = .ok (.lconst n, 1)) (hv : Int64.ofNat (n : Nat) = v) (K : V G F M sh nc ns Z (pc + 1) ls (.long v :: st) m) : V G F M sh nc ns Z pc ls st m :=
  fun hF H locs LS hH hl => lv_lconst hF.1 hF.2.1 d hv (K hF H locs LS hH hl)
theorem v_ldc {idx : Nat} (v : Int32) (d : decode M.1 pc = .ok (.ldc idx, 2)) (w : Cond.constant M.2.2.1 idx v ∈ TBg) (K : V G F M sh nc ns Z (pc + 2) ls (.int v :: st) m) : V G F M sh nc ns Z pc ls st m :=
  fun hF H locs LS hH hl => lv_ldc hF.1 hF.2.1 hF.2.2.2.1 (hF.2.2.2.2.1 _ w) d (K hF H locs LS hH hl)
theorem v_ldcw {idx : Nat} (v : Int32) (d : decode M.1 pc = .ok (.ldc_w idx, 3)) (w : Cond.constant M.2.2.1 idx v ∈ TBg) (K : V G F M sh nc ns Z (pc + 3) ls (.int v :: st) m) : V G F M sh nc ns Z pc ls st m :=
  fun hF H locs LS hH hl => lv_ldcw hF.1 hF.2.1 hF.2.2.2.1 (hF.2.2.2.2.1 _ w) d (K hF H locs LS hH hl)
theorem v_ldc2 {idx : Nat} (v : Int64) (d : decode M.1 pc = .ok (.ldc2_w idx, 3)) (w : Cond.constantLong M.2.2.1 idx v ∈ TBg) (K : V G F M sh nc ns Z (pc + 3) ls (.long v :: st) m) : V G F M sh nc ns Z pc ls st m :=
  fun hF H locs LS hH hl => lv_ldc2 hF.1 hF.2.1 hF.2.2.2.1 (hF.2.2.2.2.1 _ w) d (K hF H locs LS hH hl)
theorem v_ldcS {idx : Nat} {tx : String} (i : Nat) (d : decode M.1 pc = .ok (.ldc idx, 2)) (w : (M.2.2.1, idx, tx, i) ∈ strs) (K : V G F M sh nc ns Z (pc + 2) ls (.ref (G.2.2.2.1 i) :: st) m) : V G F M sh nc ns Z pc ls st m :=
  fun hF H locs LS hH hl => va_ldcS hF.1 hF.2.1 hF.2.2.2.1 (hH.2.2.2.2.1.2.1 _ w) d (K hF H locs LS hH hl)
theorem v_iload_n {k : Fin 4} {x : Int32} (i n : Nat) (d : decode M.1 pc = .ok (.iload_n k, 1)) (hi : (k : Nat) = i) (h : ls[n]? = some (i, .int x)) (K : V G F M sh nc ns Z (pc + 1) ls (.int x :: st) m) : V G F M sh nc ns Z pc ls st m :=
  fun hF H locs LS hH hl => lv_iload_n hF.1 hF.2.1 d hi (lv_at hl n h) (K hF H locs LS hH hl)
theorem v_iload {x : Int32} (i n : Nat) (d : decode M.1 pc = .ok (.iload i, 2)) (h : ls[n]? = some (i, .int x)) (K : V G F M sh nc ns Z (pc + 2) ls (.int x :: st) m) : V G F M sh nc ns Z pc ls st m :=
  fun hF H locs LS hH hl => lv_iload hF.1 hF.2.1 d (lv_at hl n h) (K hF H locs LS hH hl)
theorem v_lload_n {k : Fin 4} {x : Int64} (i n : Nat) (d : decode M.1 pc = .ok (.lload_n k, 1)) (hi : (k : Nat) = i) (h : ls[n]? = some (i, .long x)) (K : V G F M sh nc ns Z (pc + 1) ls (.long x :: st) m) : V G F M sh nc ns Z pc ls st m :=
  fun hF H locs LS hH hl => lv_lload_n hF.1 hF.2.1 d hi (lv_at hl n h) (K hF H locs LS hH hl)
theorem v_lload {x : Int64} (i n : Nat) (d : decode M.1 pc = .ok (.lload i, 2)) (h : ls[n]? = some (i, .long x)) (K : V G F M sh nc ns Z (pc + 2) ls (.long x :: st) m) : V G F M sh nc ns Z pc ls st m :=
  fun hF H locs LS hH hl => lv_lload hF.1 hF.2.1 d (lv_at hl n h) (K hF H locs LS hH hl)
theorem v_aload_n {k : Fin 4} {x : Nat} (i n : Nat) (d : decode M.1 pc = .ok (.aload_n k, 1)) (hi : (k : Nat) = i) (h : ls[n]? = some (i, .ref x)) (K : V G F M sh nc ns Z (pc + 1) ls (.ref x :: st) m) : V G F M sh nc ns Z pc ls st m :=
  fun hF H locs LS hH hl => lv_aload_n hF.1 hF.2.1 d hi (lv_at hl n h) (K hF H locs LS hH hl)
theorem v_aload {x : Nat} (i n : Nat) (d : decode M.1 pc = .ok (.aload i, 2)) (h : ls[n]? = some (i, .ref x)) (K : V G F M sh nc ns Z (pc + 2) ls (.ref x :: st) m) : V G F M sh nc ns Z pc ls st m :=
  fun hF H locs LS hH hl => lv_aload hF.1 hF.2.1 d (lv_at hl n h) (K hF H locs LS hH hl)
theorem v_istore_n {k : Fin 4} {x : Int32} {ls' : List (Nat × Value)} (i : Nat) (d : decode M.1 pc = .ok (.istore_n k, 1)) (hi : (k : Nat) = i) (hn : i < M.2.1) (h : (i, Value.int x) :: ls.filter (fun q => !(q.1 == i) && !(q.1 + 1 == i && q.2.category == 2)) = ls') (K : V G F M sh nc ns Z (pc + 1) ls' st m) : V G F M sh nc ns Z pc ls (.int x :: st) m :=
  fun hF H locs LS hH hl => lv_istore_n hF.1 hF.2.1 d hi hl hn h (fun LS' hl' => K hF H locs LS' hH hl')
theorem v_istore {x : Int32} {ls' : List (Nat × Value)} (i : Nat) (d : decode M.1 pc = .ok (.istore i, 2)) (hn : i < M.2.1) (h : (i, Value.int x) :: ls.filter (fun q => !(q.1 == i) && !(q.1 + 1 == i && q.2.category == 2)) = ls') (K : V G F M sh nc ns Z (pc + 2) ls' st m) : V G F M sh nc ns Z pc ls (.int x :: st) m :=
  fun hF H locs LS hH hl => lv_istore hF.1 hF.2.1 d hl hn h (fun LS' hl' => K hF H locs LS' hH hl')
theorem v_astore_n {k : Fin 4} {x : Nat} {ls' : List (Nat × Value)} (i : Nat) (d : decode M.1 pc = .ok (.astore_n k, 1)) (hi : (k : Nat) = i) (hn : i < M.2.1) (h : (i, Value.ref x) :: ls.filter (fun q => !(q.1 == i) && !(q.1 + 1 == i && q.2.category == 2)) = ls') (K : V G F M sh nc ns Z (pc + 1) ls' st m) : V G F M sh nc ns Z pc ls (.ref x :: st) m :=
  fun hF H locs LS hH hl => lv_astore_n hF.1 hF.2.1 d hi hl hn h (fun LS' hl' => K hF H locs LS' hH hl')
theorem v_astore {x : Nat} {ls' : List (Nat × Value)} (i : Nat) (d : decode M.1 pc = .ok (.astore i, 2)) (hn : i < M.2.1) (h : (i, Value.ref x) :: ls.filter (fun q => !(q.1 == i) && !(q.1 + 1 == i && q.2.category == 2)) = ls') (K : V G F M sh nc ns Z (pc + 2) ls' st m) : V G F M sh nc ns Z pc ls (.ref x :: st) m :=
  fun hF H locs LS hH hl => lv_astore hF.1 hF.2.1 d hl hn h (fun LS' hl' => K hF H locs LS' hH hl')
theorem v_lstore_n {k : Fin 4} {x : Int64} {ls' : List (Nat × Value)} (i : Nat) (d : decode M.1 pc = .ok (.lstore_n k, 1)) (hi : (k : Nat) = i) (hn : i + 1 < M.2.1) (h : (i, Value.long x) :: ls.filter (fun q => !(q.1 == i) && (!(q.1 == i + 1) && !(q.1 + 1 == i && q.2.category == 2))) = ls') (K : V G F M sh nc ns Z (pc + 1) ls' st m) : V G F M sh nc ns Z pc ls (.long x :: st) m :=
  fun hF H locs LS hH hl => lv_lstore_n hF.1 hF.2.1 d hi hl hn h (fun LS' hl' => K hF H locs LS' hH hl')
theorem v_lstore {x : Int64} {ls' : List (Nat × Value)} (i : Nat) (d : decode M.1 pc = .ok (.lstore i, 2)) (hn : i + 1 < M.2.1) (h : (i, Value.long x) :: ls.filter (fun q => !(q.1 == i) && (!(q.1 == i + 1) && !(q.1 + 1 == i && q.2.category == 2))) = ls') (K : V G F M sh nc ns Z (pc + 2) ls' st m) : V G F M sh nc ns Z pc ls (.long x :: st) m :=
  fun hF H locs LS hH hl => lv_lstore hF.1 hF.2.1 d hl hn h (fun LS' hl' => K hF H locs LS' hH hl')
theorem v_iinc {x v : Int32} {n : Int} {ls' : List (Nat × Value)} (i k : Nat) (d : decode M.1 pc = .ok (.iinc i n, 3)) (hk : ls[k]? = some (i, .int x)) (hv : x + Int32.ofInt n = v) (hn : i < M.2.1) (h : (i, Value.int v) :: ls.filter (fun q => !(q.1 == i) && !(q.1 + 1 == i && q.2.category == 2)) = ls') (K : V G F M sh nc ns Z (pc + 3) ls' st m) : V G F M sh nc ns Z pc ls st m :=
  fun hF H locs LS hH hl => lv_iinc hF.1 hF.2.1 d hl hk hv hn h (fun LS' hl' => K hF H locs LS' hH hl')
theorem v_iadd {x y : Int32} (d : decode M.1 pc = .ok (.iadd, 1)) (K : V G F M sh nc ns Z (pc + 1) ls (.int (x + y) :: st) m) : V G F M sh nc ns Z pc ls (.int y :: .int x :: st) m :=
  fun hF H locs LS hH hl => lv_iadd hF.1 hF.2.1 d (K hF H locs LS hH hl)
theorem v_isub {x y : Int32} (d : decode M.1 pc = .ok (.isub, 1)) (K : V G F M sh nc ns Z (pc + 1) ls (.int (x - y) :: st) m) : V G F M sh nc ns Z pc ls (.int y :: .int x :: st) m :=
  fun hF H locs LS hH hl => lv_isub hF.1 hF.2.1 d (K hF H locs LS hH hl)
theorem v_imul {x y : Int32} (d : decode M.1 pc = .ok (.imul, 1)) (K : V G F M sh nc ns Z (pc + 1) ls (.int (x * y) :: st) m) : V G F M sh nc ns Z pc ls (.int y :: .int x :: st) m :=
  fun hF H locs LS hH hl => lv_imul hF.1 hF.2.1 d (K hF H locs LS hH hl)
theorem v_iand {x y : Int32} (d : decode M.1 pc = .ok (.iand, 1)) (K : V G F M sh nc ns Z (pc + 1) ls (.int (x &&& y) :: st) m) : V G F M sh nc ns Z pc ls (.int y :: .int x :: st) m :=
  fun hF H locs LS hH hl => lv_iand hF.1 hF.2.1 d (K hF H locs LS hH hl)
theorem v_ior {x y : Int32} (d : decode M.1 pc = .ok (.ior, 1)) (K : V G F M sh nc ns Z (pc + 1) ls (.int (x ||| y) :: st) m) : V G F M sh nc ns Z pc ls (.int y :: .int x :: st) m :=
  fun hF H locs LS hH hl => lv_ior hF.1 hF.2.1 d (K hF H locs LS hH hl)
theorem v_ixor {x y : Int32} (d : decode M.1 pc = .ok (.ixor, 1)) (K : V G F M sh nc ns Z (pc + 1) ls (.int (x ^^^ y) :: st) m) : V G F M sh nc ns Z pc ls (.int y :: .int x :: st) m :=
  fun hF H locs LS hH hl => lv_ixor hF.1 hF.2.1 d (K hF H locs LS hH hl)
theorem v_idiv {x y : Int32} (d : decode M.1 pc = .ok (.idiv, 1)) (hne : ¬ y = 0) (K : V G F M sh nc ns Z (pc + 1) ls (.int (x / y) :: st) m) : V G F M sh nc ns Z pc ls (.int y :: .int x :: st) m :=
  fun hF H locs LS hH hl => lv_idiv hF.1 hF.2.1 d hne (K hF H locs LS hH hl)
theorem v_irem {x y : Int32} (d : decode M.1 pc = .ok (.irem, 1)) (hne : ¬ y = 0) (K : V G F M sh nc ns Z (pc + 1) ls (.int (x - x / y * y) :: st) m) : V G F M sh nc ns Z pc ls (.int y :: .int x :: st) m :=
  fun hF H locs LS hH hl => lv_irem hF.1 hF.2.1 d hne (K hF H locs LS hH hl)
theorem v_ishl {x y : Int32} (d : decode M.1 pc = .ok (.ishl, 1)) (K : V G F M sh nc ns Z (pc + 1) ls (.int (x <<< (y &&& 31)) :: st) m) : V G F M sh nc ns Z pc ls (.int y :: .int x :: st) m :=
  fun hF H locs LS hH hl => lv_ishl hF.1 hF.2.1 d (K hF H locs LS hH hl)
theorem v_ishr {x y : Int32} (d : decode M.1 pc = .ok (.ishr, 1)) (K : V G F M sh nc ns Z (pc + 1) ls (.int (x >>> (y &&& 31)) :: st) m) : V G F M sh nc ns Z pc ls (.int y :: .int x :: st) m :=
  fun hF H locs LS hH hl => lv_ishr hF.1 hF.2.1 d (K hF H locs LS hH hl)
theorem v_ladd {x y : Int64} (d : decode M.1 pc = .ok (.ladd, 1)) (K : V G F M sh nc ns Z (pc + 1) ls (.long (x + y) :: st) m) : V G F M sh nc ns Z pc ls (.long y :: .long x :: st) m :=
  fun hF H locs LS hH hl => lv_ladd hF.1 hF.2.1 d (K hF H locs LS hH hl)
theorem v_lsub {x y : Int64} (d : decode M.1 pc = .ok (.lsub, 1)) (K : V G F M sh nc ns Z (pc + 1) ls (.long (x - y) :: st) m) : V G F M sh nc ns Z pc ls (.long y :: .long x :: st) m :=
  fun hF H locs LS hH hl => lv_lsub hF.1 hF.2.1 d (K hF H locs LS hH hl)
theorem v_lmul {x y : Int64} (d : decode M.1 pc = .ok (.lmul, 1)) (K : V G F M sh nc ns Z (pc + 1) ls (.long (x * y) :: st) m) : V G F M sh nc ns Z pc ls (.long y :: .long x :: st) m :=
  fun hF H locs LS hH hl => lv_lmul hF.1 hF.2.1 d (K hF H locs LS hH hl)
theorem v_land {x y : Int64} (d : decode M.1 pc = .ok (.land, 1)) (K : V G F M sh nc ns Z (pc + 1) ls (.long (x &&& y) :: st) m) : V G F M sh nc ns Z pc ls (.long y :: .long x :: st) m :=
  fun hF H locs LS hH hl => lv_land hF.1 hF.2.1 d (K hF H locs LS hH hl)
theorem v_lxor {x y : Int64} (d : decode M.1 pc = .ok (.lxor, 1)) (K : V G F M sh nc ns Z (pc + 1) ls (.long (x ^^^ y) :: st) m) : V G F M sh nc ns Z pc ls (.long y :: .long x :: st) m :=
  fun hF H locs LS hH hl => lv_lxor hF.1 hF.2.1 d (K hF H locs LS hH hl)
theorem v_ldiv {x y : Int64} (d : decode M.1 pc = .ok (.ldiv, 1)) (hne : ¬ y = 0) (K : V G F M sh nc ns Z (pc + 1) ls (.long (x / y) :: st) m) : V G F M sh nc ns Z pc ls (.long y :: .long x :: st) m :=
  fun hF H locs LS hH hl => lv_ldiv hF.1 hF.2.1 d hne (K hF H locs LS hH hl)
theorem v_lrem {x y : Int64} (d : decode M.1 pc = .ok (.lrem, 1)) (hne : ¬ y = 0) (K : V G F M sh nc ns Z (pc + 1) ls (.long (x - x / y * y) :: st) m) : V G F M sh nc ns Z pc ls (.long y :: .long x :: st) m :=
  fun hF H locs LS hH hl => lv_lrem hF.1 hF.2.1 d hne (K hF H locs LS hH hl)
theorem v_iushr {x y : Int32} (d : decode M.1 pc = .ok (.iushr, 1)) (K : V G F M sh nc ns Z (pc + 1) ls (.int (x.toUInt32 >>> (y.toUInt32 &&& Int32.toUInt32 31)).toInt32 :: st) m) : V G F M sh nc ns Z pc ls (.int y :: .int x :: st) m :=
  fun hF H locs LS hH hl => lv_iushr hF.1 hF.2.1 d rfl (K hF H locs LS hH hl)
theorem v_lcmp {x y : Int64} (d : decode M.1 pc = .ok (.lcmp, 1)) (K : V G F M sh nc ns Z (pc + 1) ls (.int (lg_cmp x y) :: st) m) : V G F M sh nc ns Z pc ls (.long y :: .long x :: st) m :=
  fun hF H locs LS hH hl => W.lcmp hF.1 hF.2.1 d (K hF H locs LS hH hl)
theorem v_i2l {x : Int32} (d : decode M.1 pc = .ok (.i2l, 1)) (K : V G F M sh nc ns Z (pc + 1) ls (.long (x.toInt64) :: st) m) : V G F M sh nc ns Z pc ls (.int x :: st) m :=
  fun hF H locs LS hH hl => lv_i2l hF.1 hF.2.1 d rfl (K hF H locs LS hH hl)
theorem v_l2i {x : Int64} (d : decode M.1 pc = .ok (.l2i, 1)) (K : V G F M sh nc ns Z (pc + 1) ls (.int (x.toInt32) :: st) m) : V G F M sh nc ns Z pc ls (.long x :: st) m :=
  fun hF H locs LS hH hl => lv_l2i hF.1 hF.2.1 d rfl (K hF H locs LS hH hl)
theorem v_i2c {x : Int32} (d : decode M.1 pc = .ok (.i2c, 1)) (K : V G F M sh nc ns Z (pc + 1) ls (.int ((x.toUInt32 % 65536).toInt32) :: st) m) : V G F M sh nc ns Z pc ls (.int x :: st) m :=
  fun hF H locs LS hH hl => lv_i2c hF.1 hF.2.1 d rfl (K hF H locs LS hH hl)
theorem v_dup {va : Value} (d : decode M.1 pc = .ok (.dup, 1)) (ha : va.category = 1) (K : V G F M sh nc ns Z (pc + 1) ls (va :: va :: st) m) : V G F M sh nc ns Z pc ls (va :: st) m :=
  fun hF H locs LS hH hl => lv_dup hF.1 hF.2.1 d ha (K hF H locs LS hH hl)
theorem v_pop {va : Value} (d : decode M.1 pc = .ok (.pop, 1)) (ha : va.category = 1) (K : V G F M sh nc ns Z (pc + 1) ls st m) : V G F M sh nc ns Z pc ls (va :: st) m :=
  fun hF H locs LS hH hl => lv_pop hF.1 hF.2.1 d ha (K hF H locs LS hH hl)
theorem v_dup2 {va vb : Value} (d : decode M.1 pc = .ok (.dup2, 1)) (ha : va.category = 1) (hb : vb.category = 1) (K : V G F M sh nc ns Z (pc + 1) ls (va :: vb :: va :: vb :: st) m) : V G F M sh nc ns Z pc ls (va :: vb :: st) m :=
  fun hF H locs LS hH hl => lv_dup2_11 hF.1 hF.2.1 d ha hb (K hF H locs LS hH hl)
theorem v_dup_x1 {va vb : Value} (d : decode M.1 pc = .ok (.dup_x1, 1)) (ha : va.category = 1) (hb : vb.category = 1) (K : V G F M sh nc ns Z (pc + 1) ls (va :: vb :: va :: st) m) : V G F M sh nc ns Z pc ls (va :: vb :: st) m :=
  fun hF H locs LS hH hl => lv_dup_x1 hF.1 hF.2.1 d ha hb (K hF H locs LS hH hl)
theorem v_if_eq {x : Int32} {off : Int} (tgt : Nat) (d : decode M.1 pc = .ok (.ifCond .eq off, 3)) (ht : (pc : Int) + off = (tgt : Int)) (kt : x = 0 → V G F M sh nc ns Z tgt ls st m) (kf : ¬ x = 0 → V G F M sh nc ns Z (pc + 3) ls st m) : V G F M sh nc ns Z pc ls (.int x :: st) m :=
  fun hF H locs LS hH hl => lv_if_eq hF.1 hF.2.1 d ht (fun h => kt h hF H locs LS hH hl) (fun h => kf h hF H locs LS hH hl)
theorem v_if_ne {x : Int32} {off : Int} (tgt : Nat) (d : decode M.1 pc = .ok (.ifCond .ne off, 3)) (ht : (pc : Int) + off = (tgt : Int)) (kt : ¬ x = 0 → V G F M sh nc ns Z tgt ls st m) (kf : x = 0 → V G F M sh nc ns Z (pc + 3) ls st m) : V G F M sh nc ns Z pc ls (.int x :: st) m :=
  fun hF H locs LS hH hl => lv_if_ne hF.1 hF.2.1 d ht (fun h => kt h hF H locs LS hH hl) (fun h => kf h hF H locs LS hH hl)
theorem v_if_lt {x : Int32} {off : Int} (tgt : Nat) (d : decode M.1 pc = .ok (.ifCond .lt off, 3)) (ht : (pc : Int) + off = (tgt : Int)) (kt : x < 0 → V G F M sh nc ns Z tgt ls st m) (kf : ¬ x < 0 → V G F M sh nc ns Z (pc + 3) ls st m) : V G F M sh nc ns Z pc ls (.int x :: st) m :=
  fun hF H locs LS hH hl => lv_if_lt hF.1 hF.2.1 d ht (fun h => kt h hF H locs LS hH hl) (fun h => kf h hF H locs LS hH hl)
theorem v_if_ge {x : Int32} {off : Int} (tgt : Nat) (d : decode M.1 pc = .ok (.ifCond .ge off, 3)) (ht : (pc : Int) + off = (tgt : Int)) (kt : 0 ≤ x → V G F M sh nc ns Z tgt ls st m) (kf : ¬ 0 ≤ x → V G F M sh nc ns Z (pc + 3) ls st m) : V G F M sh nc ns Z pc ls (.int x :: st) m :=
  fun hF H locs LS hH hl => lv_if_ge hF.1 hF.2.1 d ht (fun h => kt h hF H locs LS hH hl) (fun h => kf h hF H locs LS hH hl)
theorem v_if_gt {x : Int32} {off : Int} (tgt : Nat) (d : decode M.1 pc = .ok (.ifCond .gt off, 3)) (ht : (pc : Int) + off = (tgt : Int)) (kt : 0 < x → V G F M sh nc ns Z tgt ls st m) (kf : ¬ 0 < x → V G F M sh nc ns Z (pc + 3) ls st m) : V G F M sh nc ns Z pc ls (.int x :: st) m :=
  fun hF H locs LS hH hl => lv_if_gt hF.1 hF.2.1 d ht (fun h => kt h hF H locs LS hH hl) (fun h => kf h hF H locs LS hH hl)
theorem v_if_le {x : Int32} {off : Int} (tgt : Nat) (d : decode M.1 pc = .ok (.ifCond .le off, 3)) (ht : (pc : Int) + off = (tgt : Int)) (kt : x ≤ 0 → V G F M sh nc ns Z tgt ls st m) (kf : ¬ x ≤ 0 → V G F M sh nc ns Z (pc + 3) ls st m) : V G F M sh nc ns Z pc ls (.int x :: st) m :=
  fun hF H locs LS hH hl => lv_if_le hF.1 hF.2.1 d ht (fun h => kt h hF H locs LS hH hl) (fun h => kf h hF H locs LS hH hl)
theorem v_icmp_eq {x y : Int32} {off : Int} (tgt : Nat) (d : decode M.1 pc = .ok (.if_icmp .eq off, 3)) (ht : (pc : Int) + off = (tgt : Int)) (kt : x = y → V G F M sh nc ns Z tgt ls st m) (kf : ¬ x = y → V G F M sh nc ns Z (pc + 3) ls st m) : V G F M sh nc ns Z pc ls (.int y :: .int x :: st) m :=
  fun hF H locs LS hH hl => lv_icmp_eq hF.1 hF.2.1 d ht (fun h => kt h hF H locs LS hH hl) (fun h => kf h hF H locs LS hH hl)
theorem v_icmp_ne {x y : Int32} {off : Int} (tgt : Nat) (d : decode M.1 pc = .ok (.if_icmp .ne off, 3)) (ht : (pc : Int) + off = (tgt : Int)) (kt : ¬ x = y → V G F M sh nc ns Z tgt ls st m) (kf : x = y → V G F M sh nc ns Z (pc + 3) ls st m) : V G F M sh nc ns Z pc ls (.int y :: .int x :: st) m :=
  fun hF H locs LS hH hl => lv_icmp_ne hF.1 hF.2.1 d ht (fun h => kt h hF H locs LS hH hl) (fun h => kf h hF H locs LS hH hl)
theorem v_icmp_lt {x y : Int32} {off : Int} (tgt : Nat) (d : decode M.1 pc = .ok (.if_icmp .lt off, 3)) (ht : (pc : Int) + off = (tgt : Int)) (kt : x < y → V G F M sh nc ns Z tgt ls st m) (kf : ¬ x < y → V G F M sh nc ns Z (pc + 3) ls st m) : V G F M sh nc ns Z pc ls (.int y :: .int x :: st) m :=
  fun hF H locs LS hH hl => lv_icmp_lt hF.1 hF.2.1 d ht (fun h => kt h hF H locs LS hH hl) (fun h => kf h hF H locs LS hH hl)
theorem v_icmp_ge {x y : Int32} {off : Int} (tgt : Nat) (d : decode M.1 pc = .ok (.if_icmp .ge off, 3)) (ht : (pc : Int) + off = (tgt : Int)) (kt : y ≤ x → V G F M sh nc ns Z tgt ls st m) (kf : ¬ y ≤ x → V G F M sh nc ns Z (pc + 3) ls st m) : V G F M sh nc ns Z pc ls (.int y :: .int x :: st) m :=
  fun hF H locs LS hH hl => lv_icmp_ge hF.1 hF.2.1 d ht (fun h => kt h hF H locs LS hH hl) (fun h => kf h hF H locs LS hH hl)
theorem v_icmp_gt {x y : Int32} {off : Int} (tgt : Nat) (d : decode M.1 pc = .ok (.if_icmp .gt off, 3)) (ht : (pc : Int) + off = (tgt : Int)) (kt : y < x → V G F M sh nc ns Z tgt ls st m) (kf : ¬ y < x → V G F M sh nc ns Z (pc + 3) ls st m) : V G F M sh nc ns Z pc ls (.int y :: .int x :: st) m :=
  fun hF H locs LS hH hl => lv_icmp_gt hF.1 hF.2.1 d ht (fun h => kt h hF H locs LS hH hl) (fun h => kf h hF H locs LS hH hl)
theorem v_icmp_le {x y : Int32} {off : Int} (tgt : Nat) (d : decode M.1 pc = .ok (.if_icmp .le off, 3)) (ht : (pc : Int) + off = (tgt : Int)) (kt : x ≤ y → V G F M sh nc ns Z tgt ls st m) (kf : ¬ x ≤ y → V G F M sh nc ns Z (pc + 3) ls st m) : V G F M sh nc ns Z pc ls (.int y :: .int x :: st) m :=
  fun hF H locs LS hH hl => lv_icmp_le hF.1 hF.2.1 d ht (fun h => kt h hF H locs LS hH hl) (fun h => kf h hF H locs LS hH hl)
theorem v_goto {off : Int} (tgt : Nat) (d : decode M.1 pc = .ok (.goto off, 3)) (ht : (pc : Int) + off = (tgt : Int)) (K : V G F M sh nc ns Z tgt ls st m) : V G F M sh nc ns Z pc ls st m :=
  fun hF H locs LS hH hl => lv_goto hF.1 hF.2.1 d ht (K hF H locs LS hH hl)
theorem v_tabOut {dflt lo hi : Int} {offs : Array Int} {len : Nat} {x : Int32} (tgt : Nat) (d : decode M.1 pc = .ok (.tableswitch dflt lo hi offs, len)) (h : x.toInt < lo ∨ hi < x.toInt) (ht : (pc : Int) + dflt = (tgt : Int)) (K : V G F M sh nc ns Z tgt ls st m) : V G F M sh nc ns Z pc ls (.int x :: st) m :=
  fun hF H locs LS hH hl => lv_tableOut hF.1 hF.2.1 d h ht (K hF H locs LS hH hl)
theorem v_tabIn {dflt lo hi : Int} {offs : Array Int} {len : Nat} {x : Int32} {off : Int} (tgt : Nat) (d : decode M.1 pc = .ok (.tableswitch dflt lo hi offs, len)) (h1 : ¬ x.toInt < lo) (h2 : ¬ hi < x.toInt) (ho : offs[(x.toInt - lo).toNat]? = some off) (ht : (pc : Int) + off = (tgt : Int)) (K : V G F M sh nc ns Z tgt ls st m) : V G F M sh nc ns Z pc ls (.int x :: st) m :=
  fun hF H locs LS hH hl => lv_tableIn hF.1 hF.2.1 d h1 h2 ho ht (K hF H locs LS hH hl)
theorem v_lookup {dflt : Int} {ps : Array (Int × Int)} {len : Nat} {x : Int32} {off : Int} (tgt : Nat) (d : decode M.1 pc = .ok (.lookupswitch dflt ps, len)) (hp : (ps.toList.zip (ps.toList.drop 1)).all (fun (a, next) => a.1 < next.1) = true) (ho : Op.lookupswitch.offset ps.toList dflt x.toInt = off) (ht : (pc : Int) + off = (tgt : Int)) (K : V G F M sh nc ns Z tgt ls st m) : V G F M sh nc ns Z pc ls (.int x :: st) m :=
  fun hF H locs LS hH hl => lv_lookup hF.1 hF.2.1 d hp ho ht (K hF H locs LS hH hl)
end Rows
