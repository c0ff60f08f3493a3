/-! THE CLAIM OUT OF ONE WALK OF THE LAW'S BODY. Your part is whole_start (and what it stands on); all else here is the same for every law, but numbers. -/
def R_law : String := "CalledRiverLaw"
def lw_P (b : Addr) (xs : List Int32) (args : Array Value) (s : State) : Prop := args = #[.ref b] ∧ s.IntsAt b xs ∧ xs.length ≤ 3072 ∧ (Jvm.Cond.and given_1 narrow_1).before args s = true
def lw_Q (_ : Array Value) (s : State) (o : Outcome) (t : State) : Prop := o = .returned (some (.int 1)) ∧ Framed s o t [] 600000 7302250
def lw_Z (below : List Frame) (a : Array Value) (s : State) : State → Prop := fun t => ∃ o, t.status = .running ∧ Ended t below o ∧ lw_Q a s o t
/-- the law's own end, with 1 on the stack, nothing written that was there before, its room as the claim has it -/
theorem lw_ret {p : Program} {l : Launch} {e : Env} {s : State} {m : MethodId} {below : List Frame} {meth : Method} {c : Code} {b : Nat} (hx : p.tables.exec = Jvm.exec) (hb : c.code = code) (hr : meth.sig.returnType = ret) (hlocks : meth.locks = false) {pc : Nat} {H : Heap} {ls : Array Slot} (hdg : decode code pc = .ok (.ireturn, 1)) : W p l e room_1 s m #[Value.ref b] below meth c H [] 600000 7302250 (lw_Z below #[Value.ref b] s) (F0 m pc ls [.int 1]) := by
  intro T hT X
  obtain ⟨fs, hret, hrun, hended, hW, hframe⟩ := X.leave (v := some (.int 1)) (hlocks := hlocks) (fun h => by rw [hr] at h; cases h)
  have hmeth' : T.vm.method? m = some meth := X.method'
  refine ⟨T.setFrames fs, ?_, .returned (some (.int 1)), hrun, hended, rfl, ⟨_, rfl⟩, hW, hframe⟩
  jvm_step X.here [X.here.top, hx, hb, hdg, hmeth', hr, ret, narrow_b1]
  (try refine ⟨rfl, ?_⟩); (try refine ⟨rfl, ?_⟩)
  first | (intro acts; rw [hret _ acts rfl rfl rfl]) | rw [hret _ _ rfl rfl rfl]
  exact Steps.refl _
/-- what holds at the law's entry: the machine, the code, the tables' words (any of lw_tbl by 'hts w (by decide +kernel)'), the script of L ints xs at the cell b, what the Statement gives of the start (any of its parts by flat_of_before) -/
def lw_At (p : Program) (s : State) (m : MethodId) (meth : Method) (c : Code) (b L : Nat) (xs : Nat → Int32) : Prop :=
  p.tables.exec = Jvm.exec ∧ c.code = code ∧ meth.sig.returnType = ret ∧ c.maxLocals = 4 ∧ s.vm.findClass R_law = some m.cls ∧ (∀ w ∈ lw_tbl, w.before #[Value.ref b] s = true) ∧ va_X b L xs s s.heap ∧ b < s.heap.size ∧ meth.locks = false ∧ (Jvm.Cond.and given_1 narrow_1).before #[Value.ref b] s = true
/-! ===== the law's entry ===== -/
def mem0 : Mem := (fun _ _ => 0, fun _ _ => 0, fun _ _ => none)
/-- the whole law as a formula: both constructors, then the loop -/
def LF (L : Nat) (xs : Nat → Int32) (b : Nat) : Prop :=
  bnd ([] ++ [(11, 19)] : Shp) (fun sh1 => bnd (nw mem0 ([] : Shp).length) (fun m1 => wp_X11_init sh1 ([] : Shp).length (fun sh2 m2 =>
    bnd (sh2 ++ [(12, 120)]) (fun sh3 => bnd (nw m2 sh2.length) (fun m3 => wp_X12_init sh3 sh2.length (fun sh4 m4 =>
      ∃ n, L_law_n L xs sh4 b ([] : Shp).length sh2.length (fun x _ => x = 1) n (0 : Int32) m4) m3))) m1))
def tmS (i : Nat) : Term := .string (strs.getD i ("", 0, "", 0)).1 (strs.getD i ("", 0, "", 0)).2.1
theorem and_l {a c : Cond} {args : Array Value} {s : State} (h : (Cond.and a c).before args s = true) : a.before args s = true := by
  rw [Cond.before_and, Bool.and_eq_true] at h
  exact h.1
theorem and_r {a c : Cond} {args : Array Value} {s : State} (h : (Cond.and a c).before args s = true) : c.before args s = true := by
  rw [Cond.before_and, Bool.and_eq_true] at h
  exact h.2
set_option maxHeartbeats 4000000 in
set_option maxRecDepth 100000 in
theorem fs_ex {s : State} {b : Nat} (h : narrow_1.before #[Value.ref b] s = true) : ∀ i, i < 19 → (Cond.exactly (tmS i) "java/lang/String").before #[Value.ref b] s = true
  | 0, _ => and_l (and_r (and_r (and_r (and_l (and_l (and_r (and_l (and_l (and_l (h))))))))))
  | 1, _ => and_l (and_r (and_r (and_r (and_l (and_r (and_l (and_l (and_l (h)))))))))
  | 2, _ => and_r (and_r (and_r (and_l (and_l (and_r (and_r (and_l (and_l (and_l (h))))))))))
  | 3, _ => and_l (and_l (and_l (and_r (and_r (and_l (and_r (and_l (and_l (h)))))))))
  | 4, _ => and_l (and_l (and_r (and_l (and_r (and_l (and_r (and_r (and_l (h)))))))))
  | 5, _ => and_l (and_l (and_r (and_r (and_r (and_l (and_r (and_r (and_l (h)))))))))
  | 6, _ => and_l (and_r (and_r (and_l (and_l (and_r (and_r (and_r (and_l (h)))))))))
  | 7, _ => and_l (and_l (and_l (and_l (and_r (and_r (and_r (and_r (and_l (h)))))))))
  | 8, _ => and_l (and_l (and_r (and_r (and_r (and_r (and_r (and_r (and_l (h)))))))))
  | 9, _ => and_l (and_r (and_l (and_r (and_l (and_l (and_l (and_l (and_r (h)))))))))
  | 10, _ => and_l (and_r (and_l (and_r (and_r (and_l (and_l (and_l (and_r (h)))))))))
  | 11, _ => and_r (and_r (and_r (and_r (and_l (and_l (and_r (and_l (and_l (and_r (h))))))))))
  | 12, _ => and_l (and_r (and_l (and_r (and_r (and_r (and_l (and_l (and_r (h)))))))))
  | 13, _ => and_r (and_l (and_l (and_r (and_l (and_l (and_r (and_l (and_r (h)))))))))
  | 14, _ => and_r (and_r (and_r (and_l (and_r (and_l (and_l (and_l (and_r (and_r (h))))))))))
  | 15, _ => and_l (and_l (and_r (and_l (and_r (and_r (and_l (and_r (and_r (h)))))))))
  | 16, _ => and_l (and_r (and_r (and_l (and_l (and_l (and_r (and_r (and_r (h)))))))))
  | 17, _ => and_l (and_l (and_l (and_r (and_r (and_l (and_r (and_r (and_r (h)))))))))
  | 18, _ => and_r (and_r (and_r (and_l (and_r (and_l (and_r (and_r (and_r (and_r (h))))))))))
  | n + 19, h0 => absurd h0 (by omega)
set_option maxHeartbeats 4000000 in
set_option maxRecDepth 100000 in
theorem fs_co {s : State} {b : Nat} (h : narrow_1.before #[Value.ref b] s = true) : ∀ i, i < 19 → (Cond.eq (.field (tmS i) "java/lang/String" "coder" "B") (.int 0)).before #[Value.ref b] s = true
  | 0, _ => and_r (and_r (and_r (and_r (and_l (and_l (and_r (and_l (and_l (and_l (h))))))))))
  | 1, _ => and_l (and_r (and_r (and_r (and_r (and_l (and_r (and_l (and_l (and_l (h))))))))))
  | 2, _ => and_l (and_l (and_r (and_l (and_r (and_r (and_l (and_l (and_l (h)))))))))
  | 3, _ => and_r (and_l (and_l (and_r (and_r (and_l (and_r (and_l (and_l (h)))))))))
  | 4, _ => and_r (and_l (and_r (and_l (and_r (and_l (and_r (and_r (and_l (h)))))))))
  | 5, _ => and_r (and_l (and_r (and_r (and_r (and_l (and_r (and_r (and_l (h)))))))))
  | 6, _ => and_l (and_r (and_r (and_r (and_l (and_l (and_r (and_r (and_r (and_l (h))))))))))
  | 7, _ => and_r (and_l (and_l (and_l (and_r (and_r (and_r (and_r (and_l (h)))))))))
  | 8, _ => and_r (and_l (and_r (and_r (and_r (and_r (and_r (and_r (and_l (h)))))))))
  | 9, _ => and_l (and_r (and_r (and_l (and_r (and_l (and_l (and_l (and_l (and_r (h))))))))))
  | 10, _ => and_l (and_r (and_r (and_l (and_r (and_r (and_l (and_l (and_l (and_r (h))))))))))
  | 11, _ => and_l (and_l (and_l (and_r (and_l (and_r (and_l (and_l (and_r (h)))))))))
  | 12, _ => and_l (and_r (and_r (and_l (and_r (and_r (and_r (and_l (and_l (and_r (h))))))))))
  | 13, _ => and_l (and_r (and_l (and_r (and_l (and_l (and_r (and_l (and_r (h)))))))))
  | 14, _ => and_l (and_l (and_r (and_r (and_l (and_l (and_l (and_r (and_r (h)))))))))
  | 15, _ => and_r (and_l (and_r (and_l (and_r (and_r (and_l (and_r (and_r (h)))))))))
  | 16, _ => and_l (and_r (and_r (and_r (and_l (and_l (and_l (and_r (and_r (and_r (h))))))))))
  | 17, _ => and_r (and_l (and_l (and_r (and_r (and_l (and_r (and_r (and_r (h)))))))))
  | 18, _ => and_l (and_l (and_r (and_r (and_l (and_r (and_r (and_r (and_r (h)))))))))
  | n + 19, h0 => absurd h0 (by omega)
set_option maxHeartbeats 4000000 in
set_option maxRecDepth 100000 in
theorem fs_ar {s : State} {b : Nat} (h : narrow_1.before #[Value.ref b] s = true) : ∀ i, i < 19 → (Cond.arrayOf (.field (tmS i) "java/lang/String" "value" "[B") .byte).before #[Value.ref b] s = true
  | 0, _ => and_l (and_l (and_l (and_r (and_l (and_r (and_l (and_l (and_l (h)))))))))
  | 1, _ => and_r (and_r (and_r (and_r (and_r (and_l (and_r (and_l (and_l (and_l (h))))))))))
  | 2, _ => and_r (and_l (and_r (and_l (and_r (and_r (and_l (and_l (and_l (h)))))))))
  | 3, _ => and_l (and_r (and_l (and_r (and_r (and_l (and_r (and_l (and_l (h)))))))))
  | 4, _ => and_l (and_r (and_r (and_l (and_r (and_l (and_r (and_r (and_l (h)))))))))
  | 5, _ => and_l (and_r (and_r (and_r (and_r (and_l (and_r (and_r (and_l (h)))))))))
  | 6, _ => and_r (and_r (and_r (and_r (and_l (and_l (and_r (and_r (and_r (and_l (h))))))))))
  | 7, _ => and_l (and_r (and_l (and_l (and_r (and_r (and_r (and_r (and_l (h)))))))))
  | 8, _ => and_l (and_r (and_r (and_r (and_r (and_r (and_r (and_r (and_l (h)))))))))
  | 9, _ => and_r (and_r (and_r (and_l (and_r (and_l (and_l (and_l (and_l (and_r (h))))))))))
  | 10, _ => and_r (and_r (and_r (and_l (and_r (and_r (and_l (and_l (and_l (and_r (h))))))))))
  | 11, _ => and_r (and_l (and_l (and_r (and_l (and_r (and_l (and_l (and_r (h)))))))))
  | 12, _ => and_r (and_r (and_r (and_l (and_r (and_r (and_r (and_l (and_l (and_r (h))))))))))
  | 13, _ => and_l (and_r (and_r (and_l (and_r (and_l (and_l (and_r (and_l (and_r (h))))))))))
  | 14, _ => and_r (and_l (and_r (and_r (and_l (and_l (and_l (and_r (and_r (h)))))))))
  | 15, _ => and_l (and_r (and_r (and_l (and_r (and_r (and_l (and_r (and_r (h)))))))))
  | 16, _ => and_r (and_r (and_r (and_r (and_l (and_l (and_l (and_r (and_r (and_r (h))))))))))
  | 17, _ => and_l (and_r (and_l (and_r (and_r (and_l (and_r (and_r (and_r (h)))))))))
  | 18, _ => and_r (and_l (and_r (and_r (and_l (and_r (and_r (and_r (and_r (h)))))))))
  | n + 19, h0 => absurd h0 (by omega)
set_option maxHeartbeats 4000000 in
set_option maxRecDepth 100000 in
theorem fs_le {s : State} {b : Nat} (h : narrow_1.before #[Value.ref b] s = true) : ∀ i, i < 19 → (Cond.eq (.length (.field (tmS i) "java/lang/String" "value" "[B")) (.int (Int32.ofNat (slen.getD i 0)))).before #[Value.ref b] s = true
  | 0, _ => and_r (and_l (and_l (and_r (and_l (and_r (and_l (and_l (and_l (h)))))))))
  | 1, _ => and_l (and_l (and_l (and_l (and_r (and_r (and_l (and_l (and_l (h)))))))))
  | 2, _ => and_l (and_r (and_r (and_l (and_r (and_r (and_l (and_l (and_l (h)))))))))
  | 3, _ => and_l (and_r (and_r (and_l (and_r (and_r (and_l (and_r (and_l (and_l (h))))))))))
  | 4, _ => and_l (and_r (and_r (and_r (and_l (and_r (and_l (and_r (and_r (and_l (h))))))))))
  | 5, _ => and_l (and_r (and_r (and_r (and_r (and_r (and_l (and_r (and_r (and_l (h))))))))))
  | 6, _ => and_l (and_l (and_l (and_r (and_l (and_r (and_r (and_r (and_l (h)))))))))
  | 7, _ => and_l (and_r (and_r (and_l (and_l (and_r (and_r (and_r (and_r (and_l (h))))))))))
  | 8, _ => and_l (and_r (and_r (and_r (and_r (and_r (and_r (and_r (and_r (and_l (h))))))))))
  | 9, _ => and_l (and_l (and_r (and_r (and_l (and_l (and_l (and_l (and_r (h)))))))))
  | 10, _ => and_l (and_l (and_r (and_r (and_r (and_l (and_l (and_l (and_r (h)))))))))
  | 11, _ => and_l (and_r (and_l (and_r (and_l (and_r (and_l (and_l (and_r (h)))))))))
  | 12, _ => and_l (and_l (and_r (and_r (and_r (and_r (and_l (and_l (and_r (h)))))))))
  | 13, _ => and_r (and_r (and_r (and_l (and_r (and_l (and_l (and_r (and_l (and_r (h))))))))))
  | 14, _ => and_l (and_r (and_r (and_r (and_l (and_l (and_l (and_r (and_r (h)))))))))
  | 15, _ => and_l (and_r (and_r (and_r (and_l (and_r (and_r (and_l (and_r (and_r (h))))))))))
  | 16, _ => and_l (and_l (and_l (and_r (and_l (and_l (and_r (and_r (and_r (h)))))))))
  | 17, _ => and_l (and_r (and_r (and_l (and_r (and_r (and_l (and_r (and_r (and_r (h))))))))))
  | 18, _ => and_l (and_r (and_r (and_r (and_l (and_r (and_r (and_r (and_r (h)))))))))
  | n + 19, h0 => absurd h0 (by omega)
set_option maxHeartbeats 4000000 in
set_option maxRecDepth 100000 in
theorem fs_el0 {s : State} {b : Nat} (h : narrow_1.before #[Value.ref b] s = true) : ∀ j, j < 5 → (Cond.eq (.elem (.field (tmS 0) "java/lang/String" "value" "[B") (.int (Int32.ofNat j))) (.int ((sbyt.getD 0 []).getD j 0))).before #[Value.ref b] s = true
  | 0, _ => and_l (and_r (and_l (and_r (and_l (and_r (and_l (and_l (and_l (h)))))))))
  | 1, _ => and_l (and_r (and_r (and_l (and_r (and_l (and_r (and_l (and_l (and_l (h))))))))))
  | 2, _ => and_r (and_r (and_r (and_l (and_r (and_l (and_r (and_l (and_l (and_l (h))))))))))
  | 3, _ => and_l (and_l (and_r (and_r (and_l (and_r (and_l (and_l (and_l (h)))))))))
  | 4, _ => and_r (and_l (and_r (and_r (and_l (and_r (and_l (and_l (and_l (h)))))))))
  | n + 5, h0 => absurd h0 (by omega)
set_option maxHeartbeats 4000000 in
set_option maxRecDepth 100000 in
theorem fs_el1 {s : State} {b : Nat} (h : narrow_1.before #[Value.ref b] s = true) : ∀ j, j < 2 → (Cond.eq (.elem (.field (tmS 1) "java/lang/String" "value" "[B") (.int (Int32.ofNat j))) (.int ((sbyt.getD 1 []).getD j 0))).before #[Value.ref b] s = true
  | 0, _ => and_r (and_l (and_l (and_l (and_r (and_r (and_l (and_l (and_l (h)))))))))
  | 1, _ => and_l (and_r (and_l (and_l (and_r (and_r (and_l (and_l (and_l (h)))))))))
  | n + 2, h0 => absurd h0 (by omega)
set_option maxHeartbeats 4000000 in
set_option maxRecDepth 100000 in
theorem fs_el2 {s : State} {b : Nat} (h : narrow_1.before #[Value.ref b] s = true) : ∀ j, j < 40 → (Cond.eq (.elem (.field (tmS 2) "java/lang/String" "value" "[B") (.int (Int32.ofNat j))) (.int ((sbyt.getD 2 []).getD j 0))).before #[Value.ref b] s = true
  | 0, _ => and_l (and_r (and_r (and_r (and_l (and_r (and_r (and_l (and_l (and_l (h))))))))))
  | 1, _ => and_r (and_r (and_r (and_r (and_l (and_r (and_r (and_l (and_l (and_l (h))))))))))
  | 2, _ => and_l (and_l (and_l (and_r (and_r (and_r (and_l (and_l (and_l (h)))))))))
  | 3, _ => and_r (and_l (and_l (and_r (and_r (and_r (and_l (and_l (and_l (h)))))))))
  | 4, _ => and_l (and_r (and_l (and_r (and_r (and_r (and_l (and_l (and_l (h)))))))))
  | 5, _ => and_l (and_r (and_r (and_l (and_r (and_r (and_r (and_l (and_l (and_l (h))))))))))
  | 6, _ => and_r (and_r (and_r (and_l (and_r (and_r (and_r (and_l (and_l (and_l (h))))))))))
  | 7, _ => and_l (and_l (and_r (and_r (and_r (and_r (and_l (and_l (and_l (h)))))))))
  | 8, _ => and_r (and_l (and_r (and_r (and_r (and_r (and_l (and_l (and_l (h)))))))))
  | 9, _ => and_l (and_r (and_r (and_r (and_r (and_r (and_l (and_l (and_l (h)))))))))
  | 10, _ => and_l (and_r (and_r (and_r (and_r (and_r (and_r (and_l (and_l (and_l (h))))))))))
  | 11, _ => and_r (and_r (and_r (and_r (and_r (and_r (and_r (and_l (and_l (and_l (h))))))))))
  | 12, _ => and_l (and_l (and_l (and_l (and_l (and_l (and_r (and_l (and_l (h)))))))))
  | 13, _ => and_r (and_l (and_l (and_l (and_l (and_l (and_r (and_l (and_l (h)))))))))
  | 14, _ => and_l (and_r (and_l (and_l (and_l (and_l (and_r (and_l (and_l (h)))))))))
  | 15, _ => and_l (and_r (and_r (and_l (and_l (and_l (and_l (and_r (and_l (and_l (h))))))))))
  | 16, _ => and_r (and_r (and_r (and_l (and_l (and_l (and_l (and_r (and_l (and_l (h))))))))))
  | 17, _ => and_l (and_l (and_r (and_l (and_l (and_l (and_r (and_l (and_l (h)))))))))
  | 18, _ => and_r (and_l (and_r (and_l (and_l (and_l (and_r (and_l (and_l (h)))))))))
  | 19, _ => and_l (and_r (and_r (and_l (and_l (and_l (and_r (and_l (and_l (h)))))))))
  | 20, _ => and_l (and_r (and_r (and_r (and_l (and_l (and_l (and_r (and_l (and_l (h))))))))))
  | 21, _ => and_r (and_r (and_r (and_r (and_l (and_l (and_l (and_r (and_l (and_l (h))))))))))
  | 22, _ => and_l (and_l (and_l (and_r (and_l (and_l (and_r (and_l (and_l (h)))))))))
  | 23, _ => and_r (and_l (and_l (and_r (and_l (and_l (and_r (and_l (and_l (h)))))))))
  | 24, _ => and_l (and_r (and_l (and_r (and_l (and_l (and_r (and_l (and_l (h)))))))))
  | 25, _ => and_l (and_r (and_r (and_l (and_r (and_l (and_l (and_r (and_l (and_l (h))))))))))
  | 26, _ => and_r (and_r (and_r (and_l (and_r (and_l (and_l (and_r (and_l (and_l (h))))))))))
  | 27, _ => and_l (and_l (and_r (and_r (and_l (and_l (and_r (and_l (and_l (h)))))))))
  | 28, _ => and_r (and_l (and_r (and_r (and_l (and_l (and_r (and_l (and_l (h)))))))))
  | 29, _ => and_l (and_r (and_r (and_r (and_l (and_l (and_r (and_l (and_l (h)))))))))
  | 30, _ => and_l (and_r (and_r (and_r (and_r (and_l (and_l (and_r (and_l (and_l (h))))))))))
  | 31, _ => and_r (and_r (and_r (and_r (and_r (and_l (and_l (and_r (and_l (and_l (h))))))))))
  | 32, _ => and_l (and_l (and_l (and_l (and_r (and_l (and_r (and_l (and_l (h)))))))))
  | 33, _ => and_r (and_l (and_l (and_l (and_r (and_l (and_r (and_l (and_l (h)))))))))
  | 34, _ => and_l (and_r (and_l (and_l (and_r (and_l (and_r (and_l (and_l (h)))))))))
  | 35, _ => and_l (and_r (and_r (and_l (and_l (and_r (and_l (and_r (and_l (and_l (h))))))))))
  | 36, _ => and_r (and_r (and_r (and_l (and_l (and_r (and_l (and_r (and_l (and_l (h))))))))))
  | 37, _ => and_l (and_l (and_r (and_l (and_r (and_l (and_r (and_l (and_l (h)))))))))
  | 38, _ => and_r (and_l (and_r (and_l (and_r (and_l (and_r (and_l (and_l (h)))))))))
  | 39, _ => and_l (and_r (and_r (and_l (and_r (and_l (and_r (and_l (and_l (h)))))))))
  | n + 40, h0 => absurd h0 (by omega)
set_option maxHeartbeats 4000000 in
set_option maxRecDepth 100000 in
theorem fs_el3 {s : State} {b : Nat} (h : narrow_1.before #[Value.ref b] s = true) : ∀ j, j < 148 → (Cond.eq (.elem (.field (tmS 3) "java/lang/String" "value" "[B") (.int (Int32.ofNat j))) (.int ((sbyt.getD 3 []).getD j 0))).before #[Value.ref b] s = true
  | 0, _ => and_r (and_r (and_r (and_l (and_r (and_r (and_l (and_r (and_l (and_l (h))))))))))
  | 1, _ => and_l (and_l (and_r (and_r (and_r (and_l (and_r (and_l (and_l (h)))))))))
  | 2, _ => and_r (and_l (and_r (and_r (and_r (and_l (and_r (and_l (and_l (h)))))))))
  | 3, _ => and_l (and_r (and_r (and_r (and_r (and_l (and_r (and_l (and_l (h)))))))))
  | 4, _ => and_l (and_r (and_r (and_r (and_r (and_r (and_l (and_r (and_l (and_l (h))))))))))
  | 5, _ => and_r (and_r (and_r (and_r (and_r (and_r (and_l (and_r (and_l (and_l (h))))))))))
  | 6, _ => and_l (and_l (and_l (and_l (and_l (and_r (and_r (and_l (and_l (h)))))))))
  | 7, _ => and_r (and_l (and_l (and_l (and_l (and_r (and_r (and_l (and_l (h)))))))))
  | 8, _ => and_l (and_r (and_l (and_l (and_l (and_r (and_r (and_l (and_l (h)))))))))
  | 9, _ => and_l (and_r (and_r (and_l (and_l (and_l (and_r (and_r (and_l (and_l (h))))))))))
  | 10, _ => and_r (and_r (and_r (and_l (and_l (and_l (and_r (and_r (and_l (and_l (h))))))))))
  | 11, _ => and_l (and_l (and_r (and_l (and_l (and_r (and_r (and_l (and_l (h)))))))))
  | 12, _ => and_r (and_l (and_r (and_l (and_l (and_r (and_r (and_l (and_l (h)))))))))
  | 13, _ => and_l (and_r (and_r (and_l (and_l (and_r (and_r (and_l (and_l (h)))))))))
  | 14, _ => and_l (and_r (and_r (and_r (and_l (and_l (and_r (and_r (and_l (and_l (h))))))))))
  | 15, _ => and_r (and_r (and_r (and_r (and_l (and_l (and_r (and_r (and_l (and_l (h))))))))))
  | 16, _ => and_l (and_l (and_l (and_r (and_l (and_r (and_r (and_l (and_l (h)))))))))
  | 17, _ => and_r (and_l (and_l (and_r (and_l (and_r (and_r (and_l (and_l (h)))))))))
  | 18, _ => and_l (and_r (and_l (and_r (and_l (and_r (and_r (and_l (and_l (h)))))))))
  | 19, _ => and_l (and_r (and_r (and_l (and_r (and_l (and_r (and_r (and_l (and_l (h))))))))))
  | 20, _ => and_r (and_r (and_r (and_l (and_r (and_l (and_r (and_r (and_l (and_l (h))))))))))
  | 21, _ => and_l (and_l (and_r (and_r (and_l (and_r (and_r (and_l (and_l (h)))))))))
  | 22, _ => and_r (and_l (and_r (and_r (and_l (and_r (and_r (and_l (and_l (h)))))))))
  | 23, _ => and_l (and_r (and_r (and_r (and_l (and_r (and_r (and_l (and_l (h)))))))))
  | 24, _ => and_l (and_r (and_r (and_r (and_r (and_l (and_r (and_r (and_l (and_l (h))))))))))
  | 25, _ => and_r (and_r (and_r (and_r (and_r (and_l (and_r (and_r (and_l (and_l (h))))))))))
  | 26, _ => and_l (and_l (and_l (and_l (and_r (and_r (and_r (and_l (and_l (h)))))))))
  | 27, _ => and_r (and_l (and_l (and_l (and_r (and_r (and_r (and_l (and_l (h)))))))))
  | 28, _ => and_l (and_r (and_l (and_l (and_r (and_r (and_r (and_l (and_l (h)))))))))
  | 29, _ => and_l (and_r (and_r (and_l (and_l (and_r (and_r (and_r (and_l (and_l (h))))))))))
  | 30, _ => and_r (and_r (and_r (and_l (and_l (and_r (and_r (and_r (and_l (and_l (h))))))))))
  | 31, _ => and_l (and_l (and_r (and_l (and_r (and_r (and_r (and_l (and_l (h)))))))))
  | 32, _ => and_r (and_l (and_r (and_l (and_r (and_r (and_r (and_l (and_l (h)))))))))
  | 33, _ => and_l (and_r (and_r (and_l (and_r (and_r (and_r (and_l (and_l (h)))))))))
  | 34, _ => and_l (and_r (and_r (and_r (and_l (and_r (and_r (and_r (and_l (and_l (h))))))))))
  | 35, _ => and_r (and_r (and_r (and_r (and_l (and_r (and_r (and_r (and_l (and_l (h))))))))))
  | 36, _ => and_l (and_l (and_l (and_r (and_r (and_r (and_r (and_l (and_l (h)))))))))
  | 37, _ => and_r (and_l (and_l (and_r (and_r (and_r (and_r (and_l (and_l (h)))))))))
  | 38, _ => and_l (and_r (and_l (and_r (and_r (and_r (and_r (and_l (and_l (h)))))))))
  | 39, _ => and_l (and_r (and_r (and_l (and_r (and_r (and_r (and_r (and_l (and_l (h))))))))))
  | 40, _ => and_r (and_r (and_r (and_l (and_r (and_r (and_r (and_r (and_l (and_l (h))))))))))
  | 41, _ => and_l (and_l (and_r (and_r (and_r (and_r (and_r (and_l (and_l (h)))))))))
  | 42, _ => and_r (and_l (and_r (and_r (and_r (and_r (and_r (and_l (and_l (h)))))))))
  | 43, _ => and_l (and_r (and_r (and_r (and_r (and_r (and_r (and_l (and_l (h)))))))))
  | 44, _ => and_l (and_r (and_r (and_r (and_r (and_r (and_r (and_r (and_l (and_l (h))))))))))
  | 45, _ => and_r (and_r (and_r (and_r (and_r (and_r (and_r (and_r (and_l (and_l (h))))))))))
  | 46, _ => and_l (and_l (and_l (and_l (and_l (and_l (and_l (and_r (and_l (h)))))))))
  | 47, _ => and_r (and_l (and_l (and_l (and_l (and_l (and_l (and_r (and_l (h)))))))))
  | 48, _ => and_l (and_r (and_l (and_l (and_l (and_l (and_l (and_r (and_l (h)))))))))
  | 49, _ => and_l (and_r (and_r (and_l (and_l (and_l (and_l (and_l (and_r (and_l (h))))))))))
  | 50, _ => and_r (and_r (and_r (and_l (and_l (and_l (and_l (and_l (and_r (and_l (h))))))))))
  | 51, _ => and_l (and_l (and_r (and_l (and_l (and_l (and_l (and_r (and_l (h)))))))))
  | 52, _ => and_r (and_l (and_r (and_l (and_l (and_l (and_l (and_r (and_l (h)))))))))
  | 53, _ => and_l (and_r (and_r (and_l (and_l (and_l (and_l (and_r (and_l (h)))))))))
  | 54, _ => and_l (and_r (and_r (and_r (and_l (and_l (and_l (and_l (and_r (and_l (h))))))))))
  | 55, _ => and_r (and_r (and_r (and_r (and_l (and_l (and_l (and_l (and_r (and_l (h))))))))))
  | 56, _ => and_l (and_l (and_l (and_r (and_l (and_l (and_l (and_r (and_l (h)))))))))
  | 57, _ => and_r (and_l (and_l (and_r (and_l (and_l (and_l (and_r (and_l (h)))))))))
  | 58, _ => and_l (and_r (and_l (and_r (and_l (and_l (and_l (and_r (and_l (h)))))))))
  | 59, _ => and_l (and_r (and_r (and_l (and_r (and_l (and_l (and_l (and_r (and_l (h))))))))))
  | 60, _ => and_r (and_r (and_r (and_l (and_r (and_l (and_l (and_l (and_r (and_l (h))))))))))
  | 61, _ => and_l (and_l (and_r (and_r (and_l (and_l (and_l (and_r (and_l (h)))))))))
  | 62, _ => and_r (and_l (and_r (and_r (and_l (and_l (and_l (and_r (and_l (h)))))))))
  | 63, _ => and_l (and_r (and_r (and_r (and_l (and_l (and_l (and_r (and_l (h)))))))))
  | 64, _ => and_l (and_r (and_r (and_r (and_r (and_l (and_l (and_l (and_r (and_l (h))))))))))
  | 65, _ => and_r (and_r (and_r (and_r (and_r (and_l (and_l (and_l (and_r (and_l (h))))))))))
  | 66, _ => and_l (and_l (and_l (and_l (and_r (and_l (and_l (and_r (and_l (h)))))))))
  | 67, _ => and_r (and_l (and_l (and_l (and_r (and_l (and_l (and_r (and_l (h)))))))))
  | 68, _ => and_l (and_r (and_l (and_l (and_r (and_l (and_l (and_r (and_l (h)))))))))
  | 69, _ => and_l (and_r (and_r (and_l (and_l (and_r (and_l (and_l (and_r (and_l (h))))))))))
  | 70, _ => and_r (and_r (and_r (and_l (and_l (and_r (and_l (and_l (and_r (and_l (h))))))))))
  | 71, _ => and_l (and_l (and_r (and_l (and_r (and_l (and_l (and_r (and_l (h)))))))))
  | 72, _ => and_r (and_l (and_r (and_l (and_r (and_l (and_l (and_r (and_l (h)))))))))
  | 73, _ => and_l (and_r (and_r (and_l (and_r (and_l (and_l (and_r (and_l (h)))))))))
  | 74, _ => and_l (and_r (and_r (and_r (and_l (and_r (and_l (and_l (and_r (and_l (h))))))))))
  | 75, _ => and_r (and_r (and_r (and_r (and_l (and_r (and_l (and_l (and_r (and_l (h))))))))))
  | 76, _ => and_l (and_l (and_l (and_r (and_r (and_l (and_l (and_r (and_l (h)))))))))
  | 77, _ => and_r (and_l (and_l (and_r (and_r (and_l (and_l (and_r (and_l (h)))))))))
  | 78, _ => and_l (and_r (and_l (and_r (and_r (and_l (and_l (and_r (and_l (h)))))))))
  | 79, _ => and_l (and_r (and_r (and_l (and_r (and_r (and_l (and_l (and_r (and_l (h))))))))))
  | 80, _ => and_r (and_r (and_r (and_l (and_r (and_r (and_l (and_l (and_r (and_l (h))))))))))
  | 81, _ => and_l (and_l (and_r (and_r (and_r (and_l (and_l (and_r (and_l (h)))))))))
  | 82, _ => and_r (and_l (and_r (and_r (and_r (and_l (and_l (and_r (and_l (h)))))))))
  | 83, _ => and_l (and_r (and_r (and_r (and_r (and_l (and_l (and_r (and_l (h)))))))))
  | 84, _ => and_l (and_r (and_r (and_r (and_r (and_r (and_l (and_l (and_r (and_l (h))))))))))
  | 85, _ => and_r (and_r (and_r (and_r (and_r (and_r (and_l (and_l (and_r (and_l (h))))))))))
  | 86, _ => and_l (and_l (and_l (and_l (and_l (and_r (and_l (and_r (and_l (h)))))))))
  | 87, _ => and_r (and_l (and_l (and_l (and_l (and_r (and_l (and_r (and_l (h)))))))))
  | 88, _ => and_l (and_r (and_l (and_l (and_l (and_r (and_l (and_r (and_l (h)))))))))
  | 89, _ => and_l (and_r (and_r (and_l (and_l (and_l (and_r (and_l (and_r (and_l (h))))))))))
  | 90, _ => and_r (and_r (and_r (and_l (and_l (and_l (and_r (and_l (and_r (and_l (h))))))))))
  | 91, _ => and_l (and_l (and_r (and_l (and_l (and_r (and_l (and_r (and_l (h)))))))))
  | 92, _ => and_r (and_l (and_r (and_l (and_l (and_r (and_l (and_r (and_l (h)))))))))
  | 93, _ => and_l (and_r (and_r (and_l (and_l (and_r (and_l (and_r (and_l (h)))))))))
  | 94, _ => and_l (and_r (and_r (and_r (and_l (and_l (and_r (and_l (and_r (and_l (h))))))))))
  | 95, _ => and_r (and_r (and_r (and_r (and_l (and_l (and_r (and_l (and_r (and_l (h))))))))))
  | 96, _ => and_l (and_l (and_l (and_r (and_l (and_r (and_l (and_r (and_l (h)))))))))
  | 97, _ => and_r (and_l (and_l (and_r (and_l (and_r (and_l (and_r (and_l (h)))))))))
  | 98, _ => and_l (and_r (and_l (and_r (and_l (and_r (and_l (and_r (and_l (h)))))))))
  | 99, _ => and_l (and_r (and_r (and_l (and_r (and_l (and_r (and_l (and_r (and_l (h))))))))))
  | 100, _ => and_r (and_r (and_r (and_l (and_r (and_l (and_r (and_l (and_r (and_l (h))))))))))
  | 101, _ => and_l (and_l (and_r (and_r (and_l (and_r (and_l (and_r (and_l (h)))))))))
  | 102, _ => and_r (and_l (and_r (and_r (and_l (and_r (and_l (and_r (and_l (h)))))))))
  | 103, _ => and_l (and_r (and_r (and_r (and_l (and_r (and_l (and_r (and_l (h)))))))))
  | 104, _ => and_l (and_r (and_r (and_r (and_r (and_l (and_r (and_l (and_r (and_l (h))))))))))
  | 105, _ => and_r (and_r (and_r (and_r (and_r (and_l (and_r (and_l (and_r (and_l (h))))))))))
  | 106, _ => and_l (and_l (and_l (and_l (and_r (and_r (and_l (and_r (and_l (h)))))))))
  | 107, _ => and_r (and_l (and_l (and_l (and_r (and_r (and_l (and_r (and_l (h)))))))))
  | 108, _ => and_l (and_r (and_l (and_l (and_r (and_r (and_l (and_r (and_l (h)))))))))
  | 109, _ => and_l (and_r (and_r (and_l (and_l (and_r (and_r (and_l (and_r (and_l (h))))))))))
  | 110, _ => and_r (and_r (and_r (and_l (and_l (and_r (and_r (and_l (and_r (and_l (h))))))))))
  | 111, _ => and_l (and_l (and_r (and_l (and_r (and_r (and_l (and_r (and_l (h)))))))))
  | 112, _ => and_r (and_l (and_r (and_l (and_r (and_r (and_l (and_r (and_l (h)))))))))
  | 113, _ => and_l (and_r (and_r (and_l (and_r (and_r (and_l (and_r (and_l (h)))))))))
  | 114, _ => and_l (and_r (and_r (and_r (and_l (and_r (and_r (and_l (and_r (and_l (h))))))))))
  | 115, _ => and_r (and_r (and_r (and_r (and_l (and_r (and_r (and_l (and_r (and_l (h))))))))))
  | 116, _ => and_l (and_l (and_l (and_r (and_r (and_r (and_l (and_r (and_l (h)))))))))
  | 117, _ => and_r (and_l (and_l (and_r (and_r (and_r (and_l (and_r (and_l (h)))))))))
  | 118, _ => and_l (and_r (and_l (and_r (and_r (and_r (and_l (and_r (and_l (h)))))))))
  | 119, _ => and_l (and_r (and_r (and_l (and_r (and_r (and_r (and_l (and_r (and_l (h))))))))))
  | 120, _ => and_r (and_r (and_r (and_l (and_r (and_r (and_r (and_l (and_r (and_l (h))))))))))
  | 121, _ => and_l (and_l (and_r (and_r (and_r (and_r (and_l (and_r (and_l (h)))))))))
  | 122, _ => and_r (and_l (and_r (and_r (and_r (and_r (and_l (and_r (and_l (h)))))))))
  | 123, _ => and_l (and_r (and_r (and_r (and_r (and_r (and_l (and_r (and_l (h)))))))))
  | 124, _ => and_l (and_r (and_r (and_r (and_r (and_r (and_r (and_l (and_r (and_l (h))))))))))
  | 125, _ => and_r (and_r (and_r (and_r (and_r (and_r (and_r (and_l (and_r (and_l (h))))))))))
  | 126, _ => and_l (and_l (and_l (and_l (and_l (and_l (and_r (and_r (and_l (h)))))))))
  | 127, _ => and_r (and_l (and_l (and_l (and_l (and_l (and_r (and_r (and_l (h)))))))))
  | 128, _ => and_l (and_r (and_l (and_l (and_l (and_l (and_r (and_r (and_l (h)))))))))
  | 129, _ => and_l (and_r (and_r (and_l (and_l (and_l (and_l (and_r (and_r (and_l (h))))))))))
  | 130, _ => and_r (and_r (and_r (and_l (and_l (and_l (and_l (and_r (and_r (and_l (h))))))))))
  | 131, _ => and_l (and_l (and_r (and_l (and_l (and_l (and_r (and_r (and_l (h)))))))))
  | 132, _ => and_r (and_l (and_r (and_l (and_l (and_l (and_r (and_r (and_l (h)))))))))
  | 133, _ => and_l (and_r (and_r (and_l (and_l (and_l (and_r (and_r (and_l (h)))))))))
  | 134, _ => and_l (and_r (and_r (and_r (and_l (and_l (and_l (and_r (and_r (and_l (h))))))))))
  | 135, _ => and_r (and_r (and_r (and_r (and_l (and_l (and_l (and_r (and_r (and_l (h))))))))))
  | 136, _ => and_l (and_l (and_l (and_r (and_l (and_l (and_r (and_r (and_l (h)))))))))
  | 137, _ => and_r (and_l (and_l (and_r (and_l (and_l (and_r (and_r (and_l (h)))))))))
  | 138, _ => and_l (and_r (and_l (and_r (and_l (and_l (and_r (and_r (and_l (h)))))))))
  | 139, _ => and_l (and_r (and_r (and_l (and_r (and_l (and_l (and_r (and_r (and_l (h))))))))))
  | 140, _ => and_r (and_r (and_r (and_l (and_r (and_l (and_l (and_r (and_r (and_l (h))))))))))
  | 141, _ => and_l (and_l (and_r (and_r (and_l (and_l (and_r (and_r (and_l (h)))))))))
  | 142, _ => and_r (and_l (and_r (and_r (and_l (and_l (and_r (and_r (and_l (h)))))))))
  | 143, _ => and_l (and_r (and_r (and_r (and_l (and_l (and_r (and_r (and_l (h)))))))))
  | 144, _ => and_l (and_r (and_r (and_r (and_r (and_l (and_l (and_r (and_r (and_l (h))))))))))
  | 145, _ => and_r (and_r (and_r (and_r (and_r (and_l (and_l (and_r (and_r (and_l (h))))))))))
  | 146, _ => and_l (and_l (and_l (and_l (and_r (and_l (and_r (and_r (and_l (h)))))))))
  | 147, _ => and_r (and_l (and_l (and_l (and_r (and_l (and_r (and_r (and_l (h)))))))))
  | n + 148, h0 => absurd h0 (by omega)
set_option maxHeartbeats 4000000 in
set_option maxRecDepth 100000 in
theorem fs_el4 {s : State} {b : Nat} (h : narrow_1.before #[Value.ref b] s = true) : ∀ j, j < 2 → (Cond.eq (.elem (.field (tmS 4) "java/lang/String" "value" "[B") (.int (Int32.ofNat j))) (.int ((sbyt.getD 4 []).getD j 0))).before #[Value.ref b] s = true
  | 0, _ => and_r (and_r (and_r (and_r (and_l (and_r (and_l (and_r (and_r (and_l (h))))))))))
  | 1, _ => and_l (and_l (and_l (and_r (and_r (and_l (and_r (and_r (and_l (h)))))))))
  | n + 2, h0 => absurd h0 (by omega)
set_option maxHeartbeats 4000000 in
set_option maxRecDepth 100000 in
theorem fs_el5 {s : State} {b : Nat} (h : narrow_1.before #[Value.ref b] s = true) : ∀ j, j < 3 → (Cond.eq (.elem (.field (tmS 5) "java/lang/String" "value" "[B") (.int (Int32.ofNat j))) (.int ((sbyt.getD 5 []).getD j 0))).before #[Value.ref b] s = true
  | 0, _ => and_r (and_r (and_r (and_r (and_r (and_r (and_l (and_r (and_r (and_l (h))))))))))
  | 1, _ => and_l (and_l (and_l (and_l (and_l (and_r (and_r (and_r (and_l (h)))))))))
  | 2, _ => and_r (and_l (and_l (and_l (and_l (and_r (and_r (and_r (and_l (h)))))))))
  | n + 3, h0 => absurd h0 (by omega)
set_option maxHeartbeats 4000000 in
set_option maxRecDepth 100000 in
theorem fs_el6 {s : State} {b : Nat} (h : narrow_1.before #[Value.ref b] s = true) : ∀ j, j < 3 → (Cond.eq (.elem (.field (tmS 6) "java/lang/String" "value" "[B") (.int (Int32.ofNat j))) (.int ((sbyt.getD 6 []).getD j 0))).before #[Value.ref b] s = true
  | 0, _ => and_r (and_l (and_l (and_r (and_l (and_r (and_r (and_r (and_l (h)))))))))
  | 1, _ => and_l (and_r (and_l (and_r (and_l (and_r (and_r (and_r (and_l (h)))))))))
  | 2, _ => and_l (and_r (and_r (and_l (and_r (and_l (and_r (and_r (and_r (and_l (h))))))))))
  | n + 3, h0 => absurd h0 (by omega)
set_option maxHeartbeats 4000000 in
set_option maxRecDepth 100000 in
theorem fs_el7 {s : State} {b : Nat} (h : narrow_1.before #[Value.ref b] s = true) : ∀ j, j < 4 → (Cond.eq (.elem (.field (tmS 7) "java/lang/String" "value" "[B") (.int (Int32.ofNat j))) (.int ((sbyt.getD 7 []).getD j 0))).before #[Value.ref b] s = true
  | 0, _ => and_r (and_r (and_r (and_l (and_l (and_r (and_r (and_r (and_r (and_l (h))))))))))
  | 1, _ => and_l (and_l (and_r (and_l (and_r (and_r (and_r (and_r (and_l (h)))))))))
  | 2, _ => and_r (and_l (and_r (and_l (and_r (and_r (and_r (and_r (and_l (h)))))))))
  | 3, _ => and_l (and_r (and_r (and_l (and_r (and_r (and_r (and_r (and_l (h)))))))))
  | n + 4, h0 => absurd h0 (by omega)
set_option maxHeartbeats 4000000 in
set_option maxRecDepth 100000 in
theorem fs_el8 {s : State} {b : Nat} (h : narrow_1.before #[Value.ref b] s = true) : ∀ j, j < 4 → (Cond.eq (.elem (.field (tmS 8) "java/lang/String" "value" "[B") (.int (Int32.ofNat j))) (.int ((sbyt.getD 8 []).getD j 0))).before #[Value.ref b] s = true
  | 0, _ => and_r (and_r (and_r (and_r (and_r (and_r (and_r (and_r (and_r (and_l (h))))))))))
  | 1, _ => and_l (and_l (and_l (and_l (and_l (and_l (and_l (and_l (and_r (h)))))))))
  | 2, _ => and_r (and_l (and_l (and_l (and_l (and_l (and_l (and_l (and_r (h)))))))))
  | 3, _ => and_l (and_r (and_l (and_l (and_l (and_l (and_l (and_l (and_r (h)))))))))
  | n + 4, h0 => absurd h0 (by omega)
set_option maxHeartbeats 4000000 in
set_option maxRecDepth 100000 in
theorem fs_el9 {s : State} {b : Nat} (h : narrow_1.before #[Value.ref b] s = true) : ∀ j, j < 7 → (Cond.eq (.elem (.field (tmS 9) "java/lang/String" "value" "[B") (.int (Int32.ofNat j))) (.int ((sbyt.getD 9 []).getD j 0))).before #[Value.ref b] s = true
  | 0, _ => and_r (and_l (and_r (and_r (and_l (and_l (and_l (and_l (and_r (h)))))))))
  | 1, _ => and_l (and_r (and_r (and_r (and_l (and_l (and_l (and_l (and_r (h)))))))))
  | 2, _ => and_l (and_r (and_r (and_r (and_r (and_l (and_l (and_l (and_l (and_r (h))))))))))
  | 3, _ => and_r (and_r (and_r (and_r (and_r (and_l (and_l (and_l (and_l (and_r (h))))))))))
  | 4, _ => and_l (and_l (and_l (and_l (and_r (and_l (and_l (and_l (and_r (h)))))))))
  | 5, _ => and_r (and_l (and_l (and_l (and_r (and_l (and_l (and_l (and_r (h)))))))))
  | 6, _ => and_l (and_r (and_l (and_l (and_r (and_l (and_l (and_l (and_r (h)))))))))
  | n + 7, h0 => absurd h0 (by omega)
set_option maxHeartbeats 4000000 in
set_option maxRecDepth 100000 in
theorem fs_el10 {s : State} {b : Nat} (h : narrow_1.before #[Value.ref b] s = true) : ∀ j, j < 3 → (Cond.eq (.elem (.field (tmS 10) "java/lang/String" "value" "[B") (.int (Int32.ofNat j))) (.int ((sbyt.getD 10 []).getD j 0))).before #[Value.ref b] s = true
  | 0, _ => and_r (and_l (and_r (and_r (and_r (and_l (and_l (and_l (and_r (h)))))))))
  | 1, _ => and_l (and_r (and_r (and_r (and_r (and_l (and_l (and_l (and_r (h)))))))))
  | 2, _ => and_l (and_r (and_r (and_r (and_r (and_r (and_l (and_l (and_l (and_r (h))))))))))
  | n + 3, h0 => absurd h0 (by omega)
set_option maxHeartbeats 4000000 in
set_option maxRecDepth 100000 in
theorem fs_el11 {s : State} {b : Nat} (h : narrow_1.before #[Value.ref b] s = true) : ∀ j, j < 8 → (Cond.eq (.elem (.field (tmS 11) "java/lang/String" "value" "[B") (.int (Int32.ofNat j))) (.int ((sbyt.getD 11 []).getD j 0))).before #[Value.ref b] s = true
  | 0, _ => and_l (and_r (and_r (and_l (and_r (and_l (and_r (and_l (and_l (and_r (h))))))))))
  | 1, _ => and_r (and_r (and_r (and_l (and_r (and_l (and_r (and_l (and_l (and_r (h))))))))))
  | 2, _ => and_l (and_l (and_r (and_r (and_l (and_r (and_l (and_l (and_r (h)))))))))
  | 3, _ => and_r (and_l (and_r (and_r (and_l (and_r (and_l (and_l (and_r (h)))))))))
  | 4, _ => and_l (and_r (and_r (and_r (and_l (and_r (and_l (and_l (and_r (h)))))))))
  | 5, _ => and_l (and_r (and_r (and_r (and_r (and_l (and_r (and_l (and_l (and_r (h))))))))))
  | 6, _ => and_r (and_r (and_r (and_r (and_r (and_l (and_r (and_l (and_l (and_r (h))))))))))
  | 7, _ => and_l (and_l (and_l (and_l (and_r (and_r (and_l (and_l (and_r (h)))))))))
  | n + 8, h0 => absurd h0 (by omega)
set_option maxHeartbeats 4000000 in
set_option maxRecDepth 100000 in
theorem fs_el12 {s : State} {b : Nat} (h : narrow_1.before #[Value.ref b] s = true) : ∀ j, j < 3 → (Cond.eq (.elem (.field (tmS 12) "java/lang/String" "value" "[B") (.int (Int32.ofNat j))) (.int ((sbyt.getD 12 []).getD j 0))).before #[Value.ref b] s = true
  | 0, _ => and_r (and_l (and_r (and_r (and_r (and_r (and_l (and_l (and_r (h)))))))))
  | 1, _ => and_l (and_r (and_r (and_r (and_r (and_r (and_l (and_l (and_r (h)))))))))
  | 2, _ => and_l (and_r (and_r (and_r (and_r (and_r (and_r (and_l (and_l (and_r (h))))))))))
  | n + 3, h0 => absurd h0 (by omega)
set_option maxHeartbeats 4000000 in
set_option maxRecDepth 100000 in
theorem fs_el13 {s : State} {b : Nat} (h : narrow_1.before #[Value.ref b] s = true) : ∀ j, j < 66 → (Cond.eq (.elem (.field (tmS 13) "java/lang/String" "value" "[B") (.int (Int32.ofNat j))) (.int ((sbyt.getD 13 []).getD j 0))).before #[Value.ref b] s = true
  | 0, _ => and_l (and_l (and_r (and_r (and_l (and_l (and_r (and_l (and_r (h)))))))))
  | 1, _ => and_r (and_l (and_r (and_r (and_l (and_l (and_r (and_l (and_r (h)))))))))
  | 2, _ => and_l (and_r (and_r (and_r (and_l (and_l (and_r (and_l (and_r (h)))))))))
  | 3, _ => and_l (and_r (and_r (and_r (and_r (and_l (and_l (and_r (and_l (and_r (h))))))))))
  | 4, _ => and_r (and_r (and_r (and_r (and_r (and_l (and_l (and_r (and_l (and_r (h))))))))))
  | 5, _ => and_l (and_l (and_l (and_l (and_r (and_l (and_r (and_l (and_r (h)))))))))
  | 6, _ => and_r (and_l (and_l (and_l (and_r (and_l (and_r (and_l (and_r (h)))))))))
  | 7, _ => and_l (and_r (and_l (and_l (and_r (and_l (and_r (and_l (and_r (h)))))))))
  | 8, _ => and_l (and_r (and_r (and_l (and_l (and_r (and_l (and_r (and_l (and_r (h))))))))))
  | 9, _ => and_r (and_r (and_r (and_l (and_l (and_r (and_l (and_r (and_l (and_r (h))))))))))
  | 10, _ => and_l (and_l (and_r (and_l (and_r (and_l (and_r (and_l (and_r (h)))))))))
  | 11, _ => and_r (and_l (and_r (and_l (and_r (and_l (and_r (and_l (and_r (h)))))))))
  | 12, _ => and_l (and_r (and_r (and_l (and_r (and_l (and_r (and_l (and_r (h)))))))))
  | 13, _ => and_l (and_r (and_r (and_r (and_l (and_r (and_l (and_r (and_l (and_r (h))))))))))
  | 14, _ => and_r (and_r (and_r (and_r (and_l (and_r (and_l (and_r (and_l (and_r (h))))))))))
  | 15, _ => and_l (and_l (and_l (and_r (and_r (and_l (and_r (and_l (and_r (h)))))))))
  | 16, _ => and_r (and_l (and_l (and_r (and_r (and_l (and_r (and_l (and_r (h)))))))))
  | 17, _ => and_l (and_r (and_l (and_r (and_r (and_l (and_r (and_l (and_r (h)))))))))
  | 18, _ => and_l (and_r (and_r (and_l (and_r (and_r (and_l (and_r (and_l (and_r (h))))))))))
  | 19, _ => and_r (and_r (and_r (and_l (and_r (and_r (and_l (and_r (and_l (and_r (h))))))))))
  | 20, _ => and_l (and_l (and_r (and_r (and_r (and_l (and_r (and_l (and_r (h)))))))))
  | 21, _ => and_r (and_l (and_r (and_r (and_r (and_l (and_r (and_l (and_r (h)))))))))
  | 22, _ => and_l (and_r (and_r (and_r (and_r (and_l (and_r (and_l (and_r (h)))))))))
  | 23, _ => and_l (and_r (and_r (and_r (and_r (and_r (and_l (and_r (and_l (and_r (h))))))))))
  | 24, _ => and_r (and_r (and_r (and_r (and_r (and_r (and_l (and_r (and_l (and_r (h))))))))))
  | 25, _ => and_l (and_l (and_l (and_l (and_l (and_r (and_r (and_l (and_r (h)))))))))
  | 26, _ => and_r (and_l (and_l (and_l (and_l (and_r (and_r (and_l (and_r (h)))))))))
  | 27, _ => and_l (and_r (and_l (and_l (and_l (and_r (and_r (and_l (and_r (h)))))))))
  | 28, _ => and_l (and_r (and_r (and_l (and_l (and_l (and_r (and_r (and_l (and_r (h))))))))))
  | 29, _ => and_r (and_r (and_r (and_l (and_l (and_l (and_r (and_r (and_l (and_r (h))))))))))
  | 30, _ => and_l (and_l (and_r (and_l (and_l (and_r (and_r (and_l (and_r (h)))))))))
  | 31, _ => and_r (and_l (and_r (and_l (and_l (and_r (and_r (and_l (and_r (h)))))))))
  | 32, _ => and_l (and_r (and_r (and_l (and_l (and_r (and_r (and_l (and_r (h)))))))))
  | 33, _ => and_l (and_r (and_r (and_r (and_l (and_l (and_r (and_r (and_l (and_r (h))))))))))
  | 34, _ => and_r (and_r (and_r (and_r (and_l (and_l (and_r (and_r (and_l (and_r (h))))))))))
  | 35, _ => and_l (and_l (and_l (and_r (and_l (and_r (and_r (and_l (and_r (h)))))))))
  | 36, _ => and_r (and_l (and_l (and_r (and_l (and_r (and_r (and_l (and_r (h)))))))))
  | 37, _ => and_l (and_r (and_l (and_r (and_l (and_r (and_r (and_l (and_r (h)))))))))
  | 38, _ => and_l (and_r (and_r (and_l (and_r (and_l (and_r (and_r (and_l (and_r (h))))))))))
  | 39, _ => and_r (and_r (and_r (and_l (and_r (and_l (and_r (and_r (and_l (and_r (h))))))))))
  | 40, _ => and_l (and_l (and_r (and_r (and_l (and_r (and_r (and_l (and_r (h)))))))))
  | 41, _ => and_r (and_l (and_r (and_r (and_l (and_r (and_r (and_l (and_r (h)))))))))
  | 42, _ => and_l (and_r (and_r (and_r (and_l (and_r (and_r (and_l (and_r (h)))))))))
  | 43, _ => and_l (and_r (and_r (and_r (and_r (and_l (and_r (and_r (and_l (and_r (h))))))))))
  | 44, _ => and_r (and_r (and_r (and_r (and_r (and_l (and_r (and_r (and_l (and_r (h))))))))))
  | 45, _ => and_l (and_l (and_l (and_l (and_r (and_r (and_r (and_l (and_r (h)))))))))
  | 46, _ => and_r (and_l (and_l (and_l (and_r (and_r (and_r (and_l (and_r (h)))))))))
  | 47, _ => and_l (and_r (and_l (and_l (and_r (and_r (and_r (and_l (and_r (h)))))))))
  | 48, _ => and_l (and_r (and_r (and_l (and_l (and_r (and_r (and_r (and_l (and_r (h))))))))))
  | 49, _ => and_r (and_r (and_r (and_l (and_l (and_r (and_r (and_r (and_l (and_r (h))))))))))
  | 50, _ => and_l (and_l (and_r (and_l (and_r (and_r (and_r (and_l (and_r (h)))))))))
  | 51, _ => and_r (and_l (and_r (and_l (and_r (and_r (and_r (and_l (and_r (h)))))))))
  | 52, _ => and_l (and_r (and_r (and_l (and_r (and_r (and_r (and_l (and_r (h)))))))))
  | 53, _ => and_l (and_r (and_r (and_r (and_l (and_r (and_r (and_r (and_l (and_r (h))))))))))
  | 54, _ => and_r (and_r (and_r (and_r (and_l (and_r (and_r (and_r (and_l (and_r (h))))))))))
  | 55, _ => and_l (and_l (and_l (and_r (and_r (and_r (and_r (and_l (and_r (h)))))))))
  | 56, _ => and_r (and_l (and_l (and_r (and_r (and_r (and_r (and_l (and_r (h)))))))))
  | 57, _ => and_l (and_r (and_l (and_r (and_r (and_r (and_r (and_l (and_r (h)))))))))
  | 58, _ => and_l (and_r (and_r (and_l (and_r (and_r (and_r (and_r (and_l (and_r (h))))))))))
  | 59, _ => and_r (and_r (and_r (and_l (and_r (and_r (and_r (and_r (and_l (and_r (h))))))))))
  | 60, _ => and_l (and_l (and_r (and_r (and_r (and_r (and_r (and_l (and_r (h)))))))))
  | 61, _ => and_r (and_l (and_r (and_r (and_r (and_r (and_r (and_l (and_r (h)))))))))
  | 62, _ => and_l (and_r (and_r (and_r (and_r (and_r (and_r (and_l (and_r (h)))))))))
  | 63, _ => and_l (and_r (and_r (and_r (and_r (and_r (and_r (and_r (and_l (and_r (h))))))))))
  | 64, _ => and_r (and_r (and_r (and_r (and_r (and_r (and_r (and_r (and_l (and_r (h))))))))))
  | 65, _ => and_l (and_l (and_l (and_l (and_l (and_l (and_l (and_r (and_r (h)))))))))
  | n + 66, h0 => absurd h0 (by omega)
set_option maxHeartbeats 4000000 in
set_option maxRecDepth 100000 in
theorem fs_el14 {s : State} {b : Nat} (h : narrow_1.before #[Value.ref b] s = true) : ∀ j, j < 33 → (Cond.eq (.elem (.field (tmS 14) "java/lang/String" "value" "[B") (.int (Int32.ofNat j))) (.int ((sbyt.getD 14 []).getD j 0))).before #[Value.ref b] s = true
  | 0, _ => and_l (and_r (and_r (and_r (and_r (and_l (and_l (and_l (and_r (and_r (h))))))))))
  | 1, _ => and_r (and_r (and_r (and_r (and_r (and_l (and_l (and_l (and_r (and_r (h))))))))))
  | 2, _ => and_l (and_l (and_l (and_l (and_r (and_l (and_l (and_r (and_r (h)))))))))
  | 3, _ => and_r (and_l (and_l (and_l (and_r (and_l (and_l (and_r (and_r (h)))))))))
  | 4, _ => and_l (and_r (and_l (and_l (and_r (and_l (and_l (and_r (and_r (h)))))))))
  | 5, _ => and_l (and_r (and_r (and_l (and_l (and_r (and_l (and_l (and_r (and_r (h))))))))))
  | 6, _ => and_r (and_r (and_r (and_l (and_l (and_r (and_l (and_l (and_r (and_r (h))))))))))
  | 7, _ => and_l (and_l (and_r (and_l (and_r (and_l (and_l (and_r (and_r (h)))))))))
  | 8, _ => and_r (and_l (and_r (and_l (and_r (and_l (and_l (and_r (and_r (h)))))))))
  | 9, _ => and_l (and_r (and_r (and_l (and_r (and_l (and_l (and_r (and_r (h)))))))))
  | 10, _ => and_l (and_r (and_r (and_r (and_l (and_r (and_l (and_l (and_r (and_r (h))))))))))
  | 11, _ => and_r (and_r (and_r (and_r (and_l (and_r (and_l (and_l (and_r (and_r (h))))))))))
  | 12, _ => and_l (and_l (and_l (and_r (and_r (and_l (and_l (and_r (and_r (h)))))))))
  | 13, _ => and_r (and_l (and_l (and_r (and_r (and_l (and_l (and_r (and_r (h)))))))))
  | 14, _ => and_l (and_r (and_l (and_r (and_r (and_l (and_l (and_r (and_r (h)))))))))
  | 15, _ => and_l (and_r (and_r (and_l (and_r (and_r (and_l (and_l (and_r (and_r (h))))))))))
  | 16, _ => and_r (and_r (and_r (and_l (and_r (and_r (and_l (and_l (and_r (and_r (h))))))))))
  | 17, _ => and_l (and_l (and_r (and_r (and_r (and_l (and_l (and_r (and_r (h)))))))))
  | 18, _ => and_r (and_l (and_r (and_r (and_r (and_l (and_l (and_r (and_r (h)))))))))
  | 19, _ => and_l (and_r (and_r (and_r (and_r (and_l (and_l (and_r (and_r (h)))))))))
  | 20, _ => and_l (and_r (and_r (and_r (and_r (and_r (and_l (and_l (and_r (and_r (h))))))))))
  | 21, _ => and_r (and_r (and_r (and_r (and_r (and_r (and_l (and_l (and_r (and_r (h))))))))))
  | 22, _ => and_l (and_l (and_l (and_l (and_l (and_r (and_l (and_r (and_r (h)))))))))
  | 23, _ => and_r (and_l (and_l (and_l (and_l (and_r (and_l (and_r (and_r (h)))))))))
  | 24, _ => and_l (and_r (and_l (and_l (and_l (and_r (and_l (and_r (and_r (h)))))))))
  | 25, _ => and_l (and_r (and_r (and_l (and_l (and_l (and_r (and_l (and_r (and_r (h))))))))))
  | 26, _ => and_r (and_r (and_r (and_l (and_l (and_l (and_r (and_l (and_r (and_r (h))))))))))
  | 27, _ => and_l (and_l (and_r (and_l (and_l (and_r (and_l (and_r (and_r (h)))))))))
  | 28, _ => and_r (and_l (and_r (and_l (and_l (and_r (and_l (and_r (and_r (h)))))))))
  | 29, _ => and_l (and_r (and_r (and_l (and_l (and_r (and_l (and_r (and_r (h)))))))))
  | 30, _ => and_l (and_r (and_r (and_r (and_l (and_l (and_r (and_l (and_r (and_r (h))))))))))
  | 31, _ => and_r (and_r (and_r (and_r (and_l (and_l (and_r (and_l (and_r (and_r (h))))))))))
  | 32, _ => and_l (and_l (and_l (and_r (and_l (and_r (and_l (and_r (and_r (h)))))))))
  | n + 33, h0 => absurd h0 (by omega)
set_option maxHeartbeats 4000000 in
set_option maxRecDepth 100000 in
theorem fs_el15 {s : State} {b : Nat} (h : narrow_1.before #[Value.ref b] s = true) : ∀ j, j < 3 → (Cond.eq (.elem (.field (tmS 15) "java/lang/String" "value" "[B") (.int (Int32.ofNat j))) (.int ((sbyt.getD 15 []).getD j 0))).before #[Value.ref b] s = true
  | 0, _ => and_r (and_r (and_r (and_r (and_l (and_r (and_r (and_l (and_r (and_r (h))))))))))
  | 1, _ => and_l (and_l (and_l (and_r (and_r (and_r (and_l (and_r (and_r (h)))))))))
  | 2, _ => and_r (and_l (and_l (and_r (and_r (and_r (and_l (and_r (and_r (h)))))))))
  | n + 3, h0 => absurd h0 (by omega)
set_option maxHeartbeats 4000000 in
set_option maxRecDepth 100000 in
theorem fs_el16 {s : State} {b : Nat} (h : narrow_1.before #[Value.ref b] s = true) : ∀ j, j < 3 → (Cond.eq (.elem (.field (tmS 16) "java/lang/String" "value" "[B") (.int (Int32.ofNat j))) (.int ((sbyt.getD 16 []).getD j 0))).before #[Value.ref b] s = true
  | 0, _ => and_r (and_l (and_l (and_r (and_l (and_l (and_r (and_r (and_r (h)))))))))
  | 1, _ => and_l (and_r (and_l (and_r (and_l (and_l (and_r (and_r (and_r (h)))))))))
  | 2, _ => and_l (and_r (and_r (and_l (and_r (and_l (and_l (and_r (and_r (and_r (h))))))))))
  | n + 3, h0 => absurd h0 (by omega)
set_option maxHeartbeats 4000000 in
set_option maxRecDepth 100000 in
theorem fs_el17 {s : State} {b : Nat} (h : narrow_1.before #[Value.ref b] s = true) : ∀ j, j < 3 → (Cond.eq (.elem (.field (tmS 17) "java/lang/String" "value" "[B") (.int (Int32.ofNat j))) (.int ((sbyt.getD 17 []).getD j 0))).before #[Value.ref b] s = true
  | 0, _ => and_r (and_r (and_r (and_l (and_r (and_r (and_l (and_r (and_r (and_r (h))))))))))
  | 1, _ => and_l (and_l (and_r (and_r (and_r (and_l (and_r (and_r (and_r (h)))))))))
  | 2, _ => and_r (and_l (and_r (and_r (and_r (and_l (and_r (and_r (and_r (h)))))))))
  | n + 3, h0 => absurd h0 (by omega)
set_option maxHeartbeats 4000000 in
set_option maxRecDepth 100000 in
theorem fs_el18 {s : State} {b : Nat} (h : narrow_1.before #[Value.ref b] s = true) : ∀ j, j < 2 → (Cond.eq (.elem (.field (tmS 18) "java/lang/String" "value" "[B") (.int (Int32.ofNat j))) (.int ((sbyt.getD 18 []).getD j 0))).before #[Value.ref b] s = true
  | 0, _ => and_l (and_r (and_r (and_r (and_r (and_l (and_r (and_r (and_r (and_r (h))))))))))
  | 1, _ => and_r (and_r (and_r (and_r (and_r (and_l (and_r (and_r (and_r (and_r (h))))))))))
  | n + 2, h0 => absurd h0 (by omega)
set_option maxHeartbeats 4000000 in
set_option maxRecDepth 100000 in
theorem fs_el {s : State} {b : Nat} (h : narrow_1.before #[Value.ref b] s = true) : ∀ i, i < 19 → ∀ j, j < slen.getD i 0 → (Cond.eq (.elem (.field (tmS i) "java/lang/String" "value" "[B") (.int (Int32.ofNat j))) (.int ((sbyt.getD i []).getD j 0))).before #[Value.ref b] s = true
  | 0, _ => fs_el0 h
  | 1, _ => fs_el1 h
  | 2, _ => fs_el2 h
  | 3, _ => fs_el3 h
  | 4, _ => fs_el4 h
  | 5, _ => fs_el5 h
  | 6, _ => fs_el6 h
  | 7, _ => fs_el7 h
  | 8, _ => fs_el8 h
  | 9, _ => fs_el9 h
  | 10, _ => fs_el10 h
  | 11, _ => fs_el11 h
  | 12, _ => fs_el12 h
  | 13, _ => fs_el13 h
  | 14, _ => fs_el14 h
  | 15, _ => fs_el15 h
  | 16, _ => fs_el16 h
  | 17, _ => fs_el17 h
  | 18, _ => fs_el18 h
  | n + 19, h0 => absurd h0 (by omega)
set_option maxHeartbeats 4000000 in
set_option maxRecDepth 100000 in
theorem fs_ne1 {s : State} {b : Nat} (h : narrow_1.before #[Value.ref b] s = true) : ∀ j, j < 1 → (Cond.not (Cond.eq (tmS 1) (tmS j))).before #[Value.ref b] s = true ∨ (Cond.not (Cond.eq (tmS j) (tmS 1))).before #[Value.ref b] s = true
  | 0, _ => Or.inr (and_l (and_r (and_r (and_l (and_l (and_r (and_r (and_l (and_l (and_l (h)))))))))))
  | n + 1, h0 => absurd h0 (by omega)
set_option maxHeartbeats 4000000 in
set_option maxRecDepth 100000 in
theorem fs_ne2 {s : State} {b : Nat} (h : narrow_1.before #[Value.ref b] s = true) : ∀ j, j < 2 → (Cond.not (Cond.eq (tmS 2) (tmS j))).before #[Value.ref b] s = true ∨ (Cond.not (Cond.eq (tmS j) (tmS 2))).before #[Value.ref b] s = true
  | 0, _ => Or.inr (and_l (and_r (and_r (and_r (and_l (and_r (and_l (and_r (and_l (and_l (h)))))))))))
  | 1, _ => Or.inr (and_r (and_r (and_r (and_r (and_l (and_r (and_l (and_r (and_l (and_l (h)))))))))))
  | n + 2, h0 => absurd h0 (by omega)
set_option maxHeartbeats 4000000 in
set_option maxRecDepth 100000 in
theorem fs_ne3 {s : State} {b : Nat} (h : narrow_1.before #[Value.ref b] s = true) : ∀ j, j < 3 → (Cond.not (Cond.eq (tmS 3) (tmS j))).before #[Value.ref b] s = true ∨ (Cond.not (Cond.eq (tmS j) (tmS 3))).before #[Value.ref b] s = true
  | 0, _ => Or.inr (and_l (and_r (and_l (and_l (and_r (and_l (and_r (and_r (and_l (h))))))))))
  | 1, _ => Or.inr (and_l (and_r (and_r (and_l (and_l (and_r (and_l (and_r (and_r (and_l (h)))))))))))
  | 2, _ => Or.inr (and_r (and_r (and_r (and_l (and_l (and_r (and_l (and_r (and_r (and_l (h)))))))))))
  | n + 3, h0 => absurd h0 (by omega)
set_option maxHeartbeats 4000000 in
set_option maxRecDepth 100000 in
theorem fs_ne4 {s : State} {b : Nat} (h : narrow_1.before #[Value.ref b] s = true) : ∀ j, j < 4 → (Cond.not (Cond.eq (tmS 4) (tmS j))).before #[Value.ref b] s = true ∨ (Cond.not (Cond.eq (tmS j) (tmS 4))).before #[Value.ref b] s = true
  | 0, _ => Or.inr (and_r (and_l (and_l (and_r (and_r (and_l (and_r (and_r (and_l (h))))))))))
  | 1, _ => Or.inr (and_l (and_r (and_l (and_r (and_r (and_l (and_r (and_r (and_l (h))))))))))
  | 2, _ => Or.inr (and_l (and_r (and_r (and_l (and_r (and_r (and_l (and_r (and_r (and_l (h)))))))))))
  | 3, _ => Or.inr (and_r (and_r (and_r (and_l (and_r (and_r (and_l (and_r (and_r (and_l (h)))))))))))
  | n + 4, h0 => absurd h0 (by omega)
set_option maxHeartbeats 4000000 in
set_option maxRecDepth 100000 in
theorem fs_ne5 {s : State} {b : Nat} (h : narrow_1.before #[Value.ref b] s = true) : ∀ j, j < 5 → (Cond.not (Cond.eq (tmS 5) (tmS j))).before #[Value.ref b] s = true ∨ (Cond.not (Cond.eq (tmS j) (tmS 5))).before #[Value.ref b] s = true
  | 0, _ => Or.inr (and_l (and_r (and_l (and_l (and_l (and_r (and_r (and_r (and_l (h))))))))))
  | 1, _ => Or.inr (and_l (and_r (and_r (and_l (and_l (and_l (and_r (and_r (and_r (and_l (h)))))))))))
  | 2, _ => Or.inr (and_r (and_r (and_r (and_l (and_l (and_l (and_r (and_r (and_r (and_l (h)))))))))))
  | 3, _ => Or.inr (and_l (and_l (and_r (and_l (and_l (and_r (and_r (and_r (and_l (h))))))))))
  | 4, _ => Or.inr (and_r (and_l (and_r (and_l (and_l (and_r (and_r (and_r (and_l (h))))))))))
  | n + 5, h0 => absurd h0 (by omega)
set_option maxHeartbeats 4000000 in
set_option maxRecDepth 100000 in
theorem fs_ne6 {s : State} {b : Nat} (h : narrow_1.before #[Value.ref b] s = true) : ∀ j, j < 6 → (Cond.not (Cond.eq (tmS 6) (tmS j))).before #[Value.ref b] s = true ∨ (Cond.not (Cond.eq (tmS j) (tmS 6))).before #[Value.ref b] s = true
  | 0, _ => Or.inr (and_r (and_r (and_r (and_l (and_r (and_l (and_r (and_r (and_r (and_l (h)))))))))))
  | 1, _ => Or.inr (and_l (and_l (and_r (and_r (and_l (and_r (and_r (and_r (and_l (h))))))))))
  | 2, _ => Or.inr (and_r (and_l (and_r (and_r (and_l (and_r (and_r (and_r (and_l (h))))))))))
  | 3, _ => Or.inr (and_l (and_r (and_r (and_r (and_l (and_r (and_r (and_r (and_l (h))))))))))
  | 4, _ => Or.inr (and_l (and_r (and_r (and_r (and_r (and_l (and_r (and_r (and_r (and_l (h)))))))))))
  | 5, _ => Or.inr (and_r (and_r (and_r (and_r (and_r (and_l (and_r (and_r (and_r (and_l (h)))))))))))
  | n + 6, h0 => absurd h0 (by omega)
set_option maxHeartbeats 4000000 in
set_option maxRecDepth 100000 in
theorem fs_ne7 {s : State} {b : Nat} (h : narrow_1.before #[Value.ref b] s = true) : ∀ j, j < 7 → (Cond.not (Cond.eq (tmS 7) (tmS j))).before #[Value.ref b] s = true ∨ (Cond.not (Cond.eq (tmS j) (tmS 7))).before #[Value.ref b] s = true
  | 0, _ => Or.inr (and_l (and_r (and_r (and_r (and_l (and_r (and_r (and_r (and_r (and_l (h)))))))))))
  | 1, _ => Or.inr (and_r (and_r (and_r (and_r (and_l (and_r (and_r (and_r (and_r (and_l (h)))))))))))
  | 2, _ => Or.inr (and_l (and_l (and_l (and_r (and_r (and_r (and_r (and_r (and_l (h))))))))))
  | 3, _ => Or.inr (and_r (and_l (and_l (and_r (and_r (and_r (and_r (and_r (and_l (h))))))))))
  | 4, _ => Or.inr (and_l (and_r (and_l (and_r (and_r (and_r (and_r (and_r (and_l (h))))))))))
  | 5, _ => Or.inr (and_l (and_r (and_r (and_l (and_r (and_r (and_r (and_r (and_r (and_l (h)))))))))))
  | 6, _ => Or.inr (and_r (and_r (and_r (and_l (and_r (and_r (and_r (and_r (and_r (and_l (h)))))))))))
  | n + 7, h0 => absurd h0 (by omega)
set_option maxHeartbeats 4000000 in
set_option maxRecDepth 100000 in
theorem fs_ne8 {s : State} {b : Nat} (h : narrow_1.before #[Value.ref b] s = true) : ∀ j, j < 8 → (Cond.not (Cond.eq (tmS 8) (tmS j))).before #[Value.ref b] s = true ∨ (Cond.not (Cond.eq (tmS j) (tmS 8))).before #[Value.ref b] s = true
  | 0, _ => Or.inr (and_r (and_r (and_l (and_l (and_l (and_l (and_l (and_l (and_r (h))))))))))
  | 1, _ => Or.inr (and_l (and_l (and_r (and_l (and_l (and_l (and_l (and_l (and_r (h))))))))))
  | 2, _ => Or.inr (and_r (and_l (and_r (and_l (and_l (and_l (and_l (and_l (and_r (h))))))))))
  | 3, _ => Or.inr (and_l (and_r (and_r (and_l (and_l (and_l (and_l (and_l (and_r (h))))))))))
  | 4, _ => Or.inr (and_l (and_r (and_r (and_r (and_l (and_l (and_l (and_l (and_l (and_r (h)))))))))))
  | 5, _ => Or.inr (and_r (and_r (and_r (and_r (and_l (and_l (and_l (and_l (and_l (and_r (h)))))))))))
  | 6, _ => Or.inr (and_l (and_l (and_l (and_r (and_l (and_l (and_l (and_l (and_r (h))))))))))
  | 7, _ => Or.inr (and_r (and_l (and_l (and_r (and_l (and_l (and_l (and_l (and_r (h))))))))))
  | n + 8, h0 => absurd h0 (by omega)
set_option maxHeartbeats 4000000 in
set_option maxRecDepth 100000 in
theorem fs_ne9 {s : State} {b : Nat} (h : narrow_1.before #[Value.ref b] s = true) : ∀ j, j < 9 → (Cond.not (Cond.eq (tmS 9) (tmS j))).before #[Value.ref b] s = true ∨ (Cond.not (Cond.eq (tmS j) (tmS 9))).before #[Value.ref b] s = true
  | 0, _ => Or.inr (and_l (and_r (and_r (and_l (and_l (and_r (and_l (and_l (and_l (and_r (h)))))))))))
  | 1, _ => Or.inr (and_r (and_r (and_r (and_l (and_l (and_r (and_l (and_l (and_l (and_r (h)))))))))))
  | 2, _ => Or.inr (and_l (and_l (and_r (and_l (and_r (and_l (and_l (and_l (and_r (h))))))))))
  | 3, _ => Or.inr (and_r (and_l (and_r (and_l (and_r (and_l (and_l (and_l (and_r (h))))))))))
  | 4, _ => Or.inr (and_l (and_r (and_r (and_l (and_r (and_l (and_l (and_l (and_r (h))))))))))
  | 5, _ => Or.inr (and_l (and_r (and_r (and_r (and_l (and_r (and_l (and_l (and_l (and_r (h)))))))))))
  | 6, _ => Or.inr (and_r (and_r (and_r (and_r (and_l (and_r (and_l (and_l (and_l (and_r (h)))))))))))
  | 7, _ => Or.inr (and_l (and_l (and_l (and_r (and_r (and_l (and_l (and_l (and_r (h))))))))))
  | 8, _ => Or.inr (and_r (and_l (and_l (and_r (and_r (and_l (and_l (and_l (and_r (h))))))))))
  | n + 9, h0 => absurd h0 (by omega)
set_option maxHeartbeats 4000000 in
set_option maxRecDepth 100000 in
theorem fs_ne10 {s : State} {b : Nat} (h : narrow_1.before #[Value.ref b] s = true) : ∀ j, j < 10 → (Cond.not (Cond.eq (tmS 10) (tmS j))).before #[Value.ref b] s = true ∨ (Cond.not (Cond.eq (tmS j) (tmS 10))).before #[Value.ref b] s = true
  | 0, _ => Or.inr (and_r (and_r (and_r (and_r (and_r (and_r (and_l (and_l (and_l (and_r (h)))))))))))
  | 1, _ => Or.inr (and_l (and_l (and_l (and_l (and_l (and_r (and_l (and_l (and_r (h))))))))))
  | 2, _ => Or.inr (and_r (and_l (and_l (and_l (and_l (and_r (and_l (and_l (and_r (h))))))))))
  | 3, _ => Or.inr (and_l (and_r (and_l (and_l (and_l (and_r (and_l (and_l (and_r (h))))))))))
  | 4, _ => Or.inr (and_l (and_r (and_r (and_l (and_l (and_l (and_r (and_l (and_l (and_r (h)))))))))))
  | 5, _ => Or.inr (and_r (and_r (and_r (and_l (and_l (and_l (and_r (and_l (and_l (and_r (h)))))))))))
  | 6, _ => Or.inr (and_l (and_l (and_r (and_l (and_l (and_r (and_l (and_l (and_r (h))))))))))
  | 7, _ => Or.inr (and_r (and_l (and_r (and_l (and_l (and_r (and_l (and_l (and_r (h))))))))))
  | 8, _ => Or.inr (and_l (and_r (and_r (and_l (and_l (and_r (and_l (and_l (and_r (h))))))))))
  | 9, _ => Or.inr (and_l (and_r (and_r (and_r (and_l (and_l (and_r (and_l (and_l (and_r (h)))))))))))
  | n + 10, h0 => absurd h0 (by omega)
set_option maxHeartbeats 4000000 in
set_option maxRecDepth 100000 in
theorem fs_ne11 {s : State} {b : Nat} (h : narrow_1.before #[Value.ref b] s = true) : ∀ j, j < 11 → (Cond.not (Cond.eq (tmS 11) (tmS j))).before #[Value.ref b] s = true ∨ (Cond.not (Cond.eq (tmS j) (tmS 11))).before #[Value.ref b] s = true
  | 0, _ => Or.inr (and_r (and_l (and_l (and_l (and_r (and_r (and_l (and_l (and_r (h))))))))))
  | 1, _ => Or.inr (and_l (and_r (and_l (and_l (and_r (and_r (and_l (and_l (and_r (h))))))))))
  | 2, _ => Or.inr (and_l (and_r (and_r (and_l (and_l (and_r (and_r (and_l (and_l (and_r (h)))))))))))
  | 3, _ => Or.inr (and_r (and_r (and_r (and_l (and_l (and_r (and_r (and_l (and_l (and_r (h)))))))))))
  | 4, _ => Or.inr (and_l (and_l (and_r (and_l (and_r (and_r (and_l (and_l (and_r (h))))))))))
  | 5, _ => Or.inr (and_r (and_l (and_r (and_l (and_r (and_r (and_l (and_l (and_r (h))))))))))
  | 6, _ => Or.inr (and_l (and_r (and_r (and_l (and_r (and_r (and_l (and_l (and_r (h))))))))))
  | 7, _ => Or.inr (and_l (and_r (and_r (and_r (and_l (and_r (and_r (and_l (and_l (and_r (h)))))))))))
  | 8, _ => Or.inr (and_r (and_r (and_r (and_r (and_l (and_r (and_r (and_l (and_l (and_r (h)))))))))))
  | 9, _ => Or.inr (and_l (and_l (and_l (and_r (and_r (and_r (and_l (and_l (and_r (h))))))))))
  | 10, _ => Or.inr (and_r (and_l (and_l (and_r (and_r (and_r (and_l (and_l (and_r (h))))))))))
  | n + 11, h0 => absurd h0 (by omega)
set_option maxHeartbeats 4000000 in
set_option maxRecDepth 100000 in
theorem fs_ne12 {s : State} {b : Nat} (h : narrow_1.before #[Value.ref b] s = true) : ∀ j, j < 12 → (Cond.not (Cond.eq (tmS 12) (tmS j))).before #[Value.ref b] s = true ∨ (Cond.not (Cond.eq (tmS j) (tmS 12))).before #[Value.ref b] s = true
  | 0, _ => Or.inr (and_r (and_r (and_r (and_r (and_r (and_r (and_r (and_l (and_l (and_r (h)))))))))))
  | 1, _ => Or.inr (and_l (and_l (and_l (and_l (and_l (and_l (and_r (and_l (and_r (h))))))))))
  | 2, _ => Or.inr (and_r (and_l (and_l (and_l (and_l (and_l (and_r (and_l (and_r (h))))))))))
  | 3, _ => Or.inr (and_l (and_r (and_l (and_l (and_l (and_l (and_r (and_l (and_r (h))))))))))
  | 4, _ => Or.inr (and_l (and_r (and_r (and_l (and_l (and_l (and_l (and_r (and_l (and_r (h)))))))))))
  | 5, _ => Or.inr (and_r (and_r (and_r (and_l (and_l (and_l (and_l (and_r (and_l (and_r (h)))))))))))
  | 6, _ => Or.inr (and_l (and_l (and_r (and_l (and_l (and_l (and_r (and_l (and_r (h))))))))))
  | 7, _ => Or.inr (and_r (and_l (and_r (and_l (and_l (and_l (and_r (and_l (and_r (h))))))))))
  | 8, _ => Or.inr (and_l (and_r (and_r (and_l (and_l (and_l (and_r (and_l (and_r (h))))))))))
  | 9, _ => Or.inr (and_l (and_r (and_r (and_r (and_l (and_l (and_l (and_r (and_l (and_r (h)))))))))))
  | 10, _ => Or.inr (and_r (and_r (and_r (and_r (and_l (and_l (and_l (and_r (and_l (and_r (h)))))))))))
  | 11, _ => Or.inr (and_l (and_l (and_l (and_r (and_l (and_l (and_r (and_l (and_r (h))))))))))
  | n + 12, h0 => absurd h0 (by omega)
set_option maxHeartbeats 4000000 in
set_option maxRecDepth 100000 in
theorem fs_ne13 {s : State} {b : Nat} (h : narrow_1.before #[Value.ref b] s = true) : ∀ j, j < 13 → (Cond.not (Cond.eq (tmS 13) (tmS j))).before #[Value.ref b] s = true ∨ (Cond.not (Cond.eq (tmS j) (tmS 13))).before #[Value.ref b] s = true
  | 0, _ => Or.inr (and_r (and_l (and_l (and_l (and_l (and_l (and_l (and_r (and_r (h))))))))))
  | 1, _ => Or.inr (and_l (and_r (and_l (and_l (and_l (and_l (and_l (and_r (and_r (h))))))))))
  | 2, _ => Or.inr (and_l (and_r (and_r (and_l (and_l (and_l (and_l (and_l (and_r (and_r (h)))))))))))
  | 3, _ => Or.inr (and_r (and_r (and_r (and_l (and_l (and_l (and_l (and_l (and_r (and_r (h)))))))))))
  | 4, _ => Or.inr (and_l (and_l (and_r (and_l (and_l (and_l (and_l (and_r (and_r (h))))))))))
  | 5, _ => Or.inr (and_r (and_l (and_r (and_l (and_l (and_l (and_l (and_r (and_r (h))))))))))
  | 6, _ => Or.inr (and_l (and_r (and_r (and_l (and_l (and_l (and_l (and_r (and_r (h))))))))))
  | 7, _ => Or.inr (and_l (and_r (and_r (and_r (and_l (and_l (and_l (and_l (and_r (and_r (h)))))))))))
  | 8, _ => Or.inr (and_r (and_r (and_r (and_r (and_l (and_l (and_l (and_l (and_r (and_r (h)))))))))))
  | 9, _ => Or.inr (and_l (and_l (and_l (and_r (and_l (and_l (and_l (and_r (and_r (h))))))))))
  | 10, _ => Or.inr (and_r (and_l (and_l (and_r (and_l (and_l (and_l (and_r (and_r (h))))))))))
  | 11, _ => Or.inr (and_l (and_r (and_l (and_r (and_l (and_l (and_l (and_r (and_r (h))))))))))
  | 12, _ => Or.inr (and_l (and_r (and_r (and_l (and_r (and_l (and_l (and_l (and_r (and_r (h)))))))))))
  | n + 13, h0 => absurd h0 (by omega)
set_option maxHeartbeats 4000000 in
set_option maxRecDepth 100000 in
theorem fs_ne14 {s : State} {b : Nat} (h : narrow_1.before #[Value.ref b] s = true) : ∀ j, j < 14 → (Cond.not (Cond.eq (tmS 14) (tmS j))).before #[Value.ref b] s = true ∨ (Cond.not (Cond.eq (tmS j) (tmS 14))).before #[Value.ref b] s = true
  | 0, _ => Or.inr (and_r (and_l (and_l (and_r (and_l (and_r (and_l (and_r (and_r (h))))))))))
  | 1, _ => Or.inr (and_l (and_r (and_l (and_r (and_l (and_r (and_l (and_r (and_r (h))))))))))
  | 2, _ => Or.inr (and_l (and_r (and_r (and_l (and_r (and_l (and_r (and_l (and_r (and_r (h)))))))))))
  | 3, _ => Or.inr (and_r (and_r (and_r (and_l (and_r (and_l (and_r (and_l (and_r (and_r (h)))))))))))
  | 4, _ => Or.inr (and_l (and_l (and_r (and_r (and_l (and_r (and_l (and_r (and_r (h))))))))))
  | 5, _ => Or.inr (and_r (and_l (and_r (and_r (and_l (and_r (and_l (and_r (and_r (h))))))))))
  | 6, _ => Or.inr (and_l (and_r (and_r (and_r (and_l (and_r (and_l (and_r (and_r (h))))))))))
  | 7, _ => Or.inr (and_l (and_r (and_r (and_r (and_r (and_l (and_r (and_l (and_r (and_r (h)))))))))))
  | 8, _ => Or.inr (and_r (and_r (and_r (and_r (and_r (and_l (and_r (and_l (and_r (and_r (h)))))))))))
  | 9, _ => Or.inr (and_l (and_l (and_l (and_l (and_r (and_r (and_l (and_r (and_r (h))))))))))
  | 10, _ => Or.inr (and_r (and_l (and_l (and_l (and_r (and_r (and_l (and_r (and_r (h))))))))))
  | 11, _ => Or.inr (and_l (and_r (and_l (and_l (and_r (and_r (and_l (and_r (and_r (h))))))))))
  | 12, _ => Or.inr (and_l (and_r (and_r (and_l (and_l (and_r (and_r (and_l (and_r (and_r (h)))))))))))
  | 13, _ => Or.inr (and_r (and_r (and_r (and_l (and_l (and_r (and_r (and_l (and_r (and_r (h)))))))))))
  | n + 14, h0 => absurd h0 (by omega)
set_option maxHeartbeats 4000000 in
set_option maxRecDepth 100000 in
theorem fs_ne15 {s : State} {b : Nat} (h : narrow_1.before #[Value.ref b] s = true) : ∀ j, j < 15 → (Cond.not (Cond.eq (tmS 15) (tmS j))).before #[Value.ref b] s = true ∨ (Cond.not (Cond.eq (tmS j) (tmS 15))).before #[Value.ref b] s = true
  | 0, _ => Or.inr (and_l (and_r (and_l (and_r (and_r (and_r (and_l (and_r (and_r (h))))))))))
  | 1, _ => Or.inr (and_l (and_r (and_r (and_l (and_r (and_r (and_r (and_l (and_r (and_r (h)))))))))))
  | 2, _ => Or.inr (and_r (and_r (and_r (and_l (and_r (and_r (and_r (and_l (and_r (and_r (h)))))))))))
  | 3, _ => Or.inr (and_l (and_l (and_r (and_r (and_r (and_r (and_l (and_r (and_r (h))))))))))
  | 4, _ => Or.inr (and_r (and_l (and_r (and_r (and_r (and_r (and_l (and_r (and_r (h))))))))))
  | 5, _ => Or.inr (and_l (and_r (and_r (and_r (and_r (and_r (and_l (and_r (and_r (h))))))))))
  | 6, _ => Or.inr (and_l (and_r (and_r (and_r (and_r (and_r (and_r (and_l (and_r (and_r (h)))))))))))
  | 7, _ => Or.inr (and_r (and_r (and_r (and_r (and_r (and_r (and_r (and_l (and_r (and_r (h)))))))))))
  | 8, _ => Or.inr (and_l (and_l (and_l (and_l (and_l (and_l (and_r (and_r (and_r (h))))))))))
  | 9, _ => Or.inr (and_r (and_l (and_l (and_l (and_l (and_l (and_r (and_r (and_r (h))))))))))
  | 10, _ => Or.inr (and_l (and_r (and_l (and_l (and_l (and_l (and_r (and_r (and_r (h))))))))))
  | 11, _ => Or.inr (and_l (and_r (and_r (and_l (and_l (and_l (and_l (and_r (and_r (and_r (h)))))))))))
  | 12, _ => Or.inr (and_r (and_r (and_r (and_l (and_l (and_l (and_l (and_r (and_r (and_r (h)))))))))))
  | 13, _ => Or.inr (and_l (and_l (and_r (and_l (and_l (and_l (and_r (and_r (and_r (h))))))))))
  | 14, _ => Or.inr (and_r (and_l (and_r (and_l (and_l (and_l (and_r (and_r (and_r (h))))))))))
  | n + 15, h0 => absurd h0 (by omega)
set_option maxHeartbeats 4000000 in
set_option maxRecDepth 100000 in
theorem fs_ne16 {s : State} {b : Nat} (h : narrow_1.before #[Value.ref b] s = true) : ∀ j, j < 16 → (Cond.not (Cond.eq (tmS 16) (tmS j))).before #[Value.ref b] s = true ∨ (Cond.not (Cond.eq (tmS j) (tmS 16))).before #[Value.ref b] s = true
  | 0, _ => Or.inr (and_r (and_r (and_r (and_l (and_r (and_l (and_l (and_r (and_r (and_r (h)))))))))))
  | 1, _ => Or.inr (and_l (and_l (and_r (and_r (and_l (and_l (and_r (and_r (and_r (h))))))))))
  | 2, _ => Or.inr (and_r (and_l (and_r (and_r (and_l (and_l (and_r (and_r (and_r (h))))))))))
  | 3, _ => Or.inr (and_l (and_r (and_r (and_r (and_l (and_l (and_r (and_r (and_r (h))))))))))
  | 4, _ => Or.inr (and_l (and_r (and_r (and_r (and_r (and_l (and_l (and_r (and_r (and_r (h)))))))))))
  | 5, _ => Or.inr (and_r (and_r (and_r (and_r (and_r (and_l (and_l (and_r (and_r (and_r (h)))))))))))
  | 6, _ => Or.inr (and_l (and_l (and_l (and_l (and_r (and_l (and_r (and_r (and_r (h))))))))))
  | 7, _ => Or.inr (and_r (and_l (and_l (and_l (and_r (and_l (and_r (and_r (and_r (h))))))))))
  | 8, _ => Or.inr (and_l (and_r (and_l (and_l (and_r (and_l (and_r (and_r (and_r (h))))))))))
  | 9, _ => Or.inr (and_l (and_r (and_r (and_l (and_l (and_r (and_l (and_r (and_r (and_r (h)))))))))))
  | 10, _ => Or.inr (and_r (and_r (and_r (and_l (and_l (and_r (and_l (and_r (and_r (and_r (h)))))))))))
  | 11, _ => Or.inr (and_l (and_l (and_r (and_l (and_r (and_l (and_r (and_r (and_r (h))))))))))
  | 12, _ => Or.inr (and_r (and_l (and_r (and_l (and_r (and_l (and_r (and_r (and_r (h))))))))))
  | 13, _ => Or.inr (and_l (and_r (and_r (and_l (and_r (and_l (and_r (and_r (and_r (h))))))))))
  | 14, _ => Or.inr (and_l (and_r (and_r (and_r (and_l (and_r (and_l (and_r (and_r (and_r (h)))))))))))
  | 15, _ => Or.inr (and_r (and_r (and_r (and_r (and_l (and_r (and_l (and_r (and_r (and_r (h)))))))))))
  | n + 16, h0 => absurd h0 (by omega)
set_option maxHeartbeats 4000000 in
set_option maxRecDepth 100000 in
theorem fs_ne17 {s : State} {b : Nat} (h : narrow_1.before #[Value.ref b] s = true) : ∀ j, j < 17 → (Cond.not (Cond.eq (tmS 17) (tmS j))).before #[Value.ref b] s = true ∨ (Cond.not (Cond.eq (tmS j) (tmS 17))).before #[Value.ref b] s = true
  | 0, _ => Or.inr (and_l (and_r (and_r (and_r (and_r (and_l (and_r (and_r (and_r (h))))))))))
  | 1, _ => Or.inr (and_l (and_r (and_r (and_r (and_r (and_r (and_l (and_r (and_r (and_r (h)))))))))))
  | 2, _ => Or.inr (and_r (and_r (and_r (and_r (and_r (and_r (and_l (and_r (and_r (and_r (h)))))))))))
  | 3, _ => Or.inr (and_l (and_l (and_l (and_l (and_l (and_r (and_r (and_r (and_r (h))))))))))
  | 4, _ => Or.inr (and_r (and_l (and_l (and_l (and_l (and_r (and_r (and_r (and_r (h))))))))))
  | 5, _ => Or.inr (and_l (and_r (and_l (and_l (and_l (and_r (and_r (and_r (and_r (h))))))))))
  | 6, _ => Or.inr (and_l (and_r (and_r (and_l (and_l (and_l (and_r (and_r (and_r (and_r (h)))))))))))
  | 7, _ => Or.inr (and_r (and_r (and_r (and_l (and_l (and_l (and_r (and_r (and_r (and_r (h)))))))))))
  | 8, _ => Or.inr (and_l (and_l (and_r (and_l (and_l (and_r (and_r (and_r (and_r (h))))))))))
  | 9, _ => Or.inr (and_r (and_l (and_r (and_l (and_l (and_r (and_r (and_r (and_r (h))))))))))
  | 10, _ => Or.inr (and_l (and_r (and_r (and_l (and_l (and_r (and_r (and_r (and_r (h))))))))))
  | 11, _ => Or.inr (and_l (and_r (and_r (and_r (and_l (and_l (and_r (and_r (and_r (and_r (h)))))))))))
  | 12, _ => Or.inr (and_r (and_r (and_r (and_r (and_l (and_l (and_r (and_r (and_r (and_r (h)))))))))))
  | 13, _ => Or.inr (and_l (and_l (and_l (and_r (and_l (and_r (and_r (and_r (and_r (h))))))))))
  | 14, _ => Or.inr (and_r (and_l (and_l (and_r (and_l (and_r (and_r (and_r (and_r (h))))))))))
  | 15, _ => Or.inr (and_l (and_r (and_l (and_r (and_l (and_r (and_r (and_r (and_r (h))))))))))
  | 16, _ => Or.inr (and_l (and_r (and_r (and_l (and_r (and_l (and_r (and_r (and_r (and_r (h)))))))))))
  | n + 17, h0 => absurd h0 (by omega)
set_option maxHeartbeats 4000000 in
set_option maxRecDepth 100000 in
theorem fs_ne18 {s : State} {b : Nat} (h : narrow_1.before #[Value.ref b] s = true) : ∀ j, j < 18 → (Cond.not (Cond.eq (tmS 18) (tmS j))).before #[Value.ref b] s = true ∨ (Cond.not (Cond.eq (tmS j) (tmS 18))).before #[Value.ref b] s = true
  | 0, _ => Or.inr (and_l (and_l (and_l (and_l (and_r (and_r (and_r (and_r (and_r (h))))))))))
  | 1, _ => Or.inr (and_r (and_l (and_l (and_l (and_r (and_r (and_r (and_r (and_r (h))))))))))
  | 2, _ => Or.inr (and_l (and_r (and_l (and_l (and_r (and_r (and_r (and_r (and_r (h))))))))))
  | 3, _ => Or.inr (and_l (and_r (and_r (and_l (and_l (and_r (and_r (and_r (and_r (and_r (h)))))))))))
  | 4, _ => Or.inr (and_r (and_r (and_r (and_l (and_l (and_r (and_r (and_r (and_r (and_r (h)))))))))))
  | 5, _ => Or.inr (and_l (and_l (and_r (and_l (and_r (and_r (and_r (and_r (and_r (h))))))))))
  | 6, _ => Or.inr (and_r (and_l (and_r (and_l (and_r (and_r (and_r (and_r (and_r (h))))))))))
  | 7, _ => Or.inr (and_l (and_r (and_r (and_l (and_r (and_r (and_r (and_r (and_r (h))))))))))
  | 8, _ => Or.inr (and_l (and_r (and_r (and_r (and_l (and_r (and_r (and_r (and_r (and_r (h)))))))))))
  | 9, _ => Or.inr (and_r (and_r (and_r (and_r (and_l (and_r (and_r (and_r (and_r (and_r (h)))))))))))
  | 10, _ => Or.inr (and_l (and_l (and_l (and_r (and_r (and_r (and_r (and_r (and_r (h))))))))))
  | 11, _ => Or.inr (and_r (and_l (and_l (and_r (and_r (and_r (and_r (and_r (and_r (h))))))))))
  | 12, _ => Or.inr (and_l (and_r (and_l (and_r (and_r (and_r (and_r (and_r (and_r (h))))))))))
  | 13, _ => Or.inr (and_l (and_r (and_r (and_l (and_r (and_r (and_r (and_r (and_r (and_r (h)))))))))))
  | 14, _ => Or.inr (and_r (and_r (and_r (and_l (and_r (and_r (and_r (and_r (and_r (and_r (h)))))))))))
  | 15, _ => Or.inr (and_l (and_l (and_r (and_r (and_r (and_r (and_r (and_r (and_r (h))))))))))
  | 16, _ => Or.inr (and_r (and_l (and_r (and_r (and_r (and_r (and_r (and_r (and_r (h))))))))))
  | 17, _ => Or.inr (and_l (and_r (and_r (and_r (and_r (and_r (and_r (and_r (and_r (h))))))))))
  | n + 18, h0 => absurd h0 (by omega)
set_option maxHeartbeats 4000000 in
set_option maxRecDepth 100000 in
theorem fs_neL {s : State} {b : Nat} (h : narrow_1.before #[Value.ref b] s = true) : ∀ i, i < 19 → ∀ j, j < i → (Cond.not (Cond.eq (tmS i) (tmS j))).before #[Value.ref b] s = true ∨ (Cond.not (Cond.eq (tmS j) (tmS i))).before #[Value.ref b] s = true
  | 0, _ => fun _ h0 => absurd h0 (Nat.not_lt_zero _)
  | 1, _ => fs_ne1 h
  | 2, _ => fs_ne2 h
  | 3, _ => fs_ne3 h
  | 4, _ => fs_ne4 h
  | 5, _ => fs_ne5 h
  | 6, _ => fs_ne6 h
  | 7, _ => fs_ne7 h
  | 8, _ => fs_ne8 h
  | 9, _ => fs_ne9 h
  | 10, _ => fs_ne10 h
  | 11, _ => fs_ne11 h
  | 12, _ => fs_ne12 h
  | 13, _ => fs_ne13 h
  | 14, _ => fs_ne14 h
  | 15, _ => fs_ne15 h
  | 16, _ => fs_ne16 h
  | 17, _ => fs_ne17 h
  | 18, _ => fs_ne18 h
  | n + 19, h0 => absurd h0 (by omega)
theorem fs_ne {s : State} {b : Nat} (h : narrow_1.before #[Value.ref b] s = true) (i j : Nat) (hi : i < 19) (hj : j < 19) (hne : i ≠ j) : (Cond.not (Cond.eq (tmS i) (tmS j))).before #[Value.ref b] s = true ∨ (Cond.not (Cond.eq (tmS j) (tmS i))).before #[Value.ref b] s = true := by
  rcases Nat.lt_or_gt_of_ne hne with q | q
  · exact (fs_neL h j hj i q).symm
  · exact fs_neL h i hi j q
set_option maxHeartbeats 4000000 in
set_option maxRecDepth 100000 in
theorem fa_a1 {s : State} {b : Nat} (h : narrow_1.before #[Value.ref b] s = true) : (Cond.arrayOf (Jvm.Term.static "CalledRiver" "ACROSS" "[I") .int).before #[Value.ref b] s = true := and_r (and_r (and_r (and_r (and_l (and_l (and_l (and_l (and_l (and_l (h))))))))))
set_option maxHeartbeats 4000000 in
set_option maxRecDepth 100000 in
theorem fa_a2 {s : State} {b : Nat} (h : narrow_1.before #[Value.ref b] s = true) : (Cond.eq (.length (Jvm.Term.static "CalledRiver" "ACROSS" "[I")) (.int 4)).before #[Value.ref b] s = true := and_l (and_l (and_l (and_r (and_l (and_l (and_l (and_l (and_l (h)))))))))
set_option maxHeartbeats 4000000 in
set_option maxRecDepth 100000 in
theorem fa_a3 {s : State} {b : Nat} (h : narrow_1.before #[Value.ref b] s = true) : ∀ j, j < 4 → (Cond.eq (.elem (Jvm.Term.static "CalledRiver" "ACROSS" "[I") (.int (Int32.ofNat j))) (.int (acr j))).before #[Value.ref b] s = true
  | 0, _ => and_r (and_l (and_l (and_r (and_l (and_l (and_l (and_l (and_l (h)))))))))
  | 1, _ => and_l (and_r (and_l (and_r (and_l (and_l (and_l (and_l (and_l (h)))))))))
  | 2, _ => and_l (and_r (and_r (and_l (and_r (and_l (and_l (and_l (and_l (and_l (h))))))))))
  | 3, _ => and_r (and_r (and_r (and_l (and_r (and_l (and_l (and_l (and_l (and_l (h))))))))))
  | n + 4, h0 => absurd h0 (by omega)
set_option maxHeartbeats 4000000 in
set_option maxRecDepth 100000 in
theorem fa_d1 {s : State} {b : Nat} (h : narrow_1.before #[Value.ref b] s = true) : (Cond.arrayOf (Jvm.Term.static "CalledRiver" "DOWNWARD" "[I") .int).before #[Value.ref b] s = true := and_r (and_l (and_r (and_r (and_l (and_l (and_l (and_l (and_l (h)))))))))
set_option maxHeartbeats 4000000 in
set_option maxRecDepth 100000 in
theorem fa_d2 {s : State} {b : Nat} (h : narrow_1.before #[Value.ref b] s = true) : (Cond.eq (.length (Jvm.Term.static "CalledRiver" "DOWNWARD" "[I")) (.int 4)).before #[Value.ref b] s = true := and_l (and_r (and_r (and_r (and_l (and_l (and_l (and_l (and_l (h)))))))))
set_option maxHeartbeats 4000000 in
set_option maxRecDepth 100000 in
theorem fa_d3 {s : State} {b : Nat} (h : narrow_1.before #[Value.ref b] s = true) : ∀ j, j < 4 → (Cond.eq (.elem (Jvm.Term.static "CalledRiver" "DOWNWARD" "[I") (.int (Int32.ofNat j))) (.int (dwn j))).before #[Value.ref b] s = true
  | 0, _ => and_l (and_r (and_r (and_r (and_r (and_l (and_l (and_l (and_l (and_l (h))))))))))
  | 1, _ => and_r (and_r (and_r (and_r (and_r (and_l (and_l (and_l (and_l (and_l (h))))))))))
  | 2, _ => and_l (and_l (and_l (and_l (and_r (and_l (and_l (and_l (and_l (h)))))))))
  | 3, _ => and_r (and_l (and_l (and_l (and_r (and_l (and_l (and_l (and_l (h)))))))))
  | n + 4, h0 => absurd h0 (by omega)
set_option maxHeartbeats 4000000 in
set_option maxRecDepth 100000 in
theorem fz_1 {s : State} {b : Nat} (h : narrow_1.before #[Value.ref b] s = true) : (Cond.eq (.static "java/lang/String" "COMPACT_STRINGS" "Z") (.int 1)).before #[Value.ref b] s = true := and_l (and_r (and_l (and_l (and_l (and_l (and_l (and_l (and_l (h)))))))))
set_option maxHeartbeats 4000000 in
set_option maxRecDepth 100000 in
theorem fz_2 {s : State} {b : Nat} (h : narrow_1.before #[Value.ref b] s = true) : (Cond.isRef (.static "jdk/internal/util/Preconditions" "SIOOBE_FORMATTER" "Ljava/util/function/BiFunction;")).before #[Value.ref b] s = true := and_r (and_r (and_l (and_l (and_l (and_l (and_l (and_l (and_l (h)))))))))
theorem ty_start {s : State} {args : Array Value} {ty : FieldType} (h : (Cond.arrayClass ty).before args s = true) (hra : ∀ (U : State) (c : ClassId), U.vm.findClass ("[" ++ ty.toString) = some c → va_RA U c ty) : ∃ cA : ClassId, ArrOfT s cA ty ∧ va_RA s cA ty := by
  obtain ⟨cA, kA, comp, h1, h2, h3⟩ := Cond.arrayClass_spec h
  exact ⟨cA, fun n z => ⟨fun k h => (by cases h), kA, h2, comp, h3⟩, hra _ _ h1⟩
set_option maxHeartbeats 4000000 in
set_option maxRecDepth 100000 in
theorem kst_start {s : State} {b : Nat} (hts : ∀ w ∈ lw_tbl, w.before #[Value.ref b] s = true) (hgv : (Jvm.Cond.and given_1 narrow_1).before #[Value.ref b] s = true) (D : va_G) (ac : Nat → ClassId) : ∃ (adK adV : Nat → Nat) (xa xd : Nat), Kst (s.heap.size, D, ac, adK, adV, xa, xd) s s.heap := by
  have h0 := and_r hgv
  have hA : ∀ a : Nat, a < s.heap.size → ¬ s.heap.size ≤ a := fun a h => Nat.not_le.mpr h
  obtain ⟨adK, adV, hS, hev⟩ := vk_Sof (N := 19) (tm := tmS) (len := slen) (byt := sbyt) (A := fun q => s.heap.size ≤ q) (by decide +kernel) (fs_ex h0) (fs_co h0) (fs_ar h0) (fs_le h0) (fs_el h0) (fs_ne h0) hA
  obtain ⟨xa, ea, ha⟩ := va_Tof (N := 4) (f := fun j => .int (acr j)) (A := fun q => s.heap.size ≤ q) (by decide) (fa_a1 h0) (va_eqt (fa_a2 h0)) (fun j hj => va_eqt (fa_a3 h0 j hj)) hA
  obtain ⟨xd, ed, hd⟩ := va_Tof (N := 4) (f := fun j => .int (dwn j)) (A := fun q => s.heap.size ≤ q) (by decide) (fa_d1 h0) (va_eqt (fa_d2 h0)) (fun j hj => va_eqt (fa_d3 h0 j hj)) hA
  refine ⟨adK, adV, xa, xd, hS, ?_, va_Zof (hts _ (mt_4 (List.mem_of_getElem? (i := 79) rfl))) (hts _ (mt_1 (List.mem_of_getElem? (i := 1) rfl))) ea hA, ha, va_Zof (hts _ (mt_4 (List.mem_of_getElem? (i := 82) rfl))) (hts _ (mt_1 (List.mem_of_getElem? (i := 1) rfl))) ed hA, hd, va_Zof (hts _ (mt_3 (List.mem_of_getElem? (i := 36) rfl))) (hts _ (mt_1 (List.mem_of_getElem? (i := 16) rfl))) (va_eqt (fz_1 h0)) hA, ?_, va_Nw.of rfl (hts _ (mt_4 (List.mem_of_getElem? (i := 78) rfl))), va_Nw.of rfl (hts _ (mt_4 (List.mem_of_getElem? (i := 81) rfl))), va_AO.of (hts _ (mt_2 (List.mem_of_getElem? (i := 97) rfl))), va_AO.of (hts _ (mt_2 (List.mem_of_getElem? (i := 38) rfl))), va_Zqof (hts _ (mt_3 (List.mem_of_getElem? (i := 52) rfl))) (hts _ (mt_1 (List.mem_of_getElem? (i := 18) rfl))) (fz_2 h0) hA⟩
  · refine List.forall_mem_cons.mpr ⟨vk_R.of (hts _ (mt_3 (List.mem_of_getElem? (i := 18) rfl))) (hev 0 (by decide)), List.forall_mem_cons.mpr ⟨vk_R.of (hts _ (mt_3 (List.mem_of_getElem? (i := 87) rfl))) (hev 1 (by decide)), List.forall_mem_cons.mpr ⟨vk_R.of (hts _ (mt_3 (List.mem_of_getElem? (i := 104) rfl))) (hev 2 (by decide)), List.forall_mem_cons.mpr ⟨vk_R.of (hts _ (mt_3 (List.mem_of_getElem? (i := 140) rfl))) (hev 3 (by decide)), List.forall_mem_cons.mpr ⟨vk_R.of (hts _ (mt_3 (List.mem_of_getElem? (i := 145) rfl))) (hev 4 (by decide)), List.forall_mem_cons.mpr ⟨vk_R.of (hts _ (mt_3 (List.mem_of_getElem? (i := 146) rfl))) (hev 5 (by decide)), List.forall_mem_cons.mpr ⟨vk_R.of (hts _ (mt_3 (List.mem_of_getElem? (i := 147) rfl))) (hev 6 (by decide)), List.forall_mem_cons.mpr ⟨vk_R.of (hts _ (mt_3 (List.mem_of_getElem? (i := 152) rfl))) (hev 7 (by decide)), List.forall_mem_cons.mpr ⟨vk_R.of (hts _ (mt_3 (List.mem_of_getElem? (i := 153) rfl))) (hev 8 (by decide)), List.forall_mem_cons.mpr ⟨vk_R.of (hts _ (mt_3 (List.mem_of_getElem? (i := 188) rfl))) (hev 9 (by decide)), List.forall_mem_cons.mpr ⟨vk_R.of (hts _ (mt_3 (List.mem_of_getElem? (i := 194) rfl))) (hev 10 (by decide)), List.forall_mem_cons.mpr ⟨vk_R.of (hts _ (mt_3 (List.mem_of_getElem? (i := 195) rfl))) (hev 11 (by decide)), List.forall_mem_cons.mpr ⟨vk_R.of (hts _ (mt_3 (List.mem_of_getElem? (i := 200) rfl))) (hev 12 (by decide)), List.forall_mem_cons.mpr ⟨vk_R.of (hts _ (mt_3 (List.mem_of_getElem? (i := 205) rfl))) (hev 13 (by decide)), List.forall_mem_cons.mpr ⟨vk_R.of (hts _ (mt_5 (List.mem_of_getElem? (i := 83) rfl))) (hev 14 (by decide)), List.forall_mem_cons.mpr ⟨vk_R.of (hts _ (mt_5 (List.mem_of_getElem? (i := 96) rfl))) (hev 15 (by decide)), List.forall_mem_cons.mpr ⟨vk_R.of (hts _ (mt_5 (List.mem_of_getElem? (i := 97) rfl))) (hev 16 (by decide)), List.forall_mem_cons.mpr ⟨vk_R.of (hts _ (mt_5 (List.mem_of_getElem? (i := 102) rfl))) (hev 17 (by decide)), List.forall_mem_cons.mpr ⟨vk_R.of (hts _ (mt_5 (List.mem_of_getElem? (i := 103) rfl))) (hev 18 (by decide)), fun _ h => absurd h List.not_mem_nil⟩⟩⟩⟩⟩⟩⟩⟩⟩⟩⟩⟩⟩⟩⟩⟩⟩⟩⟩
  · refine List.forall_mem_cons.mpr ⟨va_Nw.of rfl (hts _ (mt_1 (List.mem_of_getElem? (i := 32) rfl))), List.forall_mem_cons.mpr ⟨va_Nw.of rfl (hts _ (mt_1 (List.mem_of_getElem? (i := 72) rfl))), List.forall_mem_cons.mpr ⟨va_Nw.of rfl (hts _ (mt_1 (List.mem_of_getElem? (i := 104) rfl))), List.forall_mem_cons.mpr ⟨va_Nw.of rfl (hts _ (mt_1 (List.mem_of_getElem? (i := 109) rfl))), List.forall_mem_cons.mpr ⟨va_Nw.of rfl (hts _ (mt_1 (List.mem_of_getElem? (i := 230) rfl))), List.forall_mem_cons.mpr ⟨va_Nw.of rfl (hts _ (mt_2 (List.mem_of_getElem? (i := 39) rfl))), List.forall_mem_cons.mpr ⟨va_Nw.of rfl (hts _ (mt_2 (List.mem_of_getElem? (i := 62) rfl))), List.forall_mem_cons.mpr ⟨va_Nw.of rfl (hts _ (mt_2 (List.mem_of_getElem? (i := 81) rfl))), List.forall_mem_cons.mpr ⟨va_Nw.of rfl (hts _ (mt_2 (List.mem_of_getElem? (i := 136) rfl))), fun _ h => absurd h List.not_mem_nil⟩⟩⟩⟩⟩⟩⟩⟩⟩
set_option maxHeartbeats 4000000 in
set_option maxRecDepth 100000 in
theorem kk_start {s : State} {b : Nat} (hts : ∀ w ∈ TBg, w.before #[Value.ref b] s = true) : ∃ (D : va_G) (ac : Nat → ClassId), ∀ (ad av : Nat → Nat) (x y : Nat), va_K D vwCl (tyl (s.heap.size, D, ac, ad, av, x, y) []) s := by
  obtain ⟨c0, i0, h0⟩ := u_known (C := RX0) (T := TX0) (N := 3) (n := 3) hts inT_0 (hts _ in_0)
  obtain ⟨c1, i1, h1⟩ := u_known (C := RX1) (T := TX1) (N := 6) (n := 6) hts inT_1 (hts _ in_1)
  obtain ⟨c2, i2, h2⟩ := u_known (C := RX2) (T := TX2) (N := 4) (n := 4) hts inT_2 (hts _ in_2)
  obtain ⟨c3, i3, h3⟩ := u_known (C := RX3) (T := TX3) (N := 6) (n := 6) hts inT_3 (hts _ in_3)
  obtain ⟨c4, i4, h4⟩ := u_known (C := RX4) (T := TX4) (N := 2) (n := 2) hts inT_4 (hts _ in_4)
  obtain ⟨c5, i5, h5⟩ := u_known (C := RX5) (T := TX5) (N := 17) (n := 17) hts inT_5 (hts _ in_5)
  obtain ⟨c6, i6, h6⟩ := u_known (C := RX6) (T := TX6) (N := 4) (n := 4) hts inT_6 (hts _ in_6)
  obtain ⟨c7, i7, h7⟩ := u_known (C := RX7) (T := TX7) (N := 3) (n := 3) hts inT_7 (hts _ in_7)
  obtain ⟨c8, i8, h8⟩ := u_known (C := RX8) (T := TX8) (N := 3) (n := 3) hts inT_8 (hts _ in_8)
  obtain ⟨c9, i9, h9⟩ := u_known (C := RX9) (T := TX9) (N := 7) (n := 7) hts inT_9 (hts _ in_9)
  obtain ⟨c10, i10, h10⟩ := u_known (C := RX10) (T := TX10) (N := 7) (n := 7) hts inT_10 (hts _ in_10)
  obtain ⟨c11, i11, h11⟩ := u_known (C := RX11) (T := TX11) (N := 19) (n := 19) hts inT_11 (hts _ in_11)
  obtain ⟨c12, i12, h12⟩ := u_known (C := RX12) (T := TX12) (N := 120) (n := 120) hts inT_12 (hts _ in_12)
  obtain ⟨a100, ha100⟩ := ty_start (ty := .int) (hts _ aw_100) (fun _ _ h => h)
  obtain ⟨a101, ha101⟩ := ty_start (ty := .char) (hts _ aw_101) (fun _ _ h => h)
  obtain ⟨a102, ha102⟩ := ty_start (ty := .boolean) (hts _ aw_102) (fun _ _ h => h)
  obtain ⟨a103, ha103⟩ := ty_start (ty := .long) (hts _ aw_103) (fun _ _ h => h)
  refine ⟨(fun k => [c0, c1, c2, c3, c4, c5, c6, c7, c8, c9, c10, c11, c12].getD k 0, fun k => [i0, i1, i2, i3, i4, i5, i6, i7, i8, i9, i10, i11, i12].getD k (fun _ => 0)), fun k => [a100, a101, a102, a103].getD (k - 100) 0, fun ad av x y => ⟨?_, ?_⟩⟩
  · intro k q hq
    match k, hq with
    | 0, hq => cases hq; exact h0
    | 1, hq => cases hq; exact h1
    | 2, hq => cases hq; exact h2
    | 3, hq => cases hq; exact h3
    | 4, hq => cases hq; exact h4
    | 5, hq => cases hq; exact h5
    | 6, hq => cases hq; exact h6
    | 7, hq => cases hq; exact h7
    | 8, hq => cases hq; exact h8
    | 9, hq => cases hq; exact h9
    | 10, hq => cases hq; exact h10
    | 11, hq => cases hq; exact h11
    | 12, hq => cases hq; exact h12
    | k + 13, hq => simp [vwCl] at hq
  · intro k q hq
    have e : tyl (s.heap.size, (fun k => [c0, c1, c2, c3, c4, c5, c6, c7, c8, c9, c10, c11, c12].getD k 0, fun k => [i0, i1, i2, i3, i4, i5, i6, i7, i8, i9, i10, i11, i12].getD k (fun _ => 0)), fun k => [a100, a101, a102, a103].getD (k - 100) 0, ad, av, x, y) [] = [(a100, .int), (a101, .char), (a102, .boolean), (a103, .long)] := rfl
    rw [e] at hq
    match k, hq with
    | 0, hq => cases hq; exact ha100
    | 1, hq => cases hq; exact ha101
    | 2, hq => cases hq; exact ha102
    | 3, hq => cases hq; exact ha103
    | k + 4, hq => simp at hq
set_option maxHeartbeats 4000000 in
set_option maxRecDepth 100000 in
theorem whole_of {p : Program} {e : Env} {s : State} {m : MethodId} {below : List Frame} {meth : Method} {c : Code} (l : Launch) {b L : Nat} {xs : Nat → Int32} (h : LF L xs b) (C0 : lw_At p s m meth c b L xs) : W p l e room_1 s m #[Value.ref b] below meth c s.heap [] 0 0 (lw_Z below #[Value.ref b] s) (entryFrame m ([Value.ref b] : List Value).toArray 4) := by
  obtain ⟨hx, hb, hr, hml, hown, hts, hX, hbl, hlocks, hgv⟩ := C0
  have htg : ∀ w ∈ TBg, w.before #[Value.ref b] s = true := fun w hw => hts w (List.mem_filter.mp hw).1
  obtain ⟨D, ac, hK⟩ := kk_start htg
  obtain ⟨adK, adV, xa, xd, hC⟩ := kst_start hts hgv D ac
  have hl := lv_entry ([.ref b]) (n := 4) (Nat.le_of_ble_eq_true rfl)
  rw [lg_entry_eq]
  have key : ∀ (G : Gl) (F : Fr), F = (p, l, e, room_1, s, m, #[Value.ref b], below, meth, c) → G.1 = s.heap.size → V G F (M_law meth.name) [] 0 0 (lw_Z below #[Value.ref b] s) 0 [(0, .ref b)] [] mem0 := by
    intro G F eF eG
    have hXA : ∀ G' : Gl, G'.1 = G.1 → XA G' F b L xs := by
      intro G' e'
      subst eF
      exact ⟨hX, hbl, by rw [e', eG]; exact Nat.not_le.mpr hbl⟩
    have hZ : ∀ (G' : Gl) (sh : Shp), G'.1 = G.1 → ∀ (pc : Nat) (ls : List (Nat × Value)) (x : Int32) (m' : Mem), decode (M_law meth.name).1 pc = .ok (.ireturn, 1) → x = 1 → V G' F (M_law meth.name) sh 286 42574 (lw_Z below #[Value.ref b] s) pc ls [.int x] m' := by
      intro G' sh e' pc ls x m' d hx1 hF H locs LS hH hl'
      subst hx1
      subst eF
      refine va_forget (fun q hq => ?_) (W.widen (k := 600000) (n := 7302250) (by decide) (by decide) ?_)
      · have h1 : G'.1 ≤ q.base := hH.2.2.1.2.2 q hq
        rw [e', eG] at h1
        exact h1
      · exact lw_ret hx hb hr hlocks d
    unfold LF at h
    refine g_new ci_11 dv_11 cl_RL_7 in_11 it_11 (Nat.le_of_ble_eq_true rfl) (Nat.le_of_ble_eq_true rfl) dL_law_0 h ?_
    clear h
    intro sh1 m1 h hl1
    refine v_dup dL_law_3 rfl ?_
    refine v_cI [] mi_X11_init (Or.inl ml_RL_9) rfl rfl (Nat.le_of_ble_eq_true rfl) (Nat.le_of_ble_eq_true rfl) (Nat.le_of_ble_eq_true rfl) (Nat.le_of_ble_eq_true rfl) (Nat.le_of_ble_eq_true rfl) dL_law_4 (c_X11_init h) ?_
    clear h
    intro c4 c5 sh2 m2 h hl2
    refine v_astore_n (ls' := [(1, .ref _), (0, .ref _)]) 1 dL_law_7 rfl (Nat.le_of_ble_eq_true rfl) rfl ?_
    refine g_new ci_12 dv_12 cl_RL_10 in_12 it_12 (Nat.le_of_ble_eq_true rfl) (Nat.le_of_ble_eq_true rfl) dL_law_8 h ?_
    clear h
    intro sh3 m3 h hl3
    refine v_dup dL_law_11 rfl ?_
    refine v_cI [] mi_X12_init (Or.inl ml_RL_12) rfl rfl (Nat.le_of_ble_eq_true rfl) (Nat.le_of_ble_eq_true rfl) (Nat.le_of_ble_eq_true rfl) (Nat.le_of_ble_eq_true rfl) (Nat.le_of_ble_eq_true rfl) dL_law_12 (c_X12_init h) ?_
    clear h
    intro c6 c7 sh4 m4 h hl4
    rw [up_up]
    refine v_astore_n (ls' := [(2, .ref _), (1, .ref _), (0, .ref _)]) 2 dL_law_15 rfl (Nat.le_of_ble_eq_true rfl) rfl ?_
    refine v_iconst (0 : Int32) dL_law_16 (by decide) ?_
    refine v_istore_n (ls' := [(3, .int _), (2, .ref _), (1, .ref _), (0, .ref _)]) 3 dL_law_17 rfl (Nat.le_of_ble_eq_true rfl) rfl ?_
    refine v_sub [3, 2, 1, 0] rfl ?_
    obtain ⟨n, h⟩ := h
    exact v_L_law_n (G := up G c6 c7) (hXA _ rfl) (hZ _ _ rfl) n _ _ h
  refine key (s.heap.size, D, ac, adK, adV, xa, xd) _ rfl rfl ?_ s.heap [] _ ?_ hl
  · exact ⟨hx, hb, hml, hown, htg, hlocks, hr, rfl, (Nat.le_of_ble_eq_true rfl), (Nat.le_of_ble_eq_true rfl), (Nat.le_of_ble_eq_true rfl), (Nat.le_of_ble_eq_true rfl)⟩
  · exact ⟨rfl, fun k q hq => by simp [wld] at hq, va_S.rf, hK _ _ _ _, hC, Nat.le_refl _⟩
