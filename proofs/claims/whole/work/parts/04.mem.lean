/-! ===== rows over the memory: fields, arrays, answers, calls ===== -/
/-- a class: its number, its words, its fields' types and names -/
def CI (c : Nat) (C : String) (T : u_T) (N : Nat) (ty : Nat → FieldType) : Prop := vwCl[c]? = some (C, T, N) ∧ (∀ w ∈ u_ws C T N, w ∈ TBg) ∧ (∀ k, k < N → parseFieldDescriptor (T k).2.2.1 = some (ty k)) ∧ (∀ a, a < N → ∀ b, b < N → a ≠ b → (T a).2.1 ≠ (T b).2.1) ∧ N = nf c ∧ c < 100
/-- a link to field k of class c from place idx of the pool of own: for reading; for writing (type tp, final or not) -/
def FG (own : String) (idx c k t : Nat) : Prop := ∃ (C : String) (T : u_T) (N : Nat) (ty : Nat → FieldType), CI c C T N ty ∧ k < N ∧ ft c k = t ∧ Cond.fieldLink own idx (T k).1 (T k).2.1 (T k).2.2.1 ∈ TBg
def FW (own : String) (idx c k t : Nat) (fin : Bool) (tp : FieldType) : Prop := ∃ (C : String) (T : u_T) (N : Nat) (ty : Nat → FieldType), CI c C T N ty ∧ k < N ∧ ft c k = t ∧ Cond.fieldLink own idx (T k).1 (T k).2.1 (T k).2.2.1 ∈ TBg ∧ (T k).2.2.2 = fin ∧ ty k = tp ∧ (fin = true → (T k).1 = own)
theorem W_sz {p : Program} {l : Launch} {e : Env} {R : Room} {s : State} {mt : MethodId} {args : Array Value} {below : List Frame} {meth : Method} {c : Code} {H : Heap} {locs : List Loc} {cells slots : Nat} {Q : State → Prop} {g : JFrame} (h : H.size ≤ s.heap.size + cells → W p l e R s mt args below meth c H locs cells slots Q g) : W p l e R s mt args below meth c H locs cells slots Q g :=
  fun T hT X => h (by rw [← hT]; exact X.heapSize) T hT X
theorem HOK.size {G : Gl} {F : Fr} {sh : Shp} {nc : Nat} {m : Mem} {H : Heap} {locs : List Loc} (h : HOK G F sh nc m H locs) (hle : H.size ≤ (Fs F).heap.size + nc) : H.size = G.1 + sh.length := by
  have h1 := h.1
  by_cases hz : sh.length = 0
  · have h2 := h.2.2.1.1
    have h3 := h.2.2.2.2.2
    omega
  · have hi : sh.length - 1 < sh.length := by omega
    have h2 := (h.2.1 _ _ (wld_get (G := G) (m := m) (List.getElem?_eq_getElem hi))).lt
    simp only at h2
    omega
section Rows
variable {G : Gl} {F : Fr} {M : Mi} {sh : Shp} {nc ns : Nat} {Z : State → Prop} {pc : Nat} {ls : List (Nat × Value)} {st : List Value} {m : Mem}
theorem v_get {idx a c k t : Nat} {v : Value} (d : decode M.1 pc = .ok (.getfield idx, 3)) (g : FG M.2.2.1 idx c k t) (o : Ob sh a c) (hv : fvl G.1 m a t k = v) (K : V G F M sh nc ns Z (pc + 3) ls (v :: st) m) : V G F M sh nc ns Z pc ls (.ref (G.1 + a) :: st) m := by
  obtain ⟨C, T, N, ty, ⟨hc, hin, -, -, hN, -⟩, hk, ht, hw⟩ := g
  obtain ⟨⟨n, ho⟩, hlt⟩ := o
  intro hF H locs LS hH hl
  refine va_get (ref := (T k).1) hF.1 hF.2.1 hF.2.2.2.2.1 hin hF.2.2.2.1 hH.2.2.2.1 hH.2.1 a (by rw [wld_get ho, cel_o hlt]) hc k hk (hF.2.2.2.2.1 _ hw) (fun _ h => h) (by rw [fls_get (by rw [← hN]; exact hk), ht, hv]) d (K hF H locs LS hH hl)
theorem v_gI {idx a : Nat} (c k : Nat) (d : decode M.1 pc = .ok (.getfield idx, 3)) (g : FG M.2.2.1 idx c k 0) (o : Ob sh a c) (K : V G F M sh nc ns Z (pc + 3) ls (.int (m.1 a k) :: st) m) : V G F M sh nc ns Z pc ls (.ref (G.1 + a) :: st) m := v_get d g o fvl_0 K
theorem v_gL {idx a : Nat} (c k : Nat) (d : decode M.1 pc = .ok (.getfield idx, 3)) (g : FG M.2.2.1 idx c k 1) (o : Ob sh a c) (K : V G F M sh nc ns Z (pc + 3) ls (.long (m.2.1 a k) :: st) m) : V G F M sh nc ns Z pc ls (.ref (G.1 + a) :: st) m := v_get d g o fvl_1 K
theorem v_gR {idx a b : Nat} (c k : Nat) (d : decode M.1 pc = .ok (.getfield idx, 3)) (g : FG M.2.2.1 idx c k 2) (o : Ob sh a c) (hb : m.2.2 a k = some b) (K : V G F M sh nc ns Z (pc + 3) ls (.ref (G.1 + b) :: st) m) : V G F M sh nc ns Z pc ls (.ref (G.1 + a) :: st) m := v_get d g o (by rw [fvl_2, hb]; rfl) K
theorem v_put {idx a c k t : Nat} {v : Value} {tp : FieldType} {m' : Mem} (d : decode M.1 pc = .ok (.putfield idx, 3)) (g : FW M.2.2.1 idx c k t false tp) (o : Ob sh a c) (hn : narrow tp v = v) (hfit : fits tp v = true) (hw' : ∀ n, sh[a]? = some (c, n) → c < 100 → k < nf c → ft c k = t → (wld G sh m).set a (G.1 + a, .inr (c, (fls G.1 m a c).set k v)) = wld G sh m') (K : V G F M sh nc ns Z (pc + 3) ls st m') : V G F M sh nc ns Z pc ls (v :: .ref (G.1 + a) :: st) m := by
  obtain ⟨C, T, N, ty, ⟨hc, hin, hty, hnm, hN, -⟩, hk, ht, hw, hfin, htp, -⟩ := g
  obtain ⟨⟨n, ho⟩, hlt⟩ := o
  subst htp
  have hk' : k < nf c := by rw [← hN]; exact hk
  intro hF H locs LS hH hl
  refine va_put (ref := (T k).1) (A := fun q => G.1 ≤ q) hF.1 hF.2.1 hF.2.2.2.2.1 hin ty hty hnm hF.2.2.2.1 hH.2.2.2.1 hH.2.1 (wld_D G sh m) hH.2.2.1 a (by rw [wld_get ho, cel_o hlt]) hc k hk (hF.2.2.2.2.1 _ hw) (fun _ h => h) hfin (hty k hk) hn hfit (by rw [fls_len]; exact hk') d ?_
  intro H1 locs1 hP hD hS
  rw [hw' n ho hlt hk' ht] at hP
  exact K hF H1 locs1 LS ⟨hH.1, hP, hS, hH.2.2.2⟩ hl
theorem v_putF {idx a c k t : Nat} {v : Value} {tp : FieldType} {m' : Mem} (d : decode M.1 pc = .ok (.putfield idx, 3)) (g : FW M.2.2.1 idx c k t true tp) (o : Ob sh a c) (hi : M.2.2.2.2.1 = "<init>") (hn : narrow tp v = v) (hfit : fits tp v = true) (hw' : ∀ n, sh[a]? = some (c, n) → c < 100 → k < nf c → ft c k = t → (wld G sh m).set a (G.1 + a, .inr (c, (fls G.1 m a c).set k v)) = wld G sh m') (K : V G F M sh nc ns Z (pc + 3) ls st m') : V G F M sh nc ns Z pc ls (v :: .ref (G.1 + a) :: st) m := by
  obtain ⟨C, T, N, ty, ⟨hc, hin, hty, hnm, hN, -⟩, hk, ht, hw, hfin, htp, hown⟩ := g
  obtain ⟨⟨n, ho⟩, hlt⟩ := o
  subst htp
  have hk' : k < nf c := by rw [← hN]; exact hk
  intro hF H locs LS hH hl
  refine va_putF (ref := (T k).1) (A := fun q => G.1 ≤ q) hF.1 hF.2.1 hF.2.2.2.2.1 hin ty hty hnm hF.2.2.2.1 hH.2.2.2.1 hH.2.1 (wld_D G sh m) hH.2.2.1 a (by rw [wld_get ho, cel_o hlt]) hc k hk (hF.2.2.2.2.1 _ hw) (fun _ h => h) hfin (by rw [hF.2.2.2.2.2.2.2.1]; exact hi) (hown rfl) (hty k hk) hn hfit (by rw [fls_len]; exact hk') d ?_
  intro H1 locs1 hP hD hS
  rw [hw' n ho hlt hk' ht] at hP
  exact K hF H1 locs1 LS ⟨hH.1, hP, hS, hH.2.2.2⟩ hl
theorem v_pI {idx a : Nat} {x : Int32} (c k : Nat) (d : decode M.1 pc = .ok (.putfield idx, 3)) (g : FW M.2.2.1 idx c k 0 false .int) (o : Ob sh a c) (K : V G F M sh nc ns Z (pc + 3) ls st (sI m a k x)) : V G F M sh nc ns Z pc ls (.int x :: .ref (G.1 + a) :: st) m :=
  v_put d g o rfl rfl (fun _ h h2 h3 h4 => set_fI h h2 h3 h4) K
theorem v_pZ {idx a : Nat} {x : Int32} (c k : Nat) (d : decode M.1 pc = .ok (.putfield idx, 3)) (g : FW M.2.2.1 idx c k 0 false .boolean) (o : Ob sh a c) (hx : x = 0 ∨ x = 1) (K : V G F M sh nc ns Z (pc + 3) ls st (sI m a k x)) : V G F M sh nc ns Z pc ls (.int x :: .ref (G.1 + a) :: st) m :=
  v_put d g o (by rcases hx with rfl | rfl <;> rfl) (by rcases hx with rfl | rfl <;> rfl) (fun _ h h2 h3 h4 => set_fI h h2 h3 h4) K
theorem v_pL {idx a : Nat} {x : Int64} (c k : Nat) (d : decode M.1 pc = .ok (.putfield idx, 3)) (g : FW M.2.2.1 idx c k 1 false .long) (o : Ob sh a c) (K : V G F M sh nc ns Z (pc + 3) ls st (sL m a k x)) : V G F M sh nc ns Z pc ls (.long x :: .ref (G.1 + a) :: st) m :=
  v_put d g o rfl rfl (fun _ h h2 h3 h4 => set_fL h h2 h3 h4) K
theorem v_pR {idx a b : Nat} {tp : FieldType} (c k : Nat) (d : decode M.1 pc = .ok (.putfield idx, 3)) (g : FW M.2.2.1 idx c k 2 false tp) (o : Ob sh a c) (hn : ∀ q, narrow tp (.ref q) = .ref q) (hf : ∀ q, fits tp (.ref q) = true) (K : V G F M sh nc ns Z (pc + 3) ls st (sR m a k (some b))) : V G F M sh nc ns Z pc ls (.ref (G.1 + b) :: .ref (G.1 + a) :: st) m :=
  v_put d g o (hn _) (hf _) (fun _ h h2 h3 h4 => set_fR h h2 h3 h4) K
theorem v_qI {idx a : Nat} {x : Int32} (c k : Nat) (d : decode M.1 pc = .ok (.putfield idx, 3)) (g : FW M.2.2.1 idx c k 0 true .int) (o : Ob sh a c) (hi : M.2.2.2.2.1 = "<init>") (K : V G F M sh nc ns Z (pc + 3) ls st (sI m a k x)) : V G F M sh nc ns Z pc ls (.int x :: .ref (G.1 + a) :: st) m :=
  v_putF d g o hi rfl rfl (fun _ h h2 h3 h4 => set_fI h h2 h3 h4) K
theorem v_qR {idx a b : Nat} {tp : FieldType} (c k : Nat) (d : decode M.1 pc = .ok (.putfield idx, 3)) (g : FW M.2.2.1 idx c k 2 true tp) (o : Ob sh a c) (hi : M.2.2.2.2.1 = "<init>") (hn : ∀ q, narrow tp (.ref q) = .ref q) (hf : ∀ q, fits tp (.ref q) = true) (K : V G F M sh nc ns Z (pc + 3) ls st (sR m a k (some b))) : V G F M sh nc ns Z pc ls (.ref (G.1 + b) :: .ref (G.1 + a) :: st) m :=
  v_putF d g o hi (hn _) (hf _) (fun _ h h2 h3 h4 => set_fR h h2 h3 h4) K
/-! arrays -/
theorem v_iald {a : Nat} {i : Int32} (d : decode M.1 pc = .ok (.iaload, 1)) (h : Ix sh a 100 i) (K : V G F M sh nc ns Z (pc + 1) ls (.int (m.1 a i.toNatClampNeg) :: st) m) : V G F M sh nc ns Z pc ls (.int i :: .ref (G.1 + a) :: st) m := by
  obtain ⟨n, ho, hi⟩ := h
  obtain ⟨t0, ht⟩ := ty_in (G := G) ho ⟨by decide, by decide⟩
  intro hF H locs LS hH hl
  exact va_iald hF.1 hF.2.1 hH.2.2.2.1 hH.2.1 a t0 (by rw [wld_get ho, cel_i ⟨by decide, by decide⟩]) ht hi d (K hF H locs LS hH hl)
theorem v_cald {a : Nat} {i : Int32} (d : decode M.1 pc = .ok (.caload, 1)) (h : Ix sh a 101 i) (K : V G F M sh nc ns Z (pc + 1) ls (.int (m.1 a i.toNatClampNeg) :: st) m) : V G F M sh nc ns Z pc ls (.int i :: .ref (G.1 + a) :: st) m := by
  obtain ⟨n, ho, hi⟩ := h
  obtain ⟨t0, ht⟩ := ty_in (G := G) ho ⟨by decide, by decide⟩
  intro hF H locs LS hH hl
  exact va_cald hF.1 hF.2.1 hH.2.2.2.1 hH.2.1 a t0 (by rw [wld_get ho, cel_i ⟨by decide, by decide⟩]) ht hi d (K hF H locs LS hH hl)
theorem v_zald {a : Nat} {i : Int32} (d : decode M.1 pc = .ok (.baload, 1)) (h : Ix sh a 102 i) (K : V G F M sh nc ns Z (pc + 1) ls (.int (m.1 a i.toNatClampNeg) :: st) m) : V G F M sh nc ns Z pc ls (.int i :: .ref (G.1 + a) :: st) m := by
  obtain ⟨n, ho, hi⟩ := h
  obtain ⟨t0, ht⟩ := ty_in (G := G) ho ⟨by decide, by decide⟩
  intro hF H locs LS hH hl
  exact va_zald hF.1 hF.2.1 hH.2.2.2.1 hH.2.1 a t0 (by rw [wld_get ho, cel_i ⟨by decide, by decide⟩]) ht hi d (K hF H locs LS hH hl)
theorem v_lald {a : Nat} {i : Int32} (d : decode M.1 pc = .ok (.laload, 1)) (h : Ix sh a 103 i) (K : V G F M sh nc ns Z (pc + 1) ls (.long (m.2.1 a i.toNatClampNeg) :: st) m) : V G F M sh nc ns Z pc ls (.int i :: .ref (G.1 + a) :: st) m := by
  obtain ⟨n, ho, hi⟩ := h
  obtain ⟨t0, ht⟩ := ty_in (G := G) ho ⟨by decide, by decide⟩
  intro hF H locs LS hH hl
  exact va_lald hF.1 hF.2.1 hH.2.2.2.1 hH.2.1 a t0 (by rw [wld_get ho, cel_l]) ht hi d (K hF H locs LS hH hl)
theorem v_aald {a b : Nat} {i : Int32} (k : Nat) (d : decode M.1 pc = .ok (.aaload, 1)) (h : Ix sh a k i) (hk : k = 104 ∨ k = 105) (hb : m.2.2 a i.toNatClampNeg = some b) (K : V G F M sh nc ns Z (pc + 1) ls (.ref (G.1 + b) :: st) m) : V G F M sh nc ns Z pc ls (.int i :: .ref (G.1 + a) :: st) m := by
  obtain ⟨n, ho, hi⟩ := h
  obtain ⟨t0, ht⟩ := ty_in (G := G) ho ⟨by omega, by omega⟩
  intro hF H locs LS hH hl
  have e : tyO k = .object (if k = 104 then "CalledRiver$Way" else "CalledRiver$Land") := by rcases hk with rfl | rfl <;> rfl
  rw [e] at ht
  refine va_aldq hF.1 hF.2.1 hH.2.2.2.1 hH.2.1 a t0 (by rw [wld_get ho, cel_r (by omega)]) ht hi d ?_
  simp only [hb, Option.map_some]
  exact K hF H locs LS hH hl
theorem v_alen {a k n : Nat} (d : decode M.1 pc = .ok (.arraylength, 1)) (h : Ar sh a k n) (hk : 100 ≤ k ∧ k < 106) (K : V G F M sh nc ns Z (pc + 1) ls (.int (nI n) :: st) m) : V G F M sh nc ns Z pc ls (.ref (G.1 + a) :: st) m := by
  have h : sh[a]? = some (k, n) := h
  obtain ⟨t0, ht⟩ := ty_in (G := G) h hk
  intro hF H locs LS hH hl
  have e : ∃ x : vp_A, x.1 = n ∧ celE G.2.2.1 G.1 m a (k, n) = .inl (G.2.2.1 k, x) := by
    by_cases h1 : k < 103
    · exact ⟨(n, .inl (m.1 a)), rfl, cel_i ⟨hk.1, h1⟩⟩
    · by_cases h2 : k = 103
      · subst h2
        exact ⟨(n, .inr (.inl (m.2.1 a))), rfl, cel_l⟩
      · exact ⟨(n, .inr (.inr (.inr (.inr (fun j => (m.2.2 a j).map (G.1 + ·)))))), rfl, cel_r (by omega)⟩
  obtain ⟨x, hx, e⟩ := e
  exact va_alen hF.1 hF.2.1 hH.2.2.2.1 hH.2.1 a t0 (x := x) (by rw [wld_get h, e]) ht (by rw [hx]; rfl) d (K hF H locs LS hH hl)
theorem v_iast {a : Nat} {i x : Int32} (d : decode M.1 pc = .ok (.iastore, 1)) (h : Ix sh a 100 i) (K : V G F M sh nc ns Z (pc + 1) ls st (sI m a i.toNatClampNeg x)) : V G F M sh nc ns Z pc ls (.int x :: .int i :: .ref (G.1 + a) :: st) m := by
  obtain ⟨n, ho, hi⟩ := h
  obtain ⟨t0, ht⟩ := ty_in (G := G) ho ⟨by decide, by decide⟩
  intro hF H locs LS hH hl
  refine va_iast hF.1 hF.2.1 hH.2.2.2.1 hH.2.1 (wld_D G sh m) hH.2.2.1 a t0 (by rw [wld_get ho, cel_i ⟨by decide, by decide⟩]) ht hi d ?_
  intro H1 locs1 hP hD hS
  rw [set_aI ho ⟨by decide, by decide⟩] at hP
  exact K hF H1 locs1 LS ⟨hH.1, hP, hS, hH.2.2.2⟩ hl
theorem v_cast {a : Nat} {i x : Int32} (d : decode M.1 pc = .ok (.castore, 1)) (h : Ix sh a 101 i) (K : V G F M sh nc ns Z (pc + 1) ls st (sI m a i.toNatClampNeg (vp_nar .char x))) : V G F M sh nc ns Z pc ls (.int x :: .int i :: .ref (G.1 + a) :: st) m := by
  obtain ⟨n, ho, hi⟩ := h
  obtain ⟨t0, ht⟩ := ty_in (G := G) ho ⟨by decide, by decide⟩
  intro hF H locs LS hH hl
  refine va_cast hF.1 hF.2.1 hH.2.2.2.1 hH.2.1 (wld_D G sh m) hH.2.2.1 a t0 (by rw [wld_get ho, cel_i ⟨by decide, by decide⟩]) ht hi d ?_
  intro H1 locs1 hP hD hS
  rw [set_aI ho ⟨by decide, by decide⟩] at hP
  exact K hF H1 locs1 LS ⟨hH.1, hP, hS, hH.2.2.2⟩ hl
theorem v_zast {a : Nat} {i x : Int32} (d : decode M.1 pc = .ok (.bastore, 1)) (h : Ix sh a 102 i) (K : V G F M sh nc ns Z (pc + 1) ls st (sI m a i.toNatClampNeg (vp_nar .boolean x))) : V G F M sh nc ns Z pc ls (.int x :: .int i :: .ref (G.1 + a) :: st) m := by
  obtain ⟨n, ho, hi⟩ := h
  obtain ⟨t0, ht⟩ := ty_in (G := G) ho ⟨by decide, by decide⟩
  intro hF H locs LS hH hl
  refine va_zast hF.1 hF.2.1 hH.2.2.2.1 hH.2.1 (wld_D G sh m) hH.2.2.1 a t0 (by rw [wld_get ho, cel_i ⟨by decide, by decide⟩]) ht hi d ?_
  intro H1 locs1 hP hD hS
  rw [set_aI ho ⟨by decide, by decide⟩] at hP
  exact K hF H1 locs1 LS ⟨hH.1, hP, hS, hH.2.2.2⟩ hl
theorem v_last {a : Nat} {i : Int32} {x : Int64} (d : decode M.1 pc = .ok (.lastore, 1)) (h : Ix sh a 103 i) (K : V G F M sh nc ns Z (pc + 1) ls st (sL m a i.toNatClampNeg x)) : V G F M sh nc ns Z pc ls (.long x :: .int i :: .ref (G.1 + a) :: st) m := by
  obtain ⟨n, ho, hi⟩ := h
  obtain ⟨t0, ht⟩ := ty_in (G := G) ho ⟨by decide, by decide⟩
  intro hF H locs LS hH hl
  refine va_last hF.1 hF.2.1 hH.2.2.2.1 hH.2.1 (wld_D G sh m) hH.2.2.1 a t0 (by rw [wld_get ho, cel_l]) ht hi d ?_
  intro H1 locs1 hP hD hS
  have hP : va_P G.2.1 vwCl ((wld G sh m).set a (G.1 + a, .inl (G.2.2.1 103, n, .inr (.inl (vp_updL (m.2.1 a) i.toNatClampNeg x))))) H1 := hP
  rw [set_aL ho] at hP
  exact K hF H1 locs1 LS ⟨hH.1, hP, hS, hH.2.2.2⟩ hl
/-! answers -/
abbrev Aof (G : Gl) : Nat → Prop := fun q => G.1 ≤ q
theorem HOK.ok {m : Mem} {H : Heap} {locs : List Loc} (hH : HOK G F sh nc m H locs) (hle : H.size ≤ (Fs F).heap.size + nc) {t : State} (ht : t.heap = H) (hW : (Fs F).WarmedH t.vm) : Ok G sh m t :=
  ⟨by rw [ht]; exact hH.size hle, by rw [ht]; exact hH.2.1, va_K.moved hW.alike hH.2.2.2.1, by rw [ht]; exact (hH.2.2.2.2.1.warm hW).kept hH.2.2.1.2.1⟩
theorem v_iret {x : Int32} {Q : Int32 → Mem → Prop} {ty : FieldType} (d : decode M.1 pc = .ok (.ireturn, 1)) (hr : M.2.2.2.1 = some ty) (hn : narrow ty (.int x) = .int x) (h : Q x m) : V G F M sh nc ns (MQ (Fb F) (va_Qi Q (Ok G sh) (Aof G)) (Fa F) (Fs F) nc ns (Aof G)) pc ls [.int x] m :=
  fun hF H locs LS hH hl => W_sz fun hle => W.zret hF.1 hF.2.1 (hF.2.2.2.2.2.2.1.trans hr) hn (fun t ht hW => ⟨⟨x, m, rfl, h, hH.ok hle ht hW⟩, hH.2.2.1.F ht⟩) hH.2.2.1.2.2 d hF.2.2.2.2.2.1
theorem v_lret {x : Int64} {Q : Int64 → Mem → Prop} (d : decode M.1 pc = .ok (.lreturn, 1)) (hr : M.2.2.2.1 = some .long) (h : Q x m) : V G F M sh nc ns (MQ (Fb F) (va_Ql Q (Ok G sh) (Aof G)) (Fa F) (Fs F) nc ns (Aof G)) pc ls [.long x] m :=
  fun hF H locs LS hH hl => W_sz fun hle => W.lret hF.1 hF.2.1 (hF.2.2.2.2.2.2.1.trans hr) (fun t ht hW => ⟨⟨x, m, rfl, h, hH.ok hle ht hW⟩, hH.2.2.1.F ht⟩) hH.2.2.1.2.2 d hF.2.2.2.2.2.1
theorem v_vret {Q : Mem → Prop} (d : decode M.1 pc = .ok (.return_, 1)) (hr : M.2.2.2.1 = none) (h : Q m) : V G F M sh nc ns (MQ (Fb F) (va_Qv Q (Ok G sh) (Aof G)) (Fa F) (Fs F) nc ns (Aof G)) pc ls [] m :=
  fun hF H locs LS hH hl => W_sz fun hle => W.vret hF.1 hF.2.1 (hF.2.2.2.2.2.2.1.trans hr) (fun t ht hW => ⟨⟨m, rfl, h, hH.ok hle ht hW⟩, hH.2.2.1.F ht⟩) hH.2.2.1.2.2 d hF.2.2.2.2.2.1
theorem v_aret {b : Nat} {Q : Nat → Mem → Prop} {n : String} (d : decode M.1 pc = .ok (.areturn, 1)) (hr : M.2.2.2.1 = some (.object n)) (h : Q b m) : V G F M sh nc ns (MQ (Fb F) (va_Qr (fun u : Nat × Mem => Q u.1 u.2) (fun u a t => a = G.1 + u.1 ∧ Ok G sh u.2 t) (Aof G)) (Fa F) (Fs F) nc ns (Aof G)) pc ls [.ref (G.1 + b)] m :=
  fun hF H locs LS hH hl => W_sz fun hle => W.aret hF.1 hF.2.1 (hF.2.2.2.2.2.2.1.trans hr) (Or.inl ⟨n, rfl⟩) (Or.inr ⟨_, rfl⟩) (fun t ht hW => ⟨⟨(b, m), G.1 + b, rfl, h, rfl, hH.ok hle ht hW⟩, hH.2.2.1.F ht⟩) hH.2.2.1.2.2 d hF.2.2.2.2.2.1
end Rows
