/-! ===== the memory: a shape (kind, length of each cell, in the order in which they were made), ints, longs, references by cell and place ===== -/
abbrev Shp : Type := List (Nat × Nat)
abbrev Mem : Type := (Nat → Nat → Int32) × (Nat → Nat → Int64) × (Nat → Nat → Option Nat)
/-- where the new cells begin; the numbers of the classes; of the array classes; the addresses of the String constants and of their bytes; of the two static arrays -/
abbrev Gl : Type := Nat × va_G × (Nat → ClassId) × (Nat → Nat) × (Nat → Nat) × Nat × Nat
/-- a method's frame: program, launch, environment, room, state at entry, method, arguments, frames below, method, code -/
abbrev Fr : Type := Program × Launch × Env × Room × State × MethodId × Array Value × List Frame × Method × Code
/-- bytes, locals, class, answer, name; room: frames, locals' words, cells, slots -/
abbrev Mi : Type := ByteArray × Nat × String × Option FieldType × String × Nat × Nat × Nat × Nat
/-- the fields of a class by their sort: 0 int, 1 long, 2 reference -/
def ftl : List (List Nat) := [[2,2,0],[0,0,2,2,2,2],[2,2,0,2],[0,0,2,2,2,2],[2,0],[0,0,0,0,0,2,2,2,2,2,2,2,2,2,2,2,2],[2,2,2,0],[0,2,2],[2,2,0],[2,0,0,0,0,0,0],[2,2,0,0,0,0,2],[2,2,2,2,2,2,2,2,2,2,2,2,2,2,2,2,2,2,1],[2,0,0,0,0,0,0,0,0,2,0,2,2,2,2,2,2,2,2,2,2,2,2,2,2,2,2,2,2,2,2,2,2,2,2,2,2,2,2,2,2,0,2,0,0,2,2,2,2,2,2,2,2,2,0,0,0,0,2,0,0,0,0,2,0,2,2,2,2,2,2,2,2,2,0,2,2,2,0,0,1,2,2,2,2,2,2,2,2,2,2,2,2,2,2,2,2,2,2,2,2,2,2,2,2,2,2,2,2,0,2,0,0,0,2,0,1,0,2,0]]
def ft (c k : Nat) : Nat := (ftl.getD c []).getD k 0
def nf (c : Nat) : Nat := (ftl.getD c []).length
def sI (m : Mem) (a k : Nat) (v : Int32) : Mem := (fun a' k' => if a' = a ∧ k' = k then v else m.1 a' k', m.2)
def sL (m : Mem) (a k : Nat) (v : Int64) : Mem := (m.1, fun a' k' => if a' = a ∧ k' = k then v else m.2.1 a' k', m.2.2)
def sR (m : Mem) (a k : Nat) (v : Option Nat) : Mem := (m.1, m.2.1, fun a' k' => if a' = a ∧ k' = k then v else m.2.2 a' k')
def fvl (B : Nat) (m : Mem) (a t k : Nat) : Value := if t = 0 then .int (m.1 a k) else if t = 1 then .long (m.2.1 a k) else va_rf ((m.2.2 a k).map (B + ·))
def fls (B : Nat) (m : Mem) (a c : Nat) : List Value := (List.range (nf c)).map (fun k => fvl B m a (ft c k) k)
def celE (ac : Nat → ClassId) (B : Nat) (m : Mem) (a : Nat) (q : Nat × Nat) : va_E :=
  if q.1 < 100 then .inr (q.1, fls B m a q.1)
  else if q.1 < 103 then .inl (ac q.1, q.2, .inl (m.1 a))
  else if q.1 = 103 then .inl (ac q.1, q.2, .inr (.inl (m.2.1 a)))
  else .inl (ac q.1, q.2, .inr (.inr (.inr (.inr (fun j => (m.2.2 a j).map (B + ·))))))
def wld (G : Gl) (sh : Shp) (m : Mem) : va_W := (List.range sh.length).map (fun i => (G.1 + i, celE G.2.2.1 G.1 m i (sh.getD i (0, 0))))
def tyO (k : Nat) : FieldType := if k = 100 then .int else if k = 101 then .char else if k = 102 then .boolean else if k = 103 then .long else if k = 104 then .object "CalledRiver$Way" else .object "CalledRiver$Land"
/-- the array classes that are known: of numbers all, of references those of which there are arrays -/
def tyl (G : Gl) (sh : Shp) : List (ClassId × FieldType) := ([100, 101, 102, 103, 104, 105].filter (fun k => decide (k < 104) || sh.any (fun q => q.1 == k))).map (fun k => (G.2.2.1 k, tyO k))
/-- an object of class c; an array of kind k and length n; an index within -/
def Ob (sh : Shp) (a c : Nat) : Prop := (∃ n, sh[a]? = some (c, n)) ∧ c < 100
def Ar (sh : Shp) (a k n : Nat) : Prop := sh[a]? = some (k, n)
def Ix (sh : Shp) (a k : Nat) (i : Int32) : Prop := ∃ n, sh[a]? = some (k, n) ∧ vp_in i n
theorem wld_get {G : Gl} {sh : Shp} {m : Mem} {i : Nat} {q : Nat × Nat} (h : sh[i]? = some q) : (wld G sh m)[i]? = some (G.1 + i, celE G.2.2.1 G.1 m i q) := by
  have hi : i < sh.length := (List.getElem?_eq_some_iff.mp h).1
  unfold wld
  rw [List.getElem?_map, List.getElem?_range hi]
  simp [List.getD_eq_getElem?_getD, h]
theorem wld_len (G : Gl) (sh : Shp) (m : Mem) : (wld G sh m).length = sh.length := by simp [wld]
theorem wld_D (G : Gl) (sh : Shp) (m : Mem) : va_D (fun q => G.1 ≤ q) (wld G sh m) := by
  have key : ∀ (i : Nat) (x : Nat × va_E), (wld G sh m)[i]? = some x → x.1 = G.1 + i := by
    intro i x h
    have hi : i < sh.length := by rw [← wld_len G sh m]; exact (List.getElem?_eq_some_iff.mp h).1
    rw [wld_get (List.getElem?_eq_getElem hi)] at h
    rw [← Option.some.inj h]
  refine ⟨fun i j x y hx hy e => ?_, fun k x hx => ?_⟩
  · have h1 := key i x hx
    have h2 := key j y hy
    omega
  · have h1 := key k x hx
    show G.1 ≤ x.1
    omega
theorem wld_set {G : Gl} {sh : Shp} {m m' : Mem} {i : Nat} {q : Nat × Nat} {E : va_E} (h : sh[i]? = some q) (h1 : celE G.2.2.1 G.1 m' i q = E) (h2 : ∀ (j : Nat) (r : Nat × Nat), j ≠ i → celE G.2.2.1 G.1 m' j r = celE G.2.2.1 G.1 m j r) : (wld G sh m).set i (G.1 + i, E) = wld G sh m' := by
  apply List.ext_getElem?
  intro j
  by_cases hj : j < sh.length
  · rw [wld_get (m := m') (List.getElem?_eq_getElem hj), List.getElem?_set]
    by_cases e : i = j
    · subst e
      have hq : sh[i] = q := Option.some.inj ((List.getElem?_eq_getElem hj).symm.trans h)
      rw [if_pos rfl, if_pos (by rw [wld_len]; exact hj), hq, h1]
    · rw [if_neg e, wld_get (List.getElem?_eq_getElem hj), h2 j _ (fun x => e x.symm)]
  · rw [List.getElem?_eq_none (by rw [List.length_set, wld_len]; omega), List.getElem?_eq_none (by rw [wld_len]; omega)]
theorem fls_get {B : Nat} {m : Mem} {a c k : Nat} (h : k < nf c) : (fls B m a c)[k]? = some (fvl B m a (ft c k) k) := by
  unfold fls
  rw [List.getElem?_map, List.getElem?_range h]
  rfl
theorem fls_len (B : Nat) (m : Mem) (a c : Nat) : (fls B m a c).length = nf c := by simp [fls]
theorem fls_set {B : Nat} {m m' : Mem} {a c k : Nat} {v : Value} (h : k < nf c) (h1 : fvl B m' a (ft c k) k = v) (h2 : ∀ j, j ≠ k → fvl B m' a (ft c j) j = fvl B m a (ft c j) j) : (fls B m a c).set k v = fls B m' a c := by
  apply List.ext_getElem?
  intro j
  by_cases hj : j < nf c
  · rw [fls_get (m := m') hj, List.getElem?_set]
    by_cases e : k = j
    · subst e
      rw [if_pos rfl, if_pos (by rw [fls_len]; exact hj), h1]
    · rw [if_neg e, fls_get hj, h2 j (fun x => e x.symm)]
  · rw [List.getElem?_eq_none (by rw [List.length_set, fls_len]; omega), List.getElem?_eq_none (by rw [fls_len]; omega)]
theorem cel_o {ac : Nat → ClassId} {B : Nat} {m : Mem} {a c n : Nat} (h : c < 100) : celE ac B m a (c, n) = .inr (c, fls B m a c) := by simp [celE, h]
theorem cel_i {ac : Nat → ClassId} {B : Nat} {m : Mem} {a c n : Nat} (h : 100 ≤ c ∧ c < 103) : celE ac B m a (c, n) = .inl (ac c, n, .inl (m.1 a)) := by
  simp only [celE]
  rw [if_neg (by omega), if_pos h.2]
theorem cel_l {ac : Nat → ClassId} {B : Nat} {m : Mem} {a n : Nat} : celE ac B m a (103, n) = .inl (ac 103, n, .inr (.inl (m.2.1 a))) := by simp [celE]
theorem cel_r {ac : Nat → ClassId} {B : Nat} {m : Mem} {a c n : Nat} (h : 103 < c) : celE ac B m a (c, n) = .inl (ac c, n, .inr (.inr (.inr (.inr (fun j => (m.2.2 a j).map (B + ·)))))) := by
  simp only [celE]
  rw [if_neg (by omega), if_neg (by omega), if_neg (by omega)]
theorem fvl_0 {B : Nat} {m : Mem} {a k : Nat} : fvl B m a 0 k = .int (m.1 a k) := rfl
theorem fvl_1 {B : Nat} {m : Mem} {a k : Nat} : fvl B m a 1 k = .long (m.2.1 a k) := rfl
theorem fvl_2 {B : Nat} {m : Mem} {a k : Nat} : fvl B m a 2 k = va_rf ((m.2.2 a k).map (B + ·)) := rfl
theorem fls_sI {B : Nat} {m : Mem} {a b k c : Nat} {v : Int32} (h : b ≠ a) : fls B (sI m a k v) b c = fls B m b c := by
  unfold fls
  apply List.map_congr_left
  intro j _
  simp [fvl, sI, h]
theorem fls_sL {B : Nat} {m : Mem} {a b k c : Nat} {v : Int64} (h : b ≠ a) : fls B (sL m a k v) b c = fls B m b c := by
  unfold fls
  apply List.map_congr_left
  intro j _
  simp [fvl, sL, h]
theorem fls_sR {B : Nat} {m : Mem} {a b k c : Nat} {v : Option Nat} (h : b ≠ a) : fls B (sR m a k v) b c = fls B m b c := by
  unfold fls
  apply List.map_congr_left
  intro j _
  simp [fvl, sR, h]
theorem cel_sI {ac : Nat → ClassId} {B : Nat} {m : Mem} {a b k : Nat} {v : Int32} (h : b ≠ a) (r : Nat × Nat) : celE ac B (sI m a k v) b r = celE ac B m b r := by
  have e : (sI m a k v).1 b = m.1 b := by funext j; simp [sI, h]
  simp only [celE, fls_sI h, e]
  rfl
theorem cel_sL {ac : Nat → ClassId} {B : Nat} {m : Mem} {a b k : Nat} {v : Int64} (h : b ≠ a) (r : Nat × Nat) : celE ac B (sL m a k v) b r = celE ac B m b r := by
  have e : (sL m a k v).2.1 b = m.2.1 b := by funext j; simp [sL, h]
  simp only [celE, fls_sL h, e]
  rfl
theorem cel_sR {ac : Nat → ClassId} {B : Nat} {m : Mem} {a b k : Nat} {v : Option Nat} (h : b ≠ a) (r : Nat × Nat) : celE ac B (sR m a k v) b r = celE ac B m b r := by
  have e : (sR m a k v).2.2 b = m.2.2 b := by funext j; simp [sR, h]
  simp only [celE, fls_sR h, e]
  rfl
/-- the world behind a store to a field, an array's place -/
theorem set_fI {G : Gl} {sh : Shp} {m : Mem} {a c k n : Nat} {v : Int32} (ho : sh[a]? = some (c, n)) (hc : c < 100) (hk : k < nf c) (ht : ft c k = 0) : (wld G sh m).set a (G.1 + a, .inr (c, (fls G.1 m a c).set k (.int v))) = wld G sh (sI m a k v) := by
  refine wld_set ho ?_ (fun j r hj => cel_sI hj r)
  rw [cel_o hc, fls_set (m' := sI m a k v) hk (by rw [ht, fvl_0]; simp [sI]) (fun j hj => by simp [fvl, sI, hj])]
theorem set_fL {G : Gl} {sh : Shp} {m : Mem} {a c k n : Nat} {v : Int64} (ho : sh[a]? = some (c, n)) (hc : c < 100) (hk : k < nf c) (ht : ft c k = 1) : (wld G sh m).set a (G.1 + a, .inr (c, (fls G.1 m a c).set k (.long v))) = wld G sh (sL m a k v) := by
  refine wld_set ho ?_ (fun j r hj => cel_sL hj r)
  rw [cel_o hc, fls_set (m' := sL m a k v) hk (by rw [ht, fvl_1]; simp [sL]) (fun j hj => by simp [fvl, sL, hj])]
theorem set_fR {G : Gl} {sh : Shp} {m : Mem} {a b c k n : Nat} (ho : sh[a]? = some (c, n)) (hc : c < 100) (hk : k < nf c) (ht : ft c k = 2) : (wld G sh m).set a (G.1 + a, .inr (c, (fls G.1 m a c).set k (.ref (G.1 + b)))) = wld G sh (sR m a k (some b)) := by
  refine wld_set ho ?_ (fun j r hj => cel_sR hj r)
  rw [cel_o hc, fls_set (m' := sR m a k (some b)) hk (by rw [ht, fvl_2]; simp [sR, va_rf]) (fun j hj => by simp [fvl, sR, hj])]
theorem upd_sI (m : Mem) (a k : Nat) (v : Int32) : (sI m a k v).1 a = upd (m.1 a) k v := by
  funext j
  simp [sI, upd]
theorem upd_sL (m : Mem) (a k : Nat) (v : Int64) : (sL m a k v).2.1 a = vp_updL (m.2.1 a) k v := by
  funext j
  simp [sL, vp_updL]
theorem set_aI {G : Gl} {sh : Shp} {m : Mem} {a c k n : Nat} {v : Int32} (ho : sh[a]? = some (c, n)) (hc : 100 ≤ c ∧ c < 103) : (wld G sh m).set a (G.1 + a, .inl (G.2.2.1 c, n, .inl (upd (m.1 a) k v))) = wld G sh (sI m a k v) := by
  refine wld_set ho ?_ (fun j r hj => cel_sI hj r)
  rw [cel_i hc, upd_sI]
theorem set_aL {G : Gl} {sh : Shp} {m : Mem} {a k n : Nat} {v : Int64} (ho : sh[a]? = some (103, n)) : (wld G sh m).set a (G.1 + a, .inl (G.2.2.1 103, n, .inr (.inl (vp_updL (m.2.1 a) k v)))) = wld G sh (sL m a k v) := by
  refine wld_set ho ?_ (fun j r hj => cel_sL hj r)
  rw [cel_l, upd_sL]
theorem set_aR {G : Gl} {sh : Shp} {m : Mem} {a b c k n : Nat} (ho : sh[a]? = some (c, n)) (hc : 103 < c) : (wld G sh m).set a (G.1 + a, .inl (G.2.2.1 c, n, .inr (.inr (.inr (.inr (va_up (fun j => (m.2.2 a j).map (G.1 + ·)) k (some (G.1 + b)))))))) = wld G sh (sR m a k (some b)) := by
  refine wld_set ho ?_ (fun j r hj => cel_sR hj r)
  rw [cel_r hc]
  congr 7
  funext j
  by_cases hj : j = k <;> simp [sR, va_up, hj]
theorem ty_in {G : Gl} {sh : Shp} {a k n : Nat} (h : sh[a]? = some (k, n)) (hk : 100 ≤ k ∧ k < 106) : ∃ t0 : Nat, (tyl G sh)[t0]? = some (G.2.2.1 k, tyO k) := by
  apply List.getElem?_of_mem
  unfold tyl
  refine List.mem_map.mpr ⟨k, List.mem_filter.mpr ⟨?_, ?_⟩, rfl⟩
  · have : k = 100 ∨ k = 101 ∨ k = 102 ∨ k = 103 ∨ k = 104 ∨ k = 105 := by omega
    rcases this with rfl | rfl | rfl | rfl | rfl | rfl <;> simp
  · rw [Bool.or_eq_true, List.any_eq_true]
    exact Or.inr ⟨(k, n), List.mem_of_getElem? h, by simp⟩
