/-! ===== ways ===== -/
def pieAt (P : Pl) (N : Nat → Nat) (d : Nat) : Nat := match fAt P d with | none => 0 | some f => N (109 + f)
def gF (P : Pl) (N : Nat → Nat) (k d st : Nat) : Nat → Int := fun i =>
  if i = 0 then (N 0 : Int) else if i = 1 then (pieAt P N d : Int) else if i = 2 then (N (3 + 3 * d) : Int) else if i = 3 then (cbo P k : Int) else if i = 4 then (cki P k : Int)
  else if i = 5 then (N (1 + 3 * d) : Int) else if i = 6 then ((pr P - 1 - d / 6 : Nat) : Int) else if i = 7 then (st : Int) else 0
def gv (P : Pl) (N : Nat → Nat) (k d st : Nat) : Int := valM (gF P N k d st) (pgo P)
def Adj (c d : Nat) : Prop := d + 6 = c ∨ (d + 1 = c ∧ c % 6 ≠ 0) ∨ (d = c + 1 ∧ d % 6 ≠ 0) ∨ d = c + 6
def Go (P : Pl) (N : Nat → Nat) (V : Nat → Prop) (c d : Nat) : Prop := cel P d ∧ Adj c d ∧ ¬ V d ∧ N (2 + 3 * d) ≠ 1 ∧ N (1 + 3 * d) ≤ N (1 + 3 * c)
/-- the best of those cells that D has -/
def Bst (P : Pl) (N : Nat → Nat) (k : Nat) (V : Nat → Prop) (c s : Nat) (D : Nat → Prop) : Option Nat → Prop
  | none => ∀ d, D d → ¬ Go P N V c d
  | some e => D e ∧ Go P N V c e ∧ ∀ d, D d → Go P N V c d → gv P N k d s ≤ gv P N k e s ∧ (d < e → gv P N k d s < gv P N k e s)
theorem bst_no {P : Pl} {N : Nat → Nat} {k : Nat} {V : Nat → Prop} {c s : Nat} {D D' : Nat → Prop} {r : Option Nat} (h : Bst P N k V c s D r) (h1 : ∀ d, D d → D' d) (h2 : ∀ d, D' d → Go P N V c d → D d) : Bst P N k V c s D' r := by
  cases r with
  | none => exact fun d hd hg => h d (h2 d hd hg) hg
  | some e => exact ⟨h1 e h.1, h.2.1, fun d hd hg => h.2.2 d (h2 d hd hg) hg⟩
theorem bst_add {P : Pl} {N : Nat → Nat} {k : Nat} {V : Nat → Prop} {c s x : Nat} {D D' : Nat → Prop} {r r' : Option Nat} (h : Bst P N k V c s D r) (hx : Go P N V c x) (hlt : ∀ d, D d → d < x) (h1 : ∀ d, D' d → Go P N V c d → D d ∨ d = x) (h2 : ∀ d, D d → D' d) (h3 : D' x)
    (hr : (r = none ∧ r' = some x) ∨ ∃ e, r = some e ∧ ((gv P N k x s ≤ gv P N k e s ∧ r' = some e) ∨ (gv P N k e s < gv P N k x s ∧ r' = some x))) : Bst P N k V c s D' r' := by
  rcases hr with ⟨rfl, rfl⟩ | ⟨e, rfl, ⟨hv, rfl⟩ | ⟨hv, rfl⟩⟩
  · refine ⟨h3, hx, fun d hd hg => ?_⟩
    rcases h1 d hd hg with h4 | rfl
    · exact absurd hg (h d h4)
    · exact ⟨Int.le_refl _, fun h5 => absurd h5 (by omega)⟩
  · refine ⟨h2 e h.1, h.2.1, fun d hd hg => ?_⟩
    rcases h1 d hd hg with h4 | rfl
    · exact h.2.2 d h4 hg
    · have := hlt e h.1
      exact ⟨hv, fun h5 => absurd h5 (by omega)⟩
  · refine ⟨h3, hx, fun d hd hg => ?_⟩
    rcases h1 d hd hg with h4 | rfl
    · have h5 := (h.2.2 d h4 hg).1
      exact ⟨by omega, fun _ => by omega⟩
    · exact ⟨Int.le_refl _, fun h5 => absurd h5 (by omega)⟩
theorem bst_u {P : Pl} {N : Nat → Nat} {k : Nat} {V V' : Nat → Prop} {c s : Nat} {D : Nat → Prop} {r r' : Option Nat} (hV : ∀ d, V d ↔ V' d) (h : Bst P N k V c s D r) (h' : Bst P N k V' c s D r') : r = r' := by
  have hg : ∀ d, Go P N V c d ↔ Go P N V' c d := by
    intro d
    unfold Go
    rw [hV d]
  cases r with
  | none =>
    cases r' with
    | none => rfl
    | some e => exact absurd ((hg e).mpr h'.2.1) (h e h'.1)
  | some d =>
    cases r' with
    | none => exact absurd ((hg d).mp h.2.1) (h' d h.1)
    | some e =>
      have h1 := h.2.2 e h'.1 ((hg e).mpr h'.2.1)
      have h2 := h'.2.2 d h.1 ((hg d).mp h.2.1)
      have h3 : d = e := by
        by_cases h4 : d < e
        · have := h2.2 h4
          omega
        · by_cases h5 : e < d
          · have := h1.2 h5
            omega
          · omega
      rw [h3]
/-- the cell behind the first m cells of a way -/
def Nx (P : Pl) (N : Nat → Nat) (k : Nat) (p : Nat → Nat) (m : Nat) (r : Option Nat) : Prop :=
  if m = 0 then r = (if N (2 + 3 * ps P) = 1 then none else some (ps P))
  else if p (m - 1) / 6 + 1 = pr P then r = none
  else Bst P N k (fun d => ∃ j, j < m ∧ p j = d) (p (m - 1)) m (fun _ => True) r
def PW (P : Pl) (N : Nat → Nat) (k : Nat) (p : Nat → Nat) (m : Nat) : Prop := ∀ i, i < m → Nx P N k p i (some (p i))
def IsWay (P : Pl) (N : Nat → Nat) (k : Nat) (p : Nat → Nat) (m : Nat) : Prop := PW P N k p m ∧ Nx P N k p m none
theorem nx_c {P : Pl} {N : Nat → Nat} {k : Nat} {p p' : Nat → Nat} {m : Nat} {r : Option Nat} (h : ∀ i, i < m → p i = p' i) (hn : Nx P N k p m r) : Nx P N k p' m r := by
  unfold Nx at hn ⊢
  by_cases h0 : m = 0
  · rw [if_pos h0] at hn ⊢
    exact hn
  rw [if_neg h0] at hn ⊢
  rw [← h (m - 1) (by omega)]
  by_cases h1 : p (m - 1) / 6 + 1 = pr P
  · rw [if_pos h1] at hn ⊢
    exact hn
  rw [if_neg h1] at hn ⊢
  have hV : (fun d => ∃ j, j < m ∧ p j = d) = (fun d => ∃ j, j < m ∧ p' j = d) := by
    funext d
    apply propext
    constructor
    · rintro ⟨j, hj, e⟩
      exact ⟨j, hj, by rw [← h j hj, e]⟩
    · rintro ⟨j, hj, e⟩
      exact ⟨j, hj, by rw [h j hj, e]⟩
  rw [← hV]
  exact hn
theorem nx_u {P : Pl} {N : Nat → Nat} {k : Nat} {p p' : Nat → Nat} {m : Nat} {r r' : Option Nat} (h : ∀ i, i < m → p i = p' i) (hn : Nx P N k p m r) (hn' : Nx P N k p' m r') : r = r' := by
  have h2 := nx_c h hn
  unfold Nx at h2 hn'
  by_cases h0 : m = 0
  · rw [if_pos h0] at h2 hn'
    rw [h2, hn']
  rw [if_neg h0] at h2 hn'
  by_cases h1 : p' (m - 1) / 6 + 1 = pr P
  · rw [if_pos h1] at h2 hn'
    rw [h2, hn']
  rw [if_neg h1] at h2 hn'
  exact bst_u (fun _ => Iff.rfl) h2 hn'
theorem pw_u {P : Pl} {N : Nat → Nat} {k : Nat} {p p' : Nat → Nat} {m m' : Nat} (h : PW P N k p m) (h' : PW P N k p' m') : ∀ i, i < m → i < m' → p i = p' i := by
  intro i
  induction i using Nat.strongRecOn with
  | _ i ih =>
    intro hi hi'
    exact Option.some.inj (nx_u (fun j hj => ih j hj (by omega) (by omega)) (h i hi) (h' i hi'))
theorem way_u {P : Pl} {N : Nat → Nat} {k : Nat} {p p' : Nat → Nat} {m m' : Nat} (h : IsWay P N k p m) (h' : IsWay P N k p' m') : m = m' ∧ ∀ i, i < m → p i = p' i := by
  have hm : m = m' := by
    by_cases h1 : m < m'
    · have h2 := nx_u (fun j hj => pw_u h.1 h'.1 j hj (by omega)) h.2 (h'.1 m h1)
      exact absurd h2 (by simp)
    · by_cases h3 : m' < m
      · have h2 := nx_u (fun j hj => pw_u h'.1 h.1 j hj (by omega)) h'.2 (h.1 m' h3)
        exact absurd h2 (by simp)
      · omega
  subst hm
  exact ⟨rfl, fun i hi => pw_u h.1 h'.1 i hi hi⟩
theorem nx_cel {P : Pl} {N : Nat → Nat} {k : Nat} {p : Nat → Nat} {m c : Nat} (hP : VP P) (h0 : pc P ≠ 0) (h : Nx P N k p m (some c)) : cel P c ∧ ∀ j, j < m → p j ≠ c := by
  unfold Nx at h
  by_cases hm : m = 0
  · rw [if_pos hm] at h
    subst hm
    by_cases h1 : N (2 + 3 * ps P) = 1
    · rw [if_pos h1] at h
      exact absurd h (by simp)
    · rw [if_neg h1] at h
      obtain rfl := Option.some.inj h
      have h2 := hP.2.2.2.1 h0
      refine ⟨?_, fun j hj => absurd hj (by omega)⟩
      have := hP.1
      unfold cel
      omega
  rw [if_neg hm] at h
  by_cases h1 : p (m - 1) / 6 + 1 = pr P
  · rw [if_pos h1] at h
    exact absurd h (by simp)
  rw [if_neg h1] at h
  exact ⟨h.2.1.1, fun j hj e => h.2.1.2.2.1 ⟨j, hj, e⟩⟩
theorem pigeon : ∀ (n m : Nat) (f : Nat → Nat), (∀ i, i < m → f i < n) → (∀ i j, i < j → j < m → f i ≠ f j) → m ≤ n
  | 0, m, f, h1, _ => by
    by_cases hm : m = 0
    · omega
    · have := h1 0 (by omega)
      omega
  | n + 1, m, f, h1, h2 => by
    by_cases hx : ∃ i, i < m ∧ f i = n
    · obtain ⟨i, hi, e⟩ := hx
      have h3 := pigeon n (m - 1) (fun j => if j < i then f j else f (j + 1)) ?_ ?_
      · omega
      · intro j hj
        by_cases hji : j < i
        · simp only [if_pos hji]
          have a := h1 j (by omega)
          have b := h2 j i hji hi
          omega
        · simp only [if_neg hji]
          have a := h1 (j + 1) (by omega)
          have b := h2 i (j + 1) (by omega) (by omega)
          omega
      · intro j1 j2 h4 h5
        by_cases a : j1 < i
        · by_cases b : j2 < i
          · simp only [if_pos a, if_pos b]
            exact h2 j1 j2 h4 (by omega)
          · simp only [if_pos a, if_neg b]
            exact h2 j1 (j2 + 1) (by omega) (by omega)
        · have b : ¬ j2 < i := by omega
          simp only [if_neg a, if_neg b]
          exact h2 (j1 + 1) (j2 + 1) (by omega) (by omega)
    · have h3 := pigeon n m f (fun i hi => by
        have a := h1 i hi
        have b : f i ≠ n := fun e => hx ⟨i, hi, e⟩
        omega) h2
      omega
theorem pw_inj {P : Pl} {N : Nat → Nat} {k : Nat} {p : Nat → Nat} {m : Nat} (hP : VP P) (h0 : pc P ≠ 0) (h : PW P N k p m) : ∀ i j, i < j → j < m → p i ≠ p j := fun i j hij hj => (nx_cel hP h0 (h j hj)).2 i hij
theorem pw_cel {P : Pl} {N : Nat → Nat} {k : Nat} {p : Nat → Nat} {m : Nat} (hP : VP P) (h0 : pc P ≠ 0) (h : PW P N k p m) : ∀ i, i < m → cel P (p i) := fun i hi => (nx_cel hP h0 (h i hi)).1
/-- a way has at most as many cells as there are places -/
theorem pw_le {P : Pl} {N : Nat → Nat} {k : Nat} {p : Nat → Nat} {m : Nat} (hP : VP P) (h0 : pc P ≠ 0) (h : PW P N k p m) : m ≤ pc P * pr P := by
  refine pigeon _ m (fun i => pl P (p i)) (fun i hi => pl_lt (pw_cel hP h0 h i hi)) (fun i j hij hj e => pw_inj hP h0 h i j hij hj ?_)
  exact pl_inj (pw_cel hP h0 h i (by omega)) (pw_cel hP h0 h j hj) e
theorem pw_36 {P : Pl} {N : Nat → Nat} {k : Nat} {p : Nat → Nat} {m : Nat} (hP : VP P) (h0 : pc P ≠ 0) (h : PW P N k p m) : m ≤ 36 := Nat.le_trans (pw_le hP h0 h) (area_le hP)
/-- by which step a way comes to a cell -/
def stp (p : Nat → Nat) : Nat → Nat → Option Nat
  | 0, _ => none
  | m + 1, c => if p m = c then some m else stp p m c
theorem stp_some {p : Nat → Nat} : ∀ {m c i : Nat}, stp p m c = some i → i < m ∧ p i = c
  | 0, _, _, h => absurd h (by simp [stp])
  | m + 1, c, i, h => by
    unfold stp at h
    by_cases e : p m = c
    · rw [if_pos e] at h
      obtain rfl := Option.some.inj h
      exact ⟨by omega, e⟩
    · rw [if_neg e] at h
      have := stp_some h
      exact ⟨by omega, this.2⟩
theorem stp_none {p : Nat → Nat} : ∀ {m c : Nat}, stp p m c = none ↔ ∀ j, j < m → p j ≠ c
  | 0, c => by simp [stp]
  | m + 1, c => by
    unfold stp
    by_cases e : p m = c
    · rw [if_pos e]
      constructor
      · intro h
        exact absurd h (by simp)
      · intro h
        exact absurd e (h m (by omega))
    · rw [if_neg e, stp_none]
      constructor
      · intro h j hj
        by_cases hjm : j = m
        · rw [hjm]
          exact e
        · exact h j (by omega)
      · exact fun h j hj => h j (by omega)
theorem stp_c {p p' : Nat → Nat} : ∀ {m c : Nat}, (∀ i, i < m → p i = p' i) → stp p m c = stp p' m c
  | 0, _, _ => rfl
  | m + 1, c, h => by
    unfold stp
    rw [h m (by omega), stp_c (fun i hi => h i (by omega))]
theorem gF_ok {P : Pl} {N : Nat → Nat} {k d st : Nat} (hP : VP P) (hN : VN P N) (hk : k < pk P) (hd : cel P d) (hst : st ≤ 1000) : GF (gF P N k d st) := by
  intro i hi
  have a1 := hN.1
  have a2 := hN.2.1 d hd
  have a3 := hP.2.2.2.2.2.2.2.2.1 k hk
  have a4 := hP.2.1
  have a5 : pieAt P N d ≤ 9 := by
    unfold pieAt
    cases e : fAt P d with
    | none => simp
    | some f => exact hN.2.2.2.1 f (fAt_some e).1
  unfold gF
  repeat' split
  all_goals omega
theorem gv_b {P : Pl} {N : Nat → Nat} {k d st : Nat} (hP : VP P) (hN : VN P N) (h0 : pc P ≠ 0) (hk : k < pk P) (hd : cel P d) (hst : st ≤ 1000) : -1000000 ≤ gv P N k d st ∧ gv P N k d st ≤ 1000000 := by
  have h := good_val (gF_ok hP hN hk hd hst) (Nat.le_refl 64) (hP.2.2.2.1 h0).2.2.2.1
  exact ⟨h.2.2.1, h.2.2.2.1⟩
/-- the worth hangs on those facts alone that stand in the tokens -/
theorem ru_congr {F F' : Nat → Int} {S : List Nat} (hS : ∀ k ∈ S, F k = F' k) : ∀ (c : List Nat), OkT S c → ∀ st, ruM F c st = ruM F' c st
  | [], _, _ => rfl
  | t :: c, h, st => by
    have e : evM F t st = evM F' t st := by
      unfold evM
      rcases h t (by simp) with h1 | h1 | h1
      · rw [if_pos h1, if_pos h1]
      · have a1 : ¬ 1000 ≤ t := by omega
        have a2 : ¬ 60 ≤ t := by omega
        simp only [a1, a2, h1.1, if_true, if_false, hS _ h1.2.2]
      · have a1 : ¬ 1000 ≤ t := by omega
        have a2 : ¬ 60 ≤ t := by omega
        have a3 : ¬ 40 ≤ t := by omega
        have a4 : ¬ t = 13 := by omega
        have a5 : ¬ t = 12 := by omega
        simp only [a1, a2, a3, a4, a5, if_false]
    show ruM F c (evM F t st) = ruM F' c (evM F' t st)
    rw [e]
    exact ru_congr hS c (fun t ht => h t (List.mem_cons_of_mem _ ht)) _
theorem val_congr {F F' : Nat → Int} {S c : List Nat} (hS : ∀ k ∈ S, F k = F' k) (h : OkT S c) : valM F c = valM F' c := by
  unfold valM
  rw [ru_congr hS c h]
