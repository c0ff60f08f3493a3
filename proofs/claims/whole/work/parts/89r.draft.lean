/-! ===== a PLAIN's text, without memory ===== -/
def s0 (D : Pl) (a k v : Nat) : Pl := (fun a' k' => if a' = a ∧ k' = k then v else D.1 a' k', D.2)
def sN (D : Pl) (a : Nat) (l : Nat → Nat) : Pl := (fun a' => if a' = a then l else D.1 a', D.2)
theorem s0_n {D : Pl} {a k v a' k' : Nat} (h : a' ≠ a ∨ k' ≠ k) : (s0 D a k v).1 a' k' = D.1 a' k' := by
  show (if a' = a ∧ k' = k then v else D.1 a' k') = _
  first | refine i_neg (by omega) ?_ | rw [if_neg (by omega)]
  try (with_reducible rfl)
theorem s0_s {D : Pl} {a k v : Nat} : (s0 D a k v).1 a k = v := by
  show (if a = a ∧ k = k then v else D.1 a k) = _
  first | refine i_pos ⟨rfl, rfl⟩ ?_ | rw [if_pos ⟨rfl, rfl⟩]
  try (with_reducible rfl)
theorem sN_n {D : Pl} {a a' : Nat} {l : Nat → Nat} (h : a' ≠ a) : (sN D a l).1 a' = D.1 a' := by
  show (if a' = a then l else D.1 a') = _
  first | refine i_neg h ?_ | rw [if_neg h]
  try (with_reducible rfl)
theorem sN_s {D : Pl} {a : Nat} {l : Nat → Nat} : (sN D a l).1 a = l := by
  show (if a = a then l else D.1 a) = _
  first | refine i_pos rfl ?_ | rw [if_pos rfl]
  try (with_reducible rfl)
abbrev E2 : Type := Nat × Nat
abbrev Rd : Type := Except E2 (Pl × Nat × Bool)
def lx (X : Tx) : Nat → Nat → Nat
  | 0, p => p
  | n + 1, p => lnx X (lx X n p)
theorem lx_le {X : Tx} {p : Nat} (h : p ≤ X.2) : ∀ n, p ≤ lx X n p ∧ lx X n p ≤ X.2
  | 0 => ⟨Nat.le_refl _, h⟩
  | n + 1 => by
    have ih := lx_le h n
    have h1 := lnx_p ih.2
    have h2 := lst_p ih.2
    show p ≤ lnx X (lx X n p) ∧ lnx X (lx X n p) ≤ X.2
    omega
def wR (X : Tx) (p : Nat) (g : Bool) (w : List Nat) : Except E2 Unit := if isW' X p g w then .ok () else .error (1, lst X p)
def plR (X : Tx) (D : Pl) (p : Nat) : Except E2 Nat := (nuR X p true 0 (pc D - 1)).bind fun x => (nuR X (lnx X p) true 0 (pr D - 1)).bind fun y => .ok (x + 6 * y)
def hiR (X : Tx) (D : Pl) (p : Nat) : Rd := (plR X D p).bind fun c => (nuR X (lx X 2 p) true 0 9).bind fun h => .ok (s0 D 5 c h, lx X 3 p, true)
def stR (X : Tx) (D : Pl) (p : Nat) : Rd := (plR X D p).bind fun c => if D.1 6 c = 1 then .error (2, lst X (lnx X p)) else .ok (s0 D 6 c 1, lx X 2 p, true)
def soR (X : Tx) (D : Pl) (p : Nat) : Rd := (nuR X p true 0 (pc D - 1)).bind fun x => .ok (s0 D 0 2 x, lnx X p, true)
def nmd (D : Pl) (l : Nat → Nat) : Bool := (fAtN (fun f => nmC (fnm D f)) (nmC l) (pf D)).isSome || (fAtN (fun c => nmC (cnm D c)) (nmC l) (pk D)).isSome
def nnR (X : Tx) (D : Pl) (p : Nat) : Except E2 Unit := (naR X p true).bind fun _ => if nmd D (lln X p) = true then .error (3, lst X p) else .ok ()
def nwF (D : Pl) (l : Nat → Nat) (c d i : Nat) : Pl := s0 (s0 (s0 (s0 (sN D (20 + pf D) l) 1 (pf D) c) 2 (pf D) d) 7 (pf D) i) 0 3 (pf D + 1)
def nwK (D : Pl) (l : Nat → Nat) (b k : Nat) : Pl := s0 (s0 (s0 (sN D (30 + pk D) l) 3 (pk D) b) 4 (pk D) k) 0 4 (pk D + 1)
def wAt : List Nat := [97, 116]
def wDay : List Nat := [100, 97, 121]
def wPie : List Nat := [112, 105, 101]
def wBold : List Nat := [98, 111, 108, 100]
def wKind : List Nat := [107, 105, 110, 100]
def faR (X : Tx) (D : Pl) (p : Nat) : Rd := (nnR X D p).bind fun _ => (wR X (lx X 1 p) true wAt).bind fun _ => (plR X D (lx X 2 p)).bind fun c => if (fAt D c).isSome = true then .error (2, lst X (lx X 3 p)) else (wR X (lx X 4 p) true wDay).bind fun _ => (nuR X (lx X 5 p) true 1 40).bind fun d => (wR X (lx X 6 p) true wPie).bind fun _ => (nuR X (lx X 7 p) true 0 9).bind fun i => .ok (nwF D (lln X p) c d i, lx X 8 p, true)
def caR (X : Tx) (D : Pl) (p : Nat) : Rd := (nnR X D p).bind fun _ => (wR X (lx X 1 p) true wBold).bind fun _ => (nuR X (lx X 2 p) true 0 9).bind fun b => (wR X (lx X 3 p) true wKind).bind fun _ => (nuR X (lx X 4 p) true 0 9).bind fun k => .ok (nwK D (lln X p) b k, lx X 5 p, true)
/-- goes (w 0), bakes (w 1) -/
def sC (D : Pl) (w : Nat) (c : List Nat) : Pl := if w = 0 then (D.1, c, D.2.2) else (D.1, D.2.1, c)
def gC (D : Pl) (w : Nat) : List Nat := if w = 0 then D.2.1 else D.2.2
def CoR (X : Tx) (D : Pl) (w p : Nat) (r : Rd) : Prop := (∃ e, Rx X w 0 p true [] [] 0 (.error e) ∧ r = .error e) ∨ ∃ p' g' c, Rx X w 0 p true [] [] 0 (.ok (p', g', c)) ∧ Bs X w p p' false 21 c ∧ r = .ok (sC D w c, p', g')
def Bdy (X : Tx) (D : Pl) (p k : Nat) (r : Rd) : Prop := (k = 0 ∧ r = hiR X D p) ∨ (k = 1 ∧ r = stR X D p) ∨ (k = 2 ∧ r = soR X D p) ∨ (k = 3 ∧ r = faR X D p) ∨ (k = 4 ∧ r = caR X D p) ∨ (k = 5 ∧ CoR X D 0 p r) ∨ (k = 6 ∧ CoR X D 1 p r)
def ful (D : Pl) (k : Nat) : Prop := (k = 3 ∧ pf D = 6) ∨ (k = 4 ∧ pk D = 5) ∨ (k = 5 ∧ D.2.1 ≠ []) ∨ (k = 6 ∧ D.2.2 ≠ [])
/-- drafts as they may be, p bytes read -/
def VD (D : Pl) (p : Nat) : Prop := (2 ≤ pc D ∧ pc D ≤ 6 ∧ 2 ≤ pr D ∧ pr D ≤ 6 ∧ ps D < pc D ∧ pf D ≤ 6 ∧ pk D ≤ 5)
  ∧ (∀ f, f < pf D → cel D (fce D f) ∧ (1 ≤ fda D f ∧ fda D f ≤ 40) ∧ D.1 7 f ≤ 9 ∧ NmV (fnm D f))
  ∧ (∀ f g, f < pf D → g < pf D → fce D f = fce D g → f = g)
  ∧ (∀ c, c < pk D → cbo D c ≤ 9 ∧ cki D c ≤ 9 ∧ NmV (cnm D c))
  ∧ (∀ c, D.1 5 c ≤ 9 ∧ D.1 6 c ≤ 1 ∧ (¬ cel D c → D.1 6 c = 0))
  ∧ (D.2.1 = [] ∨ (Good false 21 D.2.1 ∧ OkK 0 D.2.1)) ∧ (D.2.2 = [] ∨ (Good false 21 D.2.2 ∧ OkK 1 D.2.2))
  ∧ D.2.1.length + D.2.2.length ≤ p
abbrev Rq : Type := Except E2 (Pl × Nat)
def smR (X : Tx) (q : Rd) : Rq := q.bind fun y => if isS X y.2.1 y.2.2 59 then .ok (y.1, lnx X y.2.1) else .error (1, lst X y.2.1)
def Stm (X : Tx) (D : Pl) (p : Nat) (r : Rq) : Prop := (wIn X p false (wds 2) = none ∧ r = .error (1, lst X p)) ∨ ∃ k, wIn X p false (wds 2) = some k ∧ ((ful D k ∧ r = .error (5, lst X p)) ∨ (¬ ful D k ∧ ∃ q, Bdy X D (lnx X p) k q ∧ r = smR X q))
def Rp (X : Tx) : Nat → Nat → Pl → Nat → Except E2 (Pl × Nat) → Prop
  | 0, _, _, _, _ => False
  | n + 1, cnt, D, p, r => (lkd X p false = 0 ∧ r = .ok (D, cnt)) ∨ (lkd X p false ≠ 0 ∧ cnt = 80 ∧ r = .error (5, lst X p)) ∨ (lkd X p false ≠ 0 ∧ cnt ≠ 80 ∧ ((∃ e, Stm X D p (.error e) ∧ r = .error e) ∨ ∃ D' p', Stm X D p (.ok (D', p')) ∧ VD D' p' ∧ Rp X n (cnt + 1) D' p' r))
def wPlain : List Nat := [112, 108, 97, 105, 110]
def wBy : List Nat := [98, 121]
def nwD (c r : Nat) : Pl := (fun a k => if a = 0 ∧ k = 0 then c else if a = 0 ∧ k = 1 then r else 0, [], [])
def sdR (X : Tx) : Rq := (wR X 0 false wPlain).bind fun _ => (nuR X (lx X 1 0) true 2 6).bind fun c => (wR X (lx X 2 0) true wBy).bind fun _ => (nuR X (lx X 3 0) true 2 6).bind fun r => if isS X (lx X 4 0) true 59 then .ok (nwD c r, lx X 5 0) else .error (1, lst X (lx X 4 0))
/-- the whole text -/
def PlT (X : Tx) (r : Except E2 (Pl × Nat)) : Prop := (∃ e, sdR X = .error e ∧ r = .error e) ∨ ∃ D p, sdR X = .ok (D, p) ∧ VD D p ∧ ∃ n, Rp X n 1 D p r
theorem nu_ok {X : Tx} {p a b v : Nat} {g : Bool} (h : nuR X p g a b = .ok v) : a ≤ v ∧ v ≤ b := by
  unfold nuR at h
  by_cases h1 : lkd X p g = 2
  · rw [if_pos h1] at h
    by_cases h2 : lnx X p - lst X p ≤ 4
    · rw [if_pos h2] at h
      by_cases h3 : a ≤ nuV X p ∧ nuV X p ≤ b
      · rw [if_pos h3] at h
        have := Except.ok.inj h
        omega
      · rw [if_neg h3] at h
        exact absurd h (by simp)
    · rw [if_neg h2] at h
      exact absurd h (by simp)
  · rw [if_neg h1] at h
    exact absurd h (by simp)
theorem pl_ok {X : Tx} {D : Pl} {p x y : Nat} (hx : nuR X p true 0 (pc D - 1) = .ok x) (hy : nuR X (lnx X p) true 0 (pr D - 1) = .ok y) (h2 : 2 ≤ pc D ∧ pc D ≤ 6 ∧ 2 ≤ pr D ∧ pr D ≤ 6) : cel D (x + 6 * y) ∧ pl D (x + 6 * y) = y * pc D + x ∧ y * pc D + x < 36 ∧ x < 6 ∧ y < 6 := by
  have h1 := nu_ok hx
  have h3 := nu_ok hy
  have hc : cel D (x + 6 * y) := by
    unfold cel
    omega
  have e1 : (x + 6 * y) / 6 = y := by omega
  have e2 : (x + 6 * y) % 6 = x := by omega
  have hp := pl_lt hc
  have ha : pc D * pr D ≤ 36 := by
    have := Nat.mul_le_mul h2.2.1 h2.2.2.2
    omega
  refine ⟨hc, ?_, ?_, by omega, by omega⟩
  · unfold pl
    rw [e1, e2]
  · unfold pl at hp
    rw [e1, e2] at hp
    omega
/-! names -/
theorem na_ok {X : Tx} {p : Nat} {g : Bool} (hp : p ≤ X.2) (h : naR X p g = .ok ()) : NmV (lln X p) ∧ lnx X p - lst X p ≤ 6 ∧ lkd X p g = 1 ∧ fnd (lw X p) (wds 3) = none ∧ lst X p < lnx X p ∧ (∀ j, j < lnx X p - lst X p → 97 ≤ X.1 (lst X p + j) ∧ X.1 (lst X p + j) ≤ 122) := by
  unfold naR at h
  by_cases h1 : lkd X p g = 1 ∧ fnd (lw X p) (wds 3) = none
  · rw [if_pos h1] at h
    by_cases h2 : lnx X p - lst X p ≤ 6
    · have hk := (lkd_k h1.1 (by omega)).1
      have hin := lnx_in hp hk (Or.inl rfl)
      have hn := lnx_p hp
      have hlt : lst X p < lnx X p := by
        refine hn.2.2 ?_
        by_cases e : lst X p < X.2
        · exact e
        · have := lk0_0.mpr e
          omega
      have hc : ∀ j, j < lnx X p - lst X p → 97 ≤ X.1 (lst X p + j) ∧ X.1 (lst X p + j) ≤ 122 := fun j hj => clx_1.mp (hin.1 _ (by omega) (by omega))
      refine ⟨⟨fun k => ?_, ?_, fun k hk0 => ?_, ?_⟩, h2, h1.1, h1.2, hlt, hc⟩
      · unfold lln
        by_cases e : k < lnx X p - lst X p
        · first | refine i_pos e ?_ | rw [if_pos e]
          try (with_reducible rfl)
          have := hc k e
          omega
        · first | refine i_neg e ?_ | rw [if_neg e]
          try (with_reducible rfl)
          omega
      · unfold lln
        first | refine i_pos (by omega) ?_ | rw [if_pos (by omega)]
        try (with_reducible rfl)
        have := hc 0 (by omega)
        omega
      · unfold lln at hk0 ⊢
        by_cases e : k < lnx X p - lst X p
        · rw [if_pos e] at hk0
          have := hc k e
          omega
        · first | refine i_neg (by omega) ?_ | rw [if_neg (by omega)]
          try (with_reducible rfl)
      · unfold lln
        first | refine i_neg (by omega) ?_ | rw [if_neg (by omega)]
        try (with_reducible rfl)
    · rw [if_neg h2] at h
      exact absurd h (by simp)
  · rw [if_neg h1] at h
    exact absurd h (by simp)
theorem nmL_inj {l l' : Nat → Nat} (hl : ∀ k, l k ≤ 26) (hl' : ∀ k, l' k ≤ 26) : ∀ m m', (∀ k, k < m → 1 ≤ l k) → (∀ k, k < m' → 1 ≤ l' k) → nmL l m = nmL l' m' → m = m' ∧ ∀ k, k < m → l k = l' k
  | 0, 0, _, _, _ => ⟨rfl, fun k hk => absurd hk (by omega)⟩
  | 0, m' + 1, _, h', h => by
    have := h' m' (by omega)
    unfold nmL at h
    omega
  | m + 1, 0, h1, _, h => by
    have := h1 m (by omega)
    unfold nmL at h
    omega
  | m + 1, m' + 1, h1, h', h => by
    have a1 := h1 m (by omega)
    have a2 := h' m' (by omega)
    have b1 := hl m
    have b2 := hl' m'
    have h2 : 27 * nmL l m + l m = 27 * nmL l' m' + l' m' := h
    have ih := nmL_inj hl hl' m m' (fun k hk => h1 k (by omega)) (fun k hk => h' k (by omega)) (by omega)
    refine ⟨by omega, fun k hk => ?_⟩
    by_cases e : k = m
    · rw [e]
      have : m = m' := ih.1
      subst this
      omega
    · exact ih.2 k (by omega)
theorem nm_6 {l : Nat → Nat} (h : NmV l) : ∀ k, 6 ≤ k → l k = 0 := by
  intro k hk
  induction k with
  | zero => omega
  | succ k ih =>
    by_cases e : k + 1 = 6
    · rw [e]
      exact h.2.2.2
    · exact h.2.2.1 k (ih (by omega))
theorem nm_iff {l l' : Nat → Nat} (h : NmV l) (h' : NmV l') : nmC l = nmC l' ↔ nmL l (nmK l 6) = nmL l' (nmK l' 6) := by
  obtain ⟨k1, k2, k3⟩ := nmK_ok h
  obtain ⟨k1', k2', k3'⟩ := nmK_ok h'
  constructor
  · intro e
    have e6 : ∀ k, k < 6 → l k = l' k := by
      have b0 := h.1 0
      have b1 := h.1 1
      have b2 := h.1 2
      have b3 := h.1 3
      have b4 := h.1 4
      have b5 := h.1 5
      have c0 := h'.1 0
      have c1 := h'.1 1
      have c2 := h'.1 2
      have c3 := h'.1 3
      have c4 := h'.1 4
      have c5 := h'.1 5
      unfold nmC at e
      intro k hk
      have : k = 0 ∨ k = 1 ∨ k = 2 ∨ k = 3 ∨ k = 4 ∨ k = 5 := by omega
      rcases this with rfl | rfl | rfl | rfl | rfl | rfl <;> omega
    have e7 : l = l' := by
      funext k
      by_cases hk : k < 6
      · exact e6 k hk
      · rw [nm_6 h k (by omega), nm_6 h' k (by omega)]
    rw [e7]
  · intro e
    have := nmL_inj h.1 h'.1 _ _ (fun k hk => by have := (k3 k (by omega)).mp hk; omega) (fun k hk => by have := (k3' k (by omega)).mp hk; omega) e
    have e7 : l = l' := by
      funext k
      by_cases hk : k < nmK l 6
      · exact this.2 k hk
      · by_cases h6 : k < 6
        · have a1 : ¬ (l k ≠ 0) := fun hh => hk ((k3 k h6).mpr hh)
          have a2 : ¬ (l' k ≠ 0) := fun hh => hk (by have := (k3' k h6).mpr hh; omega)
          omega
        · rw [nm_6 h k (by omega), nm_6 h' k (by omega)]
    rw [e7]
theorem nmL_b {l : Nat → Nat} (h : NmV l) : nmL l (nmK l 6) < 387420489 := by
  have h2 := (nmK_ok h).2.1
  have h1 := nmL_lt h.1 (nmK l 6)
  have : 27 ^ nmK l 6 ≤ 27 ^ 6 := Nat.pow_le_pow_right (by omega) h2
  omega
/-! drafts stay as they may be -/
theorem vd_le {D : Pl} {p p' : Nat} (h : VD D p) (hp : p ≤ p') : VD D p' := by
  obtain ⟨a, b, c, d, e, f, g, i⟩ := h
  exact ⟨a, b, c, d, e, f, g, by omega⟩
theorem vd_0 {c r p : Nat} (hc : 2 ≤ c ∧ c ≤ 6) (hr : 2 ≤ r ∧ r ≤ 6) : VD (nwD c r) p := by
  refine ⟨⟨hc.1, hc.2, hr.1, hr.2, ?_, ?_, ?_⟩, fun f hf => absurd hf (Nat.not_lt_zero _), fun f g hf => absurd hf (Nat.not_lt_zero _), fun c hc => absurd hc (Nat.not_lt_zero _), fun c => ⟨Nat.zero_le _, Nat.zero_le _, fun _ => rfl⟩, Or.inl rfl, Or.inl rfl, Nat.zero_le _⟩
  · show 0 < c
    omega
  · show 0 ≤ 6
    omega
  · show 0 ≤ 5
    omega
theorem s0_f {D : Pl} {a k v f : Nat} (h : a < 20) : fnm (s0 D a k v) f = fnm D f := by
  funext j
  exact s0_n (by omega)
theorem s0_c {D : Pl} {a k v f : Nat} (h : a < 20) : cnm (s0 D a k v) f = cnm D f := by
  funext j
  exact s0_n (by omega)
theorem vd_h {D : Pl} {p c h : Nat} (hD : VD D p) (hh : h ≤ 9) : VD (s0 D 5 c h) p := by
  obtain ⟨a, b, c', d, e, f, g, i⟩ := hD
  refine ⟨a, fun x hx => ?_, c', fun x hx => ?_, fun x => ⟨?_, (e x).2⟩, f, g, i⟩
  · rw [s0_f (by omega)]
    exact b x hx
  · rw [s0_c (by omega)]
    exact d x hx
  show (if 5 = 5 ∧ x = c then h else D.1 5 x) ≤ 9
  by_cases q : x = c
  · first | refine i_pos ⟨rfl, q⟩ ?_ | rw [if_pos ⟨rfl, q⟩]
    try (with_reducible rfl)
    exact hh
  · first | refine i_neg (fun h => q h.2) ?_ | rw [if_neg (fun h => q h.2)]
    try (with_reducible rfl)
    exact (e x).1
theorem vd_s {D : Pl} {p c : Nat} (hD : VD D p) (hc : cel D c) : VD (s0 D 6 c 1) p := by
  obtain ⟨a, b, c', d, e, f, g, i⟩ := hD
  refine ⟨a, fun x hx => ?_, c', fun x hx => ?_, fun x => ⟨(e x).1, ?_, ?_⟩, f, g, i⟩
  · rw [s0_f (by omega)]
    exact b x hx
  · rw [s0_c (by omega)]
    exact d x hx
  · show (if 6 = 6 ∧ x = c then 1 else D.1 6 x) ≤ 1
    by_cases q : x = c
    · first | refine i_pos ⟨rfl, q⟩ ?_ | rw [if_pos ⟨rfl, q⟩]
      try (with_reducible rfl)
      exact Nat.le_refl _
    · first | refine i_neg (fun h => q h.2) ?_ | rw [if_neg (fun h => q h.2)]
      try (with_reducible rfl)
      exact (e x).2.1
  · intro hx
    have hx' : ¬ cel D x := hx
    show (if 6 = 6 ∧ x = c then 1 else D.1 6 x) = 0
    first | refine i_neg (fun h => hx' (by rw [h.2]; exact hc)) ?_ | rw [if_neg (fun h => hx' (by rw [h.2]; exact hc))]
    try (with_reducible rfl)
    exact (e x).2.2 hx'
theorem vd_so {D : Pl} {p x : Nat} (hD : VD D p) (hx : x < pc D) : VD (s0 D 0 2 x) p := by
  obtain ⟨a, b, c', d, e, f, g, i⟩ := hD
  refine ⟨⟨a.1, a.2.1, a.2.2.1, a.2.2.2.1, hx, a.2.2.2.2.2.1, a.2.2.2.2.2.2⟩, fun x hx => ?_, c', fun x hx => ?_, e, f, g, i⟩
  · rw [s0_f (by omega)]
    exact b x hx
  · rw [s0_c (by omega)]
    exact d x hx
theorem nwF_e {D D' : Pl} {l : Nat → Nat} {c d i : Nat} (h : D' = nwF D l c d i) : (pc D' = pc D ∧ pr D' = pr D ∧ ps D' = ps D ∧ pf D' = pf D + 1 ∧ pk D' = pk D) ∧ (∀ x, fce D' x = if x = pf D then c else fce D x) ∧ (∀ x, fda D' x = if x = pf D then d else fda D x) ∧ (∀ x, D'.1 7 x = if x = pf D then i else D.1 7 x) ∧ (∀ x, fnm D' x = if x = pf D then l else fnm D x) ∧ (∀ x, cbo D' x = cbo D x ∧ cki D' x = cki D x ∧ D'.1 5 x = D.1 5 x ∧ D'.1 6 x = D.1 6 x) ∧ (∀ x, x < 10 → pf D < 10 → cnm D' x = cnm D x) ∧ D'.2 = D.2 := by
  subst h
  unfold nwF
  refine ⟨⟨?_, ?_, ?_, s0_s, ?_⟩, fun x => ?_, fun x => ?_, fun x => ?_, fun x => ?_, fun x => ⟨?_, ?_, ?_, ?_⟩, fun x h1 h2 => ?_, rfl⟩
  · show (s0 _ 0 3 _).1 0 0 = _
    rw [s0_n (by omega), s0_n (by omega), s0_n (by omega), s0_n (by omega), sN_n (by omega)]
    rfl
  · show (s0 _ 0 3 _).1 0 1 = _
    rw [s0_n (by omega), s0_n (by omega), s0_n (by omega), s0_n (by omega), sN_n (by omega)]
    rfl
  · show (s0 _ 0 3 _).1 0 2 = _
    rw [s0_n (by omega), s0_n (by omega), s0_n (by omega), s0_n (by omega), sN_n (by omega)]
    rfl
  · show (s0 _ 0 3 _).1 0 4 = _
    rw [s0_n (by omega), s0_n (by omega), s0_n (by omega), s0_n (by omega), sN_n (by omega)]
    rfl
  · show (s0 _ 0 3 _).1 1 x = _
    rw [s0_n (by omega), s0_n (by omega), s0_n (by omega)]
    by_cases q : x = pf D
    · first | refine i_pos q ?_ | rw [if_pos q]
      rw [q, s0_s]
    · first | refine i_neg q ?_ | rw [if_neg q]
      rw [s0_n (by omega), sN_n (by omega)]
      rfl
  · show (s0 _ 0 3 _).1 2 x = _
    rw [s0_n (by omega), s0_n (by omega)]
    by_cases q : x = pf D
    · first | refine i_pos q ?_ | rw [if_pos q]
      rw [q, s0_s]
    · first | refine i_neg q ?_ | rw [if_neg q]
      rw [s0_n (by omega), s0_n (by omega), sN_n (by omega)]
      rfl
  · show (s0 _ 0 3 _).1 7 x = _
    rw [s0_n (by omega)]
    by_cases q : x = pf D
    · first | refine i_pos q ?_ | rw [if_pos q]
      rw [q, s0_s]
    · first | refine i_neg q ?_ | rw [if_neg q]
      rw [s0_n (by omega), s0_n (by omega), s0_n (by omega), sN_n (by omega)]
  · funext j
    show (s0 _ 0 3 _).1 (20 + x) j = _
    rw [s0_n (by omega), s0_n (by omega), s0_n (by omega), s0_n (by omega)]
    by_cases q : x = pf D
    · first | refine i_pos q ?_ | rw [if_pos q]
      rw [q, sN_s]
    · first | refine i_neg q ?_ | rw [if_neg q]
      rw [sN_n (by omega)]
      rfl
  · show (s0 _ 0 3 _).1 3 x = _
    rw [s0_n (by omega), s0_n (by omega), s0_n (by omega), s0_n (by omega), sN_n (by omega)]
    rfl
  · show (s0 _ 0 3 _).1 4 x = _
    rw [s0_n (by omega), s0_n (by omega), s0_n (by omega), s0_n (by omega), sN_n (by omega)]
    rfl
  · rw [s0_n (by omega), s0_n (by omega), s0_n (by omega), s0_n (by omega), sN_n (by omega)]
  · rw [s0_n (by omega), s0_n (by omega), s0_n (by omega), s0_n (by omega), sN_n (by omega)]
  · funext j
    show (s0 _ 0 3 _).1 (30 + x) j = _
    rw [s0_n (by omega), s0_n (by omega), s0_n (by omega), s0_n (by omega), sN_n (by omega)]
    rfl
theorem nwK_e {D D' : Pl} {l : Nat → Nat} {b k : Nat} (h : D' = nwK D l b k) : (pc D' = pc D ∧ pr D' = pr D ∧ ps D' = ps D ∧ pf D' = pf D ∧ pk D' = pk D + 1) ∧ (∀ x, cbo D' x = if x = pk D then b else cbo D x) ∧ (∀ x, cki D' x = if x = pk D then k else cki D x) ∧ (∀ x, cnm D' x = if x = pk D then l else cnm D x) ∧ (∀ x, fce D' x = fce D x ∧ fda D' x = fda D x ∧ D'.1 5 x = D.1 5 x ∧ D'.1 6 x = D.1 6 x ∧ D'.1 7 x = D.1 7 x) ∧ (∀ x, x < 10 → fnm D' x = fnm D x) ∧ D'.2 = D.2 := by
  subst h
  unfold nwK
  refine ⟨⟨?_, ?_, ?_, ?_, s0_s⟩, fun x => ?_, fun x => ?_, fun x => ?_, fun x => ⟨?_, ?_, ?_, ?_, ?_⟩, fun x h1 => ?_, rfl⟩
  · show (s0 _ 0 4 _).1 0 0 = _
    rw [s0_n (by omega), s0_n (by omega), s0_n (by omega), sN_n (by omega)]
    rfl
  · show (s0 _ 0 4 _).1 0 1 = _
    rw [s0_n (by omega), s0_n (by omega), s0_n (by omega), sN_n (by omega)]
    rfl
  · show (s0 _ 0 4 _).1 0 2 = _
    rw [s0_n (by omega), s0_n (by omega), s0_n (by omega), sN_n (by omega)]
    rfl
  · show (s0 _ 0 4 _).1 0 3 = _
    rw [s0_n (by omega), s0_n (by omega), s0_n (by omega), sN_n (by omega)]
    rfl
  · show (s0 _ 0 4 _).1 3 x = _
    rw [s0_n (by omega), s0_n (by omega)]
    by_cases q : x = pk D
    · first | refine i_pos q ?_ | rw [if_pos q]
      rw [q, s0_s]
    · first | refine i_neg q ?_ | rw [if_neg q]
      rw [s0_n (by omega), sN_n (by omega)]
      rfl
  · show (s0 _ 0 4 _).1 4 x = _
    rw [s0_n (by omega)]
    by_cases q : x = pk D
    · first | refine i_pos q ?_ | rw [if_pos q]
      rw [q, s0_s]
    · first | refine i_neg q ?_ | rw [if_neg q]
      rw [s0_n (by omega), s0_n (by omega), sN_n (by omega)]
      rfl
  · funext j
    show (s0 _ 0 4 _).1 (30 + x) j = _
    rw [s0_n (by omega), s0_n (by omega), s0_n (by omega)]
    by_cases q : x = pk D
    · first | refine i_pos q ?_ | rw [if_pos q]
      rw [q, sN_s]
    · first | refine i_neg q ?_ | rw [if_neg q]
      rw [sN_n (by omega)]
      rfl
  · show (s0 _ 0 4 _).1 1 x = _
    rw [s0_n (by omega), s0_n (by omega), s0_n (by omega), sN_n (by omega)]
    rfl
  · show (s0 _ 0 4 _).1 2 x = _
    rw [s0_n (by omega), s0_n (by omega), s0_n (by omega), sN_n (by omega)]
    rfl
  · rw [s0_n (by omega), s0_n (by omega), s0_n (by omega), sN_n (by omega)]
  · rw [s0_n (by omega), s0_n (by omega), s0_n (by omega), sN_n (by omega)]
  · rw [s0_n (by omega), s0_n (by omega), s0_n (by omega), sN_n (by omega)]
  · funext j
    show (s0 _ 0 4 _).1 (20 + x) j = _
    rw [s0_n (by omega), s0_n (by omega), s0_n (by omega), sN_n (by omega)]
    rfl
theorem cel_c {D D' : Pl} {x : Nat} (h1 : pc D' = pc D) (h2 : pr D' = pr D) : cel D' x ↔ cel D x := by
  unfold cel
  rw [h1, h2]
theorem vd_f {D D' : Pl} {p c d i : Nat} {l : Nat → Nat} (hD : VD D p) (hf : pf D ≠ 6) (hl : NmV l) (hc : cel D c) (ha : fAt D c = none) (hd : 1 ≤ d ∧ d ≤ 40) (hi : i ≤ 9) (h : D' = nwF D l c d i) : VD D' p := by
  obtain ⟨a, b, c', d', e, f, g, i'⟩ := hD
  obtain ⟨⟨n1, n2, n3, n4, n5⟩, e1, e2, e7, e20, es, e30, ec⟩ := nwF_e h
  have h6 := a.2.2.2.2.2.1
  have hfn := fAt_none ha
  have hcl : ∀ x, cel D' x ↔ cel D x := fun x => cel_c n1 n2
  refine ⟨?_, fun x hx => ?_, fun x y hx hy hxy => ?_, fun k hk => ?_, fun x => ?_, by rw [ec]; exact f, by rw [ec]; exact g, by rw [ec]; exact i'⟩
  · rw [n1, n2, n3, n4, n5]
    omega
  · rw [n4] at hx
    rw [e1, e2, e7, e20, hcl]
    by_cases q : x = pf D
    · first | refine i_pos q ?_ | rw [if_pos q]
      first | refine i_pos q ?_ | rw [if_pos q]
      first | refine i_pos q ?_ | rw [if_pos q]
      first | refine i_pos q ?_ | rw [if_pos q]
      try (with_reducible rfl)
      exact ⟨hc, hd, hi, hl⟩
    · first | refine i_neg q ?_ | rw [if_neg q]
      first | refine i_neg q ?_ | rw [if_neg q]
      first | refine i_neg q ?_ | rw [if_neg q]
      first | refine i_neg q ?_ | rw [if_neg q]
      try (with_reducible rfl)
      exact b x (by omega)
  · rw [n4] at hx hy
    rw [e1, e1] at hxy
    by_cases q : x = pf D
    · rw [if_pos q] at hxy
      by_cases q2 : y = pf D
      · omega
      · rw [if_neg q2] at hxy
        exact absurd hxy.symm (hfn y (by omega))
    · rw [if_neg q] at hxy
      by_cases q2 : y = pf D
      · rw [if_pos q2] at hxy
        exact absurd hxy (hfn x (by omega))
      · rw [if_neg q2] at hxy
        exact c' x y (by omega) (by omega) hxy
  · rw [n5] at hk
    rw [(es k).1, (es k).2.1, e30 k (by omega) (by omega)]
    exact d' k hk
  · rw [(es x).2.2.1, (es x).2.2.2, hcl]
    exact e x
theorem vd_k {D D' : Pl} {p b k : Nat} {l : Nat → Nat} (hD : VD D p) (hf : pk D ≠ 5) (hl : NmV l) (hb : b ≤ 9) (hk : k ≤ 9) (h : D' = nwK D l b k) : VD D' p := by
  obtain ⟨a, b', c', d', e, f, g, i'⟩ := hD
  obtain ⟨⟨n1, n2, n3, n4, n5⟩, e3, e4, e30, es, e20, ec⟩ := nwK_e h
  have hcl : ∀ x, cel D' x ↔ cel D x := fun x => cel_c n1 n2
  refine ⟨?_, fun x hx => ?_, fun x y hx hy hxy => ?_, fun k hk => ?_, fun x => ?_, by rw [ec]; exact f, by rw [ec]; exact g, by rw [ec]; exact i'⟩
  · rw [n1, n2, n3, n4, n5]
    omega
  · rw [n4] at hx
    rw [(es x).1, (es x).2.1, (es x).2.2.2.2, e20 x (by omega), hcl]
    exact b' x hx
  · rw [n4] at hx hy
    rw [(es x).1, (es y).1] at hxy
    exact c' x y hx hy hxy
  · rw [n5] at hk
    rw [e3, e4, e30]
    by_cases q : k = pk D
    · first | refine i_pos q ?_ | rw [if_pos q]
      first | refine i_pos q ?_ | rw [if_pos q]
      first | refine i_pos q ?_ | rw [if_pos q]
      try (with_reducible rfl)
      exact ⟨hb, by omega, hl⟩
    · first | refine i_neg q ?_ | rw [if_neg q]
      first | refine i_neg q ?_ | rw [if_neg q]
      first | refine i_neg q ?_ | rw [if_neg q]
      try (with_reducible rfl)
      exact d' k (by omega)
  · rw [(es x).2.2.1, (es x).2.2.2.1, hcl]
    exact e x
theorem vd_c {X : Tx} {D : Pl} {p p' w : Nat} {c : List Nat} (hD : VD D p) (hw : w = 0 ∨ w = 1) (h : Bs X w p p' false 21 c) : VD (sC D w c) p' := by
  obtain ⟨a, b, c', d', e, f, g, i'⟩ := hD
  obtain ⟨b1, b2, b3, b4, b5⟩ := h
  rcases hw with rfl | rfl
  · exact ⟨a, b, c', d', e, Or.inr ⟨b4, b5⟩, g, by show c.length + D.2.2.length ≤ p'; omega⟩
  · exact ⟨a, b, c', d', e, f, Or.inr ⟨b4, b5⟩, by show D.2.1.length + c.length ≤ p'; omega⟩
