/-! ===== the text: words, numbers and signs ===== -/
theorem lpx {σ : Type} (W : Nat → σ → Prop) (I : Nat → σ → Prop) (hs : ∀ n k s, I k s → (∀ k' s', k' < k → I k' s' → W n s') → W (n + 1) s) : ∀ k s, I k s → ∃ n, W n s := by
  have key : ∀ m k s, k ≤ m → I k s → W (m + 1) s := by
    intro m
    induction m with
    | zero => exact fun k s hk h => hs 0 k s h (fun k' s' hk' _ => absurd hk' (by omega))
    | succ m ih => exact fun k s hk h => hs (m + 1) k s h (fun k' s' hk' h' => ih k' s' (by omega) h')
  exact fun k s h => ⟨_, key k k s (Nat.le_refl _) h⟩
abbrev Tx : Type := (Nat → Nat) × Nat
def go (f : Nat → Bool) : Nat → Nat → Nat
  | 0, p => p
  | m + 1, p => if f p = true then go f m (p + 1) else p
theorem go_u {f : Nat → Bool} : ∀ (m p s : Nat), p ≤ s → s ≤ p + m → (∀ k, p ≤ k → k < s → f k = true) → (f s = false ∨ s = p + m) → go f m p = s
  | 0, p, s, h1, h2, _, _ => by
    show p = s
    omega
  | m + 1, p, s, h1, h2, h3, h4 => by
    show (if f p = true then go f m (p + 1) else p) = s
    by_cases e : s = p
    · rw [e] at h4 ⊢
      rcases h4 with h4 | h4
      · first | refine i_neg (by rw [h4]; simp) ?_ | rw [if_neg (by rw [h4]; simp)]
        try (with_reducible rfl)
      · omega
    · first | refine i_pos (h3 p (Nat.le_refl _) (by omega)) ?_ | rw [if_pos (h3 p (Nat.le_refl _) (by omega))]
      try (with_reducible rfl)
      refine go_u m (p + 1) s (by omega) (by omega) (fun k a b => h3 k (by omega) b) ?_
      rcases h4 with h4 | h4
      · exact Or.inl h4
      · exact Or.inr (by omega)
theorem go_p {f : Nat → Bool} : ∀ (m p : Nat), p ≤ go f m p ∧ go f m p ≤ p + m ∧ (∀ k, p ≤ k → k < go f m p → f k = true) ∧ (f (go f m p) = false ∨ go f m p = p + m)
  | 0, p => ⟨Nat.le_refl _, Nat.le_refl _, fun k a b => absurd b (by show ¬ k < p; omega), Or.inr rfl⟩
  | m + 1, p => by
    by_cases e : f p = true
    · have h := go_p (f := f) m (p + 1)
      have e2 : go f (m + 1) p = go f m (p + 1) := by
        show (if f p = true then go f m (p + 1) else p) = _
        first | refine i_pos e ?_ | rw [if_pos e]
        try (with_reducible rfl)
      rw [e2]
      refine ⟨by omega, by omega, fun k a b => ?_, ?_⟩
      · by_cases ek : k = p
        · rw [ek]
          exact e
        · exact h.2.2.1 k (by omega) b
      · rcases h.2.2.2 with h4 | h4
        · exact Or.inl h4
        · exact Or.inr (by omega)
    · have e2 : go f (m + 1) p = p := by
        show (if f p = true then go f m (p + 1) else p) = _
        first | refine i_neg e ?_ | rw [if_neg e]
        try (with_reducible rfl)
      rw [e2]
      refine ⟨Nat.le_refl _, by omega, fun k a b => absurd b (by omega), Or.inl ?_⟩
      cases h : f p with
      | true => exact absurd h e
      | false => rfl
def isB (b : Nat) : Bool := decide (b = 32 ∨ b = 10)
theorem isB_t {b : Nat} : isB b = true ↔ b = 32 ∨ b = 10 := by
  unfold isB
  exact decide_eq_true_iff
theorem isB_f {b : Nat} : isB b = false ↔ ¬ (b = 32 ∨ b = 10) := by
  unfold isB
  exact decide_eq_false_iff_not
def cls (b : Nat) : Nat := if 97 ≤ b ∧ b ≤ 122 then 1 else if 48 ≤ b ∧ b ≤ 57 then 2 else 3
theorem clx_1 {b : Nat} : cls b = 1 ↔ 97 ≤ b ∧ b ≤ 122 := by
  unfold cls
  by_cases h : 97 ≤ b ∧ b ≤ 122
  · first | refine i_pos h ?_ | rw [if_pos h]
    try (with_reducible rfl)
    exact ⟨fun _ => h, fun _ => rfl⟩
  · first | refine i_neg h ?_ | rw [if_neg h]
    try (with_reducible rfl)
    by_cases h2 : 48 ≤ b ∧ b ≤ 57
    · first | refine i_pos h2 ?_ | rw [if_pos h2]
      try (with_reducible rfl)
      omega
    · first | refine i_neg h2 ?_ | rw [if_neg h2]
      try (with_reducible rfl)
      omega
theorem clx_2 {b : Nat} : cls b = 2 ↔ 48 ≤ b ∧ b ≤ 57 := by
  unfold cls
  by_cases h : 97 ≤ b ∧ b ≤ 122
  · first | refine i_pos h ?_ | rw [if_pos h]
    try (with_reducible rfl)
    omega
  · first | refine i_neg h ?_ | rw [if_neg h]
    try (with_reducible rfl)
    by_cases h2 : 48 ≤ b ∧ b ≤ 57
    · first | refine i_pos h2 ?_ | rw [if_pos h2]
      try (with_reducible rfl)
      exact ⟨fun _ => h2, fun _ => rfl⟩
    · first | refine i_neg h2 ?_ | rw [if_neg h2]
      try (with_reducible rfl)
      omega
theorem clx_r (b : Nat) : cls b = 1 ∨ cls b = 2 ∨ cls b = 3 := by
  unfold cls
  by_cases h : 97 ≤ b ∧ b ≤ 122
  · first | refine i_pos h ?_ | rw [if_pos h]
    try (with_reducible rfl)
    omega
  · first | refine i_neg h ?_ | rw [if_neg h]
    try (with_reducible rfl)
    by_cases h2 : 48 ≤ b ∧ b ≤ 57
    · first | refine i_pos h2 ?_ | rw [if_pos h2]
      try (with_reducible rfl)
      omega
    · first | refine i_neg h2 ?_ | rw [if_neg h2]
      try (with_reducible rfl)
      omega
/-- behind blanks -/
def lst (X : Tx) (p : Nat) : Nat := go (fun k => isB (X.1 k)) (X.2 - p) p
def lk0 (X : Tx) (p : Nat) : Nat := if lst X p < X.2 then cls (X.1 (lst X p)) else 0
/-- what is read next: 0 the end, 1 a word, 2 a number, 3 a sign, 4 glued -/
def lkd (X : Tx) (p : Nat) (g : Bool) : Nat := if (lk0 X p = 1 ∨ lk0 X p = 2) ∧ g = true ∧ lst X p = p then 4 else lk0 X p
/-- behind it -/
def lnx (X : Tx) (p : Nat) : Nat := if lk0 X p = 1 ∨ lk0 X p = 2 then go (fun k => decide (cls (X.1 k) = lk0 X p)) (X.2 - (lst X p + 1)) (lst X p + 1) else min (lst X p + 1) X.2
theorem lst_p {X : Tx} {p : Nat} (h : p ≤ X.2) : p ≤ lst X p ∧ lst X p ≤ X.2 ∧ (∀ k, p ≤ k → k < lst X p → X.1 k = 32 ∨ X.1 k = 10) ∧ (lst X p < X.2 → ¬ (X.1 (lst X p) = 32 ∨ X.1 (lst X p) = 10)) := by
  have g := go_p (f := fun k => isB (X.1 k)) (X.2 - p) p
  refine ⟨g.1, ?_, fun k a b => isB_t.mp (g.2.2.1 k a b), fun hl => ?_⟩
  · have : lst X p ≤ p + (X.2 - p) := g.2.1
    omega
  · rcases g.2.2.2 with h4 | h4
    · exact isB_f.mp h4
    · have h4 : lst X p = p + (X.2 - p) := h4
      omega
theorem lst_u {X : Tx} {p s : Nat} (h1 : p ≤ s) (h2 : s ≤ X.2) (h3 : ∀ k, p ≤ k → k < s → X.1 k = 32 ∨ X.1 k = 10) (h4 : s = X.2 ∨ ¬ (X.1 s = 32 ∨ X.1 s = 10)) : lst X p = s := by
  refine go_u _ _ _ h1 (by omega) (fun k a b => isB_t.mpr (h3 k a b)) ?_
  rcases h4 with h4 | h4
  · exact Or.inr (by omega)
  · exact Or.inl (isB_f.mpr h4)
theorem lst_a {X : Tx} {p a : Nat} (h : p ≤ X.2) (h1 : p ≤ a) (h2 : a ≤ lst X p) : lst X a = lst X p := by
  have g := lst_p h
  refine lst_u h2 g.2.1 (fun k b c => g.2.2.1 k (by omega) c) ?_
  by_cases e : lst X p < X.2
  · exact Or.inr (g.2.2.2 e)
  · exact Or.inl (by omega)
theorem lk0_r (X : Tx) (p : Nat) : lk0 X p = 0 ∨ lk0 X p = 1 ∨ lk0 X p = 2 ∨ lk0 X p = 3 := by
  unfold lk0
  by_cases h : lst X p < X.2
  · first | refine i_pos h ?_ | rw [if_pos h]
    try (with_reducible rfl)
    have := clx_r (X.1 (lst X p))
    omega
  · first | refine i_neg h ?_ | rw [if_neg h]
    try (with_reducible rfl)
    omega
theorem lk0_c {X : Tx} {p : Nat} (h : lst X p < X.2) : lk0 X p = cls (X.1 (lst X p)) := by
  unfold lk0
  first | refine i_pos h ?_ | rw [if_pos h]
  try (with_reducible rfl)
theorem lk0_0 {X : Tx} {p : Nat} : lk0 X p = 0 ↔ ¬ lst X p < X.2 := by
  constructor
  · intro h hl
    rw [lk0_c hl] at h
    have := clx_r (X.1 (lst X p))
    omega
  · intro h
    unfold lk0
    first | refine i_neg h ?_ | rw [if_neg h]
    try (with_reducible rfl)
theorem lkd_r (X : Tx) (p : Nat) (g : Bool) : lkd X p g ≤ 4 := by
  have h := lk0_r X p
  unfold lkd
  by_cases c : (lk0 X p = 1 ∨ lk0 X p = 2) ∧ g = true ∧ lst X p = p
  · first | refine i_pos c ?_ | rw [if_pos c]
    try (with_reducible rfl)
    omega
  · first | refine i_neg c ?_ | rw [if_neg c]
    try (with_reducible rfl)
    omega
theorem lkd_k {X : Tx} {p k : Nat} {g : Bool} (h : lkd X p g = k) (h4 : k ≠ 4) : lk0 X p = k ∧ ¬ ((k = 1 ∨ k = 2) ∧ g = true ∧ lst X p = p) := by
  unfold lkd at h
  by_cases c : (lk0 X p = 1 ∨ lk0 X p = 2) ∧ g = true ∧ lst X p = p
  · rw [if_pos c] at h
    omega
  · rw [if_neg c] at h
    rw [h] at c
    exact ⟨h, c⟩
theorem lnx_p {X : Tx} {p : Nat} (h : p ≤ X.2) : lst X p ≤ lnx X p ∧ lnx X p ≤ X.2 ∧ (lst X p < X.2 → lst X p < lnx X p) := by
  have g := lst_p h
  unfold lnx
  by_cases c : lk0 X p = 1 ∨ lk0 X p = 2
  · first | refine i_pos c ?_ | rw [if_pos c]
    try (with_reducible rfl)
    have hl : lst X p < X.2 := by
      by_cases hl : lst X p < X.2
      · exact hl
      · have := lk0_0.mpr hl
        omega
    have g2 := go_p (f := fun k => decide (cls (X.1 k) = lk0 X p)) (X.2 - (lst X p + 1)) (lst X p + 1)
    have g3 := g2.2.1
    omega
  · first | refine i_neg c ?_ | rw [if_neg c]
    try (with_reducible rfl)
    omega
theorem lnx_3 {X : Tx} {p : Nat} (h : p ≤ X.2) (h3 : lk0 X p = 3) : lnx X p = lst X p + 1 := by
  have hl : lst X p < X.2 := by
    by_cases hl : lst X p < X.2
    · exact hl
    · have := lk0_0.mpr hl
      omega
  unfold lnx
  first | refine i_neg (by omega) ?_ | rw [if_neg (by omega)]
  try (with_reducible rfl)
  omega
theorem lnx_u {X : Tx} {p s k : Nat} (hp : p ≤ X.2) (hk : lk0 X p = k) (hk2 : k = 1 ∨ k = 2) (h1 : lst X p < s) (h2 : s ≤ X.2) (h3 : ∀ j, lst X p ≤ j → j < s → cls (X.1 j) = k) (h4 : s = X.2 ∨ cls (X.1 s) ≠ k) : lnx X p = s := by
  unfold lnx
  first | refine i_pos (by omega) ?_ | rw [if_pos (by omega)]
  try (with_reducible rfl)
  refine go_u _ _ _ h1 (by omega) (fun j a b => ?_) ?_
  · rw [hk]
    exact decide_eq_true (h3 j (by omega) b)
  · rcases h4 with h4 | h4
    · exact Or.inr (by omega)
    · rw [hk]
      exact Or.inl (decide_eq_false h4)
theorem lnx_in {X : Tx} {p k : Nat} (hp : p ≤ X.2) (hk : lk0 X p = k) (hk2 : k = 1 ∨ k = 2) : (∀ j, lst X p ≤ j → j < lnx X p → cls (X.1 j) = k) ∧ (lnx X p = X.2 ∨ cls (X.1 (lnx X p)) ≠ k) := by
  have hl : lst X p < X.2 := by
    by_cases hl : lst X p < X.2
    · exact hl
    · have := lk0_0.mpr hl
      omega
  have g2 := go_p (f := fun k => decide (cls (X.1 k) = lk0 X p)) (X.2 - (lst X p + 1)) (lst X p + 1)
  have e : lnx X p = go (fun k => decide (cls (X.1 k) = lk0 X p)) (X.2 - (lst X p + 1)) (lst X p + 1) := by
    unfold lnx
    first | refine i_pos (by omega) ?_ | rw [if_pos (by omega)]
    try (with_reducible rfl)
  rw [← e] at g2
  refine ⟨fun j a b => ?_, ?_⟩
  · by_cases ej : j = lst X p
    · rw [ej, ← lk0_c hl]
      exact hk
    · have := g2.2.2.1 j (by omega) b
      rw [← hk]
      exact of_decide_eq_true this
  · rcases g2.2.2.2 with h | h
    · rw [← hk]
      exact Or.inr (of_decide_eq_false h)
    · exact Or.inl (by omega)
/-- the letters of the word that is next -/
def lw (X : Tx) (p : Nat) : List Nat := (List.range (lnx X p - lst X p)).map (fun i => X.1 (lst X p + i))
theorem lw_len (X : Tx) (p : Nat) : (lw X p).length = lnx X p - lst X p := by
  unfold lw
  rw [List.length_map, List.length_range]
theorem lw_eq {X : Tx} {p : Nat} {w : List Nat} : lw X p = w ↔ lnx X p - lst X p = w.length ∧ ∀ i, i < w.length → X.1 (lst X p + i) = w.getD i 0 := by
  constructor
  · intro h
    rw [← h, lw_len]
    refine ⟨rfl, fun i hi => ?_⟩
    unfold lw
    rw [List.getD_eq_getElem?_getD, List.getElem?_map, List.getElem?_range hi]
    rfl
  · rintro ⟨h1, h2⟩
    apply List.ext_getElem?
    intro i
    by_cases hi : i < w.length
    · have h3 := h2 i hi
      unfold lw
      rw [List.getElem?_map, h1, List.getElem?_range hi, List.getElem?_eq_getElem hi]
      rw [List.getD_eq_getElem?_getD, List.getElem?_eq_getElem hi] at h3
      show some (X.1 (lst X p + i)) = _
      rw [h3]
      rfl
    · rw [List.getElem?_eq_none (by rw [lw_len]; omega), List.getElem?_eq_none (by omega)]
/-- the class's tape -/
def Txt (u : St) (X : Tx) : Prop := X.2 ≤ 1600 ∧ u.1 1 1 = nI X.2 ∧ ∀ k, k < X.2 → u.1 2 k = nI (X.1 k) ∧ X.1 k < 256
def Tk (u : St) (X : Tx) (p : Nat) (g : Bool) : Prop := Txt u X ∧ p ≤ X.2 ∧ u.1 1 2 = nI (lkd X p g) ∧ u.1 1 3 = nI (lst X p) ∧ u.1 1 4 = nI (lnx X p) ∧ u.1 1 5 = 0 ∧ u.1 1 6 = -1
def Tf (u : St) (X : Tx) (e : Nat × Nat) : Prop := Txt u X ∧ u.1 1 2 = 5 ∧ u.1 1 5 = nI e.1 ∧ (0 < e.1 ∧ e.1 < 10) ∧ u.1 1 6 = nI e.2 ∧ e.2 ≤ 1600
def SX (a k : Nat) : Prop := ¬ (a = 1 ∧ 2 ≤ k ∧ k ≤ 6)
theorem txt_K {S : Nat → Nat → Prop} {u u' : St} {X : Tx} (h : Txt u X) (hK : Kp S u u') (h1 : S 1 1) (h2 : ∀ k, S 2 k) : Txt u' X := by
  refine ⟨h.1, by rw [hK.1 1 1 h1]; exact h.2.1, fun k hk => ?_⟩
  rw [hK.1 2 k (h2 k)]
  exact h.2.2 k hk
theorem tk_K {S : Nat → Nat → Prop} {u u' : St} {X : Tx} {p : Nat} {g : Bool} (h : Tk u X p g) (hK : Kp S u u') (h1 : ∀ a k, a = 1 ∨ a = 2 → S a k) : Tk u' X p g := by
  obtain ⟨a1, a2, a3, a4, a5, a6, a7⟩ := h
  refine ⟨txt_K a1 hK (h1 _ _ (by omega)) (fun k => h1 _ _ (by omega)), a2, ?_, ?_, ?_, ?_, ?_⟩
  · rw [hK.1 1 2 (h1 _ _ (by omega))]
    exact a3
  · rw [hK.1 1 3 (h1 _ _ (by omega))]
    exact a4
  · rw [hK.1 1 4 (h1 _ _ (by omega))]
    exact a5
  · rw [hK.1 1 5 (h1 _ _ (by omega))]
    exact a6
  · rw [hK.1 1 6 (h1 _ _ (by omega))]
    exact a7
theorem tf_K {S : Nat → Nat → Prop} {u u' : St} {X : Tx} {e : Nat × Nat} (h : Tf u X e) (hK : Kp S u u') (h1 : ∀ a k, a = 1 ∨ a = 2 → S a k) : Tf u' X e := by
  obtain ⟨a1, a2, a3, a4, a5, a6⟩ := h
  refine ⟨txt_K a1 hK (h1 _ _ (by omega)) (fun k => h1 _ _ (by omega)), ?_, ?_, a4, ?_, a6⟩
  · rw [hK.1 1 2 (h1 _ _ (by omega))]
    exact a2
  · rw [hK.1 1 5 (h1 _ _ (by omega))]
    exact a3
  · rw [hK.1 1 6 (h1 _ _ (by omega))]
    exact a5
theorem q_kindOf {b : Nat} {Q : Int32 → St → Prop} {u : St} (hb : b < 256) (hQ : Q (nI (cls b)) u) : s_X9_kindOf (nI b) Q u := by
  unfold s_X9_kindOf sX9_kindOf_p14
  have h97 : (nI b < (97 : Int32)) = (b < 97) := x_lt (b := 97) (by omega) (by omega)
  have h122 : ((122 : Int32) < nI b) = (122 < b) := x_lt (a := 122) (by omega) (by omega)
  have h48 : (nI b < (48 : Int32)) = (b < 48) := x_lt (b := 48) (by omega) (by omega)
  have h57 : ((57 : Int32) < nI b) = (57 < b) := x_lt (a := 57) (by omega) (by omega)
  unfold cls at hQ
  by_cases c1 : 97 ≤ b ∧ b ≤ 122
  · rw [if_pos c1] at hQ
    exact i_neg (fun h => absurd (h97.mp h) (by omega)) (i_neg (fun h => absurd (h122.mp h) (by omega)) hQ)
  · rw [if_neg c1] at hQ
    have key : (if nI b < (48 : Int32) then Q 3 u else if (57 : Int32) < nI b then Q 3 u else Q 2 u) := by
      by_cases c2 : 48 ≤ b ∧ b ≤ 57
      · rw [if_pos c2] at hQ
        exact i_neg (fun h => absurd (h48.mp h) (by omega)) (i_neg (fun h => absurd (h57.mp h) (by omega)) hQ)
      · rw [if_neg c2] at hQ
        by_cases c3 : b < 48
        · exact i_pos (h48.mpr c3) hQ
        · exact i_neg (fun h => c3 (h48.mp h)) (i_pos (h57.mpr (by omega)) hQ)
    by_cases c3 : b < 97
    · exact i_pos (h97.mpr c3) key
    · exact i_neg (fun h => c3 (h97.mp h)) (i_pos (h122.mpr (by omega)) key)
theorem nI_e {a b : Nat} (ha : a < 2147483648) (hb : b < 2147483648) : nI a = nI b ↔ a = b := nI_eq ha hb
/-- what stands behind the start is found -/
theorem q_adv191 {X : Tx} {p s : Nat} {g : Bool} {v1 : Int32} {Q : St → Prop} {u z : St} (hp : p ≤ X.2) (hv : (g = true ∧ v1 = 1) ∨ (g = false ∧ v1 = 0)) (ht : Txt z X) (hk : lk0 X p = 1 ∨ lk0 X p = 2) (hK : Kp SX u z) (z2 : z.1 1 2 = nI (lk0 X p)) (z3 : z.1 1 3 = nI (lst X p)) (z4 : z.1 1 4 = nI s) (hs : s = lnx X p) (z5 : z.1 1 5 = 0) (z6 : z.1 1 6 = -1) (hQ : ∀ u', Kp SX u u' → Tk u' X p g → Q u') : sX9_advance_p191 v1 (nI p) Q z := by
  have h16 := ht.1
  have hl := lst_p hp
  unfold sX9_advance_p191 sX9_advance_p208 sX9_advance_p212
  have fin : ∀ k : Nat, k = lkd X p g → Q (tI z 1 2 (nI k)) := by
    intro k hk2
    refine hQ _ (kp_I hK (by unfold SX; omega)) ⟨⟨ht.1, by rw [t_n _ _ (by omega)]; exact ht.2.1, fun j hj => by rw [t_n _ _ (by omega)]; exact ht.2.2 j hj⟩, hp, by rw [t_s, hk2], by rw [t_n _ _ (by omega)]; exact z3, by rw [t_n _ _ (by omega), z4, hs], by rw [t_n _ _ (by omega)]; exact z5, by rw [t_n _ _ (by omega)]; exact z6⟩
  rcases hv with ⟨rfl, rfl⟩ | ⟨rfl, rfl⟩
  · refine i_neg (by first | decide | (unfold vp_in; decide)) ?_
    rw [z3]
    by_cases e : lst X p = p
    · refine i_pos (by rw [e]) (bnd_i (fin 4 ?_))
      unfold lkd
      first | refine i_pos ⟨hk, rfl, e⟩ ?_ | rw [if_pos ⟨hk, rfl, e⟩]
      try (with_reducible rfl)
    · refine i_neg (fun h => e ((nI_e (by omega) (by omega)).mp h)) (bnd_i ?_)
      rw [z2]
      refine fin _ ?_
      unfold lkd
      first | refine i_neg (fun h => e h.2.2) ?_ | rw [if_neg (fun h => e h.2.2)]
      try (with_reducible rfl)
  · refine i_pos rfl (bnd_i ?_)
    rw [z2]
    refine fin _ ?_
    unfold lkd
    first | refine i_neg (fun h => absurd h.2.1 (by simp)) ?_ | rw [if_neg (fun h => absurd h.2.1 (by simp))]
    try (with_reducible rfl)
theorem q_adv21 {X : Tx} {p : Nat} {g : Bool} {v1 : Int32} {Q : St → Prop} {u : St} (hv : (g = true ∧ v1 = 1) ∨ (g = false ∧ v1 = 0)) (ht : Txt u X) (hp : p ≤ X.2) (h4 : u.1 1 4 = nI p) (h5 : u.1 1 5 = 0) (h6 : u.1 1 6 = -1) (hQ : ∀ u', Kp SX u u' → Tk u' X p g → Q u') : sX9_advance_p21 v1 Q u := by
  have h16 := ht.1
  have hl := lst_p hp
  unfold sX9_advance_p21
  refine bnd_i ?_
  rw [h4]
  unfold sX9_advance_p32
  refine lpx (fun n s => sX9_advance_p32n v1 (nI p) Q n s) (fun k s => ∃ a, s.1 1 3 = nI a ∧ p ≤ a ∧ a ≤ X.2 ∧ k = X.2 - a ∧ (∀ j, p ≤ j → j < a → X.1 j = 32 ∨ X.1 j = 10) ∧ Kp (fun b j => ¬ (b = 1 ∧ j = 3)) u s) ?_ (X.2 - p) _ ⟨p, t_s _ _ _ _, Nat.le_refl _, hp, rfl, fun j a b => absurd b (by omega), kp_I (kp_r u) (by omega)⟩
  rintro n k s ⟨a, s3, ha1, ha2, hk, hbl, hK⟩ hnext
  show sX9_advance_p32b v1 (nI p) Q (sX9_advance_p32n v1 (nI p) Q n) s
  unfold sX9_advance_p32b sX9_advance_p71
  have hts : Txt s X := txt_K ht hK (by omega) (fun k => by omega)
  have s5 : s.1 1 5 = 0 := by rw [hK.1 1 5 (by omega)]; exact h5
  have s6 : s.1 1 6 = -1 := by rw [hK.1 1 6 (by omega)]; exact h6
  have hKX : Kp SX u s := kp_m hK (fun b j h => by unfold SX at h; omega)
  rw [s3, hts.2.1]
  have hend : (a = X.2 ∨ ¬ (X.1 a = 32 ∨ X.1 a = 10)) → sX9_advance_p84 v1 (nI p) Q s := by
    intro hor
    have ea : lst X p = a := lst_u ha1 ha2 hbl hor
    unfold sX9_advance_p84
    rw [s3, hts.2.1]
    have h112 : ∀ kd : Nat, kd = lk0 X p → sX9_advance_p112 v1 (nI p) (nI kd) Q s := by
      intro kd hkd
      have hr := lk0_r X p
      unfold sX9_advance_p112
      refine bnd_i ?_
      rw [t_n (k' := 3) _ _ (by omega), t_n (k' := 1) _ _ (by omega), s3, hts.2.1, nI_1]
      refine min_nI (by omega) (by omega) (bnd_i ?_)
      have z2 : (tI (tI s 1 2 (nI kd)) 1 4 (nI (min (a + 1) X.2))).1 1 2 = nI (lk0 X p) := by rw [t_n _ _ (by omega), t_s, hkd]
      have z3 : (tI (tI s 1 2 (nI kd)) 1 4 (nI (min (a + 1) X.2))).1 1 3 = nI (lst X p) := by rw [t_n _ _ (by omega), t_n _ _ (by omega), s3, ea]
      have z4 : (tI (tI s 1 2 (nI kd)) 1 4 (nI (min (a + 1) X.2))).1 1 4 = nI (min (a + 1) X.2) := t_s _ _ _ _
      have z5 : (tI (tI s 1 2 (nI kd)) 1 4 (nI (min (a + 1) X.2))).1 1 5 = 0 := by rw [t_n _ _ (by omega), t_n _ _ (by omega)]; exact s5
      have z6 : (tI (tI s 1 2 (nI kd)) 1 4 (nI (min (a + 1) X.2))).1 1 6 = -1 := by rw [t_n _ _ (by omega), t_n _ _ (by omega)]; exact s6
      have zK : Kp SX u (tI (tI s 1 2 (nI kd)) 1 4 (nI (min (a + 1) X.2))) := kp_I (kp_I hKX (by unfold SX; omega)) (by unfold SX; omega)
      have zt : Txt (tI (tI s 1 2 (nI kd)) 1 4 (nI (min (a + 1) X.2))) X := txt_K (S := SX) ht zK (by unfold SX; omega) (fun k => by unfold SX; omega)
      generalize (tI (tI s 1 2 (nI kd)) 1 4 (nI (min (a + 1) X.2))) = z at z2 z3 z4 z5 z6 zK zt
      by_cases hk12 : lk0 X p = 1 ∨ lk0 X p = 2
      · have hal : a < X.2 := by
          by_cases hl2 : lst X p < X.2
          · omega
          · have := lk0_0.mpr hl2
            omega
        have hloop : sX9_advance_p148 v1 (nI p) Q z := by
          unfold sX9_advance_p148
          refine lpx (fun n s => sX9_advance_p148n v1 (nI p) Q n s) (fun k y => ∃ b, y.1 1 4 = nI b ∧ a < b ∧ b ≤ X.2 ∧ k = X.2 - b ∧ (∀ j, a ≤ j → j < b → cls (X.1 j) = lk0 X p) ∧ Kp (fun b j => ¬ (b = 1 ∧ j = 4)) z y) ?_ (X.2 - (a + 1)) z ⟨a + 1, by rw [z4, show min (a + 1) X.2 = a + 1 by omega], by omega, by omega, rfl, fun j h1 h2 => by rw [show j = lst X p by omega, ← lk0_c (by omega)], kp_r z⟩
          rintro n2 k2 y ⟨b, y4, hb1, hb2, hk2, hcl, hKy⟩ hnext2
          show sX9_advance_p148b v1 (nI p) Q (sX9_advance_p148n v1 (nI p) Q n2) y
          unfold sX9_advance_p148b
          have ty : Txt y X := txt_K zt hKy (by omega) (fun k => by omega)
          have y2 : y.1 1 2 = nI (lk0 X p) := by rw [hKy.1 1 2 (by omega)]; exact z2
          have y3 : y.1 1 3 = nI (lst X p) := by rw [hKy.1 1 3 (by omega)]; exact z3
          have y5 : y.1 1 5 = 0 := by rw [hKy.1 1 5 (by omega)]; exact z5
          have y6 : y.1 1 6 = -1 := by rw [hKy.1 1 6 (by omega)]; exact z6
          have yK : Kp SX u y := kp_t zK (kp_m hKy (fun b j h => by unfold SX at h; omega))
          have h191 : (b = X.2 ∨ cls (X.1 b) ≠ lk0 X p) → sX9_advance_p191 v1 (nI p) Q y := by
            intro hor2
            refine q_adv191 hp hv ty hk12 yK y2 y3 y4 ?_ y5 y6 hQ
            exact (lnx_u hp rfl hk12 (by omega) hb2 (fun j h1 h2 => hcl j (by omega) h2) hor2).symm
          rw [y4, ty.2.1]
          by_cases hbe : b = X.2
          · exact i_pos (nI_le (by omega) (by omega)) (h191 (Or.inl hbe))
          refine i_neg (nI_ge (by omega) (by omega)) ?_
          rw [nI_clamp (by omega), (ty.2.2 b (by omega)).1]
          refine ⟨vp_in_nI (by omega) (by omega), ?_⟩
          refine q_kindOf (ty.2.2 b (by omega)).2 ?_
          have hcr := clx_r (X.1 b)
          rw [y2]
          by_cases hce : cls (X.1 b) = lk0 X p
          · refine i_pos (by rw [hce]) (bnd_i ?_)
            rw [y4, nI_1]
            refine hnext2 (X.2 - (b + 1)) _ (by omega) ⟨b + 1, t_s _ _ _ _, by omega, by omega, rfl, fun j h1 h2 => ?_, kp_I hKy (by omega)⟩
            by_cases ej : j = b
            · rw [ej]
              exact hce
            · exact hcl j h1 (by omega)
          · exact i_neg (fun h => hce ((nI_e (by omega) (by omega)).mp h)) (h191 (Or.inr hce))
        rw [z2]
        by_cases hk1 : lk0 X p = 1
        · exact i_pos (by rw [hk1]; rfl) hloop
        · have hk2 : lk0 X p = 2 := by omega
          exact i_neg (by rw [hk2]; decide) (i_pos (by rw [hk2]; rfl) hloop)
      · have n1 : ¬ nI (lk0 X p) = (1 : Int32) := x_ne (k := 1) (by omega) (by omega) (by omega)
        have n2 : ¬ nI (lk0 X p) = (2 : Int32) := x_ne (k := 2) (by omega) (by omega) (by omega)
        rw [z2]
        refine i_neg n1 (i_neg n2 (hQ z zK ⟨zt, hp, ?_, z3, ?_, z5, z6⟩))
        · rw [z2]
          unfold lkd
          first | refine i_neg (fun h => hk12 h.1) ?_ | rw [if_neg (fun h => hk12 h.1)]
          try (with_reducible rfl)
        · rw [z4]
          unfold lnx
          first | refine i_neg hk12 ?_ | rw [if_neg hk12]
          rw [ea]
    by_cases hae : a = X.2
    · refine i_pos (nI_le (by omega) (by omega)) (h112 0 ?_)
      exact (lk0_0.mpr (by omega)).symm
    · refine i_neg (nI_ge (by omega) (by omega)) ?_
      rw [nI_clamp (by omega), (hts.2.2 a (by omega)).1]
      refine ⟨vp_in_nI (by omega) (by omega), ?_⟩
      refine q_kindOf (hts.2.2 a (by omega)).2 (h112 _ ?_)
      rw [lk0_c (by omega), ea]
  by_cases hae : a = X.2
  · exact i_pos (nI_le (by omega) (by omega)) (hend (Or.inl hae))
  refine i_neg (nI_ge (by omega) (by omega)) ?_
  have hb := hts.2.2 a (by omega)
  rw [nI_clamp (by omega), hb.1]
  refine ⟨vp_in_nI (by omega) (by omega), ?_⟩
  have hgo : (X.1 a = 32 ∨ X.1 a = 10) → bnd (tI s 1 3 (nI a + 1)) (fun u8 => sX9_advance_p32n v1 (nI p) Q n u8) := by
    intro hbl2
    refine bnd_i ?_
    rw [nI_1]
    refine hnext (X.2 - (a + 1)) _ (by omega) ⟨a + 1, t_s _ _ _ _, by omega, by omega, rfl, fun j h1 h2 => ?_, kp_I hK (by omega)⟩
    by_cases ej : j = a
    · rw [ej]
      exact hbl2
    · exact hbl j h1 (by omega)
  by_cases c1 : X.1 a = 32
  · exact i_pos (by rw [c1]; rfl) (hgo (Or.inl c1))
  have c1' : ¬ nI (X.1 a) = (32 : Int32) := x_ne (k := 32) (by omega) (by omega) c1
  refine i_neg c1' ?_
  by_cases c2 : X.1 a = 10
  · exact i_pos (by rw [c2]; rfl) (hgo (Or.inr c2))
  have c2' : ¬ nI (X.1 a) = (10 : Int32) := x_ne (k := 10) (by omega) (by omega) c2
  exact i_neg c2' (hend (Or.inr (by omega)))
theorem q_advance {X : Tx} {p : Nat} {g : Bool} {Q : St → Prop} {u : St} (h : Tk u X p g) (hk : lkd X p g = 1 ∨ lkd X p g = 2 ∨ lkd X p g = 3) (hQ : ∀ u', Kp SX u u' → Tk u' X (lnx X p) (decide (lkd X p g ≠ 3)) → Q u') : s_X9_advance Q u := by
  obtain ⟨a1, a2, a3, a4, a5, a6, a7⟩ := h
  have hn := lnx_p a2
  unfold s_X9_advance sX9_advance_p16
  rw [a3]
  rcases hk with e | e | e
  · rw [e] at hQ ⊢
    exact i_pos rfl (q_adv21 (Or.inl ⟨rfl, rfl⟩) a1 hn.2.1 a5 a6 a7 hQ)
  · rw [e] at hQ ⊢
    exact i_neg (by first | decide | (unfold vp_in; decide)) (i_pos rfl (q_adv21 (Or.inl ⟨rfl, rfl⟩) a1 hn.2.1 a5 a6 a7 hQ))
  · rw [e] at hQ ⊢
    exact i_neg (by first | decide | (unfold vp_in; decide)) (i_neg (by first | decide | (unfold vp_in; decide)) (q_adv21 (Or.inr ⟨rfl, rfl⟩) a1 hn.2.1 a5 a6 a7 hQ))
theorem q_rewind {X : Tx} {Q : St → Prop} {u : St} (h : Txt u X) (hQ : ∀ u', Kp SX u u' → Tk u' X 0 false → Q u') : s_X9_rewind Q u := by
  unfold s_X9_rewind
  refine bnd_i (bnd_i (bnd_i (bnd_i ?_)))
  have hK : Kp SX u (tI (tI (tI (tI u 1 5 0) 1 6 (-1)) 1 2 3) 1 4 0) := kp_I (kp_I (kp_I (kp_I (kp_r u) (by unfold SX; omega)) (by unfold SX; omega)) (by unfold SX; omega)) (by unfold SX; omega)
  have z2 : (tI (tI (tI (tI u 1 5 0) 1 6 (-1)) 1 2 3) 1 4 0).1 1 2 = 3 := by rw [t_n _ _ (by omega), t_s]
  have z4 : (tI (tI (tI (tI u 1 5 0) 1 6 (-1)) 1 2 3) 1 4 0).1 1 4 = nI 0 := t_s _ _ _ _
  have z5 : (tI (tI (tI (tI u 1 5 0) 1 6 (-1)) 1 2 3) 1 4 0).1 1 5 = 0 := by rw [t_n _ _ (by omega), t_n _ _ (by omega), t_n _ _ (by omega), t_s]
  have z6 : (tI (tI (tI (tI u 1 5 0) 1 6 (-1)) 1 2 3) 1 4 0).1 1 6 = -1 := by rw [t_n _ _ (by omega), t_n _ _ (by omega), t_s]
  generalize (tI (tI (tI (tI u 1 5 0) 1 6 (-1)) 1 2 3) 1 4 0) = z at hK z2 z4 z5 z6
  have ht : Txt z X := txt_K h hK (by unfold SX; omega) (fun k => by unfold SX; omega)
  unfold s_X9_advance
  rw [z2]
  exact i_neg (by first | decide | (unfold vp_in; decide)) (i_neg (by first | decide | (unfold vp_in; decide)) (q_adv21 (Or.inr ⟨rfl, rfl⟩) ht (Nat.zero_le _) z4 z5 z6 (fun u' k t => hQ u' (kp_t hK k) t)))
theorem q_fail {X : Tx} {p f a : Nat} {g : Bool} {Q : St → Prop} {u : St} (h : Tk u X p g) (hf : 0 < f ∧ f < 10) (ha : a ≤ 1600) (hQ : ∀ u', Kp SX u u' → Tf u' X (f, a) → Q u') : s_X9_fail (nI f) (nI a) Q u := by
  obtain ⟨a1, a2, a3, a4, a5, a6, a7⟩ := h
  unfold s_X9_fail
  rw [a6]
  refine i_pos rfl (bnd_i (bnd_i (bnd_i ?_)))
  have hK : Kp SX u (tI (tI (tI u 1 5 (nI f)) 1 6 (nI a)) 1 2 5) := kp_I (kp_I (kp_I (kp_r u) (by unfold SX; omega)) (by unfold SX; omega)) (by unfold SX; omega)
  refine hQ _ hK ⟨txt_K a1 hK (by unfold SX; omega) (fun k => by unfold SX; omega), t_s _ _ _ _, ?_, hf, ?_, ha⟩
  · rw [t_n _ _ (by omega), t_n _ _ (by omega), t_s]
  · rw [t_n _ _ (by omega), t_s]
theorem q_failF {X : Tx} {e : Nat × Nat} {v1 v2 : Int32} {Q : St → Prop} {u : St} (h : Tf u X e) (hQ : Q u) : s_X9_fail v1 v2 Q u := by
  obtain ⟨a1, a2, a3, a4, a5, a6⟩ := h
  unfold s_X9_fail
  rw [a3]
  exact i_neg (nI_ne0 (by omega) (by omega)) hQ
/-- is this sign next -/
abbrev isS (X : Tx) (p : Nat) (g : Bool) (c : Nat) : Prop := lkd X p g = 3 ∧ X.1 (lst X p) = c
theorem q_isSign {X : Tx} {p c : Nat} {g : Bool} {Q : Int32 → St → Prop} {u : St} (h : Tk u X p g) (hc : c < 256) (h1 : isS X p g c → Q 1 u) (h0 : ¬ isS X p g c → Q 0 u) : s_X9_isSign (nI c) Q u := by
  obtain ⟨a1, a2, a3, a4, a5, a6, a7⟩ := h
  have hr := lkd_r X p g
  have h16 := a1.1
  unfold s_X9_isSign
  rw [a3, a4]
  by_cases e : lkd X p g = 3
  · have hl : lst X p < X.2 := by
      by_cases hl : lst X p < X.2
      · exact hl
      · have := lk0_0.mpr hl
        have := (lkd_k e (by omega)).1
        omega
    have hb := a1.2.2 _ hl
    rw [e, nI_clamp (by omega), hb.1]
    refine i_pos rfl ⟨vp_in_nI (by omega) (by omega), ?_⟩
    by_cases ec : X.1 (lst X p) = c
    · exact i_pos (by rw [ec]) (h1 ⟨e, ec⟩)
    · exact i_neg (fun h => ec ((nI_e (by omega) (by omega)).mp h)) (h0 (fun h => ec h.2))
  · exact i_neg (x_ne (k := 3) (by omega) (by omega) e) (h0 (fun h => e h.1))
theorem q_isSignF {X : Tx} {e : Nat × Nat} {c : Int32} {Q : Int32 → St → Prop} {u : St} (h : Tf u X e) (h0 : Q 0 u) : s_X9_isSign c Q u := by
  unfold s_X9_isSign
  rw [h.2.1]
  exact i_neg (by first | decide | (unfold vp_in; decide)) h0
theorem q_takeSign {X : Tx} {p c : Nat} {g : Bool} {Q : St → Prop} {u : St} (h : Tk u X p g) (hc : c < 256) (h1 : ∀ u', isS X p g c → Kp SX u u' → Tk u' X (lnx X p) false → Q u') (h0 : ∀ u', ¬ isS X p g c → Kp SX u u' → Tf u' X (1, lst X p) → Q u') : s_X9_takeSign (nI c) Q u := by
  unfold s_X9_takeSign
  have hl := lst_p h.2.1
  have h16 := h.1.1
  refine q_isSign h hc (fun hs => ?_) (fun hs => ?_)
  · refine i_neg (by first | decide | (unfold vp_in; decide)) (q_advance h (Or.inr (Or.inr hs.1)) (fun u' k t => h1 u' hs k ?_))
    rw [hs.1] at t
    exact t
  · refine i_pos rfl ?_
    rw [h.2.2.2.1]
    exact q_fail (f := 1) h (by omega) (by omega) (fun u' k t => h0 u' hs k t)
theorem q_takeSignF {X : Tx} {e : Nat × Nat} {c : Int32} {Q : St → Prop} {u : St} (h : Tf u X e) (hQ : Q u) : s_X9_takeSign c Q u := by
  unfold s_X9_takeSign
  exact q_isSignF h (i_pos rfl (q_failF h hQ))
