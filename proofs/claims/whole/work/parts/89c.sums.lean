/-! ===== SUMS, pure: what the reference's two piles do ===== -/
abbrev Rs : Type := Except (Nat × Nat) (Nat × Bool × List Nat)
def wMin : List Nat := [109, 105, 110]
def wMax : List Nat := [109, 97, 120]
def wWet : List Nat := [119, 101, 116]
def wStep : List Nat := [115, 116, 101, 112]
def al (tk f : Nat) : Bool := if tk = 0 then decide (f < 8) else if tk = 1 then decide (f < 3 ∨ f = 8) else decide (f < 3 ∨ f = 5 ∨ 8 < f)
def fac (X : Tx) (tk p : Nat) (g : Bool) : Option Nat := match wIn X p g (wds 13) with
  | some f => if al tk f = true then some f else none
  | none => none
def isBr (x : Nat) : Bool := decide (20 ≤ x ∧ x ≤ 24)
def brk (W : List Nat) : Option Nat := (W.dropWhile (fun x => !isBr x)).head?
def abv (W : List Nat) : List Nat := W.takeWhile (fun x => !isBr x)
def bel (W : List Nat) : List Nat := (W.dropWhile (fun x => !isBr x)).tail
def is34 (x : Nat) : Bool := decide (x = 3 ∨ x = 4)
def is14 (x : Nat) : Bool := decide (x = 1 ∨ x = 2 ∨ x = 3 ∨ x = 4)
def Rn (X : Tx) (tk : Nat) : Nat → Nat → Nat → Bool → List Nat → List Nat → Nat → Rs → Prop
  | 0, _, _, _, _, _, _, _ => False
  | k + 1, m, p, g, W, C, o, r =>
    if m = 0 then
      (if isS X p g 40 then (if o = 6 then r = .error (4, lst X p) else Rn X tk k 0 (lnx X p) false (20 :: W) C (o + 1) r)
      else if isW' X p g wMin ∨ isW' X p g wMax then
        (if isS X (lnx X p) true 40 then (if o = 6 then r = .error (4, lst X (lnx X p)) else Rn X tk k 0 (lnx X (lnx X p)) false ((if isW' X p g wMin then 21 else 22) :: W) C (o + 1) r) else r = .error (1, lst X (lnx X p)))
      else if tk = 2 ∧ (isW' X p g wWet ∨ isW' X p g wStep) then
        (if o = 6 then r = .error (4, lst X p) else Rn X tk k 0 (lnx X p) true ((if isW' X p g wWet then 60 else 61) :: W) C (o + 1) r)
      else match fac X tk p g with
        | some f => Rn X tk k 1 (lnx X p) true W (C ++ [40 + f]) o r
        | none => match nuR X p g 0 9999 with
          | .ok v => Rn X tk k 1 (lnx X p) true W (C ++ [1000 + v]) o r
          | .error e => r = .error e)
    else if m = 1 then
      (match W with
        | x :: W' => if 60 ≤ x then Rn X tk k 1 p g W' (C ++ [x]) (o - 1) r else Rn X tk k 2 p g (x :: W') C o r
        | [] => Rn X tk k 2 p g [] C o r)
    else
      (if isS X p g 41 ∧ (brk W = some 20 ∨ brk W = some 23 ∨ brk W = some 24) then (∀ x ∈ abv W, x < 20) ∧ Rn X tk k 1 (lnx X p) false (bel W) (C ++ abv W ++ (if brk W = some 20 then [] else if brk W = some 23 then [5] else [6])) (o - 1) r
      else if isS X p g 42 ∨ isS X p g 47 then Rn X tk k 0 (lnx X p) false ((if isS X p g 42 then 3 else 4) :: W.dropWhile is34) (C ++ W.takeWhile is34) o r
      else if isS X p g 43 ∨ isS X p g 45 then Rn X tk k 0 (lnx X p) false ((if isS X p g 43 then 1 else 2) :: W.dropWhile is14) (C ++ W.takeWhile is14) o r
      else match brk W with
        | none => r = .ok (p, g, C ++ W) ∧ ∀ x ∈ W, x < 20
        | some b => if b = 21 ∨ b = 22 then (if isS X p g 44 then (∀ x ∈ abv W, x < 20) ∧ Rn X tk k 0 (lnx X p) false ((b + 2) :: bel W) (C ++ abv W) o r else r = .error (1, lst X p)) else r = .error (1, lst X p))
def Rx (X : Tx) (tk m p : Nat) (g : Bool) (W C : List Nat) (o : Nat) (r : Rs) : Prop := ∃ k, Rn X tk k m p g W C o r
theorem isS_n {X : Tx} {p c c' : Nat} {g : Bool} (h : isS X p g c) (hc : c ≠ c') : ¬ isS X p g c' := fun h' => hc (h.2.symm.trans h'.2)
theorem isS_w {X : Tx} {p c : Nat} {g : Bool} {w : List Nat} (h : isS X p g c) : ¬ isW' X p g w := fun h' => by
  have h1 := h.1
  rw [h'.1] at h1
  omega
theorem isW_n {X : Tx} {p : Nat} {g : Bool} {w w' : List Nat} (h : isW' X p g w) (hw : w ≠ w') : ¬ isW' X p g w' := fun h' => hw (h.2.symm.trans h'.2)
theorem isW_s {X : Tx} {p c : Nat} {g : Bool} {w : List Nat} (h : isW' X p g w) : ¬ isS X p g c := fun h' => by
  have h1 := h.1
  rw [h'.1] at h1
  omega
theorem wIn_w {X : Tx} {p : Nat} {g : Bool} {w : List Nat} {l : List (List Nat)} (h : isW' X p g w) : wIn X p g l = fnd w l := by
  unfold wIn
  first | refine i_pos h.1 ?_ | rw [if_pos h.1]
  rw [h.2]
theorem rx_open {X : Tx} {tk p o : Nat} {g : Bool} {W C : List Nat} {r : Rs} (hs : isS X p g 40) (ho : o ≠ 6) (h : Rx X tk 0 (lnx X p) false (20 :: W) C (o + 1) r) : Rx X tk 0 p g W C o r := by
  obtain ⟨k, h⟩ := h
  refine ⟨k + 1, ?_⟩
  unfold Rn
  first | refine i_pos rfl ?_ | rw [if_pos rfl]
  first | refine i_pos hs ?_ | rw [if_pos hs]
  first | refine i_neg ho ?_ | rw [if_neg ho]
  try (with_reducible rfl)
  exact h
theorem rx_open_e {X : Tx} {tk p : Nat} {g : Bool} {W C : List Nat} (hs : isS X p g 40) : Rx X tk 0 p g W C 6 (.error (4, lst X p)) := by
  refine ⟨1, ?_⟩
  unfold Rn
  first | refine i_pos rfl ?_ | rw [if_pos rfl]
  first | refine i_pos hs ?_ | rw [if_pos hs]
  first | refine i_pos rfl ?_ | rw [if_pos rfl]
  try (with_reducible rfl)
theorem rx_mm {X : Tx} {tk p o : Nat} {g : Bool} {W C : List Nat} {r : Rs} (hw : isW' X p g wMin ∨ isW' X p g wMax) (hs : isS X (lnx X p) true 40) (ho : o ≠ 6) (h : Rx X tk 0 (lnx X (lnx X p)) false ((if isW' X p g wMin then 21 else 22) :: W) C (o + 1) r) : Rx X tk 0 p g W C o r := by
  obtain ⟨k, h⟩ := h
  refine ⟨k + 1, ?_⟩
  have hn : ¬ isS X p g 40 := by
    rcases hw with hw | hw
    · exact isW_s hw
    · exact isW_s hw
  unfold Rn
  first | refine i_pos rfl ?_ | rw [if_pos rfl]
  first | refine i_neg hn ?_ | rw [if_neg hn]
  first | refine i_pos hw ?_ | rw [if_pos hw]
  first | refine i_pos hs ?_ | rw [if_pos hs]
  first | refine i_neg ho ?_ | rw [if_neg ho]
  try (with_reducible rfl)
  exact h
theorem rx_mm_e {X : Tx} {tk p : Nat} {g : Bool} {W C : List Nat} (hw : isW' X p g wMin ∨ isW' X p g wMax) (hs : isS X (lnx X p) true 40) : Rx X tk 0 p g W C 6 (.error (4, lst X (lnx X p))) := by
  refine ⟨1, ?_⟩
  have hn : ¬ isS X p g 40 := by
    rcases hw with hw | hw
    · exact isW_s hw
    · exact isW_s hw
  unfold Rn
  first | refine i_pos rfl ?_ | rw [if_pos rfl]
  first | refine i_neg hn ?_ | rw [if_neg hn]
  first | refine i_pos hw ?_ | rw [if_pos hw]
  first | refine i_pos hs ?_ | rw [if_pos hs]
  first | refine i_pos rfl ?_ | rw [if_pos rfl]
  try (with_reducible rfl)
theorem rx_mm_n {X : Tx} {tk p o : Nat} {g : Bool} {W C : List Nat} (hw : isW' X p g wMin ∨ isW' X p g wMax) (hs : ¬ isS X (lnx X p) true 40) : Rx X tk 0 p g W C o (.error (1, lst X (lnx X p))) := by
  refine ⟨1, ?_⟩
  have hn : ¬ isS X p g 40 := by
    rcases hw with hw | hw
    · exact isW_s hw
    · exact isW_s hw
  unfold Rn
  first | refine i_pos rfl ?_ | rw [if_pos rfl]
  first | refine i_neg hn ?_ | rw [if_neg hn]
  first | refine i_pos hw ?_ | rw [if_pos hw]
  first | refine i_neg hs ?_ | rw [if_neg hs]
  try (with_reducible rfl)
theorem ws_n {X : Tx} {p : Nat} {g : Bool} (hw : isW' X p g wWet ∨ isW' X p g wStep) : ¬ isS X p g 40 ∧ ¬ (isW' X p g wMin ∨ isW' X p g wMax) := by
  rcases hw with hw | hw
  · refine ⟨isW_s hw, ?_⟩
    rintro (h | h)
    · exact isW_n hw (by first | decide | (unfold vp_in; decide)) h
    · exact isW_n hw (by first | decide | (unfold vp_in; decide)) h
  · refine ⟨isW_s hw, ?_⟩
    rintro (h | h)
    · exact isW_n hw (by first | decide | (unfold vp_in; decide)) h
    · exact isW_n hw (by first | decide | (unfold vp_in; decide)) h
theorem rx_of {X : Tx} {p o : Nat} {g : Bool} {W C : List Nat} {r : Rs} (hw : isW' X p g wWet ∨ isW' X p g wStep) (ho : o ≠ 6) (h : Rx X 2 0 (lnx X p) true ((if isW' X p g wWet then 60 else 61) :: W) C (o + 1) r) : Rx X 2 0 p g W C o r := by
  obtain ⟨k, h⟩ := h
  refine ⟨k + 1, ?_⟩
  have hn := ws_n hw
  unfold Rn
  first | refine i_pos rfl ?_ | rw [if_pos rfl]
  first | refine i_neg hn.1 ?_ | rw [if_neg hn.1]
  first | refine i_neg hn.2 ?_ | rw [if_neg hn.2]
  first | refine i_pos ⟨rfl, hw⟩ ?_ | rw [if_pos ⟨rfl, hw⟩]
  first | refine i_neg ho ?_ | rw [if_neg ho]
  try (with_reducible rfl)
  exact h
theorem rx_of_e {X : Tx} {p : Nat} {g : Bool} {W C : List Nat} (hw : isW' X p g wWet ∨ isW' X p g wStep) : Rx X 2 0 p g W C 6 (.error (4, lst X p)) := by
  refine ⟨1, ?_⟩
  have hn := ws_n hw
  unfold Rn
  first | refine i_pos rfl ?_ | rw [if_pos rfl]
  first | refine i_neg hn.1 ?_ | rw [if_neg hn.1]
  first | refine i_neg hn.2 ?_ | rw [if_neg hn.2]
  first | refine i_pos ⟨rfl, hw⟩ ?_ | rw [if_pos ⟨rfl, hw⟩]
  first | refine i_pos rfl ?_ | rw [if_pos rfl]
  try (with_reducible rfl)
theorem rx_fact {X : Tx} {tk p o f : Nat} {g : Bool} {W C : List Nat} {r : Rs} (h1 : ¬ isS X p g 40) (h2 : ¬ (isW' X p g wMin ∨ isW' X p g wMax)) (h3 : ¬ (tk = 2 ∧ (isW' X p g wWet ∨ isW' X p g wStep))) (hf : fac X tk p g = some f) (h : Rx X tk 1 (lnx X p) true W (C ++ [40 + f]) o r) : Rx X tk 0 p g W C o r := by
  obtain ⟨k, h⟩ := h
  refine ⟨k + 1, ?_⟩
  unfold Rn
  first | refine i_pos rfl ?_ | rw [if_pos rfl]
  first | refine i_neg h1 ?_ | rw [if_neg h1]
  first | refine i_neg h2 ?_ | rw [if_neg h2]
  first | refine i_neg h3 ?_ | rw [if_neg h3]
  rw [hf]
  exact h
theorem rx_num {X : Tx} {tk p o v : Nat} {g : Bool} {W C : List Nat} {r : Rs} (h1 : ¬ isS X p g 40) (h2 : ¬ (isW' X p g wMin ∨ isW' X p g wMax)) (h3 : ¬ (tk = 2 ∧ (isW' X p g wWet ∨ isW' X p g wStep))) (hf : fac X tk p g = none) (hv : nuR X p g 0 9999 = .ok v) (h : Rx X tk 1 (lnx X p) true W (C ++ [1000 + v]) o r) : Rx X tk 0 p g W C o r := by
  obtain ⟨k, h⟩ := h
  refine ⟨k + 1, ?_⟩
  unfold Rn
  first | refine i_pos rfl ?_ | rw [if_pos rfl]
  first | refine i_neg h1 ?_ | rw [if_neg h1]
  first | refine i_neg h2 ?_ | rw [if_neg h2]
  first | refine i_neg h3 ?_ | rw [if_neg h3]
  rw [hf]
  simp only [hv]
  exact h
theorem rx_err {X : Tx} {tk p o : Nat} {e : Nat × Nat} {g : Bool} {W C : List Nat} (h1 : ¬ isS X p g 40) (h2 : ¬ (isW' X p g wMin ∨ isW' X p g wMax)) (h3 : ¬ (tk = 2 ∧ (isW' X p g wWet ∨ isW' X p g wStep))) (hf : fac X tk p g = none) (hv : nuR X p g 0 9999 = .error e) : Rx X tk 0 p g W C o (.error e) := by
  refine ⟨1, ?_⟩
  unfold Rn
  first | refine i_pos rfl ?_ | rw [if_pos rfl]
  first | refine i_neg h1 ?_ | rw [if_neg h1]
  first | refine i_neg h2 ?_ | rw [if_neg h2]
  first | refine i_neg h3 ?_ | rw [if_neg h3]
  rw [hf]
  simp only [hv]
theorem rx_drop {X : Tx} {tk p o x : Nat} {g : Bool} {W C : List Nat} {r : Rs} (hx : 60 ≤ x) (h : Rx X tk 1 p g W (C ++ [x]) (o - 1) r) : Rx X tk 1 p g (x :: W) C o r := by
  obtain ⟨k, h⟩ := h
  refine ⟨k + 1, ?_⟩
  unfold Rn
  first | refine i_neg (by omega) ?_ | rw [if_neg (by omega)]
  first | refine i_pos rfl ?_ | rw [if_pos rfl]
  try (with_reducible rfl)
  show (if 60 ≤ x then _ else _)
  first | refine i_pos hx ?_ | rw [if_pos hx]
  try (with_reducible rfl)
  exact h
theorem rx_end {X : Tx} {tk p o : Nat} {g : Bool} {W C : List Nat} {r : Rs} (hx : ∀ x, W.head? = some x → x < 60) (h : Rx X tk 2 p g W C o r) : Rx X tk 1 p g W C o r := by
  obtain ⟨k, h⟩ := h
  refine ⟨k + 1, ?_⟩
  unfold Rn
  first | refine i_neg (by omega) ?_ | rw [if_neg (by omega)]
  first | refine i_pos rfl ?_ | rw [if_pos rfl]
  try (with_reducible rfl)
  cases W with
  | nil => exact h
  | cons x W' =>
    show (if 60 ≤ x then _ else _)
    have := hx x rfl
    first | refine i_neg (by omega) ?_ | rw [if_neg (by omega)]
    try (with_reducible rfl)
    exact h
theorem br_app {U W : List Nat} {b : Nat} (hU : ∀ x ∈ U, x < 20) (hb : 20 ≤ b ∧ b ≤ 24) : brk (U ++ b :: W) = some b ∧ abv (U ++ b :: W) = U ∧ bel (U ++ b :: W) = W := by
  have hbr : isBr b = true := decide_eq_true hb
  induction U with
  | nil =>
    refine ⟨?_, ?_, ?_⟩
    · show ((b :: W).dropWhile (fun x => !isBr x)).head? = some b
      rw [List.dropWhile_cons, hbr]
      rfl
    · show (b :: W).takeWhile (fun x => !isBr x) = []
      rw [List.takeWhile_cons, hbr]
      rfl
    · show ((b :: W).dropWhile (fun x => !isBr x)).tail = W
      rw [List.dropWhile_cons, hbr]
      rfl
  | cons x U ih =>
    have hx : isBr x = false := decide_eq_false (by have := hU x (by simp); omega)
    have ih := ih (fun y hy => hU y (by simp [hy]))
    refine ⟨?_, ?_, ?_⟩
    · show ((x :: (U ++ b :: W)).dropWhile (fun x => !isBr x)).head? = some b
      rw [List.dropWhile_cons, hx]
      exact ih.1
    · show (x :: (U ++ b :: W)).takeWhile (fun x => !isBr x) = x :: U
      rw [List.takeWhile_cons, hx]
      show x :: (U ++ b :: W).takeWhile (fun x => !isBr x) = x :: U
      rw [show (U ++ b :: W).takeWhile (fun x => !isBr x) = U from ih.2.1]
    · show ((x :: (U ++ b :: W)).dropWhile (fun x => !isBr x)).tail = W
      rw [List.dropWhile_cons, hx]
      exact ih.2.2
theorem br_none {U : List Nat} (hU : ∀ x ∈ U, x < 20) : brk U = none := by
  induction U with
  | nil => rfl
  | cons x U ih =>
    have hx : isBr x = false := decide_eq_false (by have := hU x (by simp); omega)
    show ((x :: U).dropWhile (fun x => !isBr x)).head? = none
    rw [List.dropWhile_cons, hx]
    exact ih (fun y hy => hU y (by simp [hy]))
theorem tw_app {q : Nat → Bool} {U W : List Nat} (hU : ∀ x ∈ U, q x = true) (hW : ∀ x, W.head? = some x → q x = false) : (U ++ W).takeWhile q = U ∧ (U ++ W).dropWhile q = W := by
  induction U with
  | nil =>
    cases W with
    | nil => exact ⟨rfl, rfl⟩
    | cons x W =>
      have hx := hW x rfl
      refine ⟨?_, ?_⟩
      · show (x :: W).takeWhile q = []
        rw [List.takeWhile_cons, hx]
        rfl
      · show (x :: W).dropWhile q = x :: W
        rw [List.dropWhile_cons, hx]
        rfl
  | cons x U ih =>
    have hx := hU x (by simp)
    have ih := ih (fun y hy => hU y (by simp [hy]))
    refine ⟨?_, ?_⟩
    · show (x :: (U ++ W)).takeWhile q = x :: U
      rw [List.takeWhile_cons, hx]
      show x :: (U ++ W).takeWhile q = x :: U
      rw [ih.1]
    · show (x :: (U ++ W)).dropWhile q = W
      rw [List.dropWhile_cons, hx]
      exact ih.2
theorem rx_close {X : Tx} {tk p o b : Nat} {g : Bool} {U W C : List Nat} {r : Rs} (hU : ∀ x ∈ U, x < 20) (hb : b = 20 ∨ b = 23 ∨ b = 24) (hs : isS X p g 41) (h : Rx X tk 1 (lnx X p) false W (C ++ U ++ (if b = 20 then [] else if b = 23 then [5] else [6])) (o - 1) r) : Rx X tk 2 p g (U ++ b :: W) C o r := by
  obtain ⟨k, h⟩ := h
  refine ⟨k + 1, ?_⟩
  obtain ⟨e1, e2, e3⟩ := br_app (W := W) hU (show 20 ≤ b ∧ b ≤ 24 by omega)
  unfold Rn
  first | refine i_neg (by omega) ?_ | rw [if_neg (by omega)]
  first | refine i_neg (by omega) ?_ | rw [if_neg (by omega)]
  rw [e1, e2, e3]
  first | refine i_pos ⟨hs, by rcases hb with rfl | rfl | rfl <;> simp⟩ ?_ | rw [if_pos ⟨hs, by rcases hb with rfl | rfl | rfl <;> simp⟩]
  try (with_reducible rfl)
  have e4 : (if some b = some 20 then ([] : List Nat) else if some b = some 23 then [5] else [6]) = (if b = 20 then [] else if b = 23 then [5] else [6]) := by
    rcases hb with rfl | rfl | rfl <;> rfl
  rw [e4]
  exact ⟨hU, h⟩
theorem rx_close_e {X : Tx} {tk p o b : Nat} {g : Bool} {U W C : List Nat} (hU : ∀ x ∈ U, x < 20) (hb : b = 20 ∨ b = 23 ∨ b = 24) (hs : ¬ isS X p g 41) (h1 : ¬ (isS X p g 42 ∨ isS X p g 47)) (h2 : ¬ (isS X p g 43 ∨ isS X p g 45)) : Rx X tk 2 p g (U ++ b :: W) C o (.error (1, lst X p)) := by
  refine ⟨1, ?_⟩
  obtain ⟨e1, e2, e3⟩ := br_app (W := W) hU (show 20 ≤ b ∧ b ≤ 24 by omega)
  unfold Rn
  first | refine i_neg (by omega) ?_ | rw [if_neg (by omega)]
  first | refine i_neg (by omega) ?_ | rw [if_neg (by omega)]
  rw [e1, e2, e3]
  first | refine i_neg (fun h => hs h.1) ?_ | rw [if_neg (fun h => hs h.1)]
  first | refine i_neg h1 ?_ | rw [if_neg h1]
  first | refine i_neg h2 ?_ | rw [if_neg h2]
  try (with_reducible rfl)
  show (if b = 21 ∨ b = 22 then _ else _)
  first | refine i_neg (by omega) ?_ | rw [if_neg (by omega)]
  try (with_reducible rfl)
theorem rx_comma {X : Tx} {tk p o b : Nat} {g : Bool} {U W C : List Nat} {r : Rs} (hU : ∀ x ∈ U, x < 20) (hb : b = 21 ∨ b = 22) (hs : isS X p g 44) (h : Rx X tk 0 (lnx X p) false ((b + 2) :: W) (C ++ U) o r) : Rx X tk 2 p g (U ++ b :: W) C o r := by
  obtain ⟨k, h⟩ := h
  refine ⟨k + 1, ?_⟩
  obtain ⟨e1, e2, e3⟩ := br_app (W := W) hU (show 20 ≤ b ∧ b ≤ 24 by omega)
  unfold Rn
  rw [if_neg (by omega), if_neg (by omega), e1, e2, e3, if_neg (fun h => isS_n hs (by omega) h.1), if_neg (fun h => by
    rcases h with h | h
    · exact isS_n hs (by omega) h
    · exact isS_n hs (by omega) h), if_neg (fun h => by
    rcases h with h | h
    · exact isS_n hs (by omega) h
    · exact isS_n hs (by omega) h)]
  show (if b = 21 ∨ b = 22 then _ else _)
  first | refine i_pos hb ?_ | rw [if_pos hb]
  first | refine i_pos hs ?_ | rw [if_pos hs]
  try (with_reducible rfl)
  exact ⟨hU, h⟩
theorem rx_comma_e {X : Tx} {tk p o b : Nat} {g : Bool} {U W C : List Nat} (hU : ∀ x ∈ U, x < 20) (hb : b = 21 ∨ b = 22) (hs : ¬ isS X p g 44) (h1 : ¬ (isS X p g 42 ∨ isS X p g 47)) (h2 : ¬ (isS X p g 43 ∨ isS X p g 45)) : Rx X tk 2 p g (U ++ b :: W) C o (.error (1, lst X p)) := by
  refine ⟨1, ?_⟩
  obtain ⟨e1, e2, e3⟩ := br_app (W := W) hU (show 20 ≤ b ∧ b ≤ 24 by omega)
  unfold Rn
  rw [if_neg (by omega), if_neg (by omega), e1, e2, e3, if_neg (fun h => by
    rcases h.2 with h | h | h
    · have := Option.some.inj h
      omega
    · have := Option.some.inj h
      omega
    · have := Option.some.inj h
      omega), if_neg h1, if_neg h2]
  show (if b = 21 ∨ b = 22 then _ else _)
  first | refine i_pos hb ?_ | rw [if_pos hb]
  first | refine i_neg hs ?_ | rw [if_neg hs]
  try (with_reducible rfl)
theorem rx_mul {X : Tx} {tk p o : Nat} {g : Bool} {U W C : List Nat} {r : Rs} (hU : ∀ x ∈ U, x = 3 ∨ x = 4) (hW : ∀ x, W.head? = some x → ¬ (x = 3 ∨ x = 4)) (hs : isS X p g 42 ∨ isS X p g 47) (h : Rx X tk 0 (lnx X p) false ((if isS X p g 42 then 3 else 4) :: W) (C ++ U) o r) : Rx X tk 2 p g (U ++ W) C o r := by
  obtain ⟨k, h⟩ := h
  refine ⟨k + 1, ?_⟩
  have e := tw_app (q := is34) (U := U) (W := W) (fun x hx => decide_eq_true (hU x hx)) (fun x hx => decide_eq_false (hW x hx))
  have hn : ¬ isS X p g 41 := by
    rcases hs with hs | hs
    · exact isS_n hs (by omega)
    · exact isS_n hs (by omega)
  unfold Rn
  first | refine i_neg (by omega) ?_ | rw [if_neg (by omega)]
  first | refine i_neg (by omega) ?_ | rw [if_neg (by omega)]
  first | refine i_neg (fun h => hn h.1) ?_ | rw [if_neg (fun h => hn h.1)]
  first | refine i_pos hs ?_ | rw [if_pos hs]
  rw [e.1, e.2]
  exact h
theorem rx_add {X : Tx} {tk p o : Nat} {g : Bool} {U W C : List Nat} {r : Rs} (hU : ∀ x ∈ U, x = 1 ∨ x = 2 ∨ x = 3 ∨ x = 4) (hW : ∀ x, W.head? = some x → ¬ (x = 1 ∨ x = 2 ∨ x = 3 ∨ x = 4)) (hs : isS X p g 43 ∨ isS X p g 45) (h : Rx X tk 0 (lnx X p) false ((if isS X p g 43 then 1 else 2) :: W) (C ++ U) o r) : Rx X tk 2 p g (U ++ W) C o r := by
  obtain ⟨k, h⟩ := h
  refine ⟨k + 1, ?_⟩
  have e := tw_app (q := is14) (U := U) (W := W) (fun x hx => decide_eq_true (hU x hx)) (fun x hx => decide_eq_false (hW x hx))
  have hn : ¬ isS X p g 41 ∧ ¬ isS X p g 42 ∧ ¬ isS X p g 47 := by
    rcases hs with hs | hs
    · exact ⟨isS_n hs (by omega), isS_n hs (by omega), isS_n hs (by omega)⟩
    · exact ⟨isS_n hs (by omega), isS_n hs (by omega), isS_n hs (by omega)⟩
  unfold Rn
  rw [if_neg (by omega), if_neg (by omega), if_neg (fun h => hn.1 h.1), if_neg (fun h => by
    rcases h with h | h
    · exact hn.2.1 h
    · exact hn.2.2 h), if_pos hs, e.1, e.2]
  exact h
/-- none of the four -/
def nS (X : Tx) (p : Nat) (g : Bool) : Prop := ¬ (isS X p g 42 ∨ isS X p g 47) ∧ ¬ (isS X p g 43 ∨ isS X p g 45)
theorem rx_done {X : Tx} {tk p o : Nat} {g : Bool} {U C : List Nat} (hU : ∀ x ∈ U, x < 20) (hs : nS X p g) : Rx X tk 2 p g U C o (.ok (p, g, C ++ U)) := by
  refine ⟨1, ?_⟩
  unfold Rn
  first | refine i_neg (by omega) ?_ | rw [if_neg (by omega)]
  first | refine i_neg (by omega) ?_ | rw [if_neg (by omega)]
  rw [br_none hU]
  first | refine i_neg (fun h => by rcases h.2 with h | h | h <;> exact absurd h (by simp)) ?_ | rw [if_neg (fun h => by rcases h.2 with h | h | h <;> exact absurd h (by simp))]
  first | refine i_neg hs.1 ?_ | rw [if_neg hs.1]
  first | refine i_neg hs.2 ?_ | rw [if_neg hs.2]
  try (with_reducible rfl)
  exact ⟨rfl, hU⟩
/-! what a reader of the class may come to -/
def OkK (tk : Nat) (c : List Nat) : Prop := ∀ t ∈ c, 1000 ≤ t ∨ (40 ≤ t ∧ t < 53 ∧ al tk (t - 40) = true) ∨ t ≤ 9 ∨ (tk = 2 ∧ (t ≤ 13 ∨ t = 60 ∨ t = 61))
theorem okK_app {tk : Nat} {a b : List Nat} (ha : OkK tk a) (hb : OkK tk b) : OkK tk (a ++ b) := by
  intro t ht
  rcases List.mem_append.mp ht with h | h
  · exact ha t h
  · exact hb t h
theorem okK_op {tk x : Nat} (hx : x ≤ 9) : OkK tk [x] := by
  intro t ht
  rw [List.mem_singleton.mp ht]
  exact Or.inr (Or.inr (Or.inl hx))
def Bs (X : Tx) (tk p p' : Nat) (t : Bool) (dp : Nat) (c : List Nat) : Prop := p < p' ∧ p' ≤ X.2 ∧ p + c.length ≤ p' ∧ Good t dp c ∧ OkK tk c
def OkP (X : Tx) (tk d p : Nat) (g : Bool) (p' : Nat) (g' : Bool) (c : List Nat) : Prop := Bs X tk p p' false (1 + 3 * (6 - d)) c ∧ ∀ W C r, Rx X tk 1 p' g' W (C ++ c) d r → Rx X tk 0 p g W C d r
def ErP (X : Tx) (tk d p : Nat) (g : Bool) (e : Nat × Nat) : Prop := ∀ W C, Rx X tk 0 p g W C d (.error e)
def TopT (W : List Nat) : Prop := ∀ x, W.head? = some x → x ≠ 3 ∧ x ≠ 4 ∧ x < 60
def TopS (W : List Nat) : Prop := ∀ x, W.head? = some x → 20 ≤ x ∧ x ≤ 24
def OkTt (X : Tx) (tk d p : Nat) (g : Bool) (p' : Nat) (g' : Bool) (c : List Nat) : Prop := Bs X tk p p' false (2 + 3 * (6 - d)) c ∧ ∃ c1 U, c = c1 ++ U ∧ (∀ x ∈ U, x = 3 ∨ x = 4) ∧ ∀ W C r, TopT W → Rx X tk 2 p' g' (U ++ W) (C ++ c1) d r → Rx X tk 0 p g W C d r
def ErT (X : Tx) (tk d p : Nat) (g : Bool) (e : Nat × Nat) : Prop := ∀ W C, TopT W → Rx X tk 0 p g W C d (.error e)
def OkS (X : Tx) (tk d p : Nat) (g : Bool) (p' : Nat) (g' : Bool) (c : List Nat) : Prop := Bs X tk p p' false (3 + 3 * (6 - d)) c ∧ ∃ c1 U, c = c1 ++ U ∧ (∀ x ∈ U, x = 1 ∨ x = 2 ∨ x = 3 ∨ x = 4) ∧ ∀ W C r, TopS W → Rx X tk 2 p' g' (U ++ W) (C ++ c1) d r → Rx X tk 0 p g W C d r
def ErS (X : Tx) (tk d p : Nat) (g : Bool) (e : Nat × Nat) : Prop := ∀ W C, TopS W → Rx X tk 0 p g W C d (.error e)
theorem t_first {X : Tx} {tk d p p' : Nat} {g g' : Bool} {c : List Nat} (h : OkP X tk d p g p' g' c) : OkTt X tk d p g p' g' c := by
  obtain ⟨⟨a1, a2, a3, a4, a5⟩, h2⟩ := h
  refine ⟨⟨a1, a2, a3, good_mono a4 (by omega), a5⟩, c, [], by simp, fun x hx => absurd hx (by simp), fun W C r hW hr => h2 W C r (rx_end (fun x hx => (hW x hx).2.2) hr)⟩
theorem t_first_e {X : Tx} {tk d p : Nat} {g : Bool} {e : Nat × Nat} (h : ErP X tk d p g e) : ErT X tk d p g e := fun W C _ => h W C
theorem t_step {X : Tx} {tk d p p1 p2 : Nat} {g g1 g2 : Bool} {c c2 : List Nat} (h : OkTt X tk d p g p1 g1 c) (hs : isS X p1 g1 42 ∨ isS X p1 g1 47) (h2 : OkP X tk d (lnx X p1) false p2 g2 c2) : OkTt X tk d p g p2 g2 (c ++ c2 ++ [if isS X p1 g1 42 then 3 else 4]) := by
  obtain ⟨⟨a1, a2, a3, a4, a5⟩, c1, U, e, hU, hr⟩ := h
  obtain ⟨⟨b1, b2, b3, b4, b5⟩, hr2⟩ := h2
  have hn := lnx_p (X := X) (p := p1) a2
  have hl := lst_p (X := X) (p := p1) a2
  have hlt : lst X p1 < X.2 := by
    by_cases hl2 : lst X p1 < X.2
    · exact hl2
    · have := lk0_0.mpr hl2
      rcases hs with hs | hs
      · have := (lkd_k hs.1 (by omega)).1
        omega
      · have := (lkd_k hs.1 (by omega)).1
        omega
  have hn2 := hn.2.2 hlt
  have hop : (if isS X p1 g1 42 then 3 else 4) = 3 ∨ (if isS X p1 g1 42 then 3 else 4) = 4 := by
    by_cases h : isS X p1 g1 42
    · first | refine i_pos h ?_ | rw [if_pos h]
      try (with_reducible rfl)
      omega
    · first | refine i_neg h ?_ | rw [if_neg h]
      try (with_reducible rfl)
      omega
  generalize hopd : (if isS X p1 g1 42 then 3 else 4) = op at hop
  refine ⟨⟨by omega, b2, ?_, ?_, okK_app (okK_app a5 b5) (okK_op (by omega))⟩, c1 ++ U ++ c2, [op], by rw [e], fun x hx => by rw [List.mem_singleton.mp hx]; exact hop, fun W C r hW h => ?_⟩
  · simp only [List.length_append, List.length_cons, List.length_nil]
    omega
  · have := good_two (op := op) (s := false) a4 b4 (Or.inl ⟨rfl, by omega, by omega, by rcases hop with h | h <;> rw [h] <;> rfl⟩)
    exact good_mono this (by omega)
  · refine hr W C r hW (rx_mul hU (fun x hx => by have := hW x hx; omega) hs ?_)
    rw [hopd]
    refine hr2 (op :: W) (C ++ c1 ++ U) r (rx_end (fun x hx => ?_) ?_)
    · have := Option.some.inj hx
      omega
    · have e2 : C ++ (c1 ++ U ++ c2) = C ++ c1 ++ U ++ c2 := by simp
      rw [← e2]
      exact h
theorem t_step_e {X : Tx} {tk d p p1 : Nat} {g g1 : Bool} {c : List Nat} {e' : Nat × Nat} (h : OkTt X tk d p g p1 g1 c) (hs : isS X p1 g1 42 ∨ isS X p1 g1 47) (h2 : ErP X tk d (lnx X p1) false e') : ErT X tk d p g e' := by
  obtain ⟨_, c1, U, e, hU, hr⟩ := h
  exact fun W C hW => hr W C _ hW (rx_mul hU (fun x hx => by have := hW x hx; omega) hs (h2 _ _))
theorem topS_T {W : List Nat} (h : TopS W) : TopT W := fun x hx => by
  have := h x hx
  omega
theorem s_first {X : Tx} {tk d p p' : Nat} {g g' : Bool} {c : List Nat} (h : OkTt X tk d p g p' g' c) : OkS X tk d p g p' g' c := by
  obtain ⟨⟨a1, a2, a3, a4, a5⟩, c1, U, e, hU, hr⟩ := h
  exact ⟨⟨a1, a2, a3, good_mono a4 (by omega), a5⟩, c1, U, e, fun x hx => by have := hU x hx; omega, fun W C r hW h => hr W C r (topS_T hW) h⟩
theorem s_first_e {X : Tx} {tk d p : Nat} {g : Bool} {e : Nat × Nat} (h : ErT X tk d p g e) : ErS X tk d p g e := fun W C hW => h W C (topS_T hW)
theorem topT_1 {W : List Nat} {x : Nat} (hx : x = 1 ∨ x = 2) : TopT (x :: W) := fun y hy => by
  have : x = y := Option.some.inj hy
  omega
theorem sgn_lt {X : Tx} {p c : Nat} {g : Bool} (hp : p ≤ X.2) (h : isS X p g c) : p < lnx X p ∧ lnx X p ≤ X.2 := by
  have hn := lnx_p hp
  have hl := lst_p hp
  have hlt : lst X p < X.2 := by
    by_cases hl2 : lst X p < X.2
    · exact hl2
    · have := lk0_0.mpr hl2
      have := (lkd_k h.1 (by omega)).1
      omega
  have := hn.2.2 hlt
  omega
theorem wrd_lt {X : Tx} {p : Nat} {g : Bool} (hp : p ≤ X.2) (h : lkd X p g = 1 ∨ lkd X p g = 2) : p < lnx X p ∧ lnx X p ≤ X.2 := by
  have hn := lnx_p hp
  have hl := lst_p hp
  have hlt : lst X p < X.2 := by
    by_cases hl2 : lst X p < X.2
    · exact hl2
    · have := lk0_0.mpr hl2
      rcases h with h | h
      · have := (lkd_k h (by omega)).1
        omega
      · have := (lkd_k h (by omega)).1
        omega
  have := hn.2.2 hlt
  omega
theorem s_step {X : Tx} {tk d p p1 p2 : Nat} {g g1 g2 : Bool} {c c2 : List Nat} (h : OkS X tk d p g p1 g1 c) (hs : isS X p1 g1 43 ∨ isS X p1 g1 45) (h2 : OkTt X tk d (lnx X p1) false p2 g2 c2) : OkS X tk d p g p2 g2 (c ++ c2 ++ [if isS X p1 g1 43 then 1 else 2]) := by
  obtain ⟨⟨a1, a2, a3, a4, a5⟩, c1, U, e, hU, hr⟩ := h
  obtain ⟨⟨b1, b2, b3, b4, b5⟩, c21, U2, e2, hU2, hr2⟩ := h2
  have hn2 : p1 < lnx X p1 := by
    rcases hs with hs | hs
    · exact (sgn_lt a2 hs).1
    · exact (sgn_lt a2 hs).1
  have hop : (if isS X p1 g1 43 then 1 else 2) = 1 ∨ (if isS X p1 g1 43 then 1 else 2) = 2 := by
    by_cases h : isS X p1 g1 43
    · first | refine i_pos h ?_ | rw [if_pos h]
      try (with_reducible rfl)
      omega
    · first | refine i_neg h ?_ | rw [if_neg h]
      try (with_reducible rfl)
      omega
  generalize hopd : (if isS X p1 g1 43 then 1 else 2) = op at hop
  refine ⟨⟨by omega, b2, ?_, ?_, okK_app (okK_app a5 b5) (okK_op (by omega))⟩, c1 ++ U ++ c21, U2 ++ [op], by rw [e, e2]; simp, fun x hx => ?_, fun W C r hW h => ?_⟩
  · simp only [List.length_append, List.length_cons, List.length_nil]
    omega
  · have := good_two (op := op) (s := false) a4 b4 (Or.inl ⟨rfl, by omega, by omega, by rcases hop with h | h <;> rw [h] <;> rfl⟩)
    exact good_mono this (by omega)
  · rcases List.mem_append.mp hx with h | h
    · have := hU2 x h
      omega
    · rw [List.mem_singleton.mp h]
      omega
  · refine hr W C r hW (rx_add hU (fun x hx => by have := hW x hx; omega) hs ?_)
    rw [hopd]
    refine hr2 (op :: W) (C ++ c1 ++ U) r (topT_1 hop) ?_
    have e3 : C ++ (c1 ++ U ++ c21) = C ++ c1 ++ U ++ c21 := by simp
    have e4 : U2 ++ [op] ++ W = U2 ++ op :: W := by simp
    rw [← e3, ← e4]
    exact h
theorem s_step_e {X : Tx} {tk d p p1 : Nat} {g g1 : Bool} {c : List Nat} {e' : Nat × Nat} (h : OkS X tk d p g p1 g1 c) (hs : isS X p1 g1 43 ∨ isS X p1 g1 45) (h2 : ErT X tk d (lnx X p1) false e') : ErS X tk d p g e' := by
  obtain ⟨_, c1, U, e, hU, hr⟩ := h
  refine fun W C hW => hr W C _ hW (rx_add hU (fun x hx => by have := hW x hx; omega) hs (h2 _ _ (topT_1 ?_)))
  by_cases h : isS X p1 g1 43
  · first | refine i_pos h ?_ | rw [if_pos h]
    try (with_reducible rfl)
    omega
  · first | refine i_neg h ?_ | rw [if_neg h]
    try (with_reducible rfl)
    omega
theorem topS_b {W : List Nat} {b : Nat} (hb : 20 ≤ b ∧ b ≤ 24) : TopS (b :: W) := fun y hy => by
  have : b = y := Option.some.inj hy
  omega
theorem u_lt {U : List Nat} (hU : ∀ x ∈ U, x = 1 ∨ x = 2 ∨ x = 3 ∨ x = 4) : ∀ x ∈ U, x < 20 := fun x hx => by
  have := hU x hx
  omega
theorem p_open {X : Tx} {tk d p p1 : Nat} {g g1 : Bool} {c : List Nat} (hp : p ≤ X.2) (hd : d < 6) (hs : isS X p g 40) (h : OkS X tk (d + 1) (lnx X p) false p1 g1 c) (h2 : isS X p1 g1 41) : OkP X tk d p g (lnx X p1) false c := by
  obtain ⟨⟨a1, a2, a3, a4, a5⟩, c1, U, e, hU, hr⟩ := h
  have l1 := sgn_lt hp hs
  have l2 := sgn_lt a2 h2
  refine ⟨⟨by omega, l2.2, by omega, good_mono a4 (by omega), a5⟩, fun W C r h => rx_open hs (by omega) (hr (20 :: W) C r (topS_b (by omega)) (rx_close (u_lt hU) (Or.inl rfl) h2 ?_))⟩
  first | refine i_pos rfl ?_ | rw [if_pos rfl]
  try (with_reducible rfl)
  have e3 : C ++ c1 ++ U ++ [] = C ++ c := by rw [e]; simp
  rw [e3]
  exact h
theorem p_open_6 {X : Tx} {tk p : Nat} {g : Bool} (hs : isS X p g 40) : ErP X tk 6 p g (4, lst X p) := fun W C => rx_open_e hs
theorem p_open_i {X : Tx} {tk d p : Nat} {g : Bool} {e : Nat × Nat} (hd : d < 6) (hs : isS X p g 40) (h : ErS X tk (d + 1) (lnx X p) false e) : ErP X tk d p g e := fun W C => rx_open hs (by omega) (h (20 :: W) C (topS_b (by omega)))
theorem p_open_c {X : Tx} {tk d p p1 : Nat} {g g1 : Bool} {c : List Nat} (hd : d < 6) (hs : isS X p g 40) (h : OkS X tk (d + 1) (lnx X p) false p1 g1 c) (hn : nS X p1 g1) (h2 : ¬ isS X p1 g1 41) : ErP X tk d p g (1, lst X p1) := by
  obtain ⟨_, c1, U, e, hU, hr⟩ := h
  exact fun W C => rx_open hs (by omega) (hr (20 :: W) C _ (topS_b (by omega)) (rx_close_e (u_lt hU) (Or.inl rfl) h2 hn.1 hn.2))
theorem mm_b {X : Tx} {p : Nat} {g : Bool} : (if isW' X p g wMin then 21 else 22) = 21 ∨ (if isW' X p g wMin then 21 else 22) = 22 := by
  by_cases h : isW' X p g wMin
  · first | refine i_pos h ?_ | rw [if_pos h]
    try (with_reducible rfl)
    omega
  · first | refine i_neg h ?_ | rw [if_neg h]
    try (with_reducible rfl)
    omega
theorem p_pair {X : Tx} {tk d p p1 p2 : Nat} {g g1 g2 : Bool} {c c2 : List Nat} (hp : p ≤ X.2) (hd : d < 6) (hw : isW' X p g wMin ∨ isW' X p g wMax) (hs : isS X (lnx X p) true 40) (h : OkS X tk (d + 1) (lnx X (lnx X p)) false p1 g1 c) (h2 : isS X p1 g1 44) (h3 : OkS X tk (d + 1) (lnx X p1) false p2 g2 c2) (h4 : isS X p2 g2 41) : OkP X tk d p g (lnx X p2) false (c ++ c2 ++ [if isW' X p g wMin then 5 else 6]) := by
  obtain ⟨⟨a1, a2, a3, a4, a5⟩, c1, U, e, hU, hr⟩ := h
  obtain ⟨⟨b1, b2, b3, b4, b5⟩, c21, U2, e2, hU2, hr2⟩ := h3
  have l1 : p < lnx X p ∧ lnx X p ≤ X.2 := by
    rcases hw with hw | hw
    · exact wrd_lt hp (Or.inl hw.1)
    · exact wrd_lt hp (Or.inl hw.1)
  have l2 := sgn_lt l1.2 hs
  have l3 := sgn_lt a2 h2
  have l4 := sgn_lt b2 h4
  have hb := mm_b (X := X) (p := p) (g := g)
  have hop : (if (if isW' X p g wMin then 21 else 22) + 2 = 23 then [5] else [6]) = [if isW' X p g wMin then 5 else 6] := by
    by_cases h : isW' X p g wMin
    · first | refine i_pos h ?_ | rw [if_pos h]
      first | refine i_pos h ?_ | rw [if_pos h]
      first | refine i_pos rfl ?_ | rw [if_pos rfl]
      try (with_reducible rfl)
    · first | refine i_neg h ?_ | rw [if_neg h]
      first | refine i_neg h ?_ | rw [if_neg h]
      first | refine i_neg (by omega) ?_ | rw [if_neg (by omega)]
      try (with_reducible rfl)
  have hopv : (if isW' X p g wMin then 5 else 6) = 5 ∨ (if isW' X p g wMin then 5 else 6) = 6 := by
    by_cases h : isW' X p g wMin
    · first | refine i_pos h ?_ | rw [if_pos h]
      try (with_reducible rfl)
      omega
    · first | refine i_neg h ?_ | rw [if_neg h]
      try (with_reducible rfl)
      omega
  generalize (if isW' X p g wMin then 5 else 6) = op at hop hopv
  refine ⟨⟨by omega, l4.2, ?_, ?_, okK_app (okK_app a5 b5) (okK_op (by omega))⟩, fun W C r h => rx_mm hw hs (by omega) (hr (_ :: W) C r (topS_b (by omega)) (rx_comma (u_lt hU) hb h2 (hr2 (_ :: W) (C ++ c1 ++ U) r (topS_b (by omega)) (rx_close (u_lt hU2) (by omega) h4 ?_))))⟩
  · simp only [List.length_append, List.length_cons, List.length_nil]
    omega
  · have := good_two (op := op) (s := false) a4 b4 (Or.inl ⟨rfl, by omega, by omega, by rcases hopv with h | h <;> rw [h] <;> rfl⟩)
    exact good_mono this (by omega)
  · first | refine i_neg (by omega) ?_ | rw [if_neg (by omega)]
    rw [hop]
    have e3 : C ++ c1 ++ U ++ c21 ++ U2 ++ [op] = C ++ (c ++ c2 ++ [op]) := by rw [e, e2]; simp
    rw [e3]
    exact h
theorem p_pair_6 {X : Tx} {tk p : Nat} {g : Bool} (hw : isW' X p g wMin ∨ isW' X p g wMax) (hs : isS X (lnx X p) true 40) : ErP X tk 6 p g (4, lst X (lnx X p)) := fun W C => rx_mm_e hw hs
theorem p_pair_n {X : Tx} {tk d p : Nat} {g : Bool} (hw : isW' X p g wMin ∨ isW' X p g wMax) (hs : ¬ isS X (lnx X p) true 40) : ErP X tk d p g (1, lst X (lnx X p)) := fun W C => rx_mm_n hw hs
theorem p_pair_1 {X : Tx} {tk d p : Nat} {g : Bool} {e : Nat × Nat} (hd : d < 6) (hw : isW' X p g wMin ∨ isW' X p g wMax) (hs : isS X (lnx X p) true 40) (h : ErS X tk (d + 1) (lnx X (lnx X p)) false e) : ErP X tk d p g e := fun W C => rx_mm hw hs (by omega) (h _ C (topS_b (by have := mm_b (X := X) (p := p) (g := g); omega)))
theorem p_pair_c {X : Tx} {tk d p p1 : Nat} {g g1 : Bool} {c : List Nat} (hd : d < 6) (hw : isW' X p g wMin ∨ isW' X p g wMax) (hs : isS X (lnx X p) true 40) (h : OkS X tk (d + 1) (lnx X (lnx X p)) false p1 g1 c) (hn : nS X p1 g1) (h2 : ¬ isS X p1 g1 44) : ErP X tk d p g (1, lst X p1) := by
  obtain ⟨_, c1, U, e, hU, hr⟩ := h
  have hb := mm_b (X := X) (p := p) (g := g)
  exact fun W C => rx_mm hw hs (by omega) (hr _ C _ (topS_b (by omega)) (rx_comma_e (u_lt hU) hb h2 hn.1 hn.2))
theorem p_pair_2 {X : Tx} {tk d p p1 : Nat} {g g1 : Bool} {c : List Nat} {e' : Nat × Nat} (hd : d < 6) (hw : isW' X p g wMin ∨ isW' X p g wMax) (hs : isS X (lnx X p) true 40) (h : OkS X tk (d + 1) (lnx X (lnx X p)) false p1 g1 c) (h2 : isS X p1 g1 44) (h3 : ErS X tk (d + 1) (lnx X p1) false e') : ErP X tk d p g e' := by
  obtain ⟨_, c1, U, e, hU, hr⟩ := h
  have hb := mm_b (X := X) (p := p) (g := g)
  exact fun W C => rx_mm hw hs (by omega) (hr _ C _ (topS_b (by omega)) (rx_comma (u_lt hU) hb h2 (h3 _ _ (topS_b (by omega)))))
theorem p_pair_d {X : Tx} {tk d p p1 p2 : Nat} {g g1 g2 : Bool} {c c2 : List Nat} (hd : d < 6) (hw : isW' X p g wMin ∨ isW' X p g wMax) (hs : isS X (lnx X p) true 40) (h : OkS X tk (d + 1) (lnx X (lnx X p)) false p1 g1 c) (h2 : isS X p1 g1 44) (h3 : OkS X tk (d + 1) (lnx X p1) false p2 g2 c2) (hn : nS X p2 g2) (h4 : ¬ isS X p2 g2 41) : ErP X tk d p g (1, lst X p2) := by
  obtain ⟨_, c1, U, e, hU, hr⟩ := h
  obtain ⟨_, c21, U2, e2, hU2, hr2⟩ := h3
  have hb := mm_b (X := X) (p := p) (g := g)
  exact fun W C => rx_mm hw hs (by omega) (hr _ C _ (topS_b (by omega)) (rx_comma (u_lt hU) hb h2 (hr2 _ _ _ (topS_b (by omega)) (rx_close_e (u_lt hU2) (by omega) h4 hn.1 hn.2))))
theorem p_of {X : Tx} {d p p1 : Nat} {g g1 : Bool} {c : List Nat} (hp : p ≤ X.2) (hd : d < 6) (hw : isW' X p g wWet ∨ isW' X p g wStep) (h : OkP X 2 (d + 1) (lnx X p) true p1 g1 c) : OkP X 2 d p g p1 g1 (c ++ [if isW' X p g wWet then 60 else 61]) := by
  obtain ⟨⟨a1, a2, a3, a4, a5⟩, hr⟩ := h
  have l1 : p < lnx X p ∧ lnx X p ≤ X.2 := by
    rcases hw with hw | hw
    · exact wrd_lt hp (Or.inl hw.1)
    · exact wrd_lt hp (Or.inl hw.1)
  have hop : (if isW' X p g wWet then 60 else 61) = 60 + 0 ∨ (if isW' X p g wWet then 60 else 61) = 60 + 1 := by
    by_cases h : isW' X p g wWet
    · first | refine i_pos h ?_ | rw [if_pos h]
      try (with_reducible rfl)
      omega
    · first | refine i_neg h ?_ | rw [if_neg h]
      try (with_reducible rfl)
      omega
  refine ⟨⟨by omega, a2, ?_, ?_, okK_app a5 ?_⟩, fun W C r h => rx_of hw (by omega) (hr _ C r (rx_drop (by omega) ?_))⟩
  · simp only [List.length_append, List.length_cons, List.length_nil]
    omega
  · rcases hop with hop | hop
    · rw [hop]
      exact good_mono (good_of (w := 0) (by omega) a4) (by omega)
    · rw [hop]
      exact good_mono (good_of (w := 1) (by omega) a4) (by omega)
  · intro t ht
    rw [List.mem_singleton.mp ht]
    exact Or.inr (Or.inr (Or.inr ⟨rfl, by omega⟩))
  · rw [List.append_assoc]
    exact h
theorem p_of_6 {X : Tx} {p : Nat} {g : Bool} (hw : isW' X p g wWet ∨ isW' X p g wStep) : ErP X 2 6 p g (4, lst X p) := fun W C => rx_of_e hw
theorem p_of_i {X : Tx} {d p : Nat} {g : Bool} {e : Nat × Nat} (hd : d < 6) (hw : isW' X p g wWet ∨ isW' X p g wStep) (h : ErP X 2 (d + 1) (lnx X p) true e) : ErP X 2 d p g e := fun W C => rx_of hw (by omega) (h _ C)
theorem k2_n {X : Tx} {tk p : Nat} {g : Bool} (h : lkd X p g = 2) : ¬ isS X p g 40 ∧ ¬ (isW' X p g wMin ∨ isW' X p g wMax) ∧ ¬ (tk = 2 ∧ (isW' X p g wWet ∨ isW' X p g wStep)) ∧ fac X tk p g = none := by
  have hw : ∀ w, ¬ isW' X p g w := fun w h' => by
    have := h'.1
    omega
  refine ⟨fun h' => by have := h'.1; omega, ?_, ?_, ?_⟩
  · rintro (h' | h')
    · exact hw _ h'
    · exact hw _ h'
  · rintro ⟨_, h' | h'⟩
    · exact hw _ h'
    · exact hw _ h'
  · unfold fac wIn
    first | refine i_neg (by omega) ?_ | rw [if_neg (by omega)]
    try (with_reducible rfl)
theorem p_num {X : Tx} {tk d p v : Nat} {g : Bool} (hp : p ≤ X.2) (hk : lkd X p g = 2) (hv : nuR X p g 0 9999 = .ok v) : OkP X tk d p g (lnx X p) true [1000 + v] := by
  have hn := k2_n (tk := tk) hk
  have l1 := wrd_lt hp (Or.inr hk)
  have hv9 : v ≤ 9999 := by
    unfold nuR at hv
    rw [if_pos hk] at hv
    by_cases h4 : lnx X p - lst X p ≤ 4
    · rw [if_pos h4] at hv
      by_cases h9 : 0 ≤ nuV X p ∧ nuV X p ≤ 9999
      · rw [if_pos h9] at hv
        have := Except.ok.inj hv
        omega
      · rw [if_neg h9] at hv
        exact absurd hv (by simp)
    · rw [if_neg h4] at hv
      exact absurd hv (by simp)
  refine ⟨⟨l1.1, l1.2, ?_, good_mono (good_num hv9) (by omega), fun t ht => by rw [List.mem_singleton.mp ht]; exact Or.inl (by omega)⟩, fun W C r h => rx_num hn.1 hn.2.1 hn.2.2.1 hn.2.2.2 hv h⟩
  simp only [List.length_cons, List.length_nil]
  omega
theorem p_num_e {X : Tx} {tk d p : Nat} {g : Bool} {e : Nat × Nat} (hk : lkd X p g = 2) (hv : nuR X p g 0 9999 = .error e) : ErP X tk d p g e := by
  have hn := k2_n (tk := tk) hk
  exact fun W C => rx_err hn.1 hn.2.1 hn.2.2.1 hn.2.2.2 hv
theorem p_fact {X : Tx} {tk d p f : Nat} {g : Bool} (hp : p ≤ X.2) (h1 : ¬ isS X p g 40) (h2 : ¬ (isW' X p g wMin ∨ isW' X p g wMax)) (h3 : ¬ (tk = 2 ∧ (isW' X p g wWet ∨ isW' X p g wStep))) (hf : fac X tk p g = some f) : OkP X tk d p g (lnx X p) true [40 + f] := by
  have hw : wIn X p g (wds 13) = some f ∧ al tk f = true := by
    unfold fac at hf
    cases e : wIn X p g (wds 13) with
    | none =>
      rw [e] at hf
      exact absurd hf (by simp)
    | some f' =>
      rw [e] at hf
      simp only at hf
      by_cases ha : al tk f' = true
      · rw [if_pos ha] at hf
        have := Option.some.inj hf
        rw [← this]
        exact ⟨rfl, ha⟩
      · rw [if_neg ha] at hf
        exact absurd hf (by simp)
  have hk : lkd X p g = 1 := by
    have := hw.1
    unfold wIn at this
    by_cases e : lkd X p g = 1
    · exact e
    · rw [if_neg e] at this
      exact absurd this (by simp)
  have hlt : f < 13 := wIn_b hw.1
  have l1 := wrd_lt hp (Or.inl hk)
  refine ⟨⟨l1.1, l1.2, ?_, good_mono (good_fact hlt) (by omega), fun t ht => by rw [List.mem_singleton.mp ht]; exact Or.inr (Or.inl ⟨by omega, by omega, by rw [Nat.add_sub_cancel_left]; exact hw.2⟩)⟩, fun W C r h => rx_fact h1 h2 h3 hf h⟩
  simp only [List.length_cons, List.length_nil]
  omega
theorem p_fact_e {X : Tx} {tk d p : Nat} {g : Bool} (hk : lkd X p g ≠ 2) (h1 : ¬ isS X p g 40) (h2 : ¬ (isW' X p g wMin ∨ isW' X p g wMax)) (h3 : ¬ (tk = 2 ∧ (isW' X p g wWet ∨ isW' X p g wStep))) (hf : fac X tk p g = none) : ErP X tk d p g (1, lst X p) := by
  have hv : nuR X p g 0 9999 = .error (1, lst X p) := by
    unfold nuR
    first | refine i_neg hk ?_ | rw [if_neg hk]
    try (with_reducible rfl)
  exact fun W C => rx_err h1 h2 h3 hf hv
/-- a SUM by itself -/
theorem s_top {X : Tx} {tk d p p' : Nat} {g g' : Bool} {c : List Nat} (h : OkS X tk d p g p' g' c) (hn : nS X p' g') : Rx X tk 0 p g [] [] d (.ok (p', g', c)) := by
  obtain ⟨_, c1, U, e, hU, hr⟩ := h
  refine hr [] [] _ (fun x hx => absurd hx (by simp)) ?_
  have := rx_done (X := X) (tk := tk) (o := d) (C := [] ++ c1) (u_lt hU) hn
  rw [List.append_nil]
  rw [e]
  exact this
