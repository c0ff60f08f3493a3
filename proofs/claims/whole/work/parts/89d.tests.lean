/-! ===== TESTS, pure ===== -/
def wNot : List Nat := [110, 111, 116]
def wAll : List Nat := [97, 108, 108]
def wAnd : List Nat := [97, 110, 100]
def wOr : List Nat := [111, 114]
def is10 (x : Nat) : Bool := decide (x = 10)
def is11 (x : Nat) : Bool := decide (x = 10 ∨ x = 11)
def no25 (x : Nat) : Bool := decide (x ≠ 25)
def cmpS (X : Tx) (p : Nat) (g : Bool) : Prop := isS X p g 60 ∨ isS X p g 62 ∨ isS X p g 61
def cmpT (X : Tx) (p : Nat) : Nat := if X.1 (lst X p) = 60 then 7 else if X.1 (lst X p) = 62 then 8 else 9
def Rt (X : Tx) : Nat → Nat → Nat → Bool → List Nat → List Nat → Nat → Rs → Prop
  | 0, _, _, _, _, _, _, _ => False
  | k + 1, m, p, g, W, C, o, r =>
    if m = 0 then
      (if isS X p g 91 then (if o = 6 then r = .error (4, lst X p) else Rt X k 0 (lnx X p) false (25 :: W) C (o + 1) r)
      else if isW' X p g wNot then (if o = 6 then r = .error (4, lst X p) else Rt X k 0 (lnx X p) true (12 :: W) C (o + 1) r)
      else if isW' X p g wAll then Rt X k 1 (lnx X p) true W (C ++ [13]) o r
      else (∃ e, Rx X 2 0 p g [] [] o (.error e) ∧ r = .error e) ∨ ∃ p1 g1 c1, Rx X 2 0 p g [] [] o (.ok (p1, g1, c1)) ∧ p < p1 ∧ p1 ≤ X.2 ∧ p + c1.length ≤ p1 ∧
        ((¬ cmpS X p1 g1 ∧ r = .error (1, lst X p1)) ∨ (cmpS X p1 g1 ∧ ((∃ e, Rx X 2 0 (lnx X p1) false [] [] o (.error e) ∧ r = .error e) ∨ ∃ p2 g2 c2, Rx X 2 0 (lnx X p1) false [] [] o (.ok (p2, g2, c2)) ∧ lnx X p1 < p2 ∧ p2 ≤ X.2 ∧ lnx X p1 + c2.length ≤ p2 ∧ Rt X k 1 p2 g2 W (C ++ c1 ++ c2 ++ [cmpT X p1]) o r))))
    else if m = 1 then
      (match W with
        | x :: W' => if x = 12 then Rt X k 1 p g W' (C ++ [12]) (o - 1) r else Rt X k 2 p g (x :: W') C o r
        | [] => Rt X k 2 p g [] C o r)
    else
      (if isS X p g 93 ∧ 25 ∈ W then Rt X k 1 (lnx X p) false (W.dropWhile no25).tail (C ++ W.takeWhile no25) (o - 1) r
      else if isW' X p g wAnd then Rt X k 0 (lnx X p) true (10 :: W.dropWhile is10) (C ++ W.takeWhile is10) o r
      else if isW' X p g wOr then Rt X k 0 (lnx X p) true (11 :: W.dropWhile is11) (C ++ W.takeWhile is11) o r
      else if 25 ∈ W then r = .error (1, lst X p) else r = .ok (p, g, C ++ W))
def Rz (X : Tx) (m p : Nat) (g : Bool) (W C : List Nat) (o : Nat) (r : Rs) : Prop := ∃ k, Rt X k m p g W C o r
theorem rz_sq {X : Tx} {p o : Nat} {g : Bool} {W C : List Nat} {r : Rs} (hs : isS X p g 91) (ho : o ≠ 6) (h : Rz X 0 (lnx X p) false (25 :: W) C (o + 1) r) : Rz X 0 p g W C o r := by
  obtain ⟨k, h⟩ := h
  refine ⟨k + 1, ?_⟩
  unfold Rt
  first | refine i_pos rfl ?_ | rw [if_pos rfl]
  first | refine i_pos hs ?_ | rw [if_pos hs]
  first | refine i_neg ho ?_ | rw [if_neg ho]
  try (with_reducible rfl)
  exact h
theorem rz_sq_e {X : Tx} {p : Nat} {g : Bool} {W C : List Nat} (hs : isS X p g 91) : Rz X 0 p g W C 6 (.error (4, lst X p)) := by
  refine ⟨1, ?_⟩
  unfold Rt
  first | refine i_pos rfl ?_ | rw [if_pos rfl]
  first | refine i_pos hs ?_ | rw [if_pos hs]
  first | refine i_pos rfl ?_ | rw [if_pos rfl]
  try (with_reducible rfl)
theorem rz_not {X : Tx} {p o : Nat} {g : Bool} {W C : List Nat} {r : Rs} (hs : isW' X p g wNot) (ho : o ≠ 6) (h : Rz X 0 (lnx X p) true (12 :: W) C (o + 1) r) : Rz X 0 p g W C o r := by
  obtain ⟨k, h⟩ := h
  refine ⟨k + 1, ?_⟩
  unfold Rt
  first | refine i_pos rfl ?_ | rw [if_pos rfl]
  first | refine i_neg (isW_s hs) ?_ | rw [if_neg (isW_s hs)]
  first | refine i_pos hs ?_ | rw [if_pos hs]
  first | refine i_neg ho ?_ | rw [if_neg ho]
  try (with_reducible rfl)
  exact h
theorem rz_not_e {X : Tx} {p : Nat} {g : Bool} {W C : List Nat} (hs : isW' X p g wNot) : Rz X 0 p g W C 6 (.error (4, lst X p)) := by
  refine ⟨1, ?_⟩
  unfold Rt
  first | refine i_pos rfl ?_ | rw [if_pos rfl]
  first | refine i_neg (isW_s hs) ?_ | rw [if_neg (isW_s hs)]
  first | refine i_pos hs ?_ | rw [if_pos hs]
  first | refine i_pos rfl ?_ | rw [if_pos rfl]
  try (with_reducible rfl)
theorem rz_all {X : Tx} {p o : Nat} {g : Bool} {W C : List Nat} {r : Rs} (hs : isW' X p g wAll) (h : Rz X 1 (lnx X p) true W (C ++ [13]) o r) : Rz X 0 p g W C o r := by
  obtain ⟨k, h⟩ := h
  refine ⟨k + 1, ?_⟩
  unfold Rt
  first | refine i_pos rfl ?_ | rw [if_pos rfl]
  first | refine i_neg (isW_s hs) ?_ | rw [if_neg (isW_s hs)]
  first | refine i_neg (isW_n hs (by first | decide | (unfold vp_in; decide))) ?_ | rw [if_neg (isW_n hs (by first | decide | (unfold vp_in; decide)))]
  first | refine i_pos hs ?_ | rw [if_pos hs]
  try (with_reducible rfl)
  exact h
/-- none of what begins a fact otherwise -/
def nF (X : Tx) (p : Nat) (g : Bool) : Prop := ¬ isS X p g 91 ∧ ¬ isW' X p g wNot ∧ ¬ isW' X p g wAll
theorem rz_c1 {X : Tx} {p o : Nat} {g : Bool} {W C : List Nat} {e : Nat × Nat} (hn : nF X p g) (h : Rx X 2 0 p g [] [] o (.error e)) : Rz X 0 p g W C o (.error e) := by
  refine ⟨1, ?_⟩
  unfold Rt
  first | refine i_pos rfl ?_ | rw [if_pos rfl]
  first | refine i_neg hn.1 ?_ | rw [if_neg hn.1]
  first | refine i_neg hn.2.1 ?_ | rw [if_neg hn.2.1]
  first | refine i_neg hn.2.2 ?_ | rw [if_neg hn.2.2]
  try (with_reducible rfl)
  exact Or.inl ⟨e, h, rfl⟩
theorem rz_c2 {X : Tx} {p o p1 : Nat} {g g1 : Bool} {W C c1 : List Nat} (hn : nF X p g) (h : Rx X 2 0 p g [] [] o (.ok (p1, g1, c1))) (hb : p < p1 ∧ p1 ≤ X.2 ∧ p + c1.length ≤ p1) (hc : ¬ cmpS X p1 g1) : Rz X 0 p g W C o (.error (1, lst X p1)) := by
  refine ⟨1, ?_⟩
  unfold Rt
  first | refine i_pos rfl ?_ | rw [if_pos rfl]
  first | refine i_neg hn.1 ?_ | rw [if_neg hn.1]
  first | refine i_neg hn.2.1 ?_ | rw [if_neg hn.2.1]
  first | refine i_neg hn.2.2 ?_ | rw [if_neg hn.2.2]
  try (with_reducible rfl)
  exact Or.inr ⟨p1, g1, c1, h, hb.1, hb.2.1, hb.2.2, Or.inl ⟨hc, rfl⟩⟩
theorem rz_c3 {X : Tx} {p o p1 : Nat} {g g1 : Bool} {W C c1 : List Nat} {e : Nat × Nat} (hn : nF X p g) (h : Rx X 2 0 p g [] [] o (.ok (p1, g1, c1))) (hb : p < p1 ∧ p1 ≤ X.2 ∧ p + c1.length ≤ p1) (hc : cmpS X p1 g1) (h2 : Rx X 2 0 (lnx X p1) false [] [] o (.error e)) : Rz X 0 p g W C o (.error e) := by
  refine ⟨1, ?_⟩
  unfold Rt
  first | refine i_pos rfl ?_ | rw [if_pos rfl]
  first | refine i_neg hn.1 ?_ | rw [if_neg hn.1]
  first | refine i_neg hn.2.1 ?_ | rw [if_neg hn.2.1]
  first | refine i_neg hn.2.2 ?_ | rw [if_neg hn.2.2]
  try (with_reducible rfl)
  exact Or.inr ⟨p1, g1, c1, h, hb.1, hb.2.1, hb.2.2, Or.inr ⟨hc, Or.inl ⟨e, h2, rfl⟩⟩⟩
theorem rz_c4 {X : Tx} {p o p1 p2 : Nat} {g g1 g2 : Bool} {W C c1 c2 : List Nat} {r : Rs} (hn : nF X p g) (h : Rx X 2 0 p g [] [] o (.ok (p1, g1, c1))) (hb : p < p1 ∧ p1 ≤ X.2 ∧ p + c1.length ≤ p1) (hc : cmpS X p1 g1) (h2 : Rx X 2 0 (lnx X p1) false [] [] o (.ok (p2, g2, c2))) (hb2 : lnx X p1 < p2 ∧ p2 ≤ X.2 ∧ lnx X p1 + c2.length ≤ p2) (h3 : Rz X 1 p2 g2 W (C ++ c1 ++ c2 ++ [cmpT X p1]) o r) : Rz X 0 p g W C o r := by
  obtain ⟨k, h3⟩ := h3
  refine ⟨k + 1, ?_⟩
  unfold Rt
  first | refine i_pos rfl ?_ | rw [if_pos rfl]
  first | refine i_neg hn.1 ?_ | rw [if_neg hn.1]
  first | refine i_neg hn.2.1 ?_ | rw [if_neg hn.2.1]
  first | refine i_neg hn.2.2 ?_ | rw [if_neg hn.2.2]
  try (with_reducible rfl)
  exact Or.inr ⟨p1, g1, c1, h, hb.1, hb.2.1, hb.2.2, Or.inr ⟨hc, Or.inr ⟨p2, g2, c2, h2, hb2.1, hb2.2.1, hb2.2.2, h3⟩⟩⟩
theorem rz_drop {X : Tx} {p o : Nat} {g : Bool} {W C : List Nat} {r : Rs} (h : Rz X 1 p g W (C ++ [12]) (o - 1) r) : Rz X 1 p g (12 :: W) C o r := by
  obtain ⟨k, h⟩ := h
  refine ⟨k + 1, ?_⟩
  unfold Rt
  first | refine i_neg (by omega) ?_ | rw [if_neg (by omega)]
  first | refine i_pos rfl ?_ | rw [if_pos rfl]
  try (with_reducible rfl)
  show (if 12 = 12 then _ else _)
  first | refine i_pos rfl ?_ | rw [if_pos rfl]
  try (with_reducible rfl)
  exact h
theorem rz_end {X : Tx} {p o : Nat} {g : Bool} {W C : List Nat} {r : Rs} (hx : ∀ x, W.head? = some x → x ≠ 12) (h : Rz X 2 p g W C o r) : Rz X 1 p g W C o r := by
  obtain ⟨k, h⟩ := h
  refine ⟨k + 1, ?_⟩
  unfold Rt
  first | refine i_neg (by omega) ?_ | rw [if_neg (by omega)]
  first | refine i_pos rfl ?_ | rw [if_pos rfl]
  try (with_reducible rfl)
  cases W with
  | nil => exact h
  | cons x W' =>
    show (if x = 12 then _ else _)
    first | refine i_neg (hx x rfl) ?_ | rw [if_neg (hx x rfl)]
    try (with_reducible rfl)
    exact h
theorem sq_app {U W : List Nat} (hU : ∀ x ∈ U, x = 10 ∨ x = 11) : (U ++ 25 :: W).takeWhile no25 = U ∧ (U ++ 25 :: W).dropWhile no25 = 25 :: W ∧ 25 ∈ U ++ 25 :: W := by
  have h := tw_app (q := no25) (U := U) (W := 25 :: W) (fun x hx => decide_eq_true (by have := hU x hx; omega)) (fun x hx => by rw [← Option.some.inj hx]; rfl)
  exact ⟨h.1, h.2, by simp⟩
theorem sq_no {U : List Nat} (hU : ∀ x ∈ U, x = 10 ∨ x = 11) : ¬ 25 ∈ U := fun h => by
  have := hU 25 h
  omega
theorem rz_close {X : Tx} {p o : Nat} {g : Bool} {U W C : List Nat} {r : Rs} (hU : ∀ x ∈ U, x = 10 ∨ x = 11) (hs : isS X p g 93) (h : Rz X 1 (lnx X p) false W (C ++ U) (o - 1) r) : Rz X 2 p g (U ++ 25 :: W) C o r := by
  obtain ⟨k, h⟩ := h
  refine ⟨k + 1, ?_⟩
  obtain ⟨e1, e2, e3⟩ := sq_app (W := W) hU
  unfold Rt
  first | refine i_neg (by omega) ?_ | rw [if_neg (by omega)]
  first | refine i_neg (by omega) ?_ | rw [if_neg (by omega)]
  first | refine i_pos ⟨hs, e3⟩ ?_ | rw [if_pos ⟨hs, e3⟩]
  rw [e1, e2]
  exact h
/-- neither word -/
def nO (X : Tx) (p : Nat) (g : Bool) : Prop := ¬ isW' X p g wAnd ∧ ¬ isW' X p g wOr
theorem rz_close_e {X : Tx} {p o : Nat} {g : Bool} {U W C : List Nat} (hU : ∀ x ∈ U, x = 10 ∨ x = 11) (hs : ¬ isS X p g 93) (hn : nO X p g) : Rz X 2 p g (U ++ 25 :: W) C o (.error (1, lst X p)) := by
  refine ⟨1, ?_⟩
  obtain ⟨e1, e2, e3⟩ := sq_app (W := W) hU
  unfold Rt
  first | refine i_neg (by omega) ?_ | rw [if_neg (by omega)]
  first | refine i_neg (by omega) ?_ | rw [if_neg (by omega)]
  first | refine i_neg (fun h => hs h.1) ?_ | rw [if_neg (fun h => hs h.1)]
  first | refine i_neg hn.1 ?_ | rw [if_neg hn.1]
  first | refine i_neg hn.2 ?_ | rw [if_neg hn.2]
  first | refine i_pos e3 ?_ | rw [if_pos e3]
  try (with_reducible rfl)
theorem rz_and {X : Tx} {p o : Nat} {g : Bool} {U W C : List Nat} {r : Rs} (hU : ∀ x ∈ U, x = 10) (hW : ∀ x, W.head? = some x → x ≠ 10) (hs : isW' X p g wAnd) (h : Rz X 0 (lnx X p) true (10 :: W) (C ++ U) o r) : Rz X 2 p g (U ++ W) C o r := by
  obtain ⟨k, h⟩ := h
  refine ⟨k + 1, ?_⟩
  have e := tw_app (q := is10) (U := U) (W := W) (fun x hx => decide_eq_true (hU x hx)) (fun x hx => decide_eq_false (hW x hx))
  unfold Rt
  first | refine i_neg (by omega) ?_ | rw [if_neg (by omega)]
  first | refine i_neg (by omega) ?_ | rw [if_neg (by omega)]
  first | refine i_neg (fun h => isW_s hs h.1) ?_ | rw [if_neg (fun h => isW_s hs h.1)]
  first | refine i_pos hs ?_ | rw [if_pos hs]
  rw [e.1, e.2]
  exact h
theorem rz_or {X : Tx} {p o : Nat} {g : Bool} {U W C : List Nat} {r : Rs} (hU : ∀ x ∈ U, x = 10 ∨ x = 11) (hW : ∀ x, W.head? = some x → ¬ (x = 10 ∨ x = 11)) (hs : isW' X p g wOr) (h : Rz X 0 (lnx X p) true (11 :: W) (C ++ U) o r) : Rz X 2 p g (U ++ W) C o r := by
  obtain ⟨k, h⟩ := h
  refine ⟨k + 1, ?_⟩
  have e := tw_app (q := is11) (U := U) (W := W) (fun x hx => decide_eq_true (hU x hx)) (fun x hx => decide_eq_false (hW x hx))
  unfold Rt
  first | refine i_neg (by omega) ?_ | rw [if_neg (by omega)]
  first | refine i_neg (by omega) ?_ | rw [if_neg (by omega)]
  first | refine i_neg (fun h => isW_s hs h.1) ?_ | rw [if_neg (fun h => isW_s hs h.1)]
  first | refine i_neg (isW_n hs (by first | decide | (unfold vp_in; decide))) ?_ | rw [if_neg (isW_n hs (by first | decide | (unfold vp_in; decide)))]
  first | refine i_pos hs ?_ | rw [if_pos hs]
  rw [e.1, e.2]
  exact h
theorem rz_done {X : Tx} {p o : Nat} {g : Bool} {U C : List Nat} (hU : ∀ x ∈ U, x = 10 ∨ x = 11) (hn : nO X p g) : Rz X 2 p g U C o (.ok (p, g, C ++ U)) := by
  refine ⟨1, ?_⟩
  unfold Rt
  first | refine i_neg (by omega) ?_ | rw [if_neg (by omega)]
  first | refine i_neg (by omega) ?_ | rw [if_neg (by omega)]
  first | refine i_neg (fun h => sq_no hU h.2) ?_ | rw [if_neg (fun h => sq_no hU h.2)]
  first | refine i_neg hn.1 ?_ | rw [if_neg hn.1]
  first | refine i_neg hn.2 ?_ | rw [if_neg hn.2]
  first | refine i_neg (sq_no hU) ?_ | rw [if_neg (sq_no hU)]
  try (with_reducible rfl)
def OkF (X : Tx) (d p : Nat) (g : Bool) (p' : Nat) (g' : Bool) (c : List Nat) : Prop := Bs X 2 p p' true (4 + 3 * (6 - d)) c ∧ ∀ W C r, Rz X 1 p' g' W (C ++ c) d r → Rz X 0 p g W C d r
def ErF (X : Tx) (d p : Nat) (g : Bool) (e : Nat × Nat) : Prop := ∀ W C, Rz X 0 p g W C d (.error e)
def TopA (W : List Nat) : Prop := ∀ x, W.head? = some x → x ≠ 10 ∧ x ≠ 12
def TopO (W : List Nat) : Prop := ∀ x, W.head? = some x → x = 25
def OkA (X : Tx) (d p : Nat) (g : Bool) (p' : Nat) (g' : Bool) (c : List Nat) : Prop := Bs X 2 p p' true (5 + 3 * (6 - d)) c ∧ ∃ c1 U, c = c1 ++ U ∧ (∀ x ∈ U, x = 10) ∧ ∀ W C r, TopA W → Rz X 2 p' g' (U ++ W) (C ++ c1) d r → Rz X 0 p g W C d r
def ErA (X : Tx) (d p : Nat) (g : Bool) (e : Nat × Nat) : Prop := ∀ W C, TopA W → Rz X 0 p g W C d (.error e)
def OkO (X : Tx) (d p : Nat) (g : Bool) (p' : Nat) (g' : Bool) (c : List Nat) : Prop := Bs X 2 p p' true (6 + 3 * (6 - d)) c ∧ ∃ c1 U, c = c1 ++ U ∧ (∀ x ∈ U, x = 10 ∨ x = 11) ∧ ∀ W C r, TopO W → Rz X 2 p' g' (U ++ W) (C ++ c1) d r → Rz X 0 p g W C d r
def ErO (X : Tx) (d p : Nat) (g : Bool) (e : Nat × Nat) : Prop := ∀ W C, TopO W → Rz X 0 p g W C d (.error e)
theorem okK_2 {x : Nat} (hx : x ≤ 13) : OkK 2 [x] := by
  intro t ht
  rw [List.mem_singleton.mp ht]
  exact Or.inr (Or.inr (Or.inr ⟨rfl, Or.inl hx⟩))
theorem f_all {X : Tx} {d p : Nat} {g : Bool} (hp : p ≤ X.2) (hs : isW' X p g wAll) : OkF X d p g (lnx X p) true [13] := by
  have l1 := wrd_lt hp (Or.inl hs.1)
  refine ⟨⟨l1.1, l1.2, ?_, good_mono good_all (by omega), okK_2 (by omega)⟩, fun W C r h => rz_all hs h⟩
  simp only [List.length_cons, List.length_nil]
  omega
theorem f_not {X : Tx} {d p p1 : Nat} {g g1 : Bool} {c : List Nat} (hp : p ≤ X.2) (hd : d < 6) (hs : isW' X p g wNot) (h : OkF X (d + 1) (lnx X p) true p1 g1 c) : OkF X d p g p1 g1 (c ++ [12]) := by
  obtain ⟨⟨a1, a2, a3, a4, a5⟩, hr⟩ := h
  have l1 := wrd_lt hp (Or.inl hs.1)
  refine ⟨⟨by omega, a2, ?_, good_mono (good_not a4) (by omega), okK_app a5 (okK_2 (by omega))⟩, fun W C r h => rz_not hs (by omega) (hr _ C r (rz_drop ?_))⟩
  · simp only [List.length_append, List.length_cons, List.length_nil]
    omega
  · rw [List.append_assoc]
    exact h
theorem f_not_6 {X : Tx} {p : Nat} {g : Bool} (hs : isW' X p g wNot) : ErF X 6 p g (4, lst X p) := fun W C => rz_not_e hs
theorem f_not_i {X : Tx} {d p : Nat} {g : Bool} {e : Nat × Nat} (hd : d < 6) (hs : isW' X p g wNot) (h : ErF X (d + 1) (lnx X p) true e) : ErF X d p g e := fun W C => rz_not hs (by omega) (h _ C)
theorem topO_25 (W : List Nat) : TopO (25 :: W) := fun x hx => (Option.some.inj hx).symm
theorem f_sq {X : Tx} {d p p1 : Nat} {g g1 : Bool} {c : List Nat} (hp : p ≤ X.2) (hd : d < 6) (hs : isS X p g 91) (h : OkO X (d + 1) (lnx X p) false p1 g1 c) (h2 : isS X p1 g1 93) : OkF X d p g (lnx X p1) false c := by
  obtain ⟨⟨a1, a2, a3, a4, a5⟩, c1, U, e, hU, hr⟩ := h
  have l1 := sgn_lt hp hs
  have l2 := sgn_lt a2 h2
  refine ⟨⟨by omega, l2.2, by omega, good_mono a4 (by omega), a5⟩, fun W C r h => rz_sq hs (by omega) (hr (25 :: W) C r (topO_25 W) (rz_close hU h2 ?_))⟩
  have e3 : C ++ c1 ++ U = C ++ c := by rw [e]; simp
  rw [e3]
  exact h
theorem f_sq_6 {X : Tx} {p : Nat} {g : Bool} (hs : isS X p g 91) : ErF X 6 p g (4, lst X p) := fun W C => rz_sq_e hs
theorem f_sq_i {X : Tx} {d p : Nat} {g : Bool} {e : Nat × Nat} (hd : d < 6) (hs : isS X p g 91) (h : ErO X (d + 1) (lnx X p) false e) : ErF X d p g e := fun W C => rz_sq hs (by omega) (h (25 :: W) C (topO_25 W))
theorem f_sq_c {X : Tx} {d p p1 : Nat} {g g1 : Bool} {c : List Nat} (hd : d < 6) (hs : isS X p g 91) (h : OkO X (d + 1) (lnx X p) false p1 g1 c) (hn : nO X p1 g1) (h2 : ¬ isS X p1 g1 93) : ErF X d p g (1, lst X p1) := by
  obtain ⟨_, c1, U, e, hU, hr⟩ := h
  exact fun W C => rz_sq hs (by omega) (hr (25 :: W) C _ (topO_25 W) (rz_close_e hU h2 hn))
theorem cmpT_r (X : Tx) (p : Nat) : 7 ≤ cmpT X p ∧ cmpT X p ≤ 9 := by
  unfold cmpT
  by_cases h : X.1 (lst X p) = 60
  · first | refine i_pos h ?_ | rw [if_pos h]
    try (with_reducible rfl)
    omega
  · first | refine i_neg h ?_ | rw [if_neg h]
    try (with_reducible rfl)
    by_cases h2 : X.1 (lst X p) = 62
    · first | refine i_pos h2 ?_ | rw [if_pos h2]
      try (with_reducible rfl)
      omega
    · first | refine i_neg h2 ?_ | rw [if_neg h2]
      try (with_reducible rfl)
      omega
theorem cmp_lt {X : Tx} {p : Nat} {g : Bool} (hp : p ≤ X.2) (h : cmpS X p g) : p < lnx X p ∧ lnx X p ≤ X.2 := by
  rcases h with h | h | h
  · exact sgn_lt hp h
  · exact sgn_lt hp h
  · exact sgn_lt hp h
theorem er_top {X : Tx} {tk d p : Nat} {g : Bool} {e : Nat × Nat} (h : ErS X tk d p g e) : Rx X tk 0 p g [] [] d (.error e) := h [] [] (fun x hx => absurd hx (by simp))
theorem f_cmp {X : Tx} {d p p1 p2 : Nat} {g g1 g2 : Bool} {c c2 : List Nat} (hf : nF X p g) (h : OkS X 2 d p g p1 g1 c) (hn : nS X p1 g1) (hc : cmpS X p1 g1) (h2 : OkS X 2 d (lnx X p1) false p2 g2 c2) (hn2 : nS X p2 g2) : OkF X d p g p2 g2 (c ++ c2 ++ [cmpT X p1]) := by
  have t1 := s_top h hn
  have t2 := s_top h2 hn2
  obtain ⟨⟨a1, a2, a3, a4, a5⟩, _⟩ := h
  obtain ⟨⟨b1, b2, b3, b4, b5⟩, _⟩ := h2
  have l1 := cmp_lt a2 hc
  have hr := cmpT_r X p1
  refine ⟨⟨by omega, b2, ?_, ?_, okK_app (okK_app a5 b5) (okK_op (by omega))⟩, fun W C r h => rz_c4 hf t1 ⟨a1, a2, a3⟩ hc t2 ⟨b1, b2, b3⟩ ?_⟩
  · simp only [List.length_append, List.length_cons, List.length_nil]
    omega
  · have := good_two (op := cmpT X p1) (s := true) a4 b4 (Or.inl ⟨rfl, by omega, by omega, by rw [decide_eq_true hr.1]⟩)
    exact good_mono this (by omega)
  · have e : C ++ c ++ c2 ++ [cmpT X p1] = C ++ (c ++ c2 ++ [cmpT X p1]) := by simp
    rw [e]
    exact h
theorem f_cmp_1 {X : Tx} {d p : Nat} {g : Bool} {e : Nat × Nat} (hf : nF X p g) (h : ErS X 2 d p g e) : ErF X d p g e := fun W C => rz_c1 hf (er_top h)
theorem f_cmp_n {X : Tx} {d p p1 : Nat} {g g1 : Bool} {c : List Nat} (hf : nF X p g) (h : OkS X 2 d p g p1 g1 c) (hn : nS X p1 g1) (hc : ¬ cmpS X p1 g1) : ErF X d p g (1, lst X p1) := fun W C => rz_c2 hf (s_top h hn) ⟨h.1.1, h.1.2.1, h.1.2.2.1⟩ hc
theorem f_cmp_2 {X : Tx} {d p p1 : Nat} {g g1 : Bool} {c : List Nat} {e : Nat × Nat} (hf : nF X p g) (h : OkS X 2 d p g p1 g1 c) (hn : nS X p1 g1) (hc : cmpS X p1 g1) (h2 : ErS X 2 d (lnx X p1) false e) : ErF X d p g e := fun W C => rz_c3 hf (s_top h hn) ⟨h.1.1, h.1.2.1, h.1.2.2.1⟩ hc (er_top h2)
theorem a_first {X : Tx} {d p p' : Nat} {g g' : Bool} {c : List Nat} (h : OkF X d p g p' g' c) : OkA X d p g p' g' c := by
  obtain ⟨⟨a1, a2, a3, a4, a5⟩, h2⟩ := h
  exact ⟨⟨a1, a2, a3, good_mono a4 (by omega), a5⟩, c, [], by simp, fun x hx => absurd hx (by simp), fun W C r hW hr => h2 W C r (rz_end (fun x hx => (hW x hx).2) hr)⟩
theorem a_first_e {X : Tx} {d p : Nat} {g : Bool} {e : Nat × Nat} (h : ErF X d p g e) : ErA X d p g e := fun W C _ => h W C
theorem a_step {X : Tx} {d p p1 p2 : Nat} {g g1 g2 : Bool} {c c2 : List Nat} (h : OkA X d p g p1 g1 c) (hs : isW' X p1 g1 wAnd) (h2 : OkF X d (lnx X p1) true p2 g2 c2) : OkA X d p g p2 g2 (c ++ c2 ++ [10]) := by
  obtain ⟨⟨a1, a2, a3, a4, a5⟩, c1, U, e, hU, hr⟩ := h
  obtain ⟨⟨b1, b2, b3, b4, b5⟩, hr2⟩ := h2
  have l1 := wrd_lt a2 (Or.inl hs.1)
  refine ⟨⟨by omega, b2, ?_, ?_, okK_app (okK_app a5 b5) (okK_2 (by omega))⟩, c1 ++ U ++ c2, [10], by rw [e], fun x hx => List.mem_singleton.mp hx, fun W C r hW h => ?_⟩
  · simp only [List.length_append, List.length_cons, List.length_nil]
    omega
  · have := good_two (op := 10) (s := true) a4 b4 (Or.inr ⟨rfl, rfl, Or.inl rfl⟩)
    exact good_mono this (by omega)
  · refine hr W C r hW (rz_and hU (fun x hx => (hW x hx).1) hs (hr2 (10 :: W) (C ++ c1 ++ U) r (rz_end (fun x hx => ?_) ?_)))
    · have : 10 = x := Option.some.inj hx
      omega
    · have e2 : C ++ (c1 ++ U ++ c2) = C ++ c1 ++ U ++ c2 := by simp
      rw [← e2]
      exact h
theorem a_step_e {X : Tx} {d p p1 : Nat} {g g1 : Bool} {c : List Nat} {e' : Nat × Nat} (h : OkA X d p g p1 g1 c) (hs : isW' X p1 g1 wAnd) (h2 : ErF X d (lnx X p1) true e') : ErA X d p g e' := by
  obtain ⟨_, c1, U, e, hU, hr⟩ := h
  exact fun W C hW => hr W C _ hW (rz_and hU (fun x hx => (hW x hx).1) hs (h2 _ _))
theorem topO_A {W : List Nat} (h : TopO W) : TopA W := fun x hx => by
  have := h x hx
  omega
theorem topA_11 (W : List Nat) : TopA (11 :: W) := fun x hx => by
  have : 11 = x := Option.some.inj hx
  omega
theorem o_first {X : Tx} {d p p' : Nat} {g g' : Bool} {c : List Nat} (h : OkA X d p g p' g' c) : OkO X d p g p' g' c := by
  obtain ⟨⟨a1, a2, a3, a4, a5⟩, c1, U, e, hU, hr⟩ := h
  exact ⟨⟨a1, a2, a3, good_mono a4 (by omega), a5⟩, c1, U, e, fun x hx => Or.inl (hU x hx), fun W C r hW h => hr W C r (topO_A hW) h⟩
theorem o_first_e {X : Tx} {d p : Nat} {g : Bool} {e : Nat × Nat} (h : ErA X d p g e) : ErO X d p g e := fun W C hW => h W C (topO_A hW)
theorem o_step {X : Tx} {d p p1 p2 : Nat} {g g1 g2 : Bool} {c c2 : List Nat} (h : OkO X d p g p1 g1 c) (hs : isW' X p1 g1 wOr) (h2 : OkA X d (lnx X p1) true p2 g2 c2) : OkO X d p g p2 g2 (c ++ c2 ++ [11]) := by
  obtain ⟨⟨a1, a2, a3, a4, a5⟩, c1, U, e, hU, hr⟩ := h
  obtain ⟨⟨b1, b2, b3, b4, b5⟩, c21, U2, e2, hU2, hr2⟩ := h2
  have l1 := wrd_lt a2 (Or.inl hs.1)
  refine ⟨⟨by omega, b2, ?_, ?_, okK_app (okK_app a5 b5) (okK_2 (by omega))⟩, c1 ++ U ++ c21, U2 ++ [11], by rw [e, e2]; simp, fun x hx => ?_, fun W C r hW h => ?_⟩
  · simp only [List.length_append, List.length_cons, List.length_nil]
    omega
  · have := good_two (op := 11) (s := true) a4 b4 (Or.inr ⟨rfl, rfl, Or.inr rfl⟩)
    exact good_mono this (by omega)
  · rcases List.mem_append.mp hx with h | h
    · exact Or.inl (hU2 x h)
    · exact Or.inr (List.mem_singleton.mp h)
  · refine hr W C r hW (rz_or hU (fun x hx => by have := hW x hx; omega) hs (hr2 (11 :: W) (C ++ c1 ++ U) r (topA_11 W) ?_))
    have e3 : C ++ (c1 ++ U ++ c21) = C ++ c1 ++ U ++ c21 := by simp
    have e4 : U2 ++ [11] ++ W = U2 ++ 11 :: W := by simp
    rw [← e3, ← e4]
    exact h
theorem o_step_e {X : Tx} {d p p1 : Nat} {g g1 : Bool} {c : List Nat} {e' : Nat × Nat} (h : OkO X d p g p1 g1 c) (hs : isW' X p1 g1 wOr) (h2 : ErA X d (lnx X p1) true e') : ErO X d p g e' := by
  obtain ⟨_, c1, U, e, hU, hr⟩ := h
  exact fun W C hW => hr W C _ hW (rz_or hU (fun x hx => by have := hW x hx; omega) hs (h2 _ _ (topA_11 W)))
theorem o_top {X : Tx} {d p p' : Nat} {g g' : Bool} {c : List Nat} (h : OkO X d p g p' g' c) (hn : nO X p' g') : Rz X 0 p g [] [] d (.ok (p', g', c)) := by
  obtain ⟨_, c1, U, e, hU, hr⟩ := h
  refine hr [] [] _ (fun x hx => absurd hx (by simp)) ?_
  have := rz_done (X := X) (o := d) (C := [] ++ c1) hU hn
  rw [List.append_nil, e]
  exact this
theorem o_top_e {X : Tx} {d p : Nat} {g : Bool} {e : Nat × Nat} (h : ErO X d p g e) : Rz X 0 p g [] [] d (.error e) := h [] [] (fun x hx => absurd hx (by simp))
