/-! ===== words, numbers, names of the class ===== -/
def strN (v : Nat) : List Nat := ([[112, 108, 97, 105, 110], [98, 121], [104, 105, 103, 104, 32, 115, 116, 111, 110, 101, 32, 115, 111, 117, 114, 99, 101, 32, 102, 97, 114, 109, 32, 99, 97, 108, 108, 101, 114, 32, 103, 111, 101, 115, 32, 98, 97, 107, 101, 115], [112, 108, 97, 105, 110, 32, 98, 121, 32, 104, 105, 103, 104, 32, 115, 116, 111, 110, 101, 32, 115, 111, 117, 114, 99, 101, 32, 102, 97, 114, 109, 32, 97, 116, 32, 100, 97, 121, 32, 112, 105, 101, 32, 99, 97, 108, 108, 101, 114, 32, 98, 111, 108, 100, 32, 107, 105, 110, 100, 32, 103, 111, 101, 115, 32, 98, 97, 107, 101, 115, 32, 121, 101, 97, 114, 32, 98, 101, 101, 110, 32, 104, 101, 105, 103, 104, 116, 32, 100, 111, 119, 110, 32, 115, 116, 101, 112, 32, 119, 101, 116, 32, 110, 117, 109, 98, 101, 114, 32, 99, 111, 108, 117, 109, 110, 32, 114, 111, 119, 32, 102, 105, 114, 115, 116, 32, 111, 114, 32, 97, 110, 100, 32, 110, 111, 116, 32, 97, 108, 108, 32, 109, 105, 110, 32, 109, 97, 120], [97, 116], [100, 97, 121], [112, 105, 101], [98, 111, 108, 100], [107, 105, 110, 100], [109, 105, 110, 32, 109, 97, 120], [109, 105, 110], [119, 101, 116, 32, 115, 116, 101, 112], [119, 101, 116], [121, 101, 97, 114, 32, 112, 105, 101, 32, 98, 101, 101, 110, 32, 98, 111, 108, 100, 32, 107, 105, 110, 100, 32, 104, 101, 105, 103, 104, 116, 32, 100, 111, 119, 110, 32, 115, 116, 101, 112, 32, 119, 101, 116, 32, 110, 117, 109, 98, 101, 114, 32, 99, 111, 108, 117, 109, 110, 32, 114, 111, 119, 32, 100, 97, 121], [102, 105, 114, 115, 116, 32, 108, 97, 115, 116, 32, 111, 102, 116, 101, 110, 32, 116, 111, 116, 97, 108, 32, 109, 111, 115, 116, 32, 108, 101, 97, 115, 116], [110, 111, 116], [97, 108, 108], [97, 110, 100], [111, 114]] : List (List Nat)).getD v []
def wds (v : Nat) : List (List Nat) := ([[[112, 108, 97, 105, 110]], [[98, 121]], [[104, 105, 103, 104], [115, 116, 111, 110, 101], [115, 111, 117, 114, 99, 101], [102, 97, 114, 109], [99, 97, 108, 108, 101, 114], [103, 111, 101, 115], [98, 97, 107, 101, 115]], [[112, 108, 97, 105, 110], [98, 121], [104, 105, 103, 104], [115, 116, 111, 110, 101], [115, 111, 117, 114, 99, 101], [102, 97, 114, 109], [97, 116], [100, 97, 121], [112, 105, 101], [99, 97, 108, 108, 101, 114], [98, 111, 108, 100], [107, 105, 110, 100], [103, 111, 101, 115], [98, 97, 107, 101, 115], [121, 101, 97, 114], [98, 101, 101, 110], [104, 101, 105, 103, 104, 116], [100, 111, 119, 110], [115, 116, 101, 112], [119, 101, 116], [110, 117, 109, 98, 101, 114], [99, 111, 108, 117, 109, 110], [114, 111, 119], [102, 105, 114, 115, 116], [111, 114], [97, 110, 100], [110, 111, 116], [97, 108, 108], [109, 105, 110], [109, 97, 120]], [[97, 116]], [[100, 97, 121]], [[112, 105, 101]], [[98, 111, 108, 100]], [[107, 105, 110, 100]], [[109, 105, 110], [109, 97, 120]], [[109, 105, 110]], [[119, 101, 116], [115, 116, 101, 112]], [[119, 101, 116]], [[121, 101, 97, 114], [112, 105, 101], [98, 101, 101, 110], [98, 111, 108, 100], [107, 105, 110, 100], [104, 101, 105, 103, 104, 116], [100, 111, 119, 110], [115, 116, 101, 112], [119, 101, 116], [110, 117, 109, 98, 101, 114], [99, 111, 108, 117, 109, 110], [114, 111, 119], [100, 97, 121]], [[102, 105, 114, 115, 116], [108, 97, 115, 116], [111, 102, 116, 101, 110], [116, 111, 116, 97, 108], [109, 111, 115, 116], [108, 101, 97, 115, 116]], [[110, 111, 116]], [[97, 108, 108]], [[97, 110, 100]], [[111, 114]]] : List (List (List Nat))).getD v []
set_option maxRecDepth 100000 in
theorem sch_n : ∀ v, v < 19 → ∀ k, k < slen.getD v 0 → sch v (nI k) = nI ((strN v).getD k 0) := by decide +kernel
set_option maxRecDepth 100000 in
theorem str_len : ∀ v, v < 19 → (strN v).length = slen.getD v 0 ∧ slen.getD v 0 < 1000 := by decide +kernel
set_option maxRecDepth 100000 in
theorem str_b : ∀ v, v < 19 → ∀ k, k < slen.getD v 0 → (strN v).getD k 0 < 256 := by decide +kernel
def splA (acc : List Nat) : List Nat → List (List Nat)
  | [] => [acc]
  | c :: cs => if c = 32 then acc :: splA [] cs else splA (acc ++ [c]) cs
set_option maxRecDepth 100000 in
theorem spl_w : ∀ v, v < 19 → splA [] (strN v) = wds v := by decide +kernel
def fnd (w : List Nat) : List (List Nat) → Option Nat
  | [] => none
  | x :: xs => if x = w then some 0 else (fnd w xs).map (· + 1)
def seg (L : List Nat) (fr i : Nat) : List Nat := (L.drop fr).take (i - fr)
theorem seg_len {L : List Nat} {fr i : Nat} (h : fr ≤ i) (hi : i ≤ L.length) : (seg L fr i).length = i - fr := by
  unfold seg
  rw [List.length_take, List.length_drop]
  omega
theorem seg_get {L : List Nat} {fr i j : Nat} (hj : j < i - fr) : (seg L fr i).getD j 0 = L.getD (fr + j) 0 := by
  unfold seg
  rw [List.getD_eq_getElem?_getD, List.getElem?_take]
  first | refine i_pos hj ?_ | rw [if_pos hj]
  rw [List.getElem?_drop, List.getD_eq_getElem?_getD]
theorem seg_s {L : List Nat} {fr i : Nat} (h : fr ≤ i) (hi : i < L.length) : seg L fr (i + 1) = seg L fr i ++ [L.getD i 0] := by
  unfold seg
  rw [show i + 1 - fr = (i - fr) + 1 by omega, List.take_add_one, List.getElem?_drop, show fr + (i - fr) = i by omega, List.getElem?_eq_getElem hi, List.getD_eq_getElem?_getD, List.getElem?_eq_getElem hi]
  rfl
theorem seg_0 (L : List Nat) (i : Nat) : seg L i i = [] := by
  unfold seg
  rw [Nat.sub_self, List.take_zero]
theorem q_isSpelled {X : Tx} {p v fr : Nat} {Q : Int32 → St → Prop} {u : St} (hv : v < 19) (hp : p ≤ X.2) (ht : Txt u X) (h3 : u.1 1 3 = nI (lst X p)) (h4 : u.1 1 4 = nI (lnx X p)) (hm : fr + (lnx X p - lst X p) ≤ slen.getD v 0) (h1 : (∀ j, j < lnx X p - lst X p → X.1 (lst X p + j) = (strN v).getD (fr + j) 0) → Q 1 u) (h0 : (¬ ∀ j, j < lnx X p - lst X p → X.1 (lst X p + j) = (strN v).getD (fr + j) 0) → Q 0 u) : s_X9_isSpelled v (nI fr) Q u := by
  have h16 := ht.1
  have hl := lst_p hp
  have hn := lnx_p hp
  have hs := str_len v hv
  unfold s_X9_isSpelled sX9_isSpelled_p5
  rw [h3]
  refine for_g (fun i => nI (lst X p + i)) (fun n i s => sX9_isSpelled_p5n v (nI fr) Q n i s) (lnx X p - lst X p) (fun i s => s = u ∧ ∀ j, j < i → X.1 (lst X p + j) = (strN v).getD (fr + j) 0) ?_ 0 u (by omega) ⟨rfl, fun j hj => absurd hj (by omega)⟩
  rintro n i s hi ⟨rfl, heq⟩ hnext
  show sX9_isSpelled_p5b v (nI fr) Q (sX9_isSpelled_p5n v (nI fr) Q n) (nI (lst X p + i)) s
  unfold sX9_isSpelled_p5b
  rw [h4, h3]
  by_cases hie : i = lnx X p - lst X p
  · refine i_pos (nI_le (by omega) (by omega)) (h1 ?_)
    rw [← hie]
    exact heq
  refine i_neg (nI_ge (by omega) (by omega)) ?_
  have hb := ht.2.2 (lst X p + i) (by omega)
  have hb2 := str_b v hv (fr + i) (by omega)
  have e1 : nI fr + nI (lst X p + i) - nI (lst X p) = nI (fr + i) := by
    rw [nI_add, pk_sub (by omega)]
    congr 1
    omega
  rw [e1, nI_clamp (by omega), hb.1, sch_n v hv (fr + i) (by omega), nI_1]
  refine ⟨vp_in_nI (by omega) (by omega), hv, vp_in_nI (by omega) (by omega), ?_⟩
  by_cases ec : X.1 (lst X p + i) = (strN v).getD (fr + i) 0
  · refine i_pos (by rw [ec]) (hnext (by omega) s ⟨rfl, fun j hj => ?_⟩)
    by_cases ej : j = i
    · rw [ej]
      exact ec
    · exact heq j (by omega)
  · exact i_neg (fun h => ec ((nI_e (by omega) (by omega)).mp h)) (h0 (fun h => ec (h i (by omega))))
/-- the place of the next word among some -/
def wIn (X : Tx) (p : Nat) (g : Bool) (l : List (List Nat)) : Option Nat := if lkd X p g = 1 then fnd (lw X p) l else none
theorem fnd_lt {w : List Nat} : ∀ {l : List (List Nat)} {k : Nat}, fnd w l = some k → k < l.length
  | [], k, h => absurd h (by simp [fnd])
  | x :: xs, k, h => by
    unfold fnd at h
    by_cases e : x = w
    · rw [if_pos e] at h
      have := Option.some.inj h
      simp only [List.length_cons]
      omega
    · rw [if_neg e] at h
      cases hf : fnd w xs with
      | none =>
        rw [hf] at h
        exact absurd h (by simp)
      | some j =>
        rw [hf] at h
        have h1 := fnd_lt hf
        have h2 : j + 1 = k := Option.some.inj h
        simp only [List.length_cons]
        omega
theorem q_wordIn {X : Tx} {p v : Nat} {g : Bool} {Q : Int32 → St → Prop} {u : St} (hv : v < 19) (h : Tk u X p g) (hQ : Q (oI (wIn X p g (wds v))) u) : s_X9_wordIn v Q u := by
  obtain ⟨a1, a2, a3, a4, a5, a6, a7⟩ := h
  have h16 := a1.1
  have hl := lst_p a2
  have hn := lnx_p a2
  have hs := str_len v hv
  have hr := lkd_r X p g
  unfold wIn at hQ
  unfold s_X9_wordIn
  rw [a3]
  by_cases e : lkd X p g = 1
  · rw [if_pos e, ← spl_w v hv] at hQ
    rw [e]
    refine i_pos rfl ?_
    unfold sX9_wordIn_p17
    have key := for_up (fun n i (s : Int32 × Int32 × St) => sX9_wordIn_p17n v Q n s.1 s.2.1 i s.2.2) (slen.getD v 0 + 1) (fun i s => ∃ wh fr, s.1 = nI wh ∧ s.2.1 = nI fr ∧ s.2.2 = u ∧ fr ≤ i ∧ wh ≤ i ∧ (i ≤ slen.getD v 0 → fnd (lw X p) (splA [] (strN v)) = (fnd (lw X p) (splA (seg (strN v) fr i) ((strN v).drop i))).map (· + wh)) ∧ (i = slen.getD v 0 + 1 → fnd (lw X p) (splA [] (strN v)) = none)) ?_ 0 (0, 0, u) (by omega) ⟨0, 0, rfl, rfl, rfl, Nat.le_refl _, Nat.le_refl _, fun _ => by rw [seg_0, List.drop_zero]; simp, fun h => absurd h (by omega)⟩
    · exact key
    rintro n i ⟨v2, v3, s⟩ hi ⟨wh, fr, e1, e2, e3, hfr, hwh, hres, hend⟩ hnext
    simp only at e1 e2 e3
    subst e1 e2 e3
    show sX9_wordIn_p17b v Q (sX9_wordIn_p17n v Q n) (nI wh) (nI fr) (nI i) s
    unfold sX9_wordIn_p17b
    refine ⟨hv, ?_⟩
    by_cases hie : i = slen.getD v 0 + 1
    · rw [hend hie] at hQ
      exact i_pos (nI_lt (by omega) (by omega)) hQ
    refine i_neg (nI_nlt (by omega) (by omega)) ⟨hv, ?_⟩
    have hres := hres (by omega)
    have hsl := seg_len (L := strN v) hfr (by omega)
    have hcmp : (lw X p = seg (strN v) fr i) ↔ (i - fr = lnx X p - lst X p ∧ ∀ j, j < lnx X p - lst X p → X.1 (lst X p + j) = (strN v).getD (fr + j) 0) := by
      rw [lw_eq, hsl]
      constructor
      · rintro ⟨b1, b2⟩
        refine ⟨b1.symm, fun j hj => ?_⟩
        rw [b2 j (by omega), seg_get (by omega)]
      · rintro ⟨b1, b2⟩
        refine ⟨b1.symm, fun j hj => ?_⟩
        rw [b2 j (by omega), seg_get (by omega)]
    have h46 : (lw X p = seg (strN v) fr i → fnd (lw X p) (splA [] (strN v)) = some wh) → (lw X p ≠ seg (strN v) fr i → sX9_wordIn_p17n v Q n (nI (wh + 1)) (nI (i + 1)) (nI (i + 1)) s) → sX9_wordIn_p46 v (nI wh) (nI fr) (nI i) Q (sX9_wordIn_p17n v Q n) s := by
      intro hyes hno
      unfold sX9_wordIn_p46 sX9_wordIn_p73 sX9_wordIn_p81
      rw [a4, a5, pk_sub hfr, pk_sub (by omega), nI_1, nI_1]
      by_cases hlen : i - fr = lnx X p - lst X p
      · refine i_pos (by rw [hlen]) ?_
        refine q_isSpelled hv a2 a1 a4 a5 (by omega) (fun hall => ?_) (fun hnall => ?_)
        · refine i_neg (by first | decide | (unfold vp_in; decide)) ?_
          rw [hyes (hcmp.mpr ⟨hlen, hall⟩)] at hQ
          exact hQ
        · exact i_pos rfl (hno (fun h => hnall (hcmp.mp h).2))
      · exact i_neg (fun h => hlen ((nI_e (by omega) (by omega)).mp h)) (hno (fun h => hlen (hcmp.mp h).1))
    by_cases hil : i = slen.getD v 0
    · refine i_pos (by rw [hil]) (h46 (fun he => ?_) (fun hne => hnext (by omega) (nI (wh + 1), nI (i + 1), s) ⟨wh + 1, i + 1, rfl, rfl, rfl, Nat.le_refl _, by omega, fun h => absurd h (by omega), fun _ => ?_⟩))
      · rw [hres, List.drop_eq_nil_of_le (by omega)]
        show (if seg (strN v) fr i = lw X p then some 0 else (fnd (lw X p) []).map (· + 1)).map (· + wh) = some wh
        first | refine i_pos he.symm ?_ | rw [if_pos he.symm]
        try (with_reducible rfl)
        simp
      · rw [hres, List.drop_eq_nil_of_le (by omega)]
        show (if seg (strN v) fr i = lw X p then some 0 else (fnd (lw X p) []).map (· + 1)).map (· + wh) = none
        first | refine i_neg (fun h => hne h.symm) ?_ | rw [if_neg (fun h => hne h.symm)]
        try (with_reducible rfl)
        rfl
    refine i_neg (fun h => hil ((nI_e (by omega) (by omega)).mp h)) ⟨hv, vp_in_nI (by omega) (by omega), ?_⟩
    have hb := str_b v hv i (by omega)
    rw [sch_n v hv i (by omega)]
    have hdr : (strN v).drop i = (strN v).getD i 0 :: (strN v).drop (i + 1) := drop_getD (by omega)
    by_cases hc : (strN v).getD i 0 = 32
    · have hc' : nI ((strN v).getD i 0) = (32 : Int32) := by rw [hc]; rfl
      refine i_pos hc' (h46 (fun he => ?_) (fun hne => hnext (by omega) (nI (wh + 1), nI (i + 1), s) ⟨wh + 1, i + 1, rfl, rfl, rfl, Nat.le_refl _, by omega, fun h => ?_, fun h => absurd h (by omega)⟩))
      · rw [hres, hdr, hc]
        show (if seg (strN v) fr i = lw X p then some 0 else (fnd (lw X p) (splA [] ((strN v).drop (i + 1)))).map (· + 1)).map (· + wh) = some wh
        first | refine i_pos he.symm ?_ | rw [if_pos he.symm]
        try (with_reducible rfl)
        simp
      · rw [hres, hdr, hc]
        show (if seg (strN v) fr i = lw X p then some 0 else (fnd (lw X p) (splA [] ((strN v).drop (i + 1)))).map (· + 1)).map (· + wh) = _
        first | refine i_neg (fun h => hne h.symm) ?_ | rw [if_neg (fun h => hne h.symm)]
        rw [seg_0, Option.map_map]
        congr 1
        funext x
        show x + 1 + wh = x + (wh + 1)
        omega
    · have hc' : ¬ nI ((strN v).getD i 0) = (32 : Int32) := x_ne (k := 32) (by omega) (by omega) hc
      refine i_neg hc' ?_
      unfold sX9_wordIn_p81
      rw [nI_1]
      refine hnext (by omega) (nI wh, nI fr, s) ⟨wh, fr, rfl, rfl, rfl, by omega, by omega, fun h => ?_, fun h => absurd h (by omega)⟩
      rw [hres, hdr, seg_s hfr (by omega)]
      show (fnd (lw X p) (if (strN v).getD i 0 = 32 then _ else splA (seg (strN v) fr i ++ [(strN v).getD i 0]) ((strN v).drop (i + 1)))).map (· + wh) = _
      first | refine i_neg hc ?_ | rw [if_neg hc]
      try (with_reducible rfl)
  · rw [if_neg e] at hQ
    exact i_neg (x_ne (k := 1) (by omega) (by omega) e) hQ
theorem q_wordInF {X : Tx} {e : Nat × Nat} {v : Nat} {Q : Int32 → St → Prop} {u : St} (h : Tf u X e) (hQ : Q (-1) u) : s_X9_wordIn v Q u := by
  unfold s_X9_wordIn
  rw [h.2.1]
  exact i_neg (by first | decide | (unfold vp_in; decide)) hQ
/-- is this word next -/
abbrev isW' (X : Tx) (p : Nat) (g : Bool) (w : List Nat) : Prop := lkd X p g = 1 ∧ lw X p = w
theorem wIn_1 {X : Tx} {p : Nat} {g : Bool} {w : List Nat} : wIn X p g [w] = some 0 ↔ isW' X p g w := by
  unfold wIn isW'
  by_cases e : lkd X p g = 1
  · first | refine i_pos e ?_ | rw [if_pos e]
    try (with_reducible rfl)
    show (if w = lw X p then some 0 else none) = some 0 ↔ _
    by_cases e2 : w = lw X p
    · first | refine i_pos e2 ?_ | rw [if_pos e2]
      try (with_reducible rfl)
      exact ⟨fun _ => ⟨e, e2.symm⟩, fun _ => rfl⟩
    · first | refine i_neg e2 ?_ | rw [if_neg e2]
      try (with_reducible rfl)
      exact ⟨fun h => absurd h (by simp), fun h => absurd h.2.symm e2⟩
  · first | refine i_neg e ?_ | rw [if_neg e]
    try (with_reducible rfl)
    exact ⟨fun h => absurd h (by simp), fun h => absurd h.1 e⟩
theorem oI_0 {o : Option Nat} (h : ∀ n, o = some n → n < 1000) : (oI o = 0) ↔ o = some 0 := by
  cases o with
  | none => exact ⟨fun h => absurd h (by first | decide | (unfold vp_in; decide)), fun h => absurd h (by simp)⟩
  | some n =>
    have hn := h n rfl
    show nI n = nI 0 ↔ _
    rw [nI_e (by omega) (by omega)]
    simp
theorem wIn_b {X : Tx} {p : Nat} {g : Bool} {l : List (List Nat)} {k : Nat} (h : wIn X p g l = some k) : k < l.length := by
  unfold wIn at h
  by_cases e : lkd X p g = 1
  · rw [if_pos e] at h
    exact fnd_lt h
  · rw [if_neg e] at h
    exact absurd h (by simp)
/-- one word alone -/
theorem q_word1 {X : Tx} {p v : Nat} {g : Bool} {w : List Nat} {Q : Int32 → St → Prop} {u : St} (hv : v < 19) (hw : wds v = [w]) (h : Tk u X p g) (h1 : isW' X p g w → Q 0 u) (h0 : ¬ isW' X p g w → Q (-1) u) : s_X9_wordIn v Q u := by
  refine q_wordIn hv h ?_
  rw [hw]
  by_cases e : isW' X p g w
  · rw [wIn_1.mpr e]
    exact h1 e
  · have e2 : wIn X p g [w] = none := by
      cases hx : wIn X p g [w] with
      | none => rfl
      | some k =>
        have := wIn_b hx
        simp only [List.length_cons, List.length_nil] at this
        rw [show k = 0 by omega] at hx
        exact absurd (wIn_1.mp hx) e
    rw [e2]
    exact h0 e
theorem q_takeWord {X : Tx} {p v : Nat} {g : Bool} {w : List Nat} {Q : St → Prop} {u : St} (hv : v < 19) (hw : wds v = [w]) (h : Tk u X p g) (h1 : ∀ u', isW' X p g w → Kp SX u u' → Tk u' X (lnx X p) true → Q u') (h0 : ∀ u', ¬ isW' X p g w → Kp SX u u' → Tf u' X (1, lst X p) → Q u') : s_X9_takeWord v Q u := by
  have hl := lst_p h.2.1
  have h16 := h.1.1
  unfold s_X9_takeWord
  refine q_word1 hv hw h (fun e => ?_) (fun e => ?_)
  · refine i_pos rfl (q_advance h (Or.inl e.1) (fun u' k t => h1 u' e k ?_))
    rw [e.1] at t
    exact t
  · refine i_neg (by first | decide | (unfold vp_in; decide)) ?_
    rw [h.2.2.2.1]
    exact q_fail (f := 1) h (by omega) (by omega) (fun u' k t => h0 u' e k t)
theorem q_takeWordF {X : Tx} {e : Nat × Nat} {v : Nat} {Q : St → Prop} {u : St} (h : Tf u X e) (hQ : Q u) : s_X9_takeWord v Q u := by
  unfold s_X9_takeWord
  exact q_wordInF h (i_neg (by first | decide | (unfold vp_in; decide)) (q_failF h hQ))
/-- the number that digits tell -/
def dv (X : Tx) (s : Nat) : Nat → Nat
  | 0 => 0
  | m + 1 => 10 * dv X s m + X.1 (s + m) - 48
theorem dv_lt {X : Tx} {s : Nat} : ∀ m, (∀ j, j < m → X.1 (s + j) ≤ 57) → dv X s m < 10 ^ m
  | 0, _ => by
    show 0 < 10 ^ 0
    decide
  | m + 1, h => by
    have h1 := dv_lt m (fun j hj => h j (by omega))
    have h2 := h m (by omega)
    show 10 * dv X s m + X.1 (s + m) - 48 < 10 ^ (m + 1)
    rw [Nat.pow_succ]
    omega
def nuV (X : Tx) (p : Nat) : Nat := dv X (lst X p) (lnx X p - lst X p)
def nuR (X : Tx) (p : Nat) (g : Bool) (least most : Nat) : Except (Nat × Nat) Nat :=
  if lkd X p g = 2 then (if lnx X p - lst X p ≤ 4 then (if least ≤ nuV X p ∧ nuV X p ≤ most then .ok (nuV X p) else .error (2, lst X p)) else .error (1, lst X p + 4)) else .error (1, lst X p)
theorem q_takeNumber {X : Tx} {p least most : Nat} {g : Bool} {Q : Int32 → St → Prop} {u : St} (hle : least < 100000) (hmo : most < 100000) (h : Tk u X p g) (h1 : ∀ u' v, nuR X p g least most = .ok v → Kp SX u u' → Tk u' X (lnx X p) true → Q (nI v) u') (h0 : ∀ u' e, nuR X p g least most = .error e → Kp SX u u' → Tf u' X e → Q (nI least) u') : s_X9_takeNumber (nI least) (nI most) Q u := by
  have hT := h
  obtain ⟨a1, a2, a3, a4, a5, a6, a7⟩ := h
  have h16 := a1.1
  have hl := lst_p a2
  have hn := lnx_p a2
  have hr := lkd_r X p g
  unfold nuR at h1 h0
  unfold s_X9_takeNumber
  rw [a3, a4, a5]
  by_cases e : lkd X p g = 2
  · rw [if_pos e] at h1 h0
    rw [e]
    refine i_pos rfl ?_
    rw [pk_sub hn.1]
    have hk := (lkd_k e (by omega)).1
    have hin := lnx_in a2 hk (Or.inr rfl)
    by_cases hlen : lnx X p - lst X p ≤ 4
    · rw [if_pos hlen] at h1 h0
      have hlen' : nI (lnx X p - lst X p) ≤ nI 4 := nI_le hlen (by omega)
      refine i_pos hlen' ?_
      have hdig : ∀ j, j < lnx X p - lst X p → 48 ≤ X.1 (lst X p + j) ∧ X.1 (lst X p + j) ≤ 57 := fun j hj => clx_2.mp (hin.1 (lst X p + j) (by omega) (by omega))
      have hdv : ∀ m, m ≤ lnx X p - lst X p → dv X (lst X p) m < 10000 := by
        intro m hm
        have h1 := dv_lt (X := X) (s := lst X p) m (fun j hj => (hdig j (by omega)).2)
        have h2 : 10 ^ m ≤ 10 ^ 4 := Nat.pow_le_pow_right (by omega) (by omega)
        omega
      unfold sX9_takeNumber_p53
      have key := for_g (σ := Int32 × St) (fun i => nI (lst X p + i)) (fun n i s => sX9_takeNumber_p53n (nI least) (nI most) Q n s.1 i s.2) (lnx X p - lst X p) (fun i s => s.2 = u ∧ s.1 = nI (dv X (lst X p) i)) ?_ 0 (0, u) (by omega) ⟨rfl, rfl⟩
      · exact key
      rintro n i ⟨v3, s⟩ hi ⟨e1, e2⟩ hnext
      simp only at e1 e2
      subst e1 e2
      show sX9_takeNumber_p53b (nI least) (nI most) Q (sX9_takeNumber_p53n (nI least) (nI most) Q n) (nI (dv X (lst X p) i)) (nI (lst X p + i)) s
      unfold sX9_takeNumber_p53b sX9_takeNumber_p94
      rw [a5, a4]
      have hd := hdv i hi
      by_cases hie : i = lnx X p - lst X p
      · have ev : dv X (lst X p) i = nuV X p := by rw [hie]; rfl
        rw [ev] at hd ⊢
        refine i_pos (nI_le (by omega) (by omega)) ?_
        have hbad : ¬ (least ≤ nuV X p ∧ nuV X p ≤ most) → s_X9_fail (2 : Int32) (nI (lst X p)) (fun u10 => Q (nI least) u10) s := by
          intro hb
          rw [if_neg hb] at h0
          exact q_fail (f := 2) hT (by omega) (by omega) (fun u' k t => h0 u' _ rfl k t)
        by_cases c1 : nuV X p < least
        · exact i_pos (nI_lt c1 (by omega)) (hbad (by omega))
        refine i_neg (nI_nlt (by omega) (by omega)) ?_
        by_cases c2 : nuV X p ≤ most
        · rw [if_pos ⟨by omega, c2⟩] at h1
          refine i_pos (nI_le c2 (by omega)) (q_advance hT (Or.inr (Or.inl e)) (fun u' k t => h1 u' _ rfl k ?_))
          rw [e] at t
          exact t
        · exact i_neg (nI_ge (by omega) (by omega)) (hbad (by omega))
      · refine i_neg (nI_ge (by omega) (by omega)) ?_
        have hb := a1.2.2 (lst X p + i) (by omega)
        have hdg := hdig i (by omega)
        have ev : (10 : Int32) * nI (dv X (lst X p) i) + nI (X.1 (lst X p + i)) - (48 : Int32) = nI (dv X (lst X p) (i + 1)) := by
          rw [show (10 : Int32) * nI (dv X (lst X p) i) = nI (10 * dv X (lst X p) i) from pk_mul 10 _, nI_add, show nI (10 * dv X (lst X p) i + X.1 (lst X p + i)) - (48 : Int32) = nI (10 * dv X (lst X p) i + X.1 (lst X p + i) - 48) from pk_sub (b := 48) (by omega)]
          rfl
        rw [nI_clamp (by omega), hb.1, ev, nI_1]
        exact ⟨vp_in_nI (by omega) (by omega), hnext (by omega) (nI (dv X (lst X p) (i + 1)), s) ⟨rfl, rfl⟩⟩
    · rw [if_neg hlen] at h0
      have hlen' : ¬ nI (lnx X p - lst X p) ≤ nI 4 := nI_ge (by omega) (by omega)
      refine i_neg hlen' ?_
      rw [show nI (lst X p) + 4 = nI (lst X p + 4) from nI_add _ 4]
      exact q_fail (f := 1) hT (by omega) (by omega) (fun u' k t => h0 u' _ rfl k t)
  · rw [if_neg e] at h0
    refine i_neg (x_ne (k := 2) (by omega) (by omega) e) ?_
    exact q_fail (f := 1) hT (by omega) (by omega) (fun u' k t => h0 u' _ rfl k t)
theorem q_takeNumberF {X : Tx} {e : Nat × Nat} {v1 v2 : Int32} {Q : Int32 → St → Prop} {u : St} (h : Tf u X e) (hQ : Q v1 u) : s_X9_takeNumber v1 v2 Q u := by
  unfold s_X9_takeNumber
  rw [h.2.1]
  exact i_neg (by first | decide | (unfold vp_in; decide)) (q_failF h hQ)
/-- the letters of a name -/
def lln (X : Tx) (p : Nat) : Nat → Nat := fun k => if k < lnx X p - lst X p then X.1 (lst X p + k) - 96 else 0
def trn (l : Nat → Nat) (m : Nat) : Nat → Nat := fun k => if k < m then l k else 0
theorem trn_s {l : Nat → Nat} {m : Nat} (hm : m < 6) : nmC (trn l (m + 1)) = l m * 32 ^ m + nmC (trn l m) := by
  have : m = 0 ∨ m = 1 ∨ m = 2 ∨ m = 3 ∨ m = 4 ∨ m = 5 := by omega
  rcases this with rfl | rfl | rfl | rfl | rfl | rfl <;>
  · simp only [nmC, trn]
    simp
    try omega
theorem trn_lt {l : Nat → Nat} (hl : ∀ k, l k ≤ 26) : ∀ m, m ≤ 6 → nmC (trn l m) < 32 ^ m
  | 0, _ => by
    simp [nmC, trn]
  | m + 1, h => by
    have ih := trn_lt hl m (by omega)
    have h1 := hl m
    rw [trn_s (by omega), Nat.pow_succ]
    have h2 : l m * 32 ^ m ≤ 26 * 32 ^ m := Nat.mul_le_mul_right _ h1
    omega
theorem shl_n : ∀ k, k < 6 → ∀ l, l < 27 → nI l <<< ((nI (5 * k)) &&& 31) = nI (l * 32 ^ k) := by first | decide | (unfold vp_in; decide)
theorem or_add {a l k : Nat} (ha : a < 32 ^ k) : a ||| l * 32 ^ k = l * 32 ^ k + a := by
  have e : (32 : Nat) ^ k = 2 ^ (5 * k) := by rw [Nat.pow_mul]
  rw [e] at ha ⊢
  rw [Nat.or_comm, Nat.mul_comm, ← Nat.two_pow_add_eq_or_of_lt ha]
def naR (X : Tx) (p : Nat) (g : Bool) : Except (Nat × Nat) Unit :=
  if lkd X p g = 1 ∧ fnd (lw X p) (wds 3) = none then (if lnx X p - lst X p ≤ 6 then .ok () else .error (1, lst X p + 6)) else .error (1, lst X p)
theorem q_takeName {X : Tx} {p : Nat} {g : Bool} {Q : Int32 → St → Prop} {u : St} (h : Tk u X p g) (h1 : ∀ u', naR X p g = .ok () → Kp SX u u' → Tk u' X (lnx X p) true → Q (nI (nmC (lln X p))) u') (h0 : ∀ u' e, naR X p g = .error e → Kp SX u u' → Tf u' X e → Q 0 u') : s_X9_takeName Q u := by
  have hT := h
  obtain ⟨a1, a2, a3, a4, a5, a6, a7⟩ := h
  have h16 := a1.1
  have hl := lst_p a2
  have hn := lnx_p a2
  have hr := lkd_r X p g
  unfold naR at h1 h0
  have hbad : ¬ (lkd X p g = 1 ∧ fnd (lw X p) (wds 3) = none) → sX9_takeName_p18 Q u := by
    intro hb
    unfold sX9_takeName_p18
    rw [if_neg hb] at h0
    rw [a4]
    exact q_fail (f := 1) hT (by omega) (by omega) (fun u' k t => h0 u' _ rfl k t)
  unfold s_X9_takeName
  rw [a3]
  by_cases e : lkd X p g = 1
  · rw [e]
    refine i_pos rfl ?_
    refine q_wordIn (v := 3) (by omega) hT ?_
    unfold wIn
    first | refine i_pos e ?_ | rw [if_pos e]
    try (with_reducible rfl)
    have hk := (lkd_k e (by omega)).1
    have hin := lnx_in a2 hk (Or.inl rfl)
    cases hf : fnd (lw X p) (wds 3) with
    | some k =>
      have := fnd_lt hf
      have h30 : (wds 3).length = 30 := by first | decide | (unfold vp_in; decide)
      refine i_neg ?_ (hbad (fun h => absurd (hf.symm.trans h.2) (by simp)))
      show ¬ nI k = -1
      rw [x_ne1 (by omega)]
      exact id
    | none =>
      rw [if_pos ⟨e, hf⟩] at h1 h0
      refine i_pos rfl ?_
      rw [a4, a5, pk_sub hn.1]
      by_cases hlen : lnx X p - lst X p ≤ 6
      · rw [if_pos hlen] at h1
        have hlen' : nI (lnx X p - lst X p) ≤ nI 6 := nI_le hlen (by omega)
        refine i_pos hlen' ?_
        have hll : ∀ k, lln X p k ≤ 26 := by
          intro k
          unfold lln
          by_cases hk2 : k < lnx X p - lst X p
          · first | refine i_pos hk2 ?_ | rw [if_pos hk2]
            try (with_reducible rfl)
            have := clx_1.mp (hin.1 (lst X p + k) (by omega) (by omega))
            omega
          · first | refine i_neg hk2 ?_ | rw [if_neg hk2]
            try (with_reducible rfl)
            omega
        unfold sX9_takeName_p64
        have key := for_g (σ := Int32 × St) (fun i => nI (lst X p + i)) (fun n i s => sX9_takeName_p64n Q n s.1 i s.2) (lnx X p - lst X p) (fun i s => s.2 = u ∧ s.1 = nI (nmC (trn (lln X p) i))) ?_ 0 (0, u) (by omega) ⟨rfl, by simp [nmC, trn]; rfl⟩
        · exact key
        rintro n i ⟨v3, s⟩ hi ⟨e1, e2⟩ hnext
        simp only at e1 e2
        subst e1 e2
        show sX9_takeName_p64b Q (sX9_takeName_p64n Q n) (nI (nmC (trn (lln X p) i))) (nI (lst X p + i)) s
        unfold sX9_takeName_p64b
        rw [a5, a4]
        by_cases hie : i = lnx X p - lst X p
        · refine i_pos (nI_le (by omega) (by omega)) ?_
          have et : trn (lln X p) i = lln X p := by
            funext k
            unfold trn
            by_cases hk2 : k < i
            · first | refine i_pos hk2 ?_ | rw [if_pos hk2]
              try (with_reducible rfl)
            · first | refine i_neg hk2 ?_ | rw [if_neg hk2]
              try (with_reducible rfl)
              unfold lln
              first | refine i_neg (by omega) ?_ | rw [if_neg (by omega)]
              try (with_reducible rfl)
          rw [et]
          refine q_advance hT (Or.inl e) (fun u' k t => h1 u' rfl k ?_)
          rw [e] at t
          exact t
        · refine i_neg (nI_ge (by omega) (by omega)) ?_
          have hb := a1.2.2 (lst X p + i) (by omega)
          have hcl := clx_1.mp (hin.1 (lst X p + i) (by omega) (by omega))
          have eli : lln X p i = X.1 (lst X p + i) - 96 := by
            unfold lln
            first | refine i_pos (by omega) ?_ | rw [if_pos (by omega)]
            try (with_reducible rfl)
          have hlt := trn_lt hll i (by omega)
          have ev : nI (nmC (trn (lln X p) i)) ||| ((nI (X.1 (lst X p + i)) - (97 : Int32) + (1 : Int32)) <<< (((5 : Int32) * (nI (lst X p + i) - nI (lst X p))) &&& 31)) = nI (nmC (trn (lln X p) (i + 1))) := by
            rw [show nI (X.1 (lst X p + i)) - (97 : Int32) = nI (X.1 (lst X p + i) - 97) from pk_sub (b := 97) (by omega), nI_1, pk_sub (by omega), show (5 : Int32) * nI (lst X p + i - lst X p) = nI (5 * (lst X p + i - lst X p)) from pk_mul 5 _, show lst X p + i - lst X p = i by omega, show X.1 (lst X p + i) - 97 + 1 = lln X p i by omega, shl_n i (by omega) _ (by have := hll i; omega), x_or, or_add hlt, trn_s (by omega)]
          rw [nI_clamp (by omega), hb.1, ev, nI_1]
          exact ⟨vp_in_nI (by omega) (by omega), hnext (by omega) (nI (nmC (trn (lln X p) (i + 1))), s) ⟨rfl, rfl⟩⟩
      · rw [if_neg hlen] at h0
        have hlen' : ¬ nI (lnx X p - lst X p) ≤ nI 6 := nI_ge (by omega) (by omega)
        refine i_neg hlen' ?_
        rw [show nI (lst X p) + 6 = nI (lst X p + 6) from nI_add _ 6]
        exact q_fail (f := 1) hT (by omega) (by omega) (fun u' k t => h0 u' _ rfl k t)
  · exact i_neg (x_ne (k := 1) (by omega) (by omega) e) (hbad (fun h => e h.1))
theorem q_takeNameF {X : Tx} {e : Nat × Nat} {Q : Int32 → St → Prop} {u : St} (h : Tf u X e) (hQ : Q 0 u) : s_X9_takeName Q u := by
  unfold s_X9_takeName sX9_takeName_p18
  rw [h.2.1]
  exact i_neg (by first | decide | (unfold vp_in; decide)) (q_failF h hQ)
