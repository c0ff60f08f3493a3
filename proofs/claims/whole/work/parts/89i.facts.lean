/-! ===== the reference: words of facts ===== -/
def whr (X : Tx) (tk p : Nat) (g : Bool) : Option Nat := if isW' X p g [121, 101, 97, 114] then some 0 else if isW' X p g [112, 105, 101] then some 1 else if isW' X p g [98, 101, 101, 110] then some 2 else if isW' X p g [98, 111, 108, 100] then some 3 else if isW' X p g [107, 105, 110, 100] then some 4 else if isW' X p g [104, 101, 105, 103, 104, 116] then some 5 else if isW' X p g [100, 111, 119, 110] then some 6 else if tk < 2 ∧ isW' X p g [115, 116, 101, 112] then some 7 else if tk < 2 ∧ isW' X p g [119, 101, 116] then some 8 else if isW' X p g [110, 117, 109, 98, 101, 114] then some 9 else if isW' X p g [99, 111, 108, 117, 109, 110] then some 10 else if isW' X p g [114, 111, 119] then some 11 else if isW' X p g [100, 97, 121] then some 12 else if isW' X p g [119, 101, 116] then some 13 else if isW' X p g [115, 116, 101, 112] then some 14 else none
theorem r_ish {X : Tx} {p v : Nat} {g : Bool} {w : List Nat} {Q : Int32 → St → Prop} {u s : St} (hG : gWords u) (hw : (v, w) ∈ RWL) (hv : v ≠ 198) (hK : Kp SXr u s) (h : Ma s X p g) (h1 : ∀ s', Kp SXr u s' → Mb s' X p g → isW' X p g w → Q 1 s') (h0 : ∀ s', Kp SXr u s' → Mb s' X p g → ¬ isW' X p g w → Q 0 s') : s_X12_isHere v Q s := by
  have hws : WdA s v w := by
    have hG2 : gWords s := k_words hG hK (fun a k h => by unfold DWords at h; unfold SXr; omega)
    exact wd_of (q := (v, w)) hG2 hw
  exact r_isHere hv hws h (fun s' k' b' hy => h1 s' (kp_t hK k') b' hy) (fun s' k' b' hn => h0 s' (kp_t hK k') b' hn)
theorem r_qWordHere {X : Tx} {tk p : Nat} {g : Bool} {Q : Int32 → St → Prop} {u : St} (hG : gWords u) (htk : tk ≤ 2) (h57 : u.1 198 57 = nI tk) (h : Ma u X p g) (hQ : ∀ u', Kp SXr u u' → Mb u' X p g → Q (oI (whr X tk p g)) u') : s_X12_qWordHere Q u := by
  unfold whr at hQ
  unfold s_X12_qWordHere sX12_qWordHere_p114 sX12_qWordHere_p136
  refine r_ish hG (v := 267) (w := [121, 101, 97, 114]) (by first | decide | (unfold vp_in; decide)) (by omega) (kp_r u) h (fun s k b y => i_neg (by first | decide | (unfold vp_in; decide)) ?_) (fun s0 k0 b0 n0 => i_pos rfl ?_)
  · rw [if_pos y] at hQ
    exact hQ s k b
  refine r_ish hG (v := 268) (w := [112, 105, 101]) (by first | decide | (unfold vp_in; decide)) (by omega) k0 b0.1 (fun s k b y => i_neg (by first | decide | (unfold vp_in; decide)) ?_) (fun s1 k1 b1 n1 => i_pos rfl ?_)
  · rw [if_neg n0, if_pos y] at hQ
    exact hQ s k b
  refine r_ish hG (v := 269) (w := [98, 101, 101, 110]) (by first | decide | (unfold vp_in; decide)) (by omega) k1 b1.1 (fun s k b y => i_neg (by first | decide | (unfold vp_in; decide)) ?_) (fun s2 k2 b2 n2 => i_pos rfl ?_)
  · rw [if_neg n0, if_neg n1, if_pos y] at hQ
    exact hQ s k b
  refine r_ish hG (v := 270) (w := [98, 111, 108, 100]) (by first | decide | (unfold vp_in; decide)) (by omega) k2 b2.1 (fun s k b y => i_neg (by first | decide | (unfold vp_in; decide)) ?_) (fun s3 k3 b3 n3 => i_pos rfl ?_)
  · rw [if_neg n0, if_neg n1, if_neg n2, if_pos y] at hQ
    exact hQ s k b
  refine r_ish hG (v := 271) (w := [107, 105, 110, 100]) (by first | decide | (unfold vp_in; decide)) (by omega) k3 b3.1 (fun s k b y => i_neg (by first | decide | (unfold vp_in; decide)) ?_) (fun s4 k4 b4 n4 => i_pos rfl ?_)
  · rw [if_neg n0, if_neg n1, if_neg n2, if_neg n3, if_pos y] at hQ
    exact hQ s k b
  refine r_ish hG (v := 272) (w := [104, 101, 105, 103, 104, 116]) (by first | decide | (unfold vp_in; decide)) (by omega) k4 b4.1 (fun s k b y => i_neg (by first | decide | (unfold vp_in; decide)) ?_) (fun s5 k5 b5 n5 => i_pos rfl ?_)
  · rw [if_neg n0, if_neg n1, if_neg n2, if_neg n3, if_neg n4, if_pos y] at hQ
    exact hQ s k b
  refine r_ish hG (v := 273) (w := [100, 111, 119, 110]) (by first | decide | (unfold vp_in; decide)) (by omega) k5 b5.1 (fun s k b y => i_neg (by first | decide | (unfold vp_in; decide)) ?_) (fun s6 k6 b6 n6 => i_pos rfl ?_)
  · rw [if_neg n0, if_neg n1, if_neg n2, if_neg n3, if_neg n4, if_neg n5, if_pos y] at hQ
    exact hQ s k b
  rw [if_neg n0, if_neg n1, if_neg n2, if_neg n3, if_neg n4, if_neg n5, if_neg n6] at hQ
  have e57 : ∀ s, Kp SXr u s → s.1 198 57 = nI tk := fun s k => by rw [k.1 198 57 (by unfold SXr; omega)]; exact h57
  have htail : ∀ s, Kp SXr u s → Ma s X p g → (∀ u', Kp SXr u u' → Mb u' X p g → Q (oI (if isW' X p g [110, 117, 109, 98, 101, 114] then some 9 else if isW' X p g [99, 111, 108, 117, 109, 110] then some 10 else if isW' X p g [114, 111, 119] then some 11 else if isW' X p g [100, 97, 121] then some 12 else if isW' X p g [119, 101, 116] then some 13 else if isW' X p g [115, 116, 101, 112] then some 14 else none)) u') → sX12_qWordHere_p136 Q s := by
    intro s0 k0 m0 hQ
    unfold sX12_qWordHere_p136
    refine r_ish hG (v := 276) (w := [110, 117, 109, 98, 101, 114]) (by first | decide | (unfold vp_in; decide)) (by omega) k0 m0 (fun s k b y => i_neg (by first | decide | (unfold vp_in; decide)) ?_) (fun s20 k20 b20 n20 => i_pos rfl ?_)
    · rw [if_pos y] at hQ
      exact hQ s k b
    refine r_ish hG (v := 277) (w := [99, 111, 108, 117, 109, 110]) (by first | decide | (unfold vp_in; decide)) (by omega) k20 b20.1 (fun s k b y => i_neg (by first | decide | (unfold vp_in; decide)) ?_) (fun s21 k21 b21 n21 => i_pos rfl ?_)
    · rw [if_neg n20, if_pos y] at hQ
      exact hQ s k b
    refine r_ish hG (v := 278) (w := [114, 111, 119]) (by first | decide | (unfold vp_in; decide)) (by omega) k21 b21.1 (fun s k b y => i_neg (by first | decide | (unfold vp_in; decide)) ?_) (fun s22 k22 b22 n22 => i_pos rfl ?_)
    · rw [if_neg n20, if_neg n21, if_pos y] at hQ
      exact hQ s k b
    refine r_ish hG (v := 279) (w := [100, 97, 121]) (by first | decide | (unfold vp_in; decide)) (by omega) k22 b22.1 (fun s k b y => i_neg (by first | decide | (unfold vp_in; decide)) ?_) (fun s23 k23 b23 n23 => i_pos rfl ?_)
    · rw [if_neg n20, if_neg n21, if_neg n22, if_pos y] at hQ
      exact hQ s k b
    refine r_ish hG (v := 280) (w := [119, 101, 116]) (by first | decide | (unfold vp_in; decide)) (by omega) k23 b23.1 (fun s k b y => i_neg (by first | decide | (unfold vp_in; decide)) ?_) (fun s24 k24 b24 n24 => i_pos rfl ?_)
    · rw [if_neg n20, if_neg n21, if_neg n22, if_neg n23, if_pos y] at hQ
      exact hQ s k b
    refine r_ish hG (v := 281) (w := [115, 116, 101, 112]) (by first | decide | (unfold vp_in; decide)) (by omega) k24 b24.1 (fun s k b y => i_neg (by first | decide | (unfold vp_in; decide)) ?_) (fun s25 k25 b25 n25 => i_pos rfl ?_)
    · rw [if_neg n20, if_neg n21, if_neg n22, if_neg n23, if_neg n24, if_pos y] at hQ
      exact hQ s k b
    rw [if_neg n20, if_neg n21, if_neg n22, if_neg n23, if_neg n24, if_neg n25] at hQ
    exact hQ s25 k25 b25
  unfold sX12_qWordHere_p136 at htail
  rw [e57 s6 k6]
  by_cases ht : tk < 2
  · have ht' : ¬ nI 2 ≤ nI tk := nI_ge (by omega) (by omega)
    refine i_neg ht' ?_
    refine r_ish hG (v := 274) (w := [115, 116, 101, 112]) (by first | decide | (unfold vp_in; decide)) (by omega) k6 b6.1 (fun s k b y => i_neg (by first | decide | (unfold vp_in; decide)) ?_) (fun s7 k7 b7 n7 => i_pos rfl ?_)
    · rw [if_pos ⟨ht, y⟩] at hQ
      exact hQ s k b
    rw [if_neg (fun hh => n7 hh.2)] at hQ
    rw [e57 s7 k7]
    refine i_neg ht' ?_
    refine r_ish hG (v := 275) (w := [119, 101, 116]) (by first | decide | (unfold vp_in; decide)) (by omega) k7 b7.1 (fun s k b y => i_neg (by first | decide | (unfold vp_in; decide)) ?_) (fun s8 k8 b8 n8 => i_pos rfl ?_)
    · rw [if_pos ⟨ht, y⟩] at hQ
      exact hQ s k b
    rw [if_neg (fun hh => n8 hh.2)] at hQ
    exact htail s8 k8 b8.1 hQ
  · have ht' : nI 2 ≤ nI tk := nI_le (by omega) (by omega)
    rw [if_neg (fun hh => ht hh.1), if_neg (fun hh => ht hh.1)] at hQ
    refine i_pos ht' ?_
    exact i_pos ht' (htail s6 k6 b6.1 hQ)
theorem wIn_none {X : Tx} {p : Nat} {g : Bool} : ∀ {l : List (List Nat)}, (∀ w ∈ l, ¬ isW' X p g w) → wIn X p g l = none := by
  intro l h
  unfold wIn
  by_cases e : lkd X p g = 1
  · first | refine i_pos e ?_ | rw [if_pos e]
    try (with_reducible rfl)
    induction l with
    | nil => rfl
    | cons x xs ih =>
      unfold fnd
      first | refine i_neg (fun ee => h x (by simp) ⟨e, ee.symm⟩) ?_ | rw [if_neg (fun ee => h x (by simp) ⟨e, ee.symm⟩)]
      rw [ih (fun w hw => h w (by simp [hw]))]
      rfl
  · first | refine i_neg e ?_ | rw [if_neg e]
    try (with_reducible rfl)
/-- what is told of a caller -/
def ofR (X : Tx) (tk p : Nat) (g : Bool) : Option Nat := if tk = 2 ∧ isW' X p g wWet then some 13 else if tk = 2 ∧ isW' X p g wStep then some 14 else none
theorem whr_in {X : Tx} {tk p : Nat} {g : Bool} (htk : tk ≤ 2) : (whr X tk p g = none ∧ wIn X p g (wds 13) = none) ∨ (∃ f, f < 13 ∧ whr X tk p g = some f ∧ wIn X p g (wds 13) = some f ∧ (tk = 2 → f ≠ 7 ∧ f ≠ 8)) ∨ (tk = 2 ∧ whr X tk p g = some 13 ∧ isW' X p g wWet) ∨ (tk = 2 ∧ whr X tk p g = some 14 ∧ isW' X p g wStep) := by
  unfold whr
  by_cases n0 : isW' X p g [121, 101, 97, 114]
  · refine Or.inr (Or.inl ⟨0, by omega, ?_, by rw [wIn_w n0]; rfl, fun _ => by omega⟩)
    first | refine i_pos n0 ?_ | rw [if_pos n0]
    try (with_reducible rfl)
  by_cases n1 : isW' X p g [112, 105, 101]
  · refine Or.inr (Or.inl ⟨1, by omega, ?_, by rw [wIn_w n1]; rfl, fun _ => by omega⟩)
    first | refine i_neg n0 ?_ | rw [if_neg n0]
    first | refine i_pos n1 ?_ | rw [if_pos n1]
    try (with_reducible rfl)
  by_cases n2 : isW' X p g [98, 101, 101, 110]
  · refine Or.inr (Or.inl ⟨2, by omega, ?_, by rw [wIn_w n2]; rfl, fun _ => by omega⟩)
    first | refine i_neg n0 ?_ | rw [if_neg n0]
    first | refine i_neg n1 ?_ | rw [if_neg n1]
    first | refine i_pos n2 ?_ | rw [if_pos n2]
    try (with_reducible rfl)
  by_cases n3 : isW' X p g [98, 111, 108, 100]
  · refine Or.inr (Or.inl ⟨3, by omega, ?_, by rw [wIn_w n3]; rfl, fun _ => by omega⟩)
    first | refine i_neg n0 ?_ | rw [if_neg n0]
    first | refine i_neg n1 ?_ | rw [if_neg n1]
    first | refine i_neg n2 ?_ | rw [if_neg n2]
    first | refine i_pos n3 ?_ | rw [if_pos n3]
    try (with_reducible rfl)
  by_cases n4 : isW' X p g [107, 105, 110, 100]
  · refine Or.inr (Or.inl ⟨4, by omega, ?_, by rw [wIn_w n4]; rfl, fun _ => by omega⟩)
    first | refine i_neg n0 ?_ | rw [if_neg n0]
    first | refine i_neg n1 ?_ | rw [if_neg n1]
    first | refine i_neg n2 ?_ | rw [if_neg n2]
    first | refine i_neg n3 ?_ | rw [if_neg n3]
    first | refine i_pos n4 ?_ | rw [if_pos n4]
    try (with_reducible rfl)
  by_cases n5 : isW' X p g [104, 101, 105, 103, 104, 116]
  · refine Or.inr (Or.inl ⟨5, by omega, ?_, by rw [wIn_w n5]; rfl, fun _ => by omega⟩)
    first | refine i_neg n0 ?_ | rw [if_neg n0]
    first | refine i_neg n1 ?_ | rw [if_neg n1]
    first | refine i_neg n2 ?_ | rw [if_neg n2]
    first | refine i_neg n3 ?_ | rw [if_neg n3]
    first | refine i_neg n4 ?_ | rw [if_neg n4]
    first | refine i_pos n5 ?_ | rw [if_pos n5]
    try (with_reducible rfl)
  by_cases n6 : isW' X p g [100, 111, 119, 110]
  · refine Or.inr (Or.inl ⟨6, by omega, ?_, by rw [wIn_w n6]; rfl, fun _ => by omega⟩)
    first | refine i_neg n0 ?_ | rw [if_neg n0]
    first | refine i_neg n1 ?_ | rw [if_neg n1]
    first | refine i_neg n2 ?_ | rw [if_neg n2]
    first | refine i_neg n3 ?_ | rw [if_neg n3]
    first | refine i_neg n4 ?_ | rw [if_neg n4]
    first | refine i_neg n5 ?_ | rw [if_neg n5]
    first | refine i_pos n6 ?_ | rw [if_pos n6]
    try (with_reducible rfl)
  first | refine i_neg n0 ?_ | rw [if_neg n0]
  first | refine i_neg n1 ?_ | rw [if_neg n1]
  first | refine i_neg n2 ?_ | rw [if_neg n2]
  first | refine i_neg n3 ?_ | rw [if_neg n3]
  first | refine i_neg n4 ?_ | rw [if_neg n4]
  first | refine i_neg n5 ?_ | rw [if_neg n5]
  first | refine i_neg n6 ?_ | rw [if_neg n6]
  try (with_reducible rfl)
  by_cases hw : isW' X p g [115, 116, 101, 112]
  · by_cases ht : tk < 2
    · refine Or.inr (Or.inl ⟨7, by omega, ?_, by rw [wIn_w hw]; rfl, fun h => by omega⟩)
      first | refine i_pos ⟨ht, hw⟩ ?_ | rw [if_pos ⟨ht, hw⟩]
      try (with_reducible rfl)
    · refine Or.inr (Or.inr (Or.inr ⟨by omega, ?_, hw⟩))
      first | refine i_neg (fun h => ht h.1) ?_ | rw [if_neg (fun h => ht h.1)]
      first | refine i_neg (fun h => ht h.1) ?_ | rw [if_neg (fun h => ht h.1)]
      first | refine i_neg (isW_n hw (by first | decide | (unfold vp_in; decide))) ?_ | rw [if_neg (isW_n hw (by first | decide | (unfold vp_in; decide)))]
      first | refine i_neg (isW_n hw (by first | decide | (unfold vp_in; decide))) ?_ | rw [if_neg (isW_n hw (by first | decide | (unfold vp_in; decide)))]
      first | refine i_neg (isW_n hw (by first | decide | (unfold vp_in; decide))) ?_ | rw [if_neg (isW_n hw (by first | decide | (unfold vp_in; decide)))]
      first | refine i_neg (isW_n hw (by first | decide | (unfold vp_in; decide))) ?_ | rw [if_neg (isW_n hw (by first | decide | (unfold vp_in; decide)))]
      first | refine i_neg (isW_n hw (by first | decide | (unfold vp_in; decide))) ?_ | rw [if_neg (isW_n hw (by first | decide | (unfold vp_in; decide)))]
      first | refine i_pos hw ?_ | rw [if_pos hw]
      try (with_reducible rfl)
  by_cases hx : isW' X p g [119, 101, 116]
  · by_cases ht : tk < 2
    · refine Or.inr (Or.inl ⟨8, by omega, ?_, by rw [wIn_w hx]; rfl, fun h => by omega⟩)
      first | refine i_neg (fun h => hw h.2) ?_ | rw [if_neg (fun h => hw h.2)]
      first | refine i_pos ⟨ht, hx⟩ ?_ | rw [if_pos ⟨ht, hx⟩]
      try (with_reducible rfl)
    · refine Or.inr (Or.inr (Or.inl ⟨by omega, ?_, hx⟩))
      first | refine i_neg (fun h => ht h.1) ?_ | rw [if_neg (fun h => ht h.1)]
      first | refine i_neg (fun h => ht h.1) ?_ | rw [if_neg (fun h => ht h.1)]
      first | refine i_neg (isW_n hx (by first | decide | (unfold vp_in; decide))) ?_ | rw [if_neg (isW_n hx (by first | decide | (unfold vp_in; decide)))]
      first | refine i_neg (isW_n hx (by first | decide | (unfold vp_in; decide))) ?_ | rw [if_neg (isW_n hx (by first | decide | (unfold vp_in; decide)))]
      first | refine i_neg (isW_n hx (by first | decide | (unfold vp_in; decide))) ?_ | rw [if_neg (isW_n hx (by first | decide | (unfold vp_in; decide)))]
      first | refine i_neg (isW_n hx (by first | decide | (unfold vp_in; decide))) ?_ | rw [if_neg (isW_n hx (by first | decide | (unfold vp_in; decide)))]
      first | refine i_pos hx ?_ | rw [if_pos hx]
      try (with_reducible rfl)
  first | refine i_neg (fun h => hw h.2) ?_ | rw [if_neg (fun h => hw h.2)]
  first | refine i_neg (fun h => hx h.2) ?_ | rw [if_neg (fun h => hx h.2)]
  try (with_reducible rfl)
  by_cases n9 : isW' X p g [110, 117, 109, 98, 101, 114]
  · refine Or.inr (Or.inl ⟨9, by omega, ?_, by rw [wIn_w n9]; rfl, fun _ => by omega⟩)
    first | refine i_pos n9 ?_ | rw [if_pos n9]
    try (with_reducible rfl)
  by_cases n10 : isW' X p g [99, 111, 108, 117, 109, 110]
  · refine Or.inr (Or.inl ⟨10, by omega, ?_, by rw [wIn_w n10]; rfl, fun _ => by omega⟩)
    first | refine i_neg n9 ?_ | rw [if_neg n9]
    first | refine i_pos n10 ?_ | rw [if_pos n10]
    try (with_reducible rfl)
  by_cases n11 : isW' X p g [114, 111, 119]
  · refine Or.inr (Or.inl ⟨11, by omega, ?_, by rw [wIn_w n11]; rfl, fun _ => by omega⟩)
    first | refine i_neg n9 ?_ | rw [if_neg n9]
    first | refine i_neg n10 ?_ | rw [if_neg n10]
    first | refine i_pos n11 ?_ | rw [if_pos n11]
    try (with_reducible rfl)
  by_cases n12 : isW' X p g [100, 97, 121]
  · refine Or.inr (Or.inl ⟨12, by omega, ?_, by rw [wIn_w n12]; rfl, fun _ => by omega⟩)
    first | refine i_neg n9 ?_ | rw [if_neg n9]
    first | refine i_neg n10 ?_ | rw [if_neg n10]
    first | refine i_neg n11 ?_ | rw [if_neg n11]
    first | refine i_pos n12 ?_ | rw [if_pos n12]
    try (with_reducible rfl)
  refine Or.inl ⟨?_, wIn_none (fun w hw' => ?_)⟩
  · first | refine i_neg n9 ?_ | rw [if_neg n9]
    first | refine i_neg n10 ?_ | rw [if_neg n10]
    first | refine i_neg n11 ?_ | rw [if_neg n11]
    first | refine i_neg n12 ?_ | rw [if_neg n12]
    first | refine i_neg hx ?_ | rw [if_neg hx]
    first | refine i_neg hw ?_ | rw [if_neg hw]
    try (with_reducible rfl)
  · have hm : w = [121, 101, 97, 114] ∨ w = [112, 105, 101] ∨ w = [98, 101, 101, 110] ∨ w = [98, 111, 108, 100] ∨ w = [107, 105, 110, 100] ∨ w = [104, 101, 105, 103, 104, 116] ∨ w = [100, 111, 119, 110] ∨ w = [115, 116, 101, 112] ∨ w = [119, 101, 116] ∨ w = [110, 117, 109, 98, 101, 114] ∨ w = [99, 111, 108, 117, 109, 110] ∨ w = [114, 111, 119] ∨ w = [100, 97, 121] := by
      have := hw'
      simpa [wds] using this
    rcases hm with rfl | rfl | rfl | rfl | rfl | rfl | rfl | rfl | rfl | rfl | rfl | rfl | rfl
    · exact n0
    · exact n1
    · exact n2
    · exact n3
    · exact n4
    · exact n5
    · exact n6
    · exact hw
    · exact hx
    · exact n9
    · exact n10
    · exact n11
    · exact n12
theorem r_isAllowed {tk f : Nat} {Q : Int32 → St → Prop} {u : St} (htk : tk ≤ 2) (hf : f < 15) (h57 : u.1 198 57 = nI tk) (h1 : al tk f = true → Q 1 u) (h0 : al tk f = false → Q 0 u) : s_X12_isAllowed (nI f) Q u := by
  unfold s_X12_isAllowed
  rw [h57]
  have h8 : ((8 : Int32) ≤ nI f) = (8 ≤ f) := x_le (a := 8) (by omega) (by omega)
  have h3 : (nI f < (3 : Int32)) = (f < 3) := x_lt (b := 3) (by omega) (by omega)
  have h88 : (nI f ≤ (8 : Int32)) = (f ≤ 8) := x_le (b := 8) (by omega) (by omega)
  have e8 : (nI f = (8 : Int32)) = (f = 8) := x_eq (b := 8) (by omega) (by omega)
  have e5 : (nI f = (5 : Int32)) = (f = 5) := x_eq (b := 5) (by omega) (by omega)
  have : tk = 0 ∨ tk = 1 ∨ tk = 2 := by omega
  rcases this with rfl | rfl | rfl
  · refine i_pos rfl ?_
    by_cases c : 8 ≤ f
    · exact i_pos (h8.mpr c) (h0 (decide_eq_false (by omega)))
    · exact i_neg (fun h => c (h8.mp h)) (h1 (decide_eq_true (by omega)))
  · refine i_neg (by first | decide | (unfold vp_in; decide)) (i_pos rfl ?_)
    by_cases c : f < 3
    · exact i_pos (h3.mpr c) (h1 (decide_eq_true (Or.inl c)))
    · refine i_neg (fun h => c (h3.mp h)) ?_
      by_cases c2 : f = 8
      · exact i_pos (e8.mpr c2) (h1 (decide_eq_true (Or.inr c2)))
      · exact i_neg (fun h => c2 (e8.mp h)) (h0 (decide_eq_false (by omega)))
  · refine i_neg (by first | decide | (unfold vp_in; decide)) (i_neg (by first | decide | (unfold vp_in; decide)) ?_)
    by_cases c : f < 3
    · exact i_pos (h3.mpr c) (h1 (decide_eq_true (Or.inl c)))
    · refine i_neg (fun h => c (h3.mp h)) ?_
      by_cases c2 : f = 5
      · exact i_pos (e5.mpr c2) (h1 (decide_eq_true (Or.inr (Or.inl c2))))
      · refine i_neg (fun h => c2 (e5.mp h)) ?_
        by_cases c3 : f ≤ 8
        · exact i_pos (h88.mpr c3) (h0 (decide_eq_false (by omega)))
        · exact i_neg (fun h => c3 (h88.mp h)) (h1 (decide_eq_true (by omega)))
theorem r_qWordOf {X : Tx} {tk p : Nat} {g : Bool} {Q : Int32 → St → Prop} {u : St} (hG : gWords u) (htk : tk ≤ 2) (h57 : u.1 198 57 = nI tk) (h : Ma u X p g) (hQ : ∀ u', Kp SXr u u' → Mb u' X p g → Q (oI (fac X tk p g)) u') : s_X12_qWordOf (0 : Int32) (13 : Int32) Q u := by
  unfold s_X12_qWordOf
  refine r_qWordHere hG htk h57 h (fun u1 k1 b1 => ?_)
  have hq := hQ u1 k1 b1
  have e57 : u1.1 198 57 = nI tk := by rw [k1.1 198 57 (by unfold SXr; omega)]; exact h57
  unfold fac at hq
  rcases whr_in (X := X) (p := p) (g := g) htk with ⟨e1, e2⟩ | ⟨f, hf, e1, e2, e3⟩ | ⟨ht, e1, e2⟩ | ⟨ht, e1, e2⟩
  · rw [e2] at hq
    rw [e1]
    exact i_pos (by first | decide | (unfold vp_in; decide)) hq
  · rw [e2] at hq
    rw [e1, show oI (some f) = nI f from rfl]
    have c1 : ¬ nI f < nI 0 := nI_nlt (by omega) (by omega)
    have c2 : ¬ nI 13 ≤ nI f := nI_ge (by omega) (by omega)
    refine i_neg c1 (i_neg c2 (r_isAllowed htk (by omega) e57 (fun ha => i_neg (by first | decide | (unfold vp_in; decide)) ?_) (fun ha => i_pos rfl ?_)))
    · simp only [ha] at hq
      exact hq
    · simp only [ha] at hq
      exact hq
  · rw [e1]
    have e4 : wIn X p g (wds 13) = some 8 := by rw [wIn_w e2]; rfl
    rw [e4, ht] at hq
    exact i_neg (by first | decide | (unfold vp_in; decide)) (i_pos (by first | decide | (unfold vp_in; decide)) hq)
  · rw [e1]
    have e4 : wIn X p g (wds 13) = some 7 := by rw [wIn_w e2]; rfl
    rw [e4, ht] at hq
    exact i_neg (by first | decide | (unfold vp_in; decide)) (i_pos (by first | decide | (unfold vp_in; decide)) hq)
theorem r_qWordO {X : Tx} {tk p : Nat} {g : Bool} {Q : Int32 → St → Prop} {u : St} (hG : gWords u) (htk : tk ≤ 2) (h57 : u.1 198 57 = nI tk) (h : Ma u X p g) (hQ : ∀ u', Kp SXr u u' → Mb u' X p g → Q (oI (ofR X tk p g)) u') : s_X12_qWordOf (13 : Int32) (15 : Int32) Q u := by
  unfold s_X12_qWordOf
  refine r_qWordHere hG htk h57 h (fun u1 k1 b1 => ?_)
  have hq := hQ u1 k1 b1
  have e57 : u1.1 198 57 = nI tk := by rw [k1.1 198 57 (by unfold SXr; omega)]; exact h57
  unfold ofR at hq
  rcases whr_in (X := X) (p := p) (g := g) htk with ⟨e1, e2⟩ | ⟨f, hf, e1, e2, e3⟩ | ⟨ht, e1, e2⟩ | ⟨ht, e1, e2⟩
  · have nw : ∀ w, w ∈ wds 13 → ¬ isW' X p g w := fun w hw hh => by
      rw [wIn_w hh] at e2
      have hne : ∀ (l : List (List Nat)), w ∈ l → fnd w l ≠ none := by
        intro l
        induction l with
        | nil => exact fun h => absurd h (by simp)
        | cons x xs ih =>
          intro hm
          unfold fnd
          by_cases ex : x = w
          · first | refine i_pos ex ?_ | rw [if_pos ex]
            try (with_reducible rfl)
            simp
          · first | refine i_neg ex ?_ | rw [if_neg ex]
            try (with_reducible rfl)
            rcases List.mem_cons.mp hm with h | h
            · exact absurd h.symm ex
            · cases hf : fnd w xs with
              | none => exact absurd hf (ih h)
              | some j => simp
      exact hne _ hw e2
    rw [if_neg (fun hh => nw wWet (by first | decide | (unfold vp_in; decide)) hh.2), if_neg (fun hh => nw wStep (by first | decide | (unfold vp_in; decide)) hh.2)] at hq
    rw [e1]
    exact i_pos (by first | decide | (unfold vp_in; decide)) hq
  · have n1 : ¬ (tk = 2 ∧ isW' X p g wWet) := fun hh => by
      have e4 : wIn X p g (wds 13) = some 8 := by rw [wIn_w hh.2]; rfl
      rw [e2] at e4
      have := Option.some.inj e4
      exact (e3 hh.1).2 this
    have n2 : ¬ (tk = 2 ∧ isW' X p g wStep) := fun hh => by
      have e4 : wIn X p g (wds 13) = some 7 := by rw [wIn_w hh.2]; rfl
      rw [e2] at e4
      have := Option.some.inj e4
      exact (e3 hh.1).1 this
    rw [if_neg n1, if_neg n2] at hq
    rw [e1, show oI (some f) = nI f from rfl]
    have c1 : nI f < nI 13 := nI_lt (by omega) (by omega)
    exact i_pos c1 hq
  · rw [if_pos ⟨ht, e2⟩] at hq
    rw [e1]
    exact i_neg (by first | decide | (unfold vp_in; decide)) (i_neg (by first | decide | (unfold vp_in; decide)) (r_isAllowed (f := 13) htk (by omega) e57 (fun _ => i_neg (by first | decide | (unfold vp_in; decide)) hq) (fun ha => absurd ha (by rw [ht]; decide))))
  · rw [if_neg (fun hh => isW_n e2 (by first | decide | (unfold vp_in; decide)) hh.2), if_pos ⟨ht, e2⟩] at hq
    rw [e1]
    exact i_neg (by first | decide | (unfold vp_in; decide)) (i_neg (by first | decide | (unfold vp_in; decide)) (r_isAllowed (f := 14) htk (by omega) e57 (fun _ => i_neg (by first | decide | (unfold vp_in; decide)) hq) (fun ha => absurd ha (by rw [ht]; decide))))
