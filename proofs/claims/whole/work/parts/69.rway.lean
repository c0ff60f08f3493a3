/-! ===== the reference: places, ways ===== -/
theorem i64 (x : Int32) : x.toInt64 = lI x.toInt := lI_of (Int32.toInt_toInt64 x)
theorem r_isIn {a b c : Int} {Q : Int32 → St → Prop} {u : St} (ha : -4000000000000000000 ≤ a ∧ a < 4000000000000000000) (hb : -4000000000000000000 ≤ b ∧ b < 4000000000000000000) (hc : -4000000000000000000 ≤ c ∧ c < 4000000000000000000) (h1 : b ≤ a → a ≤ c → Q 1 u) (h2 : ¬ (b ≤ a ∧ a ≤ c) → Q 0 u) : s_X12_isIn (lI a) (lI b) (lI c) Q u := by
  unfold s_X12_isIn
  simp only [lg_cmp_lt]
  simp only [lg_cmp_gt]
  first | rw [ite_e (lI_lt (by omega) (by omega) (by omega) (by omega))] | rw [lI_lt (by omega) (by omega) (by omega) (by omega)]
  first | rw [ite_e (lI_lt (by omega) (by omega) (by omega) (by omega))] | rw [lI_lt (by omega) (by omega) (by omega) (by omega)]
  try (with_reducible rfl)
  by_cases c1 : a < b
  · first | refine i_pos c1 ?_ | rw [if_pos c1]
    try (with_reducible rfl)
    exact h2 (by omega)
  · first | refine i_neg c1 ?_ | rw [if_neg c1]
    try (with_reducible rfl)
    by_cases c2 : c < a
    · first | refine i_pos c2 ?_ | rw [if_pos c2]
      try (with_reducible rfl)
      exact h2 (by omega)
    · first | refine i_neg c2 ?_ | rw [if_neg c2]
      try (with_reducible rfl)
      exact h1 (by omega) (by omega)
theorem i32_b (x : Int32) : -2147483648 ≤ x.toInt ∧ x.toInt < 2147483648 := ⟨Int32.le_toInt x, Int32.toInt_lt x⟩
/-- is a number one of the first n -/
theorem r_below {v : Int32} {n : Nat} {Q : Int32 → St → Prop} {u : St} (hn : n < 1000000) (h1 : ∀ x, x < n → v = nI x → Q 1 u) (h2 : (¬ ∃ x, x < n ∧ v = nI x) → Q 0 u) : s_X12_isIn v.toInt64 (0 : Int64) (nI n - 1).toInt64 Q u := by
  have hv := i32_b v
  have e : (nI n - 1).toInt64 = lI ((n : Int) - 1) := by
    rw [i64]
    congr 1
    rw [nI_iI (by omega), i_1, iI_sub, iI_T (by omega) (by omega)]
  rw [e, i64, l_0]
  refine r_isIn (by omega) (by omega) (by omega) (fun a b => ?_) (fun a => ?_)
  · refine h1 v.toInt.toNat (by omega) ?_
    rw [nI_iI (by omega)]
    apply iI_of
    omega
  · refine h2 ?_
    rintro ⟨x, hx, rfl⟩
    rw [nI_toInt (by omega)] at a
    omega
theorem r_cellAt {P : Pl} {v1 v2 : Int32} {Q : Int32 → St → Prop} {u : St} (hP : VP P) (hM : mPl u P) (hQ : ∀ x y, x < pc P → y < pr P → v1 = nI x → v2 = nI y → Q (nI (x + 6 * y)) u) (hN : (¬ ∃ x, x < pc P ∧ v1 = nI x) ∨ (¬ ∃ y, y < pr P ∧ v2 = nI y) → Q (-1) u) : s_X12_cellAt v1 v2 Q u := by
  have h6 := hP.1
  have h7 := hP.2.1
  unfold s_X12_cellAt
  rw [hM.1.1, show ((2 : Int32)).toNatClampNeg = 2 by first | decide | (unfold vp_in; decide), show ((3 : Int32)).toNatClampNeg = 3 by first | decide | (unfold vp_in; decide), hM.1.2.2.1]
  by_cases h0 : pc P = 0
  · first | refine i_pos (by rw [if_pos h0]) ?_ | rw [if_pos (by rw [if_pos h0])]
    try (with_reducible rfl)
    refine hN (Or.inl ?_)
    rintro ⟨x, hx, _⟩
    omega
  · first | refine i_neg (by rw [if_neg h0]; decide) ?_ | rw [if_neg (by rw [if_neg h0]; decide)]
    try (with_reducible rfl)
    refine ⟨by first | decide | (unfold vp_in; decide), ?_⟩
    refine r_below (by omega) (fun x hx e => ?_) (fun hn => ?_)
    · first | refine i_neg (by first | decide | (unfold vp_in; decide)) ?_ | rw [if_neg (by first | decide | (unfold vp_in; decide))]
      rw [hM.1.2.2.2.1]
      refine ⟨by first | decide | (unfold vp_in; decide), ?_⟩
      refine r_below (by omega) (fun y hy e2 => ?_) (fun hn => ?_)
      · first | refine i_neg (by first | decide | (unfold vp_in; decide)) ?_ | rw [if_neg (by first | decide | (unfold vp_in; decide))]
        try (with_reducible rfl)
        have e3 : v1 + 6 * v2 = nI (x + 6 * y) := by
          rw [e, e2, show (6 : Int32) * nI y = nI (6 * y) from pk_mul 6 y, nI_add]
        rw [e3]
        exact hQ x y hx hy e e2
      · first | refine i_pos rfl ?_ | rw [if_pos rfl]
        try (with_reducible rfl)
        exact hN (Or.inr hn)
    · first | refine i_pos rfl ?_ | rw [if_pos rfl]
      try (with_reducible rfl)
      exact hN (Or.inl hn)
def sg (d : Nat) : Nat := if d = 0 then 1 else if d = 1 then 2 else if d = 2 then 0 else 3
theorem r_pl {P : Pl} {X Y : Int32} {o : Option Nat} {Q : Int32 → St → Prop} {u : St} (hP : VP P) (hM : mPl u P) (k1 : ∀ d, o = some d → X = nI (d % 6) ∧ Y = nI (d / 6) ∧ d % 6 < pc P ∧ d / 6 < pr P) (k2 : o = none → (X = -1 ∨ X = nI (pc P)) ∨ (Y = -1 ∨ Y = nI (pr P))) (k3 : Q (oI o) u) : s_X12_cellAt X Y (fun r5 u6 => Q r5 u6) u := by
  have h6 := hP.1
  have h7 := hP.2.1
  refine r_cellAt hP hM (fun x y hx hy ex ey => ?_) (fun hn => ?_)
  · cases o with
    | none =>
      rcases k2 rfl with e | e
      · rcases e with e | e
        · rw [e] at ex
          exact (x_m1n (n := 0) (by omega) x ex (by omega)).elim
        · rw [e, nI_eq (by omega) (by omega)] at ex
          omega
      · rcases e with e | e
        · rw [e] at ey
          exact (x_m1n (n := 0) (by omega) y ey (by omega)).elim
        · rw [e, nI_eq (by omega) (by omega)] at ey
          omega
    | some d =>
      obtain ⟨a1, a2, a3, a4⟩ := k1 d rfl
      rw [a1, nI_eq (by omega) (by omega)] at ex
      rw [a2, nI_eq (by omega) (by omega)] at ey
      subst ex ey
      rw [show d % 6 + 6 * (d / 6) = d by omega]
      exact k3
  · cases o with
    | none => exact k3
    | some d =>
      obtain ⟨a1, a2, a3, a4⟩ := k1 d rfl
      rcases hn with hn | hn
      · exact absurd ⟨_, a3, a1⟩ hn
      · exact absurd ⟨_, a4, a2⟩ hn
theorem r_beside {P : Pl} {c d : Nat} {Q : Int32 → St → Prop} {u : St} (hP : VP P) (hM : mPl u P) (hc : cel P c) (hd : d < 4) (hQ : Q (oI (nb P c (sg d))) u) : s_X12_beside (nI c) (nI d) Q u := by
  have h6 := hP.1
  have h7 := hP.2.1
  have h36 := cel_lt hP hc
  have hc' := hc
  unfold cel at hc'
  have hz : ∀ n : Nat, nI n + 0 = nI n := fun n => nI_add n 0
  have hm0 : nI 0 + -1 = (-1 : Int32) := by first | decide | (unfold vp_in; decide)
  have e6 : nI c / 6 = nI (c / 6) := pk_div (d := 6) (by omega) (by omega) (by omega)
  have e7 : nI c - nI c / 6 * 6 = nI (c % 6) := pk_rem (d := 6) (by omega) (by omega) (by omega)
  unfold s_X12_beside sX12_beside_p22 sX12_beside_p47
  rw [e7, e6]
  have hd4 : d = 0 ∨ d = 1 ∨ d = 2 ∨ d = 3 := by omega
  rcases hd4 with rfl | rfl | rfl | rfl
  · first | refine i_pos (by first | decide | (unfold vp_in; decide)) ?_ | rw [if_pos (by first | decide | (unfold vp_in; decide))]
    first | refine i_neg (by first | decide | (unfold vp_in; decide)) ?_ | rw [if_neg (by first | decide | (unfold vp_in; decide))]
    first | refine i_neg (by first | decide | (unfold vp_in; decide)) ?_ | rw [if_neg (by first | decide | (unfold vp_in; decide))]
    try (with_reducible rfl)
    have hQ : Q (oI (nb P c 1)) u := hQ
    by_cases e : 0 < c % 6
    · have hn : nb P c 1 = some (c - 1) := by
        unfold nb
        first | refine i_neg (by omega) ?_ | rw [if_neg (by omega)]
        first | refine i_pos rfl ?_ | rw [if_pos rfl]
        first | refine i_pos e ?_ | rw [if_pos e]
        try (with_reducible rfl)
      rw [hn] at hQ
      rw [sb_m1 e, hz]
      have e1 : (c - 1) % 6 = c % 6 - 1 := by omega
      have e2 : (c - 1) / 6 = c / 6 := by omega
      exact r_pl (o := some (c - 1)) hP hM (fun x hx => by
        obtain rfl := Option.some.inj hx
        rw [e1, e2]
        exact ⟨rfl, rfl, by omega, by omega⟩) (fun hx => absurd hx (by simp)) hQ
    · have hn : nb P c 1 = none := by
        unfold nb
        first | refine i_neg (by omega) ?_ | rw [if_neg (by omega)]
        first | refine i_pos rfl ?_ | rw [if_pos rfl]
        first | refine i_neg e ?_ | rw [if_neg e]
        try (with_reducible rfl)
      rw [hn] at hQ
      rw [show c % 6 = 0 by omega, hm0, hz]
      exact r_pl (o := none) hP hM (fun x hx => absurd hx (by simp)) (fun _ => Or.inl (Or.inl rfl)) hQ
  · first | refine i_neg (by first | decide | (unfold vp_in; decide)) ?_ | rw [if_neg (by first | decide | (unfold vp_in; decide))]
    first | refine i_pos (by first | decide | (unfold vp_in; decide)) ?_ | rw [if_pos (by first | decide | (unfold vp_in; decide))]
    first | refine i_neg (by first | decide | (unfold vp_in; decide)) ?_ | rw [if_neg (by first | decide | (unfold vp_in; decide))]
    first | refine i_neg (by first | decide | (unfold vp_in; decide)) ?_ | rw [if_neg (by first | decide | (unfold vp_in; decide))]
    try (with_reducible rfl)
    have hQ : Q (oI (nb P c 2)) u := hQ
    by_cases e : c % 6 + 1 < pc P
    · have hn : nb P c 2 = some (c + 1) := by
        unfold nb
        first | refine i_neg (by omega) ?_ | rw [if_neg (by omega)]
        first | refine i_neg (by omega) ?_ | rw [if_neg (by omega)]
        first | refine i_pos rfl ?_ | rw [if_pos rfl]
        first | refine i_pos e ?_ | rw [if_pos e]
        try (with_reducible rfl)
      rw [hn] at hQ
      rw [nI_1, hz]
      have e1 : (c + 1) % 6 = c % 6 + 1 := by omega
      have e2 : (c + 1) / 6 = c / 6 := by omega
      exact r_pl (o := some (c + 1)) hP hM (fun x hx => by
        obtain rfl := Option.some.inj hx
        rw [e1, e2]
        exact ⟨rfl, rfl, by omega, by omega⟩) (fun hx => absurd hx (by simp)) hQ
    · have hn : nb P c 2 = none := by
        unfold nb
        first | refine i_neg (by omega) ?_ | rw [if_neg (by omega)]
        first | refine i_neg (by omega) ?_ | rw [if_neg (by omega)]
        first | refine i_pos rfl ?_ | rw [if_pos rfl]
        first | refine i_neg e ?_ | rw [if_neg e]
        try (with_reducible rfl)
      rw [hn] at hQ
      rw [nI_1, hz]
      exact r_pl (o := none) hP hM (fun x hx => absurd hx (by simp)) (fun _ => Or.inl (Or.inr (by rw [show pc P = c % 6 + 1 by omega]))) hQ
  · first | refine i_neg (by first | decide | (unfold vp_in; decide)) ?_ | rw [if_neg (by first | decide | (unfold vp_in; decide))]
    first | refine i_neg (by first | decide | (unfold vp_in; decide)) ?_ | rw [if_neg (by first | decide | (unfold vp_in; decide))]
    first | refine i_pos (by first | decide | (unfold vp_in; decide)) ?_ | rw [if_pos (by first | decide | (unfold vp_in; decide))]
    try (with_reducible rfl)
    have hQ : Q (oI (nb P c 0)) u := hQ
    by_cases e : 0 < c / 6
    · have hn : nb P c 0 = some (c - 6) := by
        unfold nb
        first | refine i_pos rfl ?_ | rw [if_pos rfl]
        first | refine i_pos e ?_ | rw [if_pos e]
        try (with_reducible rfl)
      rw [hn] at hQ
      rw [hz, sb_m1 e]
      have e1 : (c - 6) % 6 = c % 6 := by omega
      have e2 : (c - 6) / 6 = c / 6 - 1 := by omega
      exact r_pl (o := some (c - 6)) hP hM (fun x hx => by
        obtain rfl := Option.some.inj hx
        rw [e1, e2]
        exact ⟨rfl, rfl, by omega, by omega⟩) (fun hx => absurd hx (by simp)) hQ
    · have hn : nb P c 0 = none := by
        unfold nb
        first | refine i_pos rfl ?_ | rw [if_pos rfl]
        first | refine i_neg e ?_ | rw [if_neg e]
        try (with_reducible rfl)
      rw [hn] at hQ
      rw [hz, show c / 6 = 0 by omega, hm0]
      exact r_pl (o := none) hP hM (fun x hx => absurd hx (by simp)) (fun _ => Or.inr (Or.inl rfl)) hQ
  · first | refine i_neg (by first | decide | (unfold vp_in; decide)) ?_ | rw [if_neg (by first | decide | (unfold vp_in; decide))]
    first | refine i_neg (by first | decide | (unfold vp_in; decide)) ?_ | rw [if_neg (by first | decide | (unfold vp_in; decide))]
    first | refine i_neg (by first | decide | (unfold vp_in; decide)) ?_ | rw [if_neg (by first | decide | (unfold vp_in; decide))]
    first | refine i_pos (by first | decide | (unfold vp_in; decide)) ?_ | rw [if_pos (by first | decide | (unfold vp_in; decide))]
    try (with_reducible rfl)
    have hQ : Q (oI (nb P c 3)) u := hQ
    by_cases e : c / 6 + 1 < pr P
    · have hn : nb P c 3 = some (c + 6) := by
        unfold nb
        first | refine i_neg (by omega) ?_ | rw [if_neg (by omega)]
        first | refine i_neg (by omega) ?_ | rw [if_neg (by omega)]
        first | refine i_neg (by omega) ?_ | rw [if_neg (by omega)]
        first | refine i_pos e ?_ | rw [if_pos e]
        try (with_reducible rfl)
      rw [hn] at hQ
      rw [hz, nI_1]
      have e1 : (c + 6) % 6 = c % 6 := by omega
      have e2 : (c + 6) / 6 = c / 6 + 1 := by omega
      exact r_pl (o := some (c + 6)) hP hM (fun x hx => by
        obtain rfl := Option.some.inj hx
        rw [e1, e2]
        exact ⟨rfl, rfl, by omega, by omega⟩) (fun hx => absurd hx (by simp)) hQ
    · have hn : nb P c 3 = none := by
        unfold nb
        first | refine i_neg (by omega) ?_ | rw [if_neg (by omega)]
        first | refine i_neg (by omega) ?_ | rw [if_neg (by omega)]
        first | refine i_neg (by omega) ?_ | rw [if_neg (by omega)]
        first | refine i_neg e ?_ | rw [if_neg e]
        try (with_reducible rfl)
      rw [hn] at hQ
      rw [hz, nI_1]
      exact r_pl (o := none) hP hM (fun x hx => absurd hx (by simp)) (fun _ => Or.inr (Or.inr (by rw [show pr P = c / 6 + 1 by omega]))) hQ
theorem oI_eq {o : Option Nat} {n : Nat} (h : ∀ x, o = some x → x < 2147483648) (hn : n < 2147483648) : (oI o = nI n) = (o = some n) := by
  cases o with
  | none =>
    simp only [oI, reduceCtorEq]
    exact x_ne1' hn
  | some x =>
    simp only [oI, Option.some.injEq]
    exact x_eq (h x rfl) hn
theorem nb_36 {P : Pl} (hP : VP P) {c i d : Nat} (hc : cel P c) (h : nb P c i = some d) : d < 36 := cel_lt hP (nb_cel hP hc h).1
theorem r_areBeside {P : Pl} {c d : Nat} {Q : Int32 → St → Prop} {u : St} (hP : VP P) (hM : mPl u P) (hc : cel P c) (hd : d < 36) (h1 : cel P d → Adj c d → Q 1 u) (h2 : ¬ (cel P d ∧ Adj c d) → Q 0 u) : s_X12_areBeside (nI c) (nI d) Q u := by
  unfold s_X12_areBeside sX12_areBeside_p2
  refine for_up (fun n i s => sX12_areBeside_p2n (nI c) (nI d) Q n i s) 4 (fun i s => s = u ∧ ∀ j, j < i → nb P c (sg j) ≠ some d) ?_ 0 u (by omega) ⟨rfl, fun j hj => absurd hj (by omega)⟩
  rintro n i s hi ⟨rfl, hj⟩ hnext
  show sX12_areBeside_p2b (nI c) (nI d) Q (sX12_areBeside_p2n (nI c) (nI d) Q n) (nI i) s
  unfold sX12_areBeside_p2b
  by_cases h4 : i = 4
  · subst h4
    first | refine i_pos (nI_le (a := 4) (Nat.le_refl _) (by omega)) ?_ | rw [if_pos (nI_le (a := 4) (Nat.le_refl _) (by omega))]
    try (with_reducible rfl)
    refine h2 ?_
    rintro ⟨k1, k2⟩
    obtain ⟨l, hl, e⟩ := nb_adj hP hc k1 k2
    have : l = 0 ∨ l = 1 ∨ l = 2 ∨ l = 3 := by omega
    rcases this with rfl | rfl | rfl | rfl
    · exact hj 2 (by omega) e
    · exact hj 0 (by omega) e
    · exact hj 1 (by omega) e
    · exact hj 3 (by omega) e
  · first | refine i_neg (nI_ge (b := 4) (by omega) (by omega)) ?_ | rw [if_neg (nI_ge (b := 4) (by omega) (by omega))]
    try (with_reducible rfl)
    refine r_beside hP hM hc (by omega) ?_
    first | rw [ite_e (oI_eq (fun x hx => by have := nb_36 hP hc hx; omega) (by omega))] | rw [oI_eq (fun x hx => by have := nb_36 hP hc hx; omega) (by omega)]
    try (with_reducible rfl)
    by_cases e : nb P c (sg i) = some d
    · first | refine i_pos e ?_ | rw [if_pos e]
      try (with_reducible rfl)
      have := nb_cel hP hc e
      exact h1 this.1 this.2
    · first | refine i_neg e ?_ | rw [if_neg e]
      try (with_reducible rfl)
      show sX12_areBeside_p2n (nI c) (nI d) Q n (nI i + 1) s
      rw [nI_1]
      refine hnext (by omega) s ⟨rfl, fun j hj2 => ?_⟩
      by_cases hji : j = i
      · rw [hji]
        exact e
      · exact hj j (by omega)
theorem r_now {k c : Nat} {N : Nat → Nat} {u : St} (hL : mLa u N) (hk : k < 1000) (h : k + 3 * c < 236) : u.1 241 (nI k + 3 * nI c).toNatClampNeg = nI (N (k + 3 * c)) ∧ vp_in (nI k + 3 * nI c) 236 := by
  rw [show (3 : Int32) * nI c = nI (3 * c) from pk_mul 3 c, nI_add, nI_clamp (by omega)]
  exact ⟨hL _ h, vp_in_nI h (by omega)⟩
theorem r_isStone {P : Pl} {N : Nat → Nat} {c : Nat} {Q : Int32 → St → Prop} {u : St} (hP : VP P) (hN : VN P N) (hL : mLa u N) (hc : cel P c) (h1 : N (2 + 3 * c) = 1 → Q 1 u) (h2 : N (2 + 3 * c) ≠ 1 → Q 0 u) : s_X12_isStone (nI c) Q u := by
  have h36 := cel_lt hP hc
  have hr := r_now (k := 2) (c := c) hL (by omega) (by omega)
  have hn := hN.2.1 c hc
  unfold s_X12_isStone
  refine ⟨hr.2, ?_⟩
  show (if u.1 241 (nI 2 + 3 * nI c).toNatClampNeg = nI 1 then _ else _)
  rw [hr.1]
  first | rw [ite_c (nI_eq (by omega) (by omega))] | rw [nI_eq (by omega) (by omega)]
  try (with_reducible rfl)
  by_cases e : N (2 + 3 * c) = 1
  · first | refine i_pos e ?_ | rw [if_pos e]
    try (with_reducible rfl)
    exact h1 e
  · first | refine i_neg e ?_ | rw [if_neg e]
    try (with_reducible rfl)
    exact h2 e
theorem r_heightOf {N : Nat → Nat} {c : Nat} {Q : Int32 → St → Prop} {u : St} (hL : mLa u N) (hc : c < 36) (hQ : Q (nI (N (1 + 3 * c))) u) : s_X12_heightOf (nI c) Q u := by
  have hr := r_now (k := 1) (c := c) hL (by omega) (by omega)
  unfold s_X12_heightOf
  refine ⟨hr.2, ?_⟩
  show Q (u.1 241 (nI 1 + 3 * nI c).toNatClampNeg) u
  rw [hr.1]
  exact hQ
theorem r_beenOf {N : Nat → Nat} {c : Nat} {Q : Int32 → St → Prop} {u : St} (hL : mLa u N) (hc : c < 36) (hQ : Q (nI (N (3 + 3 * c))) u) : s_X12_beenOf (nI c) Q u := by
  have hr := r_now (k := 3) (c := c) hL (by omega) (by omega)
  unfold s_X12_beenOf
  refine ⟨hr.2, ?_⟩
  show Q (u.1 241 (nI 3 + 3 * nI c).toNatClampNeg) u
  rw [hr.1]
  exact hQ
theorem r_pieOf {N : Nat → Nat} {f : Nat} {Q : Int32 → St → Prop} {u : St} (hL : mLa u N) (hf : f < 6) (hQ : Q (nI (N (109 + f))) u) : s_X12_pieOf (nI f) Q u := by
  unfold s_X12_pieOf
  rw [show (109 : Int32) + nI f = nI (109 + f) from nI_add 109 f, nI_clamp (by omega), hL _ (by omega)]
  exact ⟨vp_in_nI (by omega) (by omega), hQ⟩
theorem r_canFlow {P : Pl} {N : Nat → Nat} {c d : Nat} {Q : Int32 → St → Prop} {u : St} (hP : VP P) (hN : VN P N) (hL : mLa u N) (hc : cel P c) (hd : cel P d) (h1 : N (2 + 3 * d) ≠ 1 → N (1 + 3 * d) ≤ N (1 + 3 * c) → Q 1 u) (h2 : ¬ (N (2 + 3 * d) ≠ 1 ∧ N (1 + 3 * d) ≤ N (1 + 3 * c)) → Q 0 u) : s_X12_canFlow (nI c) (nI d) Q u := by
  have hc36 := cel_lt hP hc
  have hd36 := cel_lt hP hd
  have n1 := hN.2.1 c hc
  have n2 := hN.2.1 d hd
  unfold s_X12_canFlow
  first | refine i_neg (by rw [x_ne1 (by omega)]; exact id) ?_ | rw [if_neg (by rw [x_ne1 (by omega)]; exact id)]
  try (with_reducible rfl)
  refine r_isStone hP hN hL hd (fun e => ?_) (fun e => ?_)
  · first | refine i_neg (by first | decide | (unfold vp_in; decide)) ?_ | rw [if_neg (by first | decide | (unfold vp_in; decide))]
    try (with_reducible rfl)
    exact h2 (fun h => h.1 e)
  · first | refine i_pos rfl ?_ | rw [if_pos rfl]
    try (with_reducible rfl)
    refine r_heightOf hL hd36 (r_heightOf hL hc36 ?_)
    by_cases e2 : N (1 + 3 * c) < N (1 + 3 * d)
    · first | refine i_pos (nI_lt e2 (by omega)) ?_ | rw [if_pos (nI_lt e2 (by omega))]
      try (with_reducible rfl)
      exact h2 (by omega)
    · first | refine i_neg (nI_nlt (by omega) (by omega)) ?_ | rw [if_neg (nI_nlt (by omega) (by omega))]
      try (with_reducible rfl)
      exact h1 e (by omega)
theorem r_farmMany {P : Pl} {Q : Int32 → St → Prop} {u : St} (hM : mPl u P) (hQ : Q (nI (pf P)) u) : s_X12_farmMany Q u := by
  unfold s_X12_farmMany
  refine ⟨by first | decide | (unfold vp_in; decide), ?_⟩
  show Q (u.1 232 2) u
  rw [hM.1.2.2.2.2.1]
  exact hQ
theorem r_callerMany {P : Pl} {Q : Int32 → St → Prop} {u : St} (hM : mPl u P) (hQ : Q (nI (pk P)) u) : s_X12_callerMany Q u := by
  unfold s_X12_callerMany
  refine ⟨by first | decide | (unfold vp_in; decide), ?_⟩
  show Q (u.1 232 3) u
  rw [hM.1.2.2.2.2.2]
  exact hQ
theorem r_cellOf {P : Pl} {f : Nat} {Q : Int32 → St → Prop} {u : St} (hP : VP P) (hM : mPl u P) (hf : f < pf P) (hQ : Q (nI (fce P f)) u) : s_X12_cellOf (nI f) Q u := by
  have h6 := hP.2.2.2.2.1
  unfold s_X12_cellOf
  rw [show (3 : Int32) * nI f = nI (3 * f) from pk_mul 3 f, show (18 : Int32) + nI (3 * f) = nI (18 + 3 * f) from nI_add 18 _, nI_clamp (by omega), (hM.2.1 f hf).1]
  exact ⟨vp_in_nI (by omega) (by omega), hQ⟩
theorem r_dayOf {P : Pl} {f : Nat} {Q : Int32 → St → Prop} {u : St} (hP : VP P) (hM : mPl u P) (hf : f < pf P) (hQ : Q (nI (fda P f)) u) : s_X12_dayOf (nI f) Q u := by
  have h6 := hP.2.2.2.2.1
  unfold s_X12_dayOf
  rw [show (3 : Int32) * nI f = nI (3 * f) from pk_mul 3 f, show (19 : Int32) + nI (3 * f) = nI (19 + 3 * f) from nI_add 19 _, nI_clamp (by omega), (hM.2.1 f hf).2.1]
  exact ⟨vp_in_nI (by omega) (by omega), hQ⟩
theorem r_farmAt {P : Pl} {c : Nat} {Q : Int32 → St → Prop} {u : St} (hP : VP P) (hM : mPl u P) (hc : c < 36) (hQ : Q (oI (fAt P c)) u) : s_X12_farmAt (nI c) Q u := by
  have h6 := hP.2.2.2.2.1
  unfold s_X12_farmAt sX12_farmAt_p2
  refine for_up (fun n i s => sX12_farmAt_p2n (nI c) Q n i s) (pf P) (fun i s => s = u ∧ ∀ f, f < i → fce P f ≠ c) ?_ 0 u (by omega) ⟨rfl, fun j hj => absurd hj (by omega)⟩
  rintro n i s hi ⟨rfl, hj⟩ hnext
  show sX12_farmAt_p2b (nI c) Q (sX12_farmAt_p2n (nI c) Q n) (nI i) s
  unfold sX12_farmAt_p2b
  refine r_farmMany hM ?_
  by_cases he : i = pf P
  · first | refine i_pos (by rw [he]; exact nI_le (Nat.le_refl _) (by omega)) ?_ | rw [if_pos (by rw [he]; exact nI_le (Nat.le_refl _) (by omega))]
    try (with_reducible rfl)
    cases e : fAt P c with
    | none => rw [e] at hQ; exact hQ
    | some f =>
      have h := fAt_some e
      exact absurd h.2 (hj f (by omega))
  · first | refine i_neg (nI_ge (by omega) (by omega)) ?_ | rw [if_neg (nI_ge (by omega) (by omega))]
    try (with_reducible rfl)
    refine r_cellOf hP hM (by omega) ?_
    have hce := cel_lt hP (hP.2.2.2.2.2.2.1 i (by omega)).1
    first | rw [ite_c (nI_eq (by omega) (by omega))] | rw [nI_eq (by omega) (by omega)]
    try (with_reducible rfl)
    by_cases e : fce P i = c
    · first | refine i_pos e ?_ | rw [if_pos e]
      try (with_reducible rfl)
      rw [← e, fAt_fce hP (by omega)] at hQ
      exact hQ
    · first | refine i_neg e ?_ | rw [if_neg e]
      try (with_reducible rfl)
      show sX12_farmAt_p2n (nI c) Q n (nI i + 1) s
      rw [nI_1]
      refine hnext (by omega) s ⟨rfl, fun f hf => ?_⟩
      by_cases hfi : f = i
      · rw [hfi]
        exact e
      · exact hj f (by omega)
