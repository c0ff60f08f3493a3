/-! ===== LED ways, pure ===== -/
def Sub (a b : Nat) : Prop := ∀ f, a.testBit f = true → b.testBit f = true
theorem and_sub (a b : Nat) : a &&& b = b ↔ Sub b a := by
  constructor
  · intro h f hf
    rw [← h, Nat.testBit_and] at hf
    cases e : a.testBit f with
    | true => rfl
    | false =>
      rw [e] at hf
      exact absurd hf (by simp)
  · intro h
    apply Nat.eq_of_testBit_eq
    intro f
    rw [Nat.testBit_and]
    cases e : b.testBit f with
    | true => rw [h f e]; rfl
    | false => simp
def beh (P : Pl) (T c st : Nat) : Nat := match fAt P c with
  | none => T
  | some f => if st ≤ fda P f then T ||| 2 ^ f else T
theorem beh_lt {P : Pl} (hP : VP P) {T c st : Nat} (hT : T < 64) : beh P T c st < 64 := by
  unfold beh
  cases e : fAt P c with
  | none => exact hT
  | some f =>
    have hf := (fAt_some e).1
    have h6 := hP.2.2.2.2.1
    by_cases h : st ≤ fda P f
    · simp only [if_pos h]
      have h2 : 2 ^ f < 2 ^ 6 := Nat.pow_lt_pow_right (by omega) (by omega)
      exact Nat.or_lt_two_pow (n := 6) hT h2
    · simp only [if_neg h]
      exact hT
theorem beh_sub {P : Pl} {T T' c s s' : Nat} (h : Sub T T') (hs : s' ≤ s) : Sub (beh P T c s) (beh P T' c s') := by
  intro f hf
  unfold beh at hf ⊢
  cases e : fAt P c with
  | none =>
    rw [e] at hf
    exact h f hf
  | some g =>
    rw [e] at hf
    simp only at hf ⊢
    by_cases h1 : s ≤ fda P g
    · rw [if_pos h1, Nat.testBit_or, Bool.or_eq_true] at hf
      first | refine i_pos (by omega) ?_ | rw [if_pos (by omega)]
      rw [Nat.testBit_or, Bool.or_eq_true]
      rcases hf with hf | hf
      · exact Or.inl (h f hf)
      · exact Or.inr hf
    · rw [if_neg h1] at hf
      by_cases h2 : s' ≤ fda P g
      · first | refine i_pos h2 ?_ | rw [if_pos h2]
        rw [Nat.testBit_or, Bool.or_eq_true]
        exact Or.inl (h f hf)
      · first | refine i_neg h2 ?_ | rw [if_neg h2]
        try (with_reducible rfl)
        exact h f hf
def Flw (P : Pl) (N : Nat → Nat) (c d : Nat) : Prop := cel P d ∧ Adj c d ∧ N (2 + 3 * d) ≠ 1 ∧ N (1 + 3 * d) ≤ N (1 + 3 * c)
/-- led for so many steps, in this cell with this set -/
def Rr (P : Pl) (N : Nat → Nat) : Nat → Nat → Nat → Prop
  | 0, c, T => c = ps P ∧ T = beh P 0 (ps P) 0
  | st + 1, c, T => ∃ c0 T0, Rr P N st c0 T0 ∧ Flw P N c0 c ∧ T = beh P T0 c (st + 1)
theorem ps_cel {P : Pl} (hP : VP P) (h0 : pc P ≠ 0) : cel P (ps P) := by
  have hv := hP.2.2.2.1 h0
  have h6 := hP.1
  unfold cel
  omega
theorem rr_ok {P : Pl} {N : Nat → Nat} (hP : VP P) (h0 : pc P ≠ 0) : ∀ {st c T : Nat}, Rr P N st c T → cel P c ∧ T < 64
  | 0, c, T, h => by
    rw [h.1, h.2]
    exact ⟨ps_cel hP h0, beh_lt hP (by omega)⟩
  | st + 1, c, T, h => by
    obtain ⟨c0, T0, h1, h2, h3⟩ := h
    rw [h3]
    exact ⟨h2.1, beh_lt hP (rr_ok hP h0 h1).2⟩
/-- what the class has reached -/
def Bq (P : Pl) (N : Nat → Nat) (z : St) (n : Nat) (q : Nat → Nat × Nat × Nat) : Prop := n ≤ 2304 ∧ z.1 157 2 = nI n
  ∧ (∀ j, j < n → cel P (q j).1 ∧ (q j).2.1 < 64 ∧ (q j).2.2 ≤ 40 ∧ Rr P N (q j).2.2 (q j).1 (q j).2.1 ∧ z.1 159 j = nI (pl P (q j).1 * 64 + (q j).2.1) ∧ z.1 158 (pl P (q j).1 * 64 + (q j).2.1) = nI (q j).2.2)
  ∧ (∀ i j, i ≤ j → j < n → (q i).2.2 ≤ (q j).2.2)
  ∧ (∀ i j, i < j → j < n → ¬ ((q i).1 = (q j).1 ∧ (q i).2.1 = (q j).2.1))
  ∧ (∀ c T, cel P c → T < 64 → (∀ j, j < n → ¬ ((q j).1 = c ∧ (q j).2.1 = T)) → z.1 158 (pl P c * 64 + T) = -1)
  ∧ (∀ T, T < 64 → (∀ j, j < n → (q j).2.1 ≠ T) → z.1 160 T = -1)
  ∧ (∀ j, j < n → ∃ i, i < n ∧ (q i).2.1 = (q j).2.1 ∧ (q i).2.2 ≤ (q j).2.2 ∧ z.1 160 (q j).2.1 = nI (q i).2.2)
theorem pt_inj {P : Pl} {c d T T' : Nat} (hc : cel P c) (hd : cel P d) (hT : T < 64) (hT' : T' < 64) (h : pl P c * 64 + T = pl P d * 64 + T') : c = d ∧ T = T' := by
  have h1 : pl P c = pl P d := by omega
  exact ⟨pl_inj hc hd h1, by omega⟩
theorem bq_room {P : Pl} {N : Nat → Nat} {z : St} {n c T : Nat} {q : Nat → Nat × Nat × Nat} (hP : VP P) (hB : Bq P N z n q) (hc : cel P c) (hT : T < 64) (hno : ∀ j, j < n → ¬ ((q j).1 = c ∧ (q j).2.1 = T)) : n < 2304 := by
  have h := pigeon 2304 (n + 1) (fun j => if j < n then pl P (q j).1 * 64 + (q j).2.1 else pl P c * 64 + T) (fun i hi => ?_) (fun i j hij hj => ?_)
  · omega
  · have h36 := pl_36 hP hc
    by_cases e : i < n
    · simp only [if_pos e]
      have hb := hB.2.2.1 i e
      have := pl_36 hP hb.1
      omega
    · simp only [if_neg e]
      omega
  · have ei : i < n := by omega
    simp only [if_pos ei]
    have hb := hB.2.2.1 i ei
    by_cases e : j < n
    · simp only [if_pos e]
      have hb2 := hB.2.2.1 j e
      intro h
      exact hB.2.2.2.2.1 i j hij e (pt_inj hb.1 hb2.1 hb.2.1 hb2.2.1 h)
    · simp only [if_neg e]
      intro h
      exact hno i ei (pt_inj hb.1 hc hb.2.1 hT h)
def SL (a k : Nat) : Prop := ¬ (157 ≤ a ∧ a ≤ 160)
def qup (q : Nat → Nat × Nat × Nat) (n : Nat) (x : Nat × Nat × Nat) : Nat → Nat × Nat × Nat := fun j => if j = n then x else q j
theorem qup_s (q : Nat → Nat × Nat × Nat) (n : Nat) (x : Nat × Nat × Nat) : qup q n x n = x := by
  unfold qup
  first | refine i_pos rfl ?_ | rw [if_pos rfl]
  try (with_reducible rfl)
theorem qup_n (q : Nat → Nat × Nat × Nat) {n j : Nat} (x : Nat × Nat × Nat) (h : j < n) : qup q n x j = q j := by
  unfold qup
  first | refine i_neg (by omega) ?_ | rw [if_neg (by omega)]
  try (with_reducible rfl)
/-- one more is reached -/
theorem bq_add {P : Pl} {N : Nat → Nat} {z z' : St} {n c T st : Nat} {q : Nat → Nat × Nat × Nat} (hP : VP P) (hB : Bq P N z n q) (hc : cel P c) (hT : T < 64) (hst : st ≤ 40) (hR : Rr P N st c T) (hm : ∀ j, j < n → (q j).2.2 ≤ st) (hno : ∀ j, j < n → ¬ ((q j).1 = c ∧ (q j).2.1 = T))
    (k1 : z'.1 157 2 = nI (n + 1)) (k2 : ∀ x, z'.1 158 x = if x = pl P c * 64 + T then nI st else z.1 158 x) (k3 : ∀ x, z'.1 159 x = if x = n then nI (pl P c * 64 + T) else z.1 159 x)
    (k4 : (z'.1 160 = z.1 160 ∧ ∃ j, j < n ∧ (q j).2.1 = T) ∨ ((∀ x, z'.1 160 x = if x = T then nI st else z.1 160 x) ∧ ∀ j, j < n → (q j).2.1 ≠ T)) : Bq P N z' (n + 1) (qup q n (c, T, st)) := by
  have hroom := bq_room hP hB hc hT hno
  obtain ⟨b1, b2, b3, b4, b5, b6, b7, b8⟩ := hB
  have hne : ∀ j, j < n → pl P (q j).1 * 64 + (q j).2.1 ≠ pl P c * 64 + T := fun j hj e => hno j hj (pt_inj (b3 j hj).1 hc (b3 j hj).2.1 hT e)
  refine ⟨by omega, k1, fun j hj => ?_, fun i j hij hj => ?_, fun i j hij hj => ?_, fun d T' hd hT' hn => ?_, fun T' hT' hn => ?_, fun j hj => ?_⟩
  · by_cases e : j = n
    · rw [e, qup_s]
      refine ⟨hc, hT, hst, hR, ?_, ?_⟩
      · rw [k3]
        first | refine i_pos rfl ?_ | rw [if_pos rfl]
        try (with_reducible rfl)
      · rw [k2]
        first | refine i_pos rfl ?_ | rw [if_pos rfl]
        try (with_reducible rfl)
    · rw [qup_n _ _ (by omega)]
      obtain ⟨a1, a2, a3, a4, a5, a6⟩ := b3 j (by omega)
      refine ⟨a1, a2, a3, a4, ?_, ?_⟩
      · rw [k3]
        first | refine i_neg e ?_ | rw [if_neg e]
        try (with_reducible rfl)
        exact a5
      · rw [k2]
        first | refine i_neg (hne j (by omega)) ?_ | rw [if_neg (hne j (by omega))]
        try (with_reducible rfl)
        exact a6
  · by_cases e : j = n
    · rw [e, qup_s]
      by_cases e2 : i = n
      · rw [e2, qup_s]
        exact Nat.le_refl _
      · rw [qup_n _ _ (by omega)]
        exact hm i (by omega)
    · rw [qup_n _ _ (by omega), qup_n _ _ (by omega)]
      exact b4 i j hij (by omega)
  · by_cases e : j = n
    · rw [e, qup_s, qup_n _ _ (by omega)]
      exact hno i (by omega)
    · rw [qup_n _ _ (by omega), qup_n _ _ (by omega)]
      exact b5 i j hij (by omega)
  · have h1 := hn n (by omega)
    rw [qup_s] at h1
    have hne2 : pl P d * 64 + T' ≠ pl P c * 64 + T := fun e => h1 (by
      have := pt_inj hd hc hT' hT e
      exact ⟨this.1.symm, this.2.symm⟩)
    rw [k2]
    first | refine i_neg hne2 ?_ | rw [if_neg hne2]
    try (with_reducible rfl)
    refine b6 d T' hd hT' (fun j hj => ?_)
    have := hn j (by omega)
    rw [qup_n _ _ hj] at this
    exact this
  · have h1 := hn n (by omega)
    rw [qup_s] at h1
    have h2 : ∀ j, j < n → (q j).2.1 ≠ T' := fun j hj => by
      have := hn j (by omega)
      rw [qup_n _ _ hj] at this
      exact this
    rcases k4 with ⟨e, _⟩ | ⟨e, _⟩
    · rw [e]
      exact b7 T' hT' h2
    · rw [e]
      first | refine i_neg (fun x => h1 x.symm) ?_ | rw [if_neg (fun x => h1 x.symm)]
      try (with_reducible rfl)
      exact b7 T' hT' h2
  · by_cases e : j = n
    · rw [e, qup_s]
      rcases k4 with ⟨e2, i, hi, ei⟩ | ⟨e2, _⟩
      · obtain ⟨a, a1, a2, a3, a4⟩ := b8 i hi
        refine ⟨a, by omega, ?_, ?_, ?_⟩
        · rw [qup_n _ _ a1, a2, ei]
        · rw [qup_n _ _ a1]
          exact hm a a1
        · rw [qup_n _ _ a1, e2, ← a4, ei]
      · refine ⟨n, by omega, ?_, ?_, ?_⟩
        · rw [qup_s]
        · rw [qup_s]
          exact Nat.le_refl _
        · rw [qup_s, e2]
          first | refine i_pos rfl ?_ | rw [if_pos rfl]
          try (with_reducible rfl)
    · have hjn : j < n := by omega
      rw [qup_n _ _ hjn]
      obtain ⟨a, a1, a2, a3, a4⟩ := b8 j hjn
      refine ⟨a, by omega, ?_, ?_, ?_⟩
      · rw [qup_n _ _ a1, a2]
      · rw [qup_n _ _ a1]
        exact a3
      · rw [qup_n _ _ a1]
        rcases k4 with ⟨e2, _⟩ | ⟨e2, h2⟩
        · rw [e2]
          exact a4
        · rw [e2]
          first | refine i_neg (h2 j hjn) ?_ | rw [if_neg (h2 j hjn)]
          try (with_reducible rfl)
          exact a4
theorem q_r36 {P : Pl} {N : Nat → Nat} {c T st n : Nat} {q : Nat → Nat × Nat × Nat} {Q : St → Prop} {z : St} (hP : VP P) (hc : cel P c) (hT : T < 64) (hst : st ≤ 40) (hR : Rr P N st c T) (hB : Bq P N z n q) (hm : ∀ j, j < n → (q j).2.2 ≤ st)
    (hQ : ∀ z' n' q', Kp SL z z' → Bq P N z' n' q' → n ≤ n' → (∀ j, j < n → q' j = q j) → (∀ j, j < n' → (q' j).2.2 ≤ st) → (∃ j, j < n' ∧ (q' j).1 = c ∧ (q' j).2.1 = T) → Q z') : sX2_reach_p36 (nI (pl P c)) (nI st) (nI T) Q z := by
  have h36 := pl_36 hP hc
  have ei : nI (pl P c) * (64 : Int32) + nI T = nI (pl P c * 64 + T) := by
    rw [show nI (pl P c) * (64 : Int32) = nI (pl P c * 64) from pk_mul _ 64, nI_add]
  unfold sX2_reach_p36
  rw [ei, nI_clamp (by omega), nI_clamp (by omega)]
  refine ⟨vp_in_nI (by omega) (by omega), ?_⟩
  by_cases hex : ∃ j, j < n ∧ (q j).1 = c ∧ (q j).2.1 = T
  · obtain ⟨j, hj, e1, e2⟩ := hex
    have hb := hB.2.2.1 j hj
    have h158 : z.1 158 (pl P c * 64 + T) = nI (q j).2.2 := by
      rw [← e1, ← e2]
      exact hb.2.2.2.2.2
    rw [h158]
    refine i_neg (by rw [x_ne1 (by omega)]; exact id) ?_
    exact hQ z n q (kp_r z) hB (Nat.le_refl _) (fun _ _ => rfl) hm ⟨j, hj, e1, e2⟩
  have hno : ∀ j, j < n → ¬ ((q j).1 = c ∧ (q j).2.1 = T) := fun j hj e => hex ⟨j, hj, e⟩
  have hroom := bq_room hP hB hc hT hno
  have hlt : nI n < nI 2304 := nI_lt (by omega) (by omega)
  rw [hB.2.2.2.2.2.1 c T hc hT hno, hB.2.1]
  refine i_pos rfl (i_pos hlt (bnd_i ?_))
  rw [t_n _ _ (by omega), hB.2.1, nI_clamp (by omega)]
  refine ⟨vp_in_nI (by omega) (by omega), bnd_i (bnd_i ?_)⟩
  rw [show (tI (tI z 158 (pl P c * 64 + T) (nI st)) 159 n (nI (pl P c * 64 + T))).1 157 2 = nI n by rw [t_n _ _ (by omega), t_n _ _ (by omega)]; exact hB.2.1, nI_1]
  refine ⟨vp_in_nI (by omega) (by omega), ?_⟩
  have k0 : Kp SL z (tI (tI (tI z 158 (pl P c * 64 + T) (nI st)) 159 n (nI (pl P c * 64 + T))) 157 2 (nI (n + 1))) := kp_I (kp_I (kp_I (kp_r z) (by unfold SL; omega)) (by unfold SL; omega)) (by unfold SL; omega)
  have r1 : (tI (tI (tI z 158 (pl P c * 64 + T) (nI st)) 159 n (nI (pl P c * 64 + T))) 157 2 (nI (n + 1))).1 157 2 = nI (n + 1) := t_s _ _ _ _
  have r2 : ∀ x, (tI (tI (tI z 158 (pl P c * 64 + T) (nI st)) 159 n (nI (pl P c * 64 + T))) 157 2 (nI (n + 1))).1 158 x = if x = pl P c * 64 + T then nI st else z.1 158 x := by
    intro x
    rw [t_n _ _ (by omega), t_n _ _ (by omega)]
    by_cases e : x = pl P c * 64 + T
    · rw [e, t_s]
      first | refine i_pos rfl ?_ | rw [if_pos rfl]
      try (with_reducible rfl)
    · rw [t_n _ _ (by omega)]
      first | refine i_neg e ?_ | rw [if_neg e]
      try (with_reducible rfl)
  have r3 : ∀ x, (tI (tI (tI z 158 (pl P c * 64 + T) (nI st)) 159 n (nI (pl P c * 64 + T))) 157 2 (nI (n + 1))).1 159 x = if x = n then nI (pl P c * 64 + T) else z.1 159 x := by
    intro x
    rw [t_n _ _ (by omega)]
    by_cases e : x = n
    · rw [e, t_s]
      first | refine i_pos rfl ?_ | rw [if_pos rfl]
      try (with_reducible rfl)
    · rw [t_n _ _ (by omega), t_n _ _ (by omega)]
      first | refine i_neg e ?_ | rw [if_neg e]
      try (with_reducible rfl)
  have r4 : ∀ x, (tI (tI (tI z 158 (pl P c * 64 + T) (nI st)) 159 n (nI (pl P c * 64 + T))) 157 2 (nI (n + 1))).1 160 x = z.1 160 x := by
    intro x
    rw [t_n _ _ (by omega), t_n _ _ (by omega), t_n _ _ (by omega)]
  generalize (tI (tI (tI z 158 (pl P c * 64 + T) (nI st)) 159 n (nI (pl P c * 64 + T))) 157 2 (nI (n + 1))) = z1 at k0 r1 r2 r3 r4
  have hall : ∀ j, j < n + 1 → (qup q n (c, T, st) j).2.2 ≤ st := by
    intro j hj
    by_cases e : j = n
    · rw [e, qup_s]
      exact Nat.le_refl _
    · rw [qup_n _ _ (by omega)]
      exact hm j (by omega)
  rw [r4 T]
  by_cases hexT : ∃ j, j < n ∧ (q j).2.1 = T
  · obtain ⟨j, hj, ej⟩ := hexT
    obtain ⟨i, i1, i2, i3, i4⟩ := hB.2.2.2.2.2.2.2 j hj
    have hb := hB.2.2.1 i i1
    rw [ej] at i4
    rw [i4]
    refine i_neg (by rw [x_ne1 (by omega)]; exact id) ?_
    refine hQ z1 (n + 1) (qup q n (c, T, st)) k0 (bq_add hP hB hc hT hst hR hm hno r1 r2 r3 (Or.inl ⟨funext r4, j, hj, ej⟩)) (by omega) (fun i hi => qup_n _ _ hi) hall ⟨n, by omega, by rw [qup_s], by rw [qup_s]⟩
  · have hnoT : ∀ j, j < n → (q j).2.1 ≠ T := fun j hj e => hexT ⟨j, hj, e⟩
    rw [hB.2.2.2.2.2.2.1 T hT hnoT]
    refine i_pos rfl (bnd_i ?_)
    refine hQ _ (n + 1) (qup q n (c, T, st)) (kp_I k0 (by unfold SL; omega)) (bq_add hP hB hc hT hst hR hm hno (by rw [t_n _ _ (by omega)]; exact r1) (fun x => by rw [t_n _ _ (by omega)]; exact r2 x) (fun x => by rw [t_n _ _ (by omega)]; exact r3 x) (Or.inr ⟨fun x => ?_, hnoT⟩)) (by omega) (fun i hi => qup_n _ _ hi) hall ⟨n, by omega, by rw [qup_s], by rw [qup_s]⟩
    by_cases e : x = T
    · rw [e, t_s]
      first | refine i_pos rfl ?_ | rw [if_pos rfl]
      try (with_reducible rfl)
    · rw [t_n _ _ (by omega)]
      first | refine i_neg e ?_ | rw [if_neg e]
      try (with_reducible rfl)
      exact r4 x
theorem q_reach {P : Pl} {N : Nat → Nat} {t c T0 st n : Nat} {q : Nat → Nat × Nat × Nat} {Q : St → Prop} {z : St} (hP : VP P) (hT : cPl z t P) (hc : cel P c) (hT0 : T0 < 64) (hst : st ≤ 40) (hR : Rr P N st c (beh P T0 c st)) (hB : Bq P N z n q) (hm : ∀ j, j < n → (q j).2.2 ≤ st)
    (hQ : ∀ z' n' q', Kp SL z z' → Bq P N z' n' q' → n ≤ n' → (∀ j, j < n → q' j = q j) → (∀ j, j < n' → (q' j).2.2 ≤ st) → (∃ j, j < n' ∧ (q' j).1 = c ∧ (q' j).2.1 = beh P T0 c st) → Q z') : s_X2_reach t (nI (pl P c)) (nI T0) (nI st) Q z := by
  have h36 := pl_36 hP hc
  have h6 := hP.2.2.2.2.1
  have hlt := beh_lt (c := c) (st := st) hP hT0
  have key := q_r36 hP hc hlt hst hR hB hm hQ
  unfold s_X2_reach sX2_reach_p35
  rw [nI_clamp (by omega), hT.2.1 c hc]
  refine ⟨vp_in_nI (by omega) (by omega), ?_⟩
  unfold beh at key
  cases e : fAt P c with
  | none =>
    rw [e] at key
    exact i_pos rfl key
  | some f =>
    rw [e] at key
    have hf := (fAt_some e).1
    have hda := (hT.2.2.1 f hf).2.2
    have hd40 := (hP.2.2.2.2.2.2.1 f hf).2.2
    rw [show oI (some f) = nI f from rfl]
    refine i_neg (by rw [x_ne1 (by omega)]; exact id) ?_
    rw [nI_clamp (by omega), hda]
    refine ⟨vp_in_nI (by omega) (by omega), ?_⟩
    simp only at key
    by_cases hd : st ≤ fda P f
    · rw [if_pos hd] at key
      refine i_neg (nI_nlt (by omega) (by omega)) ?_
      rw [x_shl f (by omega), x_or]
      exact key
    · rw [if_neg hd] at key
      exact i_pos (nI_lt (by omega) (by omega)) key
