/-! ===== the class: Way.lead ===== -/
/-- the farms watered by the first m cells, as bits -/
def wb (P : Pl) (p : Nat → Nat) : Nat → Nat
  | 0 => 0
  | m + 1 => match fAt P (p m) with
    | none => wb P p m
    | some f => if m ≤ fda P f then wb P p m ||| 2 ^ f else wb P p m
theorem wb_c {P : Pl} {p p' : Nat → Nat} : ∀ {m : Nat}, (∀ i, i < m → p i = p' i) → wb P p m = wb P p' m
  | 0, _ => rfl
  | m + 1, h => by
    unfold wb
    rw [h m (by omega), wb_c (fun i hi => h i (by omega))]
theorem wb_lt {P : Pl} (hP : VP P) {p : Nat → Nat} : ∀ (m : Nat), wb P p m < 64
  | 0 => by
    unfold wb
    omega
  | m + 1 => by
    have ih := wb_lt hP (p := p) m
    unfold wb
    cases e : fAt P (p m) with
    | none => exact ih
    | some f =>
      have hf := (fAt_some e).1
      have h6 := hP.2.2.2.2.1
      by_cases h : m ≤ fda P f
      · simp only [if_pos h]
        have h2 : 2 ^ f < 2 ^ 6 := Nat.pow_lt_pow_right (by omega) (by omega)
        exact Nat.or_lt_two_pow (n := 6) ih h2
      · simp only [if_neg h]
        exact ih
theorem x_shl : ∀ f, f < 31 → (1 : Int32) <<< (nI f &&& 31) = nI (2 ^ f) := by first | decide | (unfold vp_in; decide)
theorem x_or (a b : Nat) : nI a ||| nI b = nI (a ||| b) := by
  apply Int32.toBitVec.inj
  rw [Int32.toBitVec_or]
  show BitVec.ofNat 32 a ||| BitVec.ofNat 32 b = BitVec.ofNat 32 (a ||| b)
  rw [BitVec.ofNat_or]
def WayM (u : St) (a : Nat) (P : Pl) (p : Nat → Nat) (m : Nat) : Prop := u.1 a 2 = (if m = 0 then -1 else nI (m - 1)) ∧ (∀ i, i < m → u.1 (a + 1) i = nI (pl P (p i))) ∧ (∀ c, cel P c → u.1 (a + 2) (pl P c) = oI (stp p m c))
  ∧ u.1 a 3 = (if m ≠ 0 ∧ p (m - 1) / 6 + 1 = pr P then 1 else 0) ∧ u.1 a 4 = nI (wb P p m) ∧ u.1 a 5 = 1
def WayR (u : St) (a : Nat) (P : Pl) (N : Nat → Nat) (k : Nat) : Prop := ∃ p m, IsWay P N k p m ∧ WayM u a P p m
theorem way_K {S : Nat → Nat → Prop} {u u' : St} {a : Nat} {P : Pl} {p : Nat → Nat} {m : Nat} (h : WayM u a P p m) (hK : Kp S u u') (hS : ∀ x k, a ≤ x → x ≤ a + 2 → S x k) : WayM u' a P p m := by
  refine ⟨?_, fun i hi => ?_, fun c hc => ?_, ?_, ?_, ?_⟩
  · rw [hK.1 a 2 (hS _ _ (by omega) (by omega))]
    exact h.1
  · rw [hK.1 (a + 1) i (hS _ _ (by omega) (by omega))]
    exact h.2.1 i hi
  · rw [hK.1 (a + 2) _ (hS _ _ (by omega) (by omega))]
    exact h.2.2.1 c hc
  · rw [hK.1 a 3 (hS _ _ (by omega) (by omega))]
    exact h.2.2.2.1
  · rw [hK.1 a 4 (hS _ _ (by omega) (by omega))]
    exact h.2.2.2.2.1
  · rw [hK.1 a 5 (hS _ _ (by omega) (by omega))]
    exact h.2.2.2.2.2
theorem cPl_K {S : Nat → Nat → Prop} {u u' : St} {t : Nat} {P : Pl} (h : cPl u t P) (hK : Kp S u u') (hS : ∀ x k, t ≤ x → x ≤ t + 16 → x ≠ t + 13 → x ≠ t + 16 → S x k) : cPl u' t P := by
  refine ⟨?_, fun c hc => ?_, fun f hf => ?_, fun c hc => ?_, fun h0 => ?_⟩
  · rw [hK.1 t 0 (hS _ _ (by omega) (by omega) (by omega) (by omega)), hK.1 t 1 (hS _ _ (by omega) (by omega) (by omega) (by omega)), hK.1 t 2 (hS _ _ (by omega) (by omega) (by omega) (by omega)), hK.1 t 3 (hS _ _ (by omega) (by omega) (by omega) (by omega)), hK.1 t 4 (hS _ _ (by omega) (by omega) (by omega) (by omega))]
    exact h.1
  · rw [hK.1 (t + 3) _ (hS _ _ (by omega) (by omega) (by omega) (by omega))]
    exact h.2.1 c hc
  · rw [hK.1 (t + 4) _ (hS _ _ (by omega) (by omega) (by omega) (by omega)), hK.1 (t + 5) _ (hS _ _ (by omega) (by omega) (by omega) (by omega)), hK.1 (t + 6) _ (hS _ _ (by omega) (by omega) (by omega) (by omega))]
    exact h.2.2.1 f hf
  · rw [hK.1 (t + 8) _ (hS _ _ (by omega) (by omega) (by omega) (by omega)), hK.1 (t + 9) _ (hS _ _ (by omega) (by omega) (by omega) (by omega)), hK.1 (t + 10) _ (hS _ _ (by omega) (by omega) (by omega) (by omega))]
    exact h.2.2.2.1 c hc
  · have q := h.2.2.2.2 h0
    refine ⟨⟨?_, fun i hi => ?_⟩, ⟨?_, fun i hi => ?_⟩⟩
    · rw [hK.1 _ _ (hS _ _ (by omega) (by omega) (by omega) (by omega))]
      exact q.1.1
    · rw [hK.1 _ _ (hS _ _ (by omega) (by omega) (by omega) (by omega))]
      exact q.1.2 i hi
    · rw [hK.1 _ _ (hS _ _ (by omega) (by omega) (by omega) (by omega))]
      exact q.2.1
    · rw [hK.1 _ _ (hS _ _ (by omega) (by omega) (by omega) (by omega))]
      exact q.2.2 i hi
theorem cLa_K {S : Nat → Nat → Prop} {u u' : St} {b : Nat} {P : Pl} {N : Nat → Nat} (h : cLa u b P N) (hK : Kp S u u') (hS : ∀ x k, b ≤ x → x ≤ b + 4 → ¬ (x = b ∧ k = 1) → S x k) : cLa u' b P N := by
  refine ⟨?_, fun c hc => ?_, fun f hf => ?_, fun q h1 h2 => ?_⟩
  · rw [hK.1 b 0 (hS _ _ (by omega) (by omega) (by omega))]
    exact h.1
  · rw [hK.1 (b + 1) _ (hS _ _ (by omega) (by omega) (by omega)), hK.1 (b + 2) _ (hS _ _ (by omega) (by omega) (by omega)), hK.1 (b + 3) _ (hS _ _ (by omega) (by omega) (by omega))]
    exact h.2.1 c hc
  · rw [hK.1 (b + 4) _ (hS _ _ (by omega) (by omega) (by omega))]
    exact h.2.2.1 f hf
  · rw [hK.1 (b + 2) _ (hS _ _ (by omega) (by omega) (by omega))]
    exact h.2.2.2 q h1 h2
theorem q_fill {a n : Nat} {x : Int32} {Q : St → Prop} {u : St} (h : SH[a]? = some (100, n)) (hn : n < 100000) (hQ : ∀ u', Kp (fun b _ => b ≠ a) u u' → (∀ i, i < n → u'.1 a i = x) → Q u') : s_J7_fill_53178 a x Q u := by
  refine ⟨n, h, ?_⟩
  refine for_up (sJ7_fill_53178_p5n a x (nI n) Q) n (fun i w => Kp (fun b _ => b ≠ a) u w ∧ ∀ j, j < i → w.1 a j = x) ?_ 0 u (Nat.zero_le _) ⟨kp_r u, fun j hj => absurd hj (by omega)⟩
  rintro k i w hi ⟨hK, hw⟩ hnext
  show sJ7_fill_53178_p5b a x (nI n) Q (sJ7_fill_53178_p5n a x (nI n) Q k) (nI i) w
  unfold sJ7_fill_53178_p5b
  by_cases hc : i = n
  · subst hc
    first | refine i_pos (nI_le (Nat.le_refl _) (by omega)) ?_ | rw [if_pos (nI_le (Nat.le_refl _) (by omega))]
    try (with_reducible rfl)
    exact hQ w hK hw
  · first | refine i_neg (nI_ge (by omega) (by omega)) ?_ | rw [if_neg (nI_ge (by omega) (by omega))]
    try (with_reducible rfl)
    refine ⟨ix_n h (by omega) (by omega), ?_⟩
    show sJ7_fill_53178_p5n a x (nI n) Q k (nI i + 1) (tI w a (nI i).toNatClampNeg x)
    rw [nI_1, nI_clamp (by omega)]
    refine hnext (by omega) _ ⟨kp_I hK (by simp), fun j hj => ?_⟩
    by_cases hj2 : j = i
    · rw [hj2, t_s]
    · rw [t_n _ _ (Or.inr hj2)]
      exact hw j (by omega)
theorem q_enter {P : Pl} {t a m c : Nat} {p : Nat → Nat} {Q : St → Prop} {u : St} (hP : VP P) (h0 : pc P ≠ 0) (ht : 7 ≤ t ∧ t + 16 ≤ 40) (ha : 165 ≤ a) (hT : cPl u t P) (hm : m < 36) (hW : WayM u a P p m) (hc : cel P c) (hpm : p m = c) (hnew : ∀ j, j < m → p j ≠ c)
    (hQ : ∀ u', Kp (fun x k => ¬ (a ≤ x ∧ x ≤ a + 2)) u u' → WayM u' a P p (m + 1) → Q u') : s_X10_enter a t (nI (pl P c)) (nI m) Q u := by
  have h36 := pl_36 hP hc
  have h6 := hP.1
  have h7 := hP.2.1
  have hpf := hP.2.2.2.2.1
  have hwl := wb_lt hP (p := p) m
  unfold s_X10_enter
  simp only [bnd]
  rw [nI_clamp (by omega), nI_clamp (by omega)]
  refine ⟨vp_in_nI hm (by omega), vp_in_nI h36 (by omega), ?_⟩
  refine q_rowOf (n := pc P) ?_ h0 (by omega) (by omega) ?_
  · rw [t_n _ _ (by omega), t_n _ _ (by omega), t_n _ _ (by omega)]
    exact hT.1.1
  rw [pl_div hc, t_n _ _ (by omega), t_n _ _ (by omega), t_n _ _ (by omega), hT.1.2.1, show nI (pr P) - 1 = nI (pr P - 1) from pk_sub (b := 1) (by have := hc.2; omega)]
  first | rw [ite_c (nI_eq (by have := hc.2; omega) (by omega))] | rw [nI_eq (by have := hc.2; omega) (by omega)]
  try (with_reducible rfl)
  have hp39 : ∀ x : Int32, x = (if c / 6 = pr P - 1 then 1 else 0) → sX10_enter_p39 a t (nI (pl P c)) (nI m) x a Q (tI (tI (tI u a 2 (nI m)) (a + 1) m (nI (pl P c))) (a + 2) (pl P c) (nI m)) := by
    intro x hx
    unfold sX10_enter_p39
    simp only [bnd]
    rw [nI_clamp (by omega)]
    refine ⟨?_, vp_in_nI h36 (by omega), ?_⟩
    · rw [hx]
      split
      · exact Or.inr rfl
      · exact Or.inl rfl
    have hfin : ∀ W : Int32, W = nI (wb P p (m + 1)) → ∀ z : St, (z.1 a 4 = W ∧ ∀ x' k', ¬ (x' = a ∧ k' = 4) → z.1 x' k' = (tI (tI (tI (tI u a 2 (nI m)) (a + 1) m (nI (pl P c))) (a + 2) (pl P c) (nI m)) a 3 x).1 x' k') → Kp (fun x k => ¬ (a ≤ x ∧ x ≤ a + 2)) u z → Q z := by
      intro W hW2 z hz hKz
      refine hQ z hKz ⟨?_, fun i hi => ?_, fun d hd => ?_, ?_, ?_, ?_⟩
      · rw [hz.2 a 2 (by omega), t_n _ _ (by omega), t_n _ _ (by omega), t_n _ _ (by omega), t_s]
        first | refine i_neg (by omega) ?_ | rw [if_neg (by omega)]
        try (with_reducible rfl)
        rfl
      · rw [hz.2 (a + 1) i (by omega), t_n _ _ (by omega), t_n _ _ (by omega)]
        by_cases e : i = m
        · rw [e, t_s, hpm]
        · rw [t_n _ _ (Or.inr e), t_n _ _ (by omega)]
          exact hW.2.1 i (by omega)
      · rw [hz.2 (a + 2) _ (by omega), t_n _ _ (by omega)]
        unfold stp
        by_cases e : p m = d
        · first | refine i_pos e ?_ | rw [if_pos e]
          rw [← e, hpm, t_s]
          rfl
        · first | refine i_neg e ?_ | rw [if_neg e]
          rw [t_n _ _ (Or.inr ?_), t_n _ _ (by omega), t_n _ _ (by omega)]
          · exact hW.2.2.1 d hd
          · intro e2
            apply e
            rw [hpm]
            exact (pl_inj hd hc e2).symm
      · rw [hz.2 a 3 (by omega), t_s, hx, Nat.add_sub_cancel, hpm]
        have hcr := hc.2
        by_cases e : c / 6 = pr P - 1
        · first | refine i_pos e ?_ | rw [if_pos e]
          first | refine i_pos ⟨by omega, by omega⟩ ?_ | rw [if_pos ⟨by omega, by omega⟩]
          try (with_reducible rfl)
        · first | refine i_neg e ?_ | rw [if_neg e]
          first | refine i_neg (by omega) ?_ | rw [if_neg (by omega)]
          try (with_reducible rfl)
      · rw [hz.1, hW2]
      · rw [hz.2 a 5 (by omega), t_n _ _ (by omega), t_n _ _ (by omega), t_n _ _ (by omega), t_n _ _ (by omega)]
        exact hW.2.2.2.2.2
    have hKb : Kp (fun x k => ¬ (a ≤ x ∧ x ≤ a + 2)) u (tI (tI (tI (tI u a 2 (nI m)) (a + 1) m (nI (pl P c))) (a + 2) (pl P c) (nI m)) a 3 x) := kp_I (kp_I (kp_I (kp_I (kp_r u) (by omega)) (by omega)) (by omega)) (by omega)
    have e4 : (tI (tI (tI (tI u a 2 (nI m)) (a + 1) m (nI (pl P c))) (a + 2) (pl P c) (nI m)) a 3 x).1 a 4 = nI (wb P p m) := by
      rw [t_n _ _ (by omega), t_n _ _ (by omega), t_n _ _ (by omega), t_n _ _ (by omega)]
      exact hW.2.2.2.2.1
    have et3 : ∀ y, (tI (tI (tI (tI u a 2 (nI m)) (a + 1) m (nI (pl P c))) (a + 2) (pl P c) (nI m)) a 3 x).1 (t + 3) y = u.1 (t + 3) y := by
      intro y
      rw [t_n _ _ (by omega), t_n _ _ (by omega), t_n _ _ (by omega), t_n _ _ (by omega)]
    have et6 : ∀ y, (tI (tI (tI (tI u a 2 (nI m)) (a + 1) m (nI (pl P c))) (a + 2) (pl P c) (nI m)) a 3 x).1 (t + 6) y = u.1 (t + 6) y := by
      intro y
      rw [t_n _ _ (by omega), t_n _ _ (by omega), t_n _ _ (by omega), t_n _ _ (by omega)]
    generalize (tI (tI (tI (tI u a 2 (nI m)) (a + 1) m (nI (pl P c))) (a + 2) (pl P c) (nI m)) a 3 x) = z at hfin hKb e4 et3 et6
    rw [et3, hT.2.1 c hc]
    first | rw [ite_e (oI_m1 (fun x hx => by have := (fAt_some hx).1; omega))] | rw [oI_m1 (fun x hx => by have := (fAt_some hx).1; omega)]
    try (with_reducible rfl)
    cases hf : fAt P c with
    | none =>
      first | refine i_pos rfl ?_ | rw [if_pos rfl]
      try (with_reducible rfl)
      refine hfin (nI (wb P p m)) ?_ z ⟨e4, fun _ _ _ => rfl⟩ hKb
      show _ = nI (match fAt P (p m) with | none => wb P p m | some f => if m ≤ fda P f then wb P p m ||| 2 ^ f else wb P p m)
      rw [hpm, hf]
    | some f =>
      have hfl := (fAt_some hf).1
      have hday := (hP.2.2.2.2.2.2.1 f hfl).2
      first | refine i_neg (by simp) ?_ | rw [if_neg (by simp)]
      try (with_reducible rfl)
      show vp_in (nI f) 6 ∧ _
      refine ⟨vp_in_nI (by omega) (by omega), ?_⟩
      show (if z.1 (t + 6) (nI f).toNatClampNeg < nI m then _ else _)
      rw [nI_clamp (by omega), et6, (hT.2.2.1 f hfl).2.2]
      have hwbe : wb P p (m + 1) = (if m ≤ fda P f then wb P p m ||| 2 ^ f else wb P p m) := by
        show (match fAt P (p m) with | none => wb P p m | some f => if m ≤ fda P f then wb P p m ||| 2 ^ f else wb P p m) = _
        rw [hpm, hf]
      by_cases hd : fda P f < m
      · first | refine i_pos (nI_lt hd (by omega)) ?_ | rw [if_pos (nI_lt hd (by omega))]
        try (with_reducible rfl)
        exact hfin (nI (wb P p m)) (by rw [hwbe, if_neg (by omega)]) z ⟨e4, fun _ _ _ => rfl⟩ hKb
      · first | refine i_neg (nI_nlt (by omega) (by omega)) ?_ | rw [if_neg (nI_nlt (by omega) (by omega))]
        rw [e4]
        show Q (tI z a 4 (nI (wb P p m) ||| (1 : Int32) <<< (nI f &&& 31)))
        rw [x_shl f (by omega), x_or]
        exact hfin _ (by rw [hwbe, if_pos (by omega)]) _ ⟨t_s _ _ _ _, fun x' k' hx' => t_n _ _ (by omega)⟩ (kp_I hKb (by omega))
  by_cases e : c / 6 = pr P - 1
  · first | refine i_pos e ?_ | rw [if_pos e]
    try (with_reducible rfl)
    exact hp39 1 (by rw [if_pos e])
  · first | refine i_neg e ?_ | rw [if_neg e]
    try (with_reducible rfl)
    exact hp39 0 (by rw [if_neg e])
theorem q_lead {P : Pl} {N : Nat → Nat} {t b a k : Nat} {Q : St → Prop} {u : St} (hP : VP P) (hN : VN P N) (h0 : pc P ≠ 0) (hk : k < pk P) (ht : 7 ≤ t ∧ t + 16 ≤ 40) (hb : 42 ≤ b ∧ b + 4 ≤ 51) (ha : 165 ≤ a) (hs2 : SH[a + 2]? = some (100, 36)) (hsh : SH[a + 3]? = some (100, 23)) (hT : cPl u t P) (hL : cLa u b P N) (hB : FB u (a + 3))
    (hQ : ∀ u', Kp (fun x k => ¬ (a ≤ x ∧ x ≤ a + 3) ∧ x ≠ t + 13) u u' → WayR u' a P N k → FB u' (a + 3) → Q u') : s_X10_lead a t b (nI k) Q u := by
  have h6 := hP.1
  have h7 := hP.2.1
  have hpk := hP.2.2.2.2.2.1
  have hv0 := hP.2.2.2.1 h0
  have hcal := hP.2.2.2.2.2.2.2.2.1 k hk
  have hn0 := hN.1
  have hsrc : cel P (ps P) := by
    unfold cel
    omega
  have hpls : pl P (ps P) = ps P := by
    unfold pl
    rw [show ps P / 6 = 0 by omega]
    omega
  unfold s_X10_lead
  simp only [bnd]
  have hK1 : Kp (fun x k => ¬ (a ≤ x ∧ x ≤ a + 3) ∧ x ≠ t + 13) u (tI (tI (tI (tI u a 2 (-1)) a 3 0) a 4 0) a 5 1) := kp_I (kp_I (kp_I (kp_I (kp_r u) (by omega)) (by omega)) (by omega)) (by omega)
  have w2 : (tI (tI (tI (tI u a 2 (-1)) a 3 0) a 4 0) a 5 1).1 a 2 = -1 := by rw [t_n _ _ (by omega), t_n _ _ (by omega), t_n _ _ (by omega), t_s]
  have w3 : (tI (tI (tI (tI u a 2 (-1)) a 3 0) a 4 0) a 5 1).1 a 3 = 0 := by rw [t_n _ _ (by omega), t_n _ _ (by omega), t_s]
  have w4 : (tI (tI (tI (tI u a 2 (-1)) a 3 0) a 4 0) a 5 1).1 a 4 = 0 := by rw [t_n _ _ (by omega), t_s]
  have w5 : (tI (tI (tI (tI u a 2 (-1)) a 3 0) a 4 0) a 5 1).1 a 5 = 1 := t_s _ _ _ _
  have wB : FB (tI (tI (tI (tI u a 2 (-1)) a 3 0) a 4 0) a 5 1) (a + 3) := by
    intro j hj
    rw [t_n _ _ (by omega), t_n _ _ (by omega), t_n _ _ (by omega), t_n _ _ (by omega)]
    exact hB j hj
  generalize (tI (tI (tI (tI u a 2 (-1)) a 3 0) a 4 0) a 5 1) = w at hK1 w2 w3 w4 w5 wB
  refine q_fill hs2 (by omega) (fun x hx hfx => ?_)
  have hK2 : Kp (fun x k => ¬ (a ≤ x ∧ x ≤ a + 3) ∧ x ≠ t + 13) u x := kp_t hK1 (kp_m hx (fun y k h => by omega))
  have x2 : x.1 a 2 = -1 := by rw [hx.1 a 2 (by omega)]; exact w2
  have x3 : x.1 a 3 = 0 := by rw [hx.1 a 3 (by omega)]; exact w3
  have x4 : x.1 a 4 = 0 := by rw [hx.1 a 4 (by omega)]; exact w4
  have x5 : x.1 a 5 = 1 := by rw [hx.1 a 5 (by omega)]; exact w5
  have xB : FB x (a + 3) := fb_K wB hx (fun _ => by omega)
  rw [show ((0 : Int32)).toNatClampNeg = 0 by first | decide | (unfold vp_in; decide), show ((3 : Int32)).toNatClampNeg = 3 by first | decide | (unfold vp_in; decide), show ((4 : Int32)).toNatClampNeg = 4 by first | decide | (unfold vp_in; decide), nI_clamp (by omega)]
  refine ⟨by first | decide | (unfold vp_in; decide), vp_in_nI (by omega) (by omega), by first | decide | (unfold vp_in; decide), vp_in_nI (by omega) (by omega), by first | decide | (unfold vp_in; decide), ?_⟩
  have hTx : cPl x t P := cPl_K hT hK2 (fun y k h1 h2 h3 h4 => by omega)
  have hLx : cLa x b P N := cLa_K hL hK2 (fun y k h1 h2 h3 => by omega)
  rw [hLx.1, t_n (a' := t + 9) _ _ (by omega), (hTx.2.2.2.1 k hk).2.1, t_n (a' := t + 10) _ _ (by omega), t_n (a' := t + 10) _ _ (by omega), (hTx.2.2.2.1 k hk).2.2]
  have hK3 : Kp (fun x k => ¬ (a ≤ x ∧ x ≤ a + 3) ∧ x ≠ t + 13) u (tI (tI (tI x (a + 3) 0 (nI (N 0))) (a + 3) 3 (nI (cbo P k))) (a + 3) 4 (nI (cki P k))) := kp_I (kp_I (kp_I hK2 (by omega)) (by omega)) (by omega)
  have y0 : (tI (tI (tI x (a + 3) 0 (nI (N 0))) (a + 3) 3 (nI (cbo P k))) (a + 3) 4 (nI (cki P k))).1 (a + 3) 0 = nI (N 0) := by rw [t_n _ _ (by omega), t_n _ _ (by omega), t_s]
  have y3 : (tI (tI (tI x (a + 3) 0 (nI (N 0))) (a + 3) 3 (nI (cbo P k))) (a + 3) 4 (nI (cki P k))).1 (a + 3) 3 = nI (cbo P k) := by rw [t_n _ _ (by omega), t_s]
  have y4 : (tI (tI (tI x (a + 3) 0 (nI (N 0))) (a + 3) 3 (nI (cbo P k))) (a + 3) 4 (nI (cki P k))).1 (a + 3) 4 = nI (cki P k) := t_s _ _ _ _
  have yB : FB (tI (tI (tI x (a + 3) 0 (nI (N 0))) (a + 3) 3 (nI (cbo P k))) (a + 3) 4 (nI (cki P k))) (a + 3) := fb_n (fb_n (fb_n xB (by omega)) (by omega)) (by omega)
  have yW : WayM (tI (tI (tI x (a + 3) 0 (nI (N 0))) (a + 3) 3 (nI (cbo P k))) (a + 3) 4 (nI (cki P k))) a P (fun _ => 0) 0 := by
    refine ⟨?_, fun i hi => absurd hi (by omega), fun c hc => ?_, ?_, ?_, ?_⟩
    · rw [t_n _ _ (by omega), t_n _ _ (by omega), t_n _ _ (by omega), x2]
      first | refine i_pos rfl ?_ | rw [if_pos rfl]
      try (with_reducible rfl)
    · rw [t_n _ _ (by omega), t_n _ _ (by omega), t_n _ _ (by omega), hfx _ (pl_36 hP hc)]
      rfl
    · rw [t_n _ _ (by omega), t_n _ _ (by omega), t_n _ _ (by omega), x3]
      first | refine i_neg (by omega) ?_ | rw [if_neg (by omega)]
      try (with_reducible rfl)
    · rw [t_n _ _ (by omega), t_n _ _ (by omega), t_n _ _ (by omega), x4]
      rfl
    · rw [t_n _ _ (by omega), t_n _ _ (by omega), t_n _ _ (by omega), x5]
  generalize (tI (tI (tI x (a + 3) 0 (nI (N 0))) (a + 3) 3 (nI (cbo P k))) (a + 3) 4 (nI (cki P k))) = y at hK3 y0 y3 y4 yB yW
  have hTy : cPl y t P := cPl_K hT hK3 (fun y k h1 h2 h3 h4 => by omega)
  have hLy : cLa y b P N := cLa_K hL hK3 (fun y k h1 h2 h3 => by omega)
  rw [hTy.1.2.2.1, nI_clamp (by omega)]
  refine ⟨vp_in_nI (by omega) (by omega), ?_⟩
  have hst : y.1 (b + 2) (ps P) = nI (N (2 + 3 * ps P)) := by
    have := (hLy.2.1 (ps P) hsrc).2.1
    rw [hpls] at this
    exact this
  have hn2 := (hN.2.1 (ps P) hsrc).2.1
  rw [hst]
  have hrun : ∀ r : Option Nat, Nx P N k (fun _ => 0) 0 r → sX10_lead_p88 a t b Q (oI (r.map (pl P))) 0 y := by
    intro r hr
    unfold sX10_lead_p88
    have key := for_up (fun n i (s : Int32 × St) => sX10_lead_p88n a t b Q n s.1 i s.2) 36
      (fun i s => ∃ (p : Nat → Nat) (r : Option Nat), PW P N k p i ∧ Nx P N k p i r ∧ s.1 = oI (r.map (pl P)) ∧ WayM s.2 a P p i ∧ Kp (fun x k => ¬ (a ≤ x ∧ x ≤ a + 3) ∧ x ≠ t + 13) u s.2 ∧ FB s.2 (a + 3) ∧ s.2.1 (a + 3) 0 = nI (N 0) ∧ s.2.1 (a + 3) 3 = nI (cbo P k) ∧ s.2.1 (a + 3) 4 = nI (cki P k))
      ?_ 0 (oI (r.map (pl P)), y) (by omega) ⟨fun _ => 0, r, fun i hi => absurd hi (by omega), hr, rfl, yW, hK3, yB, y0, y3, y4⟩
    · exact key
    rintro n i ⟨v, z⟩ hi ⟨p, r, hpw, hnx, e1, hW, hK, hBz, g0, g3, g4⟩ hnext
    simp only at e1 hW hK hBz g0 g3 g4
    subst e1
    show sX10_lead_p88b a t b Q (sX10_lead_p88n a t b Q n) (oI (r.map (pl P))) (nI i) z
    unfold sX10_lead_p88b
    cases r with
    | none =>
      have hend : Q z := hQ z hK ⟨p, i, ⟨hpw, hnx⟩, hW⟩ hBz
      by_cases hi36 : (36 : Int32) ≤ nI i
      · first | refine i_pos hi36 ?_ | rw [if_pos hi36]
        try (with_reducible rfl)
        exact hend
      · first | refine i_neg hi36 ?_ | rw [if_neg hi36]
        first | refine i_pos (by rfl) ?_ | rw [if_pos (by rfl)]
        try (with_reducible rfl)
        exact hend
    | some c =>
      obtain ⟨hc, hnew⟩ := nx_cel hP h0 hnx
      have hpc36 := pl_36 hP hc
      let q : Nat → Nat := fun j => if j = i then c else p j
      have hqp : ∀ j, j < i → p j = q j := fun j hj => by
        show p j = if j = i then c else p j
        first | refine i_neg (by omega) ?_ | rw [if_neg (by omega)]
        try (with_reducible rfl)
      have hqi : q i = c := by
        show (if i = i then c else p i) = c
        first | refine i_pos rfl ?_ | rw [if_pos rfl]
        try (with_reducible rfl)
      have hpw' : PW P N k q (i + 1) := by
        intro j hj
        by_cases hji : j = i
        · rw [hji, hqi]
          exact nx_c hqp hnx
        · rw [← hqp j (by omega)]
          exact nx_c (fun l hl => hqp l (by omega)) (hpw j (by omega))
      have hle := pw_36 hP h0 hpw'
      first | refine i_neg (nI_ge (b := 36) (by omega) (by omega)) ?_ | rw [if_neg (nI_ge (b := 36) (by omega) (by omega))]
      try (with_reducible rfl)
      show (if nI (pl P c) = -1 then _ else _)
      first | refine i_neg (by rw [x_ne1 (by omega)]; exact id) ?_ | rw [if_neg (by rw [x_ne1 (by omega)]; exact id)]
      try (with_reducible rfl)
      have hWq : WayM z a P q i := by
        refine ⟨hW.1, fun j hj => by rw [← hqp j hj]; exact hW.2.1 j hj, fun d hd => by rw [← stp_c hqp]; exact hW.2.2.1 d hd, ?_, by rw [← wb_c hqp]; exact hW.2.2.2.2.1, hW.2.2.2.2.2⟩
        rw [hW.2.2.2.1]
        by_cases hi0 : i = 0
        · first | refine i_neg (by omega) ?_ | rw [if_neg (by omega)]
          first | refine i_neg (by omega) ?_ | rw [if_neg (by omega)]
          try (with_reducible rfl)
        · rw [hqp (i - 1) (by omega)]
      have hTz : cPl z t P := cPl_K hT hK (fun y k h1 h2 h3 h4 => by omega)
      refine q_enter hP h0 ht ha hTz (by omega) hWq hc hqi (fun j hj => by rw [← hqp j hj]; exact hnew j hj) (fun y2 hy2 hWy => ?_)
      have hK4 : Kp (fun x k => ¬ (a ≤ x ∧ x ≤ a + 3) ∧ x ≠ t + 13) u y2 := kp_t hK (kp_m hy2 (fun y k h => by omega))
      have hB4 : FB y2 (a + 3) := fb_K hBz hy2 (fun _ => by omega)
      have f0 : y2.1 (a + 3) 0 = nI (N 0) := by rw [hy2.1 _ _ (by omega)]; exact g0
      have f3 : y2.1 (a + 3) 3 = nI (cbo P k) := by rw [hy2.1 _ _ (by omega)]; exact g3
      have f4 : y2.1 (a + 3) 4 = nI (cki P k) := by rw [hy2.1 _ _ (by omega)]; exact g4
      have hgo : ∀ (r : Option Nat) (y3 : St), Nx P N k q (i + 1) r → WayM y3 a P q (i + 1) → Kp (fun x k => ¬ (a ≤ x ∧ x ≤ a + 3) ∧ x ≠ t + 13) u y3 → FB y3 (a + 3) → y3.1 (a + 3) 0 = nI (N 0) → y3.1 (a + 3) 3 = nI (cbo P k) → y3.1 (a + 3) 4 = nI (cki P k) → sX10_lead_p129 a t b (nI i) (oI (r.map (pl P))) Q (sX10_lead_p88n a t b Q n) y3 := by
        intro r y3 a1 a2 a3 a4 a5 a6 a7
        show sX10_lead_p88n a t b Q n (oI (r.map (pl P))) (nI i + 1) y3
        rw [nI_1]
        exact hnext (by omega) (oI (r.map (pl P)), y3) ⟨q, r, hpw', a1, rfl, a2, a3, a4, a5, a6, a7⟩
      by_cases hsea : c / 6 + 1 = pr P
      · have e3 : y2.1 a 3 = 1 := by
          rw [hWy.2.2.2.1, Nat.add_sub_cancel, hqi]
          exact if_pos ⟨by omega, hsea⟩
        rw [e3]
        first | refine i_neg (by first | decide | (unfold vp_in; decide)) ?_ | rw [if_neg (by first | decide | (unfold vp_in; decide))]
        try (with_reducible rfl)
        refine hgo none y2 ?_ hWy hK4 hB4 f0 f3 f4
        unfold Nx
        first | refine i_neg (by omega) ?_ | rw [if_neg (by omega)]
        rw [Nat.add_sub_cancel, hqi]
        first | refine i_pos hsea ?_ | rw [if_pos hsea]
        try (with_reducible rfl)
      · have e3 : y2.1 a 3 = 0 := by
          rw [hWy.2.2.2.1, Nat.add_sub_cancel, hqi]
          exact if_neg (by omega)
        rw [e3]
        first | refine i_pos rfl ?_ | rw [if_pos rfl]
        try (with_reducible rfl)
        have hT4 : cPl y2 t P := cPl_K hT hK4 (fun y k h1 h2 h3 h4 => by omega)
        have hL4 : cLa y2 b P N := cLa_K hL hK4 (fun y k h1 h2 h3 => by omega)
        have hnxt := q_next (m := i + 1) (p := q) (Q := fun r23 u24 => sX10_lead_p129 a t b (nI i) r23 Q (sX10_lead_p88n a t b Q n) u24) (u := y2) hP hN h0 hk ht hb ha hsh hT4 hL4 ⟨by omega, by omega⟩ (by rw [Nat.add_sub_cancel, hqi]; exact hc) (by rw [hWy.1, if_neg (by omega)]) hWy.2.2.1 hB4 f0 f3 f4 (fun r y3 b1 b2 b3 b4 b5 b6 => by
          refine hgo r y3 ?_ (way_K hWy b2 (fun x k c1 c2 => by omega)) (kp_t hK4 (kp_m b2 (fun y k h => by omega))) b3 b4 b5 b6
          unfold Nx
          first | refine i_neg (by omega) ?_ | rw [if_neg (by omega)]
          rw [Nat.add_sub_cancel, hqi]
          first | refine i_neg hsea ?_ | rw [if_neg hsea]
          try (with_reducible rfl)
          rw [Nat.add_sub_cancel, hqi] at b1
          exact b1)
        rw [Nat.add_sub_cancel, hqi] at hnxt
        exact hnxt
  by_cases hs : N (2 + 3 * ps P) = 1
  · rw [hs]
    first | refine i_pos (by rfl) ?_ | rw [if_pos (by rfl)]
    try (with_reducible rfl)
    refine hrun none ?_
    unfold Nx
    first | refine i_pos rfl ?_ | rw [if_pos rfl]
    first | refine i_pos hs ?_ | rw [if_pos hs]
    try (with_reducible rfl)
  · first | refine i_neg (x_ne (k := 1) (by omega) (by omega) hs) ?_ | rw [if_neg (x_ne (k := 1) (by omega) (by omega) hs)]
    try (with_reducible rfl)
    have := hrun (some (ps P)) (by unfold Nx; rw [if_pos rfl, if_neg hs])
    rw [show oI (Option.map (pl P) (some (ps P))) = nI (pl P (ps P)) from rfl, hpls] at this
    exact this
