/-! ===== the class reads SUMS ===== -/
def SG (gc a k : Nat) : Prop := SX a k ∧ a ≠ gc ∧ a ≠ gc + 1
def RdS (X : Tx) (gc : Nat) (u0 u : St) (p : Nat) (g : Bool) (C : List Nat) : Prop := Tk u X p g ∧ cCo u gc C ∧ C.length ≤ p ∧ Kp (SG gc) u0 u
def RdF (X : Tx) (gc : Nat) (u0 u : St) (e : Nat × Nat) : Prop := Tf u X e ∧ (∃ m, m ≤ 1600 ∧ u.1 gc 2 = nI m) ∧ Kp (SG gc) u0 u
def kb (tk : Nat) : Nat := if tk = 0 then 255 else if tk = 1 then 263 else 7719
/-- where and of what is read -/
def EnvC (gc tk : Nat) (u0 : St) : Prop := (gc = 3 ∨ 7 ≤ gc) ∧ gc < 100 ∧ tk ≤ 2 ∧ u0.2.2.2.2.1 = gc ∧ u0.1 6 2 = nI (kb tk)
theorem cco_K {S : Nat → Nat → Prop} {u u' : St} {gc : Nat} {c : List Nat} (h : cCo u gc c) (hK : Kp S u u') (hS : ∀ a k, a = gc ∨ a = gc + 1 → S a k) : cCo u' gc c := by
  refine ⟨by rw [hK.1 _ _ (hS _ _ (Or.inl rfl))]; exact h.1, fun i hi => ?_⟩
  rw [hK.1 _ _ (hS _ _ (Or.inr rfl))]
  exact h.2 i hi
theorem rd_adv {X : Tx} {gc tk p : Nat} {g : Bool} {C : List Nat} {u0 u : St} {Q : St → Prop} (he : EnvC gc tk u0) (h : RdS X gc u0 u p g C) (hk : lkd X p g = 1 ∨ lkd X p g = 2 ∨ lkd X p g = 3) (hQ : ∀ u', RdS X gc u0 u' (lnx X p) (decide (lkd X p g ≠ 3)) C → Q u') : s_X9_advance Q u := by
  obtain ⟨a1, a2, a3, a4⟩ := h
  have hn := lnx_p a1.2.1
  have hl := lst_p a1.2.1
  have hg := he.1
  exact q_advance a1 hk (fun u' k t => hQ u' ⟨t, cco_K a2 k (fun a j h => by unfold SX; omega), by omega, kp_t a4 (kp_m k (fun a j h => h.1))⟩)
theorem rd_fail {X : Tx} {gc tk p f a : Nat} {g : Bool} {C : List Nat} {u0 u : St} {Q : St → Prop} (he : EnvC gc tk u0) (h : RdS X gc u0 u p g C) (hf : 0 < f ∧ f < 10) (ha : a ≤ 1600) (hQ : ∀ u', RdF X gc u0 u' (f, a) → Q u') : s_X9_fail (nI f) (nI a) Q u := by
  obtain ⟨a1, a2, a3, a4⟩ := h
  have hg := he.1
  have hp := a1.2.1
  have h16 := a1.1.1
  exact q_fail a1 hf ha (fun u' k t => hQ u' ⟨t, ⟨C.length, by omega, by rw [k.1 _ _ (by unfold SX; omega)]; exact a2.1⟩, kp_t a4 (kp_m k (fun a j h => h.1))⟩)
theorem rd_code {X : Tx} {gc tk p : Nat} {g : Bool} {C : List Nat} {u0 u : St} (he : EnvC gc tk u0) (h : RdS X gc u0 u p g C) : u.2.2.2.2.1 = gc ∧ u.1 6 2 = nI (kb tk) := by
  have hg := he.1
  refine ⟨?_, ?_⟩
  · rw [h.2.2.2.2.2]
    exact he.2.2.2.1
  · rw [h.2.2.2.1 6 2 (by unfold SG SX; omega)]
    exact he.2.2.2.2
theorem rf_code {X : Tx} {gc tk : Nat} {e : Nat × Nat} {u0 u : St} (he : EnvC gc tk u0) (h : RdF X gc u0 u e) : u.2.2.2.2.1 = gc := by
  rw [h.2.2.2.2]
  exact he.2.2.2.1
theorem q_add {gc t : Nat} {C : List Nat} {Q : St → Prop} {u : St} (hC : cCo u gc C) (hl : C.length < 1600) (hQ : ∀ u', Kp (fun a _ => a ≠ gc ∧ a ≠ gc + 1) u u' → cCo u' gc (C ++ [t]) → Q u') : s_X0_add gc (nI (kap t)) Q u := by
  unfold s_X0_add
  rw [hC.1]
  have h1 : ¬ nI 1600 ≤ nI C.length := nI_ge (by omega) (by omega)
  refine i_neg h1 ⟨vp_in_nI (by omega) (by omega), bnd_i (bnd_i ?_)⟩
  rw [t_n _ _ (by omega), hC.1, nI_clamp (by omega), nI_1]
  refine hQ _ (kp_I (kp_I (kp_r u) (by omega)) (by omega)) ⟨?_, fun i hi => ?_⟩
  · rw [t_s]
    simp
  · rw [t_n _ _ (by omega)]
    simp only [List.length_append, List.length_cons, List.length_nil] at hi
    by_cases e : i = C.length
    · rw [e, t_s]
      simp
    · rw [t_n _ _ (by omega), hC.2 i (by omega)]
      congr 2
      simp only [List.getD_eq_getElem?_getD]
      rw [List.getElem?_append_left (by omega)]
theorem rd_add {X : Tx} {gc tk p t : Nat} {g : Bool} {C : List Nat} {u0 u : St} {Q : St → Prop} {gg : Nat} (he : EnvC gc tk u0) (h : RdS X gc u0 u p g C) (hgg : gg = gc) (hl : C.length < p) (hQ : ∀ u', RdS X gc u0 u' p g (C ++ [t]) → Q u') : s_X0_add gg (nI (kap t)) Q u := by
  have hg := he.1
  rw [hgg]
  obtain ⟨a1, a2, a3, a4⟩ := h
  have hp := a1.2.1
  have h16 := a1.1.1
  refine q_add a2 (by omega) (fun u' k c => hQ u' ⟨tk_K a1 k (fun a j h => by omega), c, ?_, kp_t a4 (kp_m k (fun a j h => h.2))⟩)
  simp only [List.length_append, List.length_cons, List.length_nil]
  omega
theorem rf_add {X : Tx} {gc tk : Nat} {e : Nat × Nat} {u0 u : St} {Q : St → Prop} {v : Int32} {gg : Nat} (he : EnvC gc tk u0) (h : RdF X gc u0 u e) (hgg : gg = gc) (hQ : ∀ u', RdF X gc u0 u' e → Q u') : s_X0_add gg v Q u := by
  have hg := he.1
  rw [hgg]
  obtain ⟨a1, ⟨m, hm, a2⟩, a4⟩ := h
  unfold s_X0_add
  rw [a2]
  by_cases h16 : m = 1600
  · have h1 : nI 1600 ≤ nI m := nI_le (by omega) (by omega)
    exact i_pos h1 (hQ u ⟨a1, ⟨m, hm, a2⟩, a4⟩)
  · have h1 : ¬ nI 1600 ≤ nI m := nI_ge (by omega) (by omega)
    refine i_neg h1 ⟨vp_in_nI (by omega) (by omega), bnd_i (bnd_i ?_)⟩
    rw [t_n _ _ (by omega), a2, nI_clamp (by omega), nI_1]
    have hK : Kp (fun a _ => a ≠ gc ∧ a ≠ gc + 1) u (tI (tI u (gc + 1) m v) gc 2 (nI (m + 1))) := kp_I (kp_I (kp_r u) (by omega)) (by omega)
    exact hQ _ ⟨tf_K a1 hK (fun a j h => by omega), ⟨m + 1, by omega, t_s _ _ _ _⟩, kp_t a4 (kp_m hK (fun a j h => h.2))⟩
theorem sG_4 (D : Nat) : sG (D + 1) 4 = s_X8_readSum (sG D) := rfl
theorem sG_5 (D : Nat) : sG (D + 1) 5 = s_X8_readProduct (sG D) := rfl
theorem sG_6 (D : Nat) : sG (D + 1) 6 = s_X8_readPart (sG D) := rfl
theorem sG_7 (D : Nat) : sG (D + 1) 7 = s_X8_readPair (sG D) := rfl
theorem sG_8 (D : Nat) : sG (D + 1) 8 = s_X8_readOfCaller (sG D) := rfl
theorem sG_0 (D : Nat) : sG (D + 1) 0 = s_X8_readTest (sG D) := rfl
theorem sG_1 (D : Nat) : sG (D + 1) 1 = s_X8_readBoth (sG D) := rfl
theorem sG_2 (D : Nat) : sG (D + 1) 2 = s_X8_readFact (sG D) := rfl
theorem sG_3 (D : Nat) : sG (D + 1) 3 = s_X8_readComparison (sG D) := rfl
/-! behind a fault -/
theorem ff_6 {X : Tx} {gc D : Nat} {e : Nat × Nat} {u0 u : St} {v : Int32} {Q : St → Prop} (hD : 1 ≤ D) (h : RdF X gc u0 u e) (hQ : ∀ u', RdF X gc u0 u' e → Q u') : sG D 6 v Q u := by
  obtain ⟨D, rfl⟩ : ∃ D', D = D' + 1 := ⟨D - 1, by omega⟩
  rw [sG_6]
  unfold s_X8_readPart sX8_readPart_p123 s_X8_readNamedFact sX8_readNamedFact_p26
  have hn : s_X9_wordIn 13 (fun r2 u3 => if r2 = (-1 : Int32) then (s_X9_fail (1 : Int32) (u3.1 1 3) (fun u12 => (fun u27 => Q u27) u12) u3) else (if (((u3.1 6 2) >>> (r2 &&& 31)) &&& (1 : Int32)) = 0 then (s_X9_fail (1 : Int32) (u3.1 1 3) (fun u12 => (fun u27 => Q u27) u12) u3) else (s_X9_advance (fun u6 => s_X0_add u6.2.2.2.2.1 ((10000 : Int32) + r2) (fun u9 => (fun u27 => Q u27) u9) u6) u3))) u := q_wordInF h.1 (i_pos rfl (q_failF h.1 (hQ u h)))
  refine i_neg (by rw [h.1.2.1]; decide) (q_isSignF h.1 (i_pos rfl (q_wordInF h.1 (i_pos rfl ?_))))
  by_cases c : u.1 6 2 = (7719 : Int32)
  · exact i_pos c (q_wordInF h.1 (i_pos rfl hn))
  · exact i_neg c hn
theorem ff_5 {X : Tx} {gc D : Nat} {e : Nat × Nat} {u0 u : St} {v : Int32} {Q : St → Prop} (hD : 2 ≤ D) (h : RdF X gc u0 u e) (hQ : ∀ u', RdF X gc u0 u' e → Q u') : sG D 5 v Q u := by
  obtain ⟨D, rfl⟩ : ∃ D', D = D' + 1 := ⟨D - 1, by omega⟩
  rw [sG_5]
  unfold s_X8_readProduct sX8_readProduct_p7
  refine ff_6 (by omega) h (fun u' h' => ⟨1, ?_⟩)
  show sX8_readProduct_p7b (sG D) v Q _ 0 u'
  unfold sX8_readProduct_p7b
  exact i_neg (by first | decide | (unfold vp_in; decide)) (q_isSignF h'.1 (i_pos rfl (q_isSignF h'.1 (i_pos rfl (hQ u' h')))))
theorem ff_4 {X : Tx} {gc D : Nat} {e : Nat × Nat} {u0 u : St} {v : Int32} {Q : St → Prop} (hD : 3 ≤ D) (h : RdF X gc u0 u e) (hQ : ∀ u', RdF X gc u0 u' e → Q u') : sG D 4 v Q u := by
  obtain ⟨D, rfl⟩ : ∃ D', D = D' + 1 := ⟨D - 1, by omega⟩
  rw [sG_4]
  unfold s_X8_readSum sX8_readSum_p7
  refine ff_5 (by omega) h (fun u' h' => ⟨1, ?_⟩)
  show sX8_readSum_p7b (sG D) v Q _ 0 u'
  unfold sX8_readSum_p7b
  exact i_neg (by first | decide | (unfold vp_in; decide)) (q_isSignF h'.1 (i_pos rfl (q_isSignF h'.1 (i_pos rfl (hQ u' h')))))
/-! what holds of a reader of the class -/
def RdP (X : Tx) (gc : Nat) (u0 : St) (w D d : Nat) (Pre : Nat → Bool → Prop) (Ok : Nat → Bool → Nat → Bool → List Nat → Prop) (Er : Nat → Bool → Nat × Nat → Prop) : Prop := ∀ (u : St) (p : Nat) (g : Bool) (C : List Nat) (Q : St → Prop), Pre p g → RdS X gc u0 u p g C → (∀ u' p' g' c, RdS X gc u0 u' p' g' (C ++ c) → Ok p g p' g' c → Q u') → (∀ u' e, RdF X gc u0 u' e → Er p g e → Q u') → sG D w (nI d) Q u
theorem q_opens {X : Tx} {gc tk p d : Nat} {g : Bool} {C : List Nat} {u0 u : St} {Q : Int32 → St → Prop} (he : EnvC gc tk u0) (h : RdS X gc u0 u p g C) (hd : d ≤ 6) (hk : lkd X p g = 1 ∨ lkd X p g = 3) (h1 : d < 6 → ∀ u', RdS X gc u0 u' (lnx X p) (decide (lkd X p g ≠ 3)) C → Q 1 u') (h6 : d = 6 → ∀ u', RdF X gc u0 u' (4, lst X p) → Q 0 u') : s_X8_opens (nI d) Q u := by
  have hl := lst_p h.1.2.1
  have h16 := h.1.1.1
  unfold s_X8_opens
  by_cases c : d < 6
  · have c' : nI d < nI 6 := nI_lt c (by omega)
    exact i_pos c' (rd_adv he h (by omega) (h1 c))
  · have c' : ¬ nI d < nI 6 := nI_nlt (by omega) (by omega)
    refine i_neg c' ?_
    rw [h.1.2.2.2.1]
    exact rd_fail (f := 4) he h (by omega) (by omega) (h6 (by omega))
theorem wIn9 {X : Tx} {p : Nat} {g : Bool} : (wIn X p g (wds 9) = none ∧ ¬ (isW' X p g wMin ∨ isW' X p g wMax)) ∨ (∃ k, wIn X p g (wds 9) = some k ∧ k < 2 ∧ (isW' X p g wMin ∨ isW' X p g wMax)) := by
  by_cases h1 : isW' X p g wMin
  · exact Or.inr ⟨0, by rw [wIn_w h1]; rfl, by omega, Or.inl h1⟩
  · by_cases h2 : isW' X p g wMax
    · exact Or.inr ⟨1, by rw [wIn_w h2]; rfl, by omega, Or.inr h2⟩
    · refine Or.inl ⟨?_, fun h => by rcases h with h | h; exact h1 h; exact h2 h⟩
      unfold wIn
      by_cases hk : lkd X p g = 1
      · first | refine i_pos hk ?_ | rw [if_pos hk]
        try (with_reducible rfl)
        show (if wMin = lw X p then some 0 else (if wMax = lw X p then some 0 else none).map (· + 1)) = none
        first | refine i_neg (fun e => h1 ⟨hk, e.symm⟩) ?_ | rw [if_neg (fun e => h1 ⟨hk, e.symm⟩)]
        first | refine i_neg (fun e => h2 ⟨hk, e.symm⟩) ?_ | rw [if_neg (fun e => h2 ⟨hk, e.symm⟩)]
        try (with_reducible rfl)
        rfl
      · first | refine i_neg hk ?_ | rw [if_neg hk]
        try (with_reducible rfl)
theorem wIn11 {X : Tx} {p : Nat} {g : Bool} : (wIn X p g (wds 11) = none ∧ ¬ (isW' X p g wWet ∨ isW' X p g wStep)) ∨ (∃ k, wIn X p g (wds 11) = some k ∧ k < 2 ∧ (isW' X p g wWet ∨ isW' X p g wStep)) := by
  by_cases h1 : isW' X p g wWet
  · exact Or.inr ⟨0, by rw [wIn_w h1]; rfl, by omega, Or.inl h1⟩
  · by_cases h2 : isW' X p g wStep
    · exact Or.inr ⟨1, by rw [wIn_w h2]; rfl, by omega, Or.inr h2⟩
    · refine Or.inl ⟨?_, fun h => by rcases h with h | h; exact h1 h; exact h2 h⟩
      unfold wIn
      by_cases hk : lkd X p g = 1
      · first | refine i_pos hk ?_ | rw [if_pos hk]
        try (with_reducible rfl)
        show (if wWet = lw X p then some 0 else (if wStep = lw X p then some 0 else none).map (· + 1)) = none
        first | refine i_neg (fun e => h1 ⟨hk, e.symm⟩) ?_ | rw [if_neg (fun e => h1 ⟨hk, e.symm⟩)]
        first | refine i_neg (fun e => h2 ⟨hk, e.symm⟩) ?_ | rw [if_neg (fun e => h2 ⟨hk, e.symm⟩)]
        try (with_reducible rfl)
        rfl
      · first | refine i_neg hk ?_ | rw [if_neg hk]
        try (with_reducible rfl)
theorem kb_bit : ∀ tk, tk ≤ 2 → ∀ f, f < 13 → ((((nI (kb tk)) >>> (nI f &&& 31)) &&& (1 : Int32)) = 0) = (al tk f = false) := by first | decide | (unfold vp_in; decide)
theorem q_named {X : Tx} {gc tk d p : Nat} {g : Bool} {C : List Nat} {u0 u : St} {Q : St → Prop} (he : EnvC gc tk u0) (h : RdS X gc u0 u p g C) (hk : lkd X p g ≠ 2) (n1 : ¬ isS X p g 40) (n2 : ¬ (isW' X p g wMin ∨ isW' X p g wMax)) (n3 : ¬ (tk = 2 ∧ (isW' X p g wWet ∨ isW' X p g wStep))) (h1 : ∀ u' p' g' c, RdS X gc u0 u' p' g' (C ++ c) → OkP X tk d p g p' g' c → Q u') (h0 : ∀ u' e, RdF X gc u0 u' e → ErP X tk d p g e → Q u') : s_X8_readNamedFact Q u := by
  have hl := lst_p h.1.2.1
  have h16 := h.1.1.1
  have hc := rd_code he h
  unfold s_X8_readNamedFact sX8_readNamedFact_p26
  refine q_wordIn (v := 13) (by omega) h.1 ?_
  have hbad : fac X tk p g = none → s_X9_fail (1 : Int32) (u.1 1 3) (fun u12 => Q u12) u := by
    intro hf
    rw [h.1.2.2.2.1]
    exact rd_fail (f := 1) he h (by omega) (by omega) (fun u' hF => h0 u' _ hF (p_fact_e hk n1 n2 n3 hf))
  cases e : wIn X p g (wds 13) with
  | none =>
    refine i_pos rfl (hbad ?_)
    unfold fac
    rw [e]
  | some f =>
    have hf : f < 13 := wIn_b e
    rw [show oI (some f) = nI f from rfl]
    refine i_neg (by rw [x_ne1 (by omega)]; exact id) ?_
    rw [hc.2]
    have hb := kb_bit tk he.2.2.1 f hf
    by_cases ha : al tk f = true
    · have hfac : fac X tk p g = some f := by
        unfold fac
        rw [e]
        show (if al tk f = true then some f else none) = some f
        first | refine i_pos ha ?_ | rw [if_pos ha]
        try (with_reducible rfl)
      have hk1 : lkd X p g = 1 := by
        unfold wIn at e
        by_cases e1 : lkd X p g = 1
        · exact e1
        · rw [if_neg e1] at e
          exact absurd e (by simp)
      have l1 := wrd_lt h.1.2.1 (Or.inl hk1)
      have hle := h.2.2.1
      refine i_neg (fun h' => absurd (hb.mp h') (by rw [ha]; simp)) (rd_adv he h (Or.inl hk1) (fun u' hS => ?_))
      have hc' := rd_code he hS
      rw [show (10000 : Int32) + nI f = nI (kap (40 + f)) by
        rw [show (10000 : Int32) + nI f = nI (10000 + f) from nI_add 10000 f]
        congr 1
        unfold kap
        first | refine i_neg (by omega) ?_ | rw [if_neg (by omega)]
        first | refine i_neg (by omega) ?_ | rw [if_neg (by omega)]
        first | refine i_pos (by omega) ?_ | rw [if_pos (by omega)]
        try (with_reducible rfl)
        omega]
      rw [hk1] at hS
      exact rd_add he hS hc'.1 (by omega) (fun u'' hS2 => h1 u'' _ _ _ hS2 (p_fact h.1.2.1 n1 n2 n3 hfac))
    · have ha' : al tk f = false := by
        cases hx : al tk f with
        | true => exact absurd hx ha
        | false => rfl
      refine i_pos (hb.mpr ha') (hbad ?_)
      unfold fac
      rw [e]
      show (if al tk f = true then some f else none) = none
      first | refine i_neg ha ?_ | rw [if_neg ha]
      try (with_reducible rfl)
def Any (p : Nat) (g : Bool) : Prop := True
theorem c_prod {X : Tx} {gc tk D d : Nat} {u0 : St} (he : EnvC gc tk u0) (hD : 2 ≤ D) (hP : RdP X gc u0 6 D d Any (OkP X tk d) (ErP X tk d)) : RdP X gc u0 5 (D + 1) d Any (fun p g p' g' c => OkTt X tk d p g p' g' c ∧ ¬ (isS X p' g' 42 ∨ isS X p' g' 47)) (ErT X tk d) := by
  intro u p g C Q _ hS h1 h0
  rw [sG_5]
  unfold s_X8_readProduct
  have h16 := hS.1.1.1
  refine hP u p g C _ trivial hS (fun u1 p1 g1 c1 hS1 ho1 => ?_) (fun u1 e hF her => ?_)
  · unfold sX8_readProduct_p7
    have hlt1 := ho1.1.1
    refine lpx (σ := Int32 × St) (fun n s => sX8_readProduct_p7n (sG D) (nI d) Q n s.1 s.2) (fun k s => (∃ i p2 g2 c2, s.1 = nI i ∧ i < p2 ∧ k = X.2 + 1 - p2 ∧ RdS X gc u0 s.2 p2 g2 (C ++ c2) ∧ OkTt X tk d p g p2 g2 c2) ∨ (∃ i e, i ≤ 1600 ∧ s.1 = nI i ∧ k = 0 ∧ RdF X gc u0 s.2 e ∧ ErT X tk d p g e)) ?_ (X.2 + 1 - p1) (0, u1) (Or.inl ⟨0, p1, g1, c1, rfl, by omega, rfl, hS1, t_first ho1⟩)
    rintro n k ⟨v2, s⟩ hI hnext
    show sX8_readProduct_p7b (sG D) (nI d) Q (sX8_readProduct_p7n (sG D) (nI d) Q n) v2 s
    unfold sX8_readProduct_p7b
    rcases hI with ⟨i, p2, g2, c2, e1, hi, hk, hS2, ho2⟩ | ⟨i, e, hi, e1, hk, hF, her⟩
    · simp only at e1 hS2
      subst e1
      have hp2 := hS2.1.2.1
      have hi' : ¬ nI 1600 ≤ nI i := nI_ge (by omega) (by omega)
      refine i_neg hi' ?_
      have h38 : (isS X p2 g2 42 ∨ isS X p2 g2 47) → sX8_readProduct_p38 (sG D) (nI d) (nI i) Q (sX8_readProduct_p7n (sG D) (nI d) Q n) s := by
        intro hs
        unfold sX8_readProduct_p38
        have hk3 : lkd X p2 g2 = 3 := by
          rcases hs with hs | hs
          · exact hs.1
          · exact hs.1
        have l2 : p2 < lnx X p2 := by
          rcases hs with hs | hs
          · exact (sgn_lt hp2 hs).1
          · exact (sgn_lt hp2 hs).1
        have h59 : ∀ op : Nat, op = (if isS X p2 g2 42 then 3 else 4) → sX8_readProduct_p59 (sG D) (nI d) (nI i) (nI (kap op)) Q (sX8_readProduct_p7n (sG D) (nI d) Q n) s := by
          intro op hop
          unfold sX8_readProduct_p59
          refine rd_adv he hS2 (Or.inr (Or.inr hk3)) (fun s3 hS3 => ?_)
          rw [hk3] at hS3
          refine hP s3 (lnx X p2) false (C ++ c2) _ trivial hS3 (fun s4 p4 g4 c4 hS4 ho4 => ?_) (fun s4 e hF her => ?_)
          · have hc := rd_code he hS4
            have hb4 := ho4.1
            have hb2 := ho2.1
            have hle := hS2.2.2.1
            refine rd_add (t := op) he hS4 hc.1 ?_ (fun s5 hS5 => ?_)
            · have := hb4.2.2.1
              simp only [List.length_append] at hle ⊢
              omega
            · rw [nI_1]
              have := hb4.1
              refine hnext (X.2 + 1 - p4) (nI (i + 1), s5) (by have := hS5.1.2.1; omega) (Or.inl ⟨i + 1, p4, g4, c2 ++ c4 ++ [op], rfl, by omega, rfl, ?_, ?_⟩)
              · have e5 : C ++ (c2 ++ c4 ++ [op]) = C ++ c2 ++ c4 ++ [op] := by simp
                rw [e5]
                exact hS5
              · rw [hop]
                exact t_step ho2 hs ho4
          · have hc := rf_code he hF
            refine rf_add he hF hc (fun s5 hF5 => ?_)
            rw [nI_1]
            exact hnext 0 (nI (i + 1), s5) (by omega) (Or.inr ⟨i + 1, e, by omega, rfl, rfl, hF5, t_step_e ho2 hs her⟩)
        refine q_isSign (c := 42) hS2.1 (by omega) (fun h42 => ?_) (fun h42 => ?_)
        · exact i_neg (by first | decide | (unfold vp_in; decide)) (h59 3 (by rw [if_pos h42]))
        · exact i_pos rfl (h59 4 (by rw [if_neg h42]))
      refine q_isSign (c := 42) hS2.1 (by omega) (fun h42 => i_neg (by first | decide | (unfold vp_in; decide)) (h38 (Or.inl h42))) (fun h42 => i_pos rfl ?_)
      refine q_isSign (c := 47) hS2.1 (by omega) (fun h47 => i_neg (by first | decide | (unfold vp_in; decide)) (h38 (Or.inr h47))) (fun h47 => i_pos rfl ?_)
      exact h1 s p2 g2 c2 hS2 ⟨ho2, fun h => by rcases h with h | h; exact h42 h; exact h47 h⟩
    · simp only at e1 hF
      subst e1
      by_cases hi16 : i = 1600
      · have hi' : nI 1600 ≤ nI i := nI_le (by omega) (by omega)
        exact i_pos hi' (h0 s e hF her)
      · have hi' : ¬ nI 1600 ≤ nI i := nI_ge (by omega) (by omega)
        exact i_neg hi' (q_isSignF hF.1 (i_pos rfl (q_isSignF hF.1 (i_pos rfl (h0 s e hF her)))))
  · unfold sX8_readProduct_p7
    refine ⟨1, ?_⟩
    show sX8_readProduct_p7b (sG D) (nI d) Q _ 0 u1
    unfold sX8_readProduct_p7b
    exact i_neg (by first | decide | (unfold vp_in; decide)) (q_isSignF hF.1 (i_pos rfl (q_isSignF hF.1 (i_pos rfl (h0 u1 e hF (t_first_e her))))))
theorem c_sum {X : Tx} {gc tk D d : Nat} {u0 : St} (he : EnvC gc tk u0) (hP : RdP X gc u0 5 D d Any (fun p g p' g' c => OkTt X tk d p g p' g' c ∧ ¬ (isS X p' g' 42 ∨ isS X p' g' 47)) (ErT X tk d)) : RdP X gc u0 4 (D + 1) d Any (fun p g p' g' c => OkS X tk d p g p' g' c ∧ nS X p' g') (ErS X tk d) := by
  intro u p g C Q _ hS h1 h0
  rw [sG_4]
  unfold s_X8_readSum
  have h16 := hS.1.1.1
  refine hP u p g C _ trivial hS (fun u1 p1 g1 c1 hS1 ho1 => ?_) (fun u1 e hF her => ?_)
  · unfold sX8_readSum_p7
    have hlt1 := ho1.1.1.1
    refine lpx (σ := Int32 × St) (fun n s => sX8_readSum_p7n (sG D) (nI d) Q n s.1 s.2) (fun k s => (∃ i p2 g2 c2, s.1 = nI i ∧ i < p2 ∧ k = X.2 + 1 - p2 ∧ RdS X gc u0 s.2 p2 g2 (C ++ c2) ∧ OkS X tk d p g p2 g2 c2 ∧ ¬ (isS X p2 g2 42 ∨ isS X p2 g2 47)) ∨ (∃ i e, i ≤ 1600 ∧ s.1 = nI i ∧ k = 0 ∧ RdF X gc u0 s.2 e ∧ ErS X tk d p g e)) ?_ (X.2 + 1 - p1) (0, u1) (Or.inl ⟨0, p1, g1, c1, rfl, by omega, rfl, hS1, s_first ho1.1, ho1.2⟩)
    rintro n k ⟨v2, s⟩ hI hnext
    show sX8_readSum_p7b (sG D) (nI d) Q (sX8_readSum_p7n (sG D) (nI d) Q n) v2 s
    unfold sX8_readSum_p7b
    rcases hI with ⟨i, p2, g2, c2, e1, hi, hk, hS2, ho2, hnm⟩ | ⟨i, e, hi, e1, hk, hF, her⟩
    · simp only at e1 hS2
      subst e1
      have hp2 := hS2.1.2.1
      have hi' : ¬ nI 1600 ≤ nI i := nI_ge (by omega) (by omega)
      refine i_neg hi' ?_
      have h38 : (isS X p2 g2 43 ∨ isS X p2 g2 45) → sX8_readSum_p38 (sG D) (nI d) (nI i) Q (sX8_readSum_p7n (sG D) (nI d) Q n) s := by
        intro hs
        unfold sX8_readSum_p38
        have hk3 : lkd X p2 g2 = 3 := by
          rcases hs with hs | hs
          · exact hs.1
          · exact hs.1
        have l2 : p2 < lnx X p2 := by
          rcases hs with hs | hs
          · exact (sgn_lt hp2 hs).1
          · exact (sgn_lt hp2 hs).1
        have h59 : ∀ op : Nat, op = (if isS X p2 g2 43 then 1 else 2) → sX8_readSum_p59 (sG D) (nI d) (nI i) (nI (kap op)) Q (sX8_readSum_p7n (sG D) (nI d) Q n) s := by
          intro op hop
          unfold sX8_readSum_p59
          refine rd_adv he hS2 (Or.inr (Or.inr hk3)) (fun s3 hS3 => ?_)
          rw [hk3] at hS3
          refine hP s3 (lnx X p2) false (C ++ c2) _ trivial hS3 (fun s4 p4 g4 c4 hS4 ho4 => ?_) (fun s4 e hF her => ?_)
          · have hc := rd_code he hS4
            have hb4 := ho4.1.1
            have hb2 := ho2.1
            have hle := hS2.2.2.1
            refine rd_add (t := op) he hS4 hc.1 ?_ (fun s5 hS5 => ?_)
            · have := hb4.2.2.1
              simp only [List.length_append] at hle ⊢
              omega
            · rw [nI_1]
              have := hb4.1
              refine hnext (X.2 + 1 - p4) (nI (i + 1), s5) (by have := hS5.1.2.1; omega) (Or.inl ⟨i + 1, p4, g4, c2 ++ c4 ++ [op], rfl, by omega, rfl, ?_, ?_, ho4.2⟩)
              · have e5 : C ++ (c2 ++ c4 ++ [op]) = C ++ c2 ++ c4 ++ [op] := by simp
                rw [e5]
                exact hS5
              · rw [hop]
                exact s_step ho2 hs ho4.1
          · have hc := rf_code he hF
            refine rf_add he hF hc (fun s5 hF5 => ?_)
            rw [nI_1]
            exact hnext 0 (nI (i + 1), s5) (by omega) (Or.inr ⟨i + 1, e, by omega, rfl, rfl, hF5, s_step_e ho2 hs her⟩)
        refine q_isSign (c := 43) hS2.1 (by omega) (fun h42 => ?_) (fun h42 => ?_)
        · exact i_neg (by first | decide | (unfold vp_in; decide)) (h59 1 (by rw [if_pos h42]))
        · exact i_pos rfl (h59 2 (by rw [if_neg h42]))
      refine q_isSign (c := 43) hS2.1 (by omega) (fun h42 => i_neg (by first | decide | (unfold vp_in; decide)) (h38 (Or.inl h42))) (fun h42 => i_pos rfl ?_)
      refine q_isSign (c := 45) hS2.1 (by omega) (fun h47 => i_neg (by first | decide | (unfold vp_in; decide)) (h38 (Or.inr h47))) (fun h47 => i_pos rfl ?_)
      exact h1 s p2 g2 c2 hS2 ⟨ho2, hnm, fun h => by rcases h with h | h; exact h42 h; exact h47 h⟩
    · simp only at e1 hF
      subst e1
      by_cases hi16 : i = 1600
      · have hi' : nI 1600 ≤ nI i := nI_le (by omega) (by omega)
        exact i_pos hi' (h0 s e hF her)
      · have hi' : ¬ nI 1600 ≤ nI i := nI_ge (by omega) (by omega)
        exact i_neg hi' (q_isSignF hF.1 (i_pos rfl (q_isSignF hF.1 (i_pos rfl (h0 s e hF her)))))
  · unfold sX8_readSum_p7
    refine ⟨1, ?_⟩
    show sX8_readSum_p7b (sG D) (nI d) Q _ 0 u1
    unfold sX8_readSum_p7b
    exact i_neg (by first | decide | (unfold vp_in; decide)) (q_isSignF hF.1 (i_pos rfl (q_isSignF hF.1 (i_pos rfl (h0 u1 e hF (s_first_e her))))))
abbrev SumP (X : Tx) (gc tk : Nat) (u0 : St) (D d : Nat) : Prop := RdP X gc u0 4 D d Any (fun p g p' g' c => OkS X tk d p g p' g' c ∧ nS X p' g') (ErS X tk d)
theorem rd_tsign {X : Tx} {gc tk p c : Nat} {g : Bool} {C : List Nat} {u0 u : St} {Q : St → Prop} (he : EnvC gc tk u0) (h : RdS X gc u0 u p g C) (hc : c < 256) (h1 : ∀ u', isS X p g c → RdS X gc u0 u' (lnx X p) false C → Q u') (h0 : ∀ u', ¬ isS X p g c → RdF X gc u0 u' (1, lst X p) → Q u') : s_X9_takeSign (nI c) Q u := by
  have hl := lst_p h.1.2.1
  have h16 := h.1.1.1
  unfold s_X9_takeSign
  refine q_isSign h.1 hc (fun hs => i_neg (by first | decide | (unfold vp_in; decide)) (rd_adv he h (Or.inr (Or.inr hs.1)) (fun u' hS => h1 u' hs ?_))) (fun hs => i_pos rfl ?_)
  · rw [hs.1] at hS
    exact hS
  · rw [h.1.2.2.2.1]
    exact rd_fail (f := 1) he h (by omega) (by omega) (fun u' hF => h0 u' hs hF)
theorem c_pair {X : Tx} {gc tk D d : Nat} {u0 : St} (he : EnvC gc tk u0) (hd : d ≤ 6) (hD : d < 6 → 3 ≤ D) (hP : d < 6 → SumP X gc tk u0 D (d + 1)) : RdP X gc u0 7 (D + 1) d (fun p g => isW' X p g wMin ∨ isW' X p g wMax) (OkP X tk d) (ErP X tk d) := by
  intro u p g C Q hw hS h1 h0
  rw [sG_7]
  unfold s_X8_readPair
  have h16 := hS.1.1.1
  have hk1 : lkd X p g = 1 := by
    rcases hw with hw | hw
    · exact hw.1
    · exact hw.1
  have h21 : ∀ op : Nat, op = (if isW' X p g wMin then 5 else 6) → sX8_readPair_p21 (sG D) (nI d) (nI (kap op)) Q u := by
    intro op hop
    unfold sX8_readPair_p21
    refine rd_adv he hS (Or.inl hk1) (fun u1 hS1 => ?_)
    rw [hk1] at hS1
    have hS1 : RdS X gc u0 u1 (lnx X p) true C := hS1
    have hl1 := lst_p hS1.1.2.1
    refine q_isSign (c := 40) hS1.1 (by omega) (fun hs => i_neg (by first | decide | (unfold vp_in; decide)) ?_) (fun hs => i_pos rfl ?_)
    · refine q_opens he hS1 hd (Or.inr hs.1) (fun hd6 u2 hS2 => i_neg (by first | decide | (unfold vp_in; decide)) ?_) (fun hd6 u2 hF => i_pos rfl (h0 u2 _ hF (by rw [hd6]; exact p_pair_6 hw hs)))
      rw [hs.1] at hS2
      rw [nI_1]
      refine hP hd6 u2 _ false C _ trivial hS2 (fun u3 p3 g3 c3 hS3 ho3 => ?_) (fun u3 e hF her => ?_)
      · refine rd_tsign (c := 44) he hS3 (by omega) (fun u4 hs4 hS4 => ?_) (fun u4 hs4 hF => ?_)
        · refine hP hd6 u4 _ false (C ++ c3) _ trivial hS4 (fun u5 p5 g5 c5 hS5 ho5 => ?_) (fun u5 e hF her => ?_)
          · refine rd_tsign (c := 41) he hS5 (by omega) (fun u6 hs6 hS6 => ?_) (fun u6 hs6 hF => ?_)
            · have hc := rd_code he hS6
              have l5 := sgn_lt hS5.1.2.1 hs6
              have hle := hS5.2.2.1
              refine rd_add (t := op) he hS6 hc.1 (by omega) (fun u7 hS7 => h1 u7 (lnx X p5) false (c3 ++ c5 ++ [op]) ?_ ?_)
              · have e5 : C ++ (c3 ++ c5 ++ [op]) = C ++ c3 ++ c5 ++ [op] := by simp
                rw [e5]
                exact hS7
              · rw [hop]
                exact p_pair hS.1.2.1 hd6 hw hs ho3.1 hs4 ho5.1 hs6
            · exact rf_add he hF (rf_code he hF) (fun u7 hF7 => h0 u7 _ hF7 (p_pair_d hd6 hw hs ho3.1 hs4 ho5.1 ho5.2 hs6))
          · exact q_takeSignF hF.1 (rf_add he hF (rf_code he hF) (fun u7 hF7 => h0 u7 _ hF7 (p_pair_2 hd6 hw hs ho3.1 hs4 her)))
        · exact ff_4 (hD hd6) hF (fun u5 hF5 => q_takeSignF hF5.1 (rf_add he hF5 (rf_code he hF5) (fun u7 hF7 => h0 u7 _ hF7 (p_pair_c hd6 hw hs ho3.1 ho3.2 hs4))))
      · exact q_takeSignF hF.1 (ff_4 (hD hd6) hF (fun u5 hF5 => q_takeSignF hF5.1 (rf_add he hF5 (rf_code he hF5) (fun u7 hF7 => h0 u7 _ hF7 (p_pair_1 hd6 hw hs her)))))
    · rw [hS1.1.2.2.2.1]
      exact rd_fail (f := 1) he hS1 (by omega) (by omega) (fun u' hF => h0 u' _ hF (p_pair_n hw hs))
  refine q_word1 (v := 10) (w := wMin) (by omega) rfl hS.1 (fun hm => i_pos rfl (h21 5 (by rw [if_pos hm]))) (fun hm => i_neg (by first | decide | (unfold vp_in; decide)) (h21 6 (by rw [if_neg hm])))
theorem c_of {X : Tx} {gc D d : Nat} {u0 : St} (he : EnvC gc 2 u0) (hd : d ≤ 6) (hP : d < 6 → RdP X gc u0 6 D (d + 1) Any (OkP X 2 (d + 1)) (ErP X 2 (d + 1))) : RdP X gc u0 8 (D + 1) d (fun p g => isW' X p g wWet ∨ isW' X p g wStep) (OkP X 2 d) (ErP X 2 d) := by
  intro u p g C Q hw hS h1 h0
  rw [sG_8]
  unfold s_X8_readOfCaller
  have hk1 : lkd X p g = 1 := by
    rcases hw with hw | hw
    · exact hw.1
    · exact hw.1
  have h21 : ∀ op : Nat, op = (if isW' X p g wWet then 60 else 61) → sX8_readOfCaller_p21 (sG D) (nI d) (nI (kap op)) Q u := by
    intro op hop
    unfold sX8_readOfCaller_p21
    refine q_opens he hS hd (Or.inl hk1) (fun hd6 u2 hS2 => i_neg (by first | decide | (unfold vp_in; decide)) ?_) (fun hd6 u2 hF => i_pos rfl (h0 u2 _ hF (by rw [hd6]; exact p_of_6 hw)))
    rw [hk1] at hS2
    have hS2 : RdS X gc u0 u2 (lnx X p) true C := hS2
    rw [nI_1]
    refine hP hd6 u2 _ true C _ trivial hS2 (fun u3 p3 g3 c3 hS3 ho3 => ?_) (fun u3 e hF her => ?_)
    · have hc := rd_code he hS3
      have l1 := wrd_lt hS.1.2.1 (Or.inl hk1)
      have hb := ho3.1
      have hle := hS.2.2.1
      refine rd_add (t := op) he hS3 hc.1 ?_ (fun u4 hS4 => h1 u4 p3 g3 (c3 ++ [op]) ?_ ?_)
      · have := hb.2.2.1
        simp only [List.length_append]
        omega
      · have e5 : C ++ (c3 ++ [op]) = C ++ c3 ++ [op] := by simp
        rw [e5]
        exact hS4
      · rw [hop]
        exact p_of hS.1.2.1 hd6 hw ho3
    · exact rf_add he hF (rf_code he hF) (fun u4 hF4 => h0 u4 _ hF4 (p_of_i hd6 hw her))
  refine q_word1 (v := 12) (w := wWet) (by omega) rfl hS.1 (fun hm => i_pos rfl (h21 60 (by rw [if_pos hm]))) (fun hm => i_neg (by first | decide | (unfold vp_in; decide)) (h21 61 (by rw [if_neg hm])))
theorem c_part {X : Tx} {gc tk D d : Nat} {u0 : St} (he : EnvC gc tk u0) (hd : d ≤ 6) (hS4 : d < 6 → SumP X gc tk u0 D (d + 1)) (hP7 : RdP X gc u0 7 D d (fun p g => isW' X p g wMin ∨ isW' X p g wMax) (OkP X tk d) (ErP X tk d)) (hP8 : tk = 2 → RdP X gc u0 8 D d (fun p g => isW' X p g wWet ∨ isW' X p g wStep) (OkP X tk d) (ErP X tk d)) : RdP X gc u0 6 (D + 1) d Any (OkP X tk d) (ErP X tk d) := by
  intro u p g C Q _ hS h1 h0
  rw [sG_6]
  unfold s_X8_readPart
  have h16 := hS.1.1.1
  have hl := lst_p hS.1.2.1
  have hr := lkd_r X p g
  have hc := rd_code he hS
  have hg := he.1
  rw [hS.1.2.2.1]
  by_cases hk2 : lkd X p g = 2
  · rw [hk2]
    refine i_pos rfl ?_
    have l1 := wrd_lt hS.1.2.1 (Or.inr hk2)
    have hle := hS.2.2.1
    refine q_takeNumber (least := 0) (most := 9999) (by omega) (by omega) hS.1 (fun u1 v hv k1 t1 => ?_) (fun u1 e hv k1 t1 => ?_)
    · have hS1 : RdS X gc u0 u1 (lnx X p) true C := ⟨t1, cco_K hS.2.1 k1 (fun a j h => by unfold SX; omega), by omega, kp_t hS.2.2.2 (kp_m k1 (fun a j h => h.1))⟩
      have hkap : kap (1000 + v) = v := by
        unfold kap
        first | refine i_pos (by omega) ?_ | rw [if_pos (by omega)]
        try (with_reducible rfl)
        omega
      rw [← hkap]
      exact rd_add (t := 1000 + v) he hS1 hc.1 (by omega) (fun u2 hS2 => h1 u2 _ _ _ hS2 (p_num hS.1.2.1 hk2 hv))
    · have hp := hS.1.2.1
      have hF : RdF X gc u0 u1 e := ⟨t1, ⟨C.length, by omega, by rw [k1.1 _ _ (by unfold SX; omega)]; exact hS.2.1.1⟩, kp_t hS.2.2.2 (kp_m k1 (fun a j h => h.1))⟩
      exact rf_add he hF hc.1 (fun u2 hF2 => h0 u2 _ hF2 (p_num_e hk2 hv))
  · refine i_neg (x_ne (k := 2) (by omega) (by omega) hk2) ?_
    refine q_isSign (c := 40) hS.1 (by omega) (fun hs => i_neg (by first | decide | (unfold vp_in; decide)) ?_) (fun hs => i_pos rfl ?_)
    · refine q_opens he hS hd (Or.inr hs.1) (fun hd6 u2 hS2 => i_neg (by first | decide | (unfold vp_in; decide)) ?_) (fun hd6 u2 hF => i_pos rfl (h0 u2 _ hF (by rw [hd6]; exact p_open_6 hs)))
      rw [hs.1] at hS2
      rw [nI_1]
      refine hS4 hd6 u2 _ false C _ trivial hS2 (fun u3 p3 g3 c3 hS3 ho3 => ?_) (fun u3 e hF her => ?_)
      · refine rd_tsign (c := 41) he hS3 (by omega) (fun u4 hs4 hS4 => h1 u4 _ _ _ hS4 (p_open hS.1.2.1 hd6 hs ho3.1 hs4)) (fun u4 hs4 hF => h0 u4 _ hF (p_open_c hd6 hs ho3.1 ho3.2 hs4))
      · exact q_takeSignF hF.1 (h0 u3 e hF (p_open_i hd6 hs her))
    · refine q_wordIn (v := 9) (by omega) hS.1 ?_
      rcases wIn9 (X := X) (p := p) (g := g) with ⟨e9, n9⟩ | ⟨k9, e9, hk9, w9⟩
      · rw [e9]
        refine i_pos rfl ?_
        rw [hc.2]
        have htk := he.2.2.1
        unfold sX8_readPart_p123
        by_cases ht2 : tk = 2
        · rw [ht2]
          refine i_pos (by first | decide | (unfold vp_in; decide)) ?_
          refine q_wordIn (v := 11) (by omega) hS.1 ?_
          rcases wIn11 (X := X) (p := p) (g := g) with ⟨e11, n11⟩ | ⟨k11, e11, hk11, w11⟩
          · rw [e11]
            exact i_pos rfl (q_named he hS hk2 hs n9 (fun h => n11 h.2) h1 h0)
          · rw [e11, show oI (some k11) = nI k11 from rfl]
            refine i_neg (by rw [x_ne1 (by omega)]; exact id) ?_
            exact hP8 ht2 u p g C _ w11 hS h1 h0
        · have hne : ¬ nI (kb tk) = (7719 : Int32) := by
            have : tk = 0 ∨ tk = 1 := by omega
            rcases this with rfl | rfl <;> decide
          exact i_neg hne (q_named he hS hk2 hs n9 (fun h => ht2 h.1) h1 h0)
      · rw [e9, show oI (some k9) = nI k9 from rfl]
        refine i_neg (by rw [x_ne1 (by omega)]; exact id) ?_
        exact hP7 u p g C _ w9 hS h1 h0
/-- all readers of sums, by how deep one may go -/
theorem c_sums {X : Tx} {gc tk : Nat} {u0 : St} (he : EnvC gc tk u0) : ∀ (j d D : Nat), d + j = 6 → 4 * j + 2 ≤ D → RdP X gc u0 6 D d Any (OkP X tk d) (ErP X tk d) ∧ RdP X gc u0 4 (D + 2) d Any (fun p g p' g' c => OkS X tk d p g p' g' c ∧ nS X p' g') (ErS X tk d) := by
  intro j
  induction j with
  | zero =>
    intro d D hd hD
    obtain ⟨D, rfl⟩ : ∃ D', D = D' + 2 := ⟨D - 2, by omega⟩
    have h7 : RdP X gc u0 7 (D + 1) d (fun p g => isW' X p g wMin ∨ isW' X p g wMax) (OkP X tk d) (ErP X tk d) := c_pair he (by omega) (fun h => by omega) (fun h => by omega)
    have h8 : tk = 2 → RdP X gc u0 8 (D + 1) d (fun p g => isW' X p g wWet ∨ isW' X p g wStep) (OkP X tk d) (ErP X tk d) := by
      intro ht
      subst ht
      exact c_of he (by omega) (fun h => by omega)
    have h6 : RdP X gc u0 6 (D + 2) d Any (OkP X tk d) (ErP X tk d) := c_part he (by omega) (fun h => by omega) h7 h8
    exact ⟨h6, c_sum he (c_prod he (by omega) h6)⟩
  | succ j ih =>
    intro d D hd hD
    obtain ⟨D, rfl⟩ : ∃ D', D = D' + 2 := ⟨D - 2, by omega⟩
    obtain ⟨D, rfl⟩ : ∃ D', D = D' + 2 := ⟨D - 2, by omega⟩
    have i4 := (ih (d + 1) D (by omega) (by omega)).2
    have i4' := (ih (d + 1) (D + 1) (by omega) (by omega)).2
    have i6 := (ih (d + 1) (D + 2) (by omega) (by omega)).1
    have h7 : RdP X gc u0 7 (D + 3) d (fun p g => isW' X p g wMin ∨ isW' X p g wMax) (OkP X tk d) (ErP X tk d) := c_pair he (by omega) (fun h => by omega) (fun h => i4)
    have h8 : tk = 2 → RdP X gc u0 8 (D + 3) d (fun p g => isW' X p g wWet ∨ isW' X p g wStep) (OkP X tk d) (ErP X tk d) := by
      intro ht
      subst ht
      exact c_of he (by omega) (fun h => i6)
    have h6 : RdP X gc u0 6 (D + 4) d Any (OkP X tk d) (ErP X tk d) := c_part he (by omega) (fun h => i4') h7 h8
    exact ⟨h6, c_sum he (c_prod he (by omega) h6)⟩
