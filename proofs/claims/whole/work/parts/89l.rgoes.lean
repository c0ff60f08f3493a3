/-! ===== the reference goes on behind a part; a whole SUM ===== -/
def SP0 (a k : Nat) : Prop := ¬ (a = 198 ∧ (k = 109 ∨ k = 111)) ∧ a ≠ 282 ∧ a ≠ 283
theorem push_v {x : Nat} {V : List Nat} {Q : Int32 → St → Prop} {u : St} (h : Wt' u V) (hl : V.length < 1690) (hx : x < 100) (hQ : ∀ u', Kp (fun a k => ¬ (a = 198 ∧ k = 111) ∧ a ≠ 283) u u' → Wt' u' (x :: V) → Q 1 u') : vp_in (u.1 198 111) 1700 ∧ bnd (tI u 283 (u.1 198 111).toNatClampNeg (nI x)) (fun u53 => bnd (tI u53 198 111 ((u53.1 198 111) + (1 : Int32))) (fun u54 => Q (1 : Int32) u54)) := by
  rw [h.1, nI_clamp (by omega)]
  refine ⟨vp_in_nI (by omega) (by omega), bnd_i (bnd_i ?_)⟩
  rw [t_n _ _ (by omega), h.1, nI_1]
  exact hQ _ (kp_I (kp_I (kp_r u) (by omega)) (by omega)) (wt_push h hx)
theorem hd_c {V : List Nat} {x : Nat} (h : V.head? = some x) : ∃ V', V = x :: V' := by
  cases V with
  | nil => exact absurd h (by simp)
  | cons y V' => exact ⟨V', by rw [Option.some.inj h]⟩
theorem r_dr34 {x : Nat} {V L : List Nat} {Q : Int32 → St → Prop} {u : St} (h : Wt' u V) (hc : Cd u L) (hl : V.length + L.length < 1650) (hx : x < 100) (hQ : ∀ u', Kp SP0 u u' → Wt' u' (x :: V.dropWhile is34) → Cd u' (L ++ V.takeWhile is34) → Q 1 u') : sX12_qGoesOn_p162 (nI x) Q u := by
  unfold sX12_qGoesOn_p162
  refine lpx (fun n s => sX12_qGoesOn_p162n (nI x) Q n s) (fun j s => ∃ V' L', j = V'.length ∧ Kp SP0 u s ∧ Wt' s V' ∧ Cd s L' ∧ V'.length + L'.length < 1650 ∧ V'.dropWhile is34 = V.dropWhile is34 ∧ L' ++ V'.takeWhile is34 = L ++ V.takeWhile is34) ?_ V.length u ⟨V, L, rfl, kp_r u, h, hc, hl, rfl, rfl⟩
  rintro n j s ⟨V', L', hj, hK, w1, c1, l1, e1, e2⟩ hnext
  show sX12_qGoesOn_p162b (nI x) Q (sX12_qGoesOn_p162n (nI x) Q n) s
  unfold sX12_qGoesOn_p162b sX12_qGoesOn_p178
  have hgo : ∀ y, (y = 3 ∨ y = 4) → V'.head? = some y → s_X12_qDrops (fun u68 => sX12_qGoesOn_p162n (nI x) Q n u68) s := by
    intro y hy hh
    obtain ⟨V2, rfl⟩ := hd_c hh
    have hq : is34 y = true := decide_eq_true hy
    simp only [List.length_cons] at l1 hj
    refine r_qDrops w1 c1 (by omega) (fun s2 k2 w2 c2 => hnext V2.length s2 (by omega) ⟨V2, L' ++ [y], rfl, kp_t hK (kp_m k2 (fun a k h => by unfold SP0 at h; omega)), w2, c2, by simp only [List.length_append, List.length_cons, List.length_nil]; omega, ?_, ?_⟩)
    · rw [← e1, List.dropWhile_cons, hq]
      rfl
    · rw [← e2, List.takeWhile_cons, hq]
      simp
  refine r_qIsOn (x := 3) w1 (by omega) (by omega) (fun h3 => i_neg (by first | decide | (unfold vp_in; decide)) (hgo 3 (Or.inl rfl) h3)) (fun h3 => i_pos rfl ?_)
  refine r_qIsOn (x := 4) w1 (by omega) (by omega) (fun h4 => i_neg (by first | decide | (unfold vp_in; decide)) (hgo 4 (Or.inr rfl) h4)) (fun h4 => i_pos rfl ?_)
  have ht := tw_app (q := is34) (U := []) (W := V') (fun y hy => absurd hy (by simp)) (fun y hy => decide_eq_false (fun hh => by
    rcases hh with hh | hh
    · rw [hh] at hy
      exact h3 hy
    · rw [hh] at hy
      exact h4 hy))
  rw [List.nil_append] at ht
  refine push_v w1 (by omega) hx (fun s2 k2 w2 => hQ s2 (kp_t hK (kp_m k2 (fun a k h => by unfold SP0 at h; omega))) ?_ ?_)
  · rw [← e1, ht.2]
    exact w2
  · rw [← e2, ht.1, List.append_nil]
    exact cd_K c1 k2 (by omega) (fun k => by omega)
theorem r_dr14 {x : Nat} {V L : List Nat} {Q : Int32 → St → Prop} {u : St} (h : Wt' u V) (hc : Cd u L) (hl : V.length + L.length < 1650) (hx : x < 100) (hQ : ∀ u', Kp SP0 u u' → Wt' u' (x :: V.dropWhile is14) → Cd u' (L ++ V.takeWhile is14) → Q 1 u') : sX12_qGoesOn_p247 (nI x) Q u := by
  unfold sX12_qGoesOn_p247
  refine lpx (fun n s => sX12_qGoesOn_p247n (nI x) Q n s) (fun j s => ∃ V' L', j = V'.length ∧ Kp SP0 u s ∧ Wt' s V' ∧ Cd s L' ∧ V'.length + L'.length < 1650 ∧ V'.dropWhile is14 = V.dropWhile is14 ∧ L' ++ V'.takeWhile is14 = L ++ V.takeWhile is14) ?_ V.length u ⟨V, L, rfl, kp_r u, h, hc, hl, rfl, rfl⟩
  rintro n j s ⟨V', L', hj, hK, w1, c1, l1, e1, e2⟩ hnext
  show sX12_qGoesOn_p247b (nI x) Q (sX12_qGoesOn_p247n (nI x) Q n) s
  unfold sX12_qGoesOn_p247b sX12_qGoesOn_p279
  have hgo : ∀ y, (y = 1 ∨ y = 2 ∨ y = 3 ∨ y = 4) → V'.head? = some y → s_X12_qDrops (fun u68 => sX12_qGoesOn_p247n (nI x) Q n u68) s := by
    intro y hy hh
    obtain ⟨V2, rfl⟩ := hd_c hh
    have hq : is14 y = true := decide_eq_true hy
    simp only [List.length_cons] at l1 hj
    refine r_qDrops w1 c1 (by omega) (fun s2 k2 w2 c2 => hnext V2.length s2 (by omega) ⟨V2, L' ++ [y], rfl, kp_t hK (kp_m k2 (fun a k h => by unfold SP0 at h; omega)), w2, c2, by simp only [List.length_append, List.length_cons, List.length_nil]; omega, ?_, ?_⟩)
    · rw [← e1, List.dropWhile_cons, hq]
      rfl
    · rw [← e2, List.takeWhile_cons, hq]
      simp
  refine r_qIsOn (x := 3) w1 (by omega) (by omega) (fun h3 => i_neg (by first | decide | (unfold vp_in; decide)) (hgo 3 (by omega) h3)) (fun h3 => i_pos rfl ?_)
  refine r_qIsOn (x := 4) w1 (by omega) (by omega) (fun h4 => i_neg (by first | decide | (unfold vp_in; decide)) (hgo 4 (by omega) h4)) (fun h4 => i_pos rfl ?_)
  refine r_qIsOn (x := 1) w1 (by omega) (by omega) (fun h1 => i_neg (by first | decide | (unfold vp_in; decide)) (hgo 1 (by omega) h1)) (fun h1 => i_pos rfl ?_)
  refine r_qIsOn (x := 2) w1 (by omega) (by omega) (fun h2 => i_neg (by first | decide | (unfold vp_in; decide)) (hgo 2 (by omega) h2)) (fun h2 => i_pos rfl ?_)
  have ht := tw_app (q := is14) (U := []) (W := V') (fun y hy => absurd hy (by simp)) (fun y hy => decide_eq_false (fun hh => by
    rcases hh with hh | hh | hh | hh
    · rw [hh] at hy
      exact h1 hy
    · rw [hh] at hy
      exact h2 hy
    · rw [hh] at hy
      exact h3 hy
    · rw [hh] at hy
      exact h4 hy))
  rw [List.nil_append] at ht
  refine push_v w1 (by omega) hx (fun s2 k2 w2 => hQ s2 (kp_t hK (kp_m k2 (fun a k h => by unfold SP0 at h; omega))) ?_ ?_)
  · rw [← e1, ht.2]
    exact w2
  · rw [← e2, ht.1, List.append_nil]
    exact cd_K c1 k2 (by omega) (fun k => by omega)
theorem dw_app {q : Nat → Bool} {Wb : List Nat} (hb : ∀ x, Wb.head? = some x → q x = false) : ∀ (W : List Nat), (W ++ Wb).dropWhile q = W.dropWhile q ++ Wb ∧ (W ++ Wb).takeWhile q = W.takeWhile q
  | [] => by
    have ht := tw_app (q := q) (U := []) (W := Wb) (fun y hy => absurd hy (by simp)) hb
    exact ⟨ht.2, ht.1⟩
  | x :: W => by
    have ih := dw_app hb W
    rw [List.cons_append, List.dropWhile_cons, List.dropWhile_cons, List.takeWhile_cons, List.takeWhile_cons]
    cases q x with
    | true => exact ⟨ih.1, by show x :: (W ++ Wb).takeWhile q = x :: W.takeWhile q; rw [ih.2]⟩
    | false => exact ⟨rfl, rfl⟩
theorem brk_split {W : List Nat} {b : Nat} (h : brk W = some b) : W = abv W ++ b :: bel W ∧ (20 ≤ b ∧ b ≤ 24) ∧ W.dropWhile (fun x => !isBr x) = b :: bel W := by
  obtain ⟨V, hV⟩ := hd_c h
  have hbel : bel W = V := by
    unfold bel
    rw [hV]
    rfl
  have e : W.takeWhile (fun x => !isBr x) ++ W.dropWhile (fun x => !isBr x) = W := List.takeWhile_append_dropWhile
  refine ⟨?_, ?_, by rw [hbel]; exact hV⟩
  · rw [hV] at e
    rw [hbel]
    exact e.symm
  · have hn : ∀ (l : List Nat) (y : Nat) (t : List Nat), l.dropWhile (fun x => !isBr x) = y :: t → isBr y = true := by
      intro l
      induction l with
      | nil => exact fun y t h => absurd h (by simp)
      | cons z l ih =>
        intro y t h
        rw [List.dropWhile_cons] at h
        cases hz : isBr z with
        | true =>
          rw [hz] at h
          have h : z :: l = y :: t := h
          rw [← (List.cons.inj h).1]
          exact hz
        | false =>
          rw [hz] at h
          exact ih y t h
    exact of_decide_eq_true (hn W b V hV)
theorem r_goesOn {X : Tx} {tk : Nat} {Wb Cb : List Nat} {o0 : Nat} {u0 : St} {r : Rs} {Q : Int32 → St → Prop} (he : EnvR tk Wb u0) (k p : Nat) (g : Bool) (W C : List Nat) (o : Nat) (u : St) (hS : Sy X tk Wb Cb o0 u0 u p g W C o) (hR : Rn X tk k 2 p g W C o r) (hQ1 : ∀ u' k' p' g' W' C' o', k' < k → Sy X tk Wb Cb o0 u0 u' p' g' W' C' o' → Rn X tk k' 0 p' g' W' C' o' r → Q 1 u') (hQd : ∀ u' p' g' W' C' o', Sy X tk Wb Cb o0 u0 u' p' g' W' C' o' → r = .ok (p', g', C' ++ W') → (∀ x ∈ W', x < 20) → Q 0 u') (hQ0 : ∀ u' e, r = .error e → SyF X u0 u' e → Q 0 u') : s_X12_qGoesOn Q u := by
  unfold s_X12_qGoesOn sX12_qGoesOn_p0
  refine lpx (fun n s => sX12_qGoesOn_p0n Q n s) (fun j s => ∃ p g W C o, j ≤ k ∧ Sy X tk Wb Cb o0 u0 s p g W C o ∧ Rn X tk j 2 p g W C o r) ?_ k u ⟨p, g, W, C, o, Nat.le_refl _, hS, hR⟩
  rintro n j s ⟨p, g, W, C, o, hj, hS, hR⟩ hnext
  show sX12_qGoesOn_p0b Q (sX12_qGoesOn_p0n Q n) s
  unfold sX12_qGoesOn_p0b
  have a1 := hS.1
  have hp := a1.2.1
  have h16 := a1.1.1
  have hl := lst_p hp
  cases j with
  | zero => exact absurd hR id
  | succ j =>
  unfold Rn at hR
  rw [if_neg (by omega), if_neg (by omega)] at hR
  rw [a1.2.2.2.2.2.1]
  refine i_pos rfl (r_look a1 (fun u1 k1 b1 => ?_))
  have hS1 := sy_lex hS k1 b1.1 (Nat.le_refl _)
  obtain ⟨c1, c2, c3, c4, c5, c6, c7⟩ := id hS1
  have eg := er_get he c7
  have hlV : (W ++ Wb).length < 1690 := by omega
  have h122 : ¬ (isS X p g 41 ∧ (brk W = some 20 ∨ brk W = some 23 ∨ brk W = some 24)) → sX12_qGoesOn_p122 Q u1 := by
    intro hnc
    rw [if_neg hnc] at hR
    unfold sX12_qGoesOn_p122
    have h140 : ∀ u2, (isS X p g 42 ∨ isS X p g 47) → Kp SXr u1 u2 → Ma u2 X (lnx X p) false → u2.1 198 2 = nI (lst X p + 1) → sX12_qGoesOn_p140 Q u2 := by
      intro u2 hs k2 m2 e2
      rw [if_pos hs] at hR
      have hsl : p < lnx X p := by
        rcases hs with h | h
        · exact (sgn_lt hp h).1
        · exact (sgn_lt hp h).1
      have hlt : lst X p < X.2 := by
        have := lnx_p hp
        rcases hs with h | h
        · by_cases hh : lst X p < X.2
          · exact hh
          · have := lk0_0.mpr hh
            have := (lkd_k h.1 (by omega)).1
            omega
        · by_cases hh : lst X p < X.2
          · exact hh
          · have := lk0_0.mpr hh
            have := (lkd_k h.1 (by omega)).1
            omega
      have hS2 := sy_lex hS1 k2 m2 (by omega)
      obtain ⟨d1, d2, d3, d4, d5, d6, d7⟩ := id hS2
      have hby := m2.1.2.2 _ hlt
      unfold sX12_qGoesOn_p140 sX12_qGoesOn_p161
      rw [e2, show nI (lst X p + 1) - 1 = nI (lst X p) from pk_sub (a := lst X p + 1) (b := 1) (by omega), nI_clamp (by omega), hby.1]
      refine ⟨vp_in_nI (by omega) (by omega), ?_⟩
      have hfin : ∀ x : Nat, x = (if isS X p g 42 then 3 else 4) → sX12_qGoesOn_p162 (nI x) Q u2 := by
        intro x hx
        rw [← hx] at hR
        have hxb : x = 3 ∨ x = 4 := by
          rw [hx]
          by_cases h : isS X p g 42
          · first | refine i_pos h ?_ | rw [if_pos h]
            try (with_reducible rfl)
            omega
          · first | refine i_neg h ?_ | rw [if_neg h]
            try (with_reducible rfl)
            omega
        have hdw := dw_app (q := is34) (Wb := Wb) (fun y hy => decide_eq_false (by have := he.2.2.2.2 y hy; omega)) W
        refine r_dr34 (x := x) d2 d3 (by omega) (by omega) (fun u3 k3 w3 c3 => ?_)
        rw [hdw.1] at w3
        rw [hdw.2, List.append_assoc] at c3
        have hlen : (W.dropWhile is34).length + (W.takeWhile is34).length = W.length := by
          have e : (W.takeWhile is34 ++ W.dropWhile is34).length = W.length := congrArg List.length List.takeWhile_append_dropWhile
          rw [List.length_append] at e
          omega
        refine hQ1 u3 j _ _ _ _ o (by omega) ⟨ma_K d1 k3 (fun a k h => by unfold SP0; omega), w3, c3, by rw [k3.1 198 112 (by unfold SP0; omega)]; exact d4, ⟨?_, d5.2⟩, ?_, kp_t d7 (kp_m k3 (fun a k h => by unfold SYq at h; unfold SP0; omega))⟩ hR
        · rw [nop_l (by omega), nop_dw (fun y hy => by have := of_decide_eq_true hy; omega)]
          exact d5.1
        · simp only [List.cons_append, List.length_cons, List.length_append] at c6 ⊢
          omega
      by_cases h42 : isS X p g 42
      · exact i_pos (by rw [h42.2]; rfl) (hfin 3 (if_pos h42).symm)
      · have hne : X.1 (lst X p) ≠ 42 := by
          intro e
          rcases hs with h | h
          · exact h42 h
          · have := h.2
            omega
        exact i_neg (x_ne (k := 42) (by omega) (by omega) hne) (hfin 4 (if_neg h42).symm)
    have h225 : ∀ u2, ¬ (isS X p g 42 ∨ isS X p g 47) → (isS X p g 43 ∨ isS X p g 45) → Kp SXr u1 u2 → Ma u2 X (lnx X p) false → u2.1 198 2 = nI (lst X p + 1) → sX12_qGoesOn_p225 Q u2 := by
      intro u2 hn4 hs k2 m2 e2
      rw [if_neg hn4, if_pos hs] at hR
      have hsl : p < lnx X p := by
        rcases hs with h | h
        · exact (sgn_lt hp h).1
        · exact (sgn_lt hp h).1
      have hlt : lst X p < X.2 := by
        rcases hs with h | h
        · by_cases hh : lst X p < X.2
          · exact hh
          · have := lk0_0.mpr hh
            have := (lkd_k h.1 (by omega)).1
            omega
        · by_cases hh : lst X p < X.2
          · exact hh
          · have := lk0_0.mpr hh
            have := (lkd_k h.1 (by omega)).1
            omega
      have hS2 := sy_lex hS1 k2 m2 (by omega)
      obtain ⟨d1, d2, d3, d4, d5, d6, d7⟩ := id hS2
      have hby := m2.1.2.2 _ hlt
      unfold sX12_qGoesOn_p225 sX12_qGoesOn_p246
      rw [e2, show nI (lst X p + 1) - 1 = nI (lst X p) from pk_sub (a := lst X p + 1) (b := 1) (by omega), nI_clamp (by omega), hby.1]
      refine ⟨vp_in_nI (by omega) (by omega), ?_⟩
      have hfin : ∀ x : Nat, x = (if isS X p g 43 then 1 else 2) → sX12_qGoesOn_p247 (nI x) Q u2 := by
        intro x hx
        rw [← hx] at hR
        have hxb : x = 1 ∨ x = 2 := by
          rw [hx]
          by_cases h : isS X p g 43
          · first | refine i_pos h ?_ | rw [if_pos h]
            try (with_reducible rfl)
            omega
          · first | refine i_neg h ?_ | rw [if_neg h]
            try (with_reducible rfl)
            omega
        have hdw := dw_app (q := is14) (Wb := Wb) (fun y hy => decide_eq_false (by have := he.2.2.2.2 y hy; omega)) W
        refine r_dr14 (x := x) d2 d3 (by omega) (by omega) (fun u3 k3 w3 c3 => ?_)
        rw [hdw.1] at w3
        rw [hdw.2, List.append_assoc] at c3
        have hlen : (W.dropWhile is14).length + (W.takeWhile is14).length = W.length := by
          have e : (W.takeWhile is14 ++ W.dropWhile is14).length = W.length := congrArg List.length List.takeWhile_append_dropWhile
          rw [List.length_append] at e
          omega
        refine hQ1 u3 j _ _ _ _ o (by omega) ⟨ma_K d1 k3 (fun a k h => by unfold SP0; omega), w3, c3, by rw [k3.1 198 112 (by unfold SP0; omega)]; exact d4, ⟨?_, d5.2⟩, ?_, kp_t d7 (kp_m k3 (fun a k h => by unfold SYq at h; unfold SP0; omega))⟩ hR
        · rw [nop_l (by omega), nop_dw (fun y hy => by have := of_decide_eq_true hy; omega)]
          exact d5.1
        · simp only [List.cons_append, List.length_cons, List.length_append] at c6 ⊢
          omega
      by_cases h42 : isS X p g 43
      · exact i_pos (by rw [h42.2]; rfl) (hfin 1 (if_pos h42).symm)
      · have hne : X.1 (lst X p) ≠ 43 := by
          intro e
          rcases hs with h | h
          · exact h42 h
          · have := h.2
            omega
        exact i_neg (x_ne (k := 43) (by omega) (by omega) hne) (hfin 2 (if_neg h42).symm)
    refine r_takesSign (c := 42) ⟨by omega, by first | decide | (unfold vp_in; decide)⟩ b1.1 (fun u2 k2 hs m2 e2 => i_neg (by first | decide | (unfold vp_in; decide)) (h140 u2 (Or.inl hs) k2 m2 e2)) (fun u2 k2 b2 n42 => i_pos rfl ?_)
    refine r_takesSign (c := 47) ⟨by omega, by first | decide | (unfold vp_in; decide)⟩ b2.1 (fun u3 k3 hs m3 e3 => i_neg (by first | decide | (unfold vp_in; decide)) (h140 u3 (Or.inr hs) (kp_t k2 k3) m3 e3)) (fun u3 k3 b3 n47 => i_pos rfl ?_)
    have nmul : ¬ (isS X p g 42 ∨ isS X p g 47) := fun h => by
      rcases h with h | h
      · exact n42 h
      · exact n47 h
    refine r_takesSign (c := 43) ⟨by omega, by first | decide | (unfold vp_in; decide)⟩ b3.1 (fun u4 k4 hs m4 e4 => i_neg (by first | decide | (unfold vp_in; decide)) (h225 u4 nmul (Or.inl hs) (kp_t k2 (kp_t k3 k4)) m4 e4)) (fun u4 k4 b4 n43 => i_pos rfl ?_)
    refine r_takesSign (c := 45) ⟨by omega, by first | decide | (unfold vp_in; decide)⟩ b4.1 (fun u5 k5 hs m5 e5 => i_neg (by first | decide | (unfold vp_in; decide)) (h225 u5 nmul (Or.inr hs) (kp_t k2 (kp_t k3 (kp_t k4 k5))) m5 e5)) (fun u5 k5 b5 n45 => i_pos rfl ?_)
    have nadd : ¬ (isS X p g 43 ∨ isS X p g 45) := fun h => by
      rcases h with h | h
      · exact n43 h
      · exact n45 h
    rw [if_neg nmul, if_neg nadd] at hR
    have k15 : Kp SXr u1 u5 := kp_t k2 (kp_t k3 (kp_t k4 k5))
    have hS5 := sy_lex hS1 k15 b5.1 (Nat.le_refl _)
    obtain ⟨d1, d2, d3, d4, d5, d6, d7⟩ := id hS5
    have eg5 := er_get he d7
    have h326 : ∀ b, brk W = some b → (b = 21 ∨ b = 22) → sX12_qGoesOn_p326 Q u5 := by
      intro b hb hb2
      rw [hb] at hR
      simp only at hR
      rw [if_pos hb2] at hR
      obtain ⟨q1, q2, q3⟩ := brk_split hb
      unfold sX12_qGoesOn_p326
      refine r_asksSign (c := 44) ⟨by omega, by first | decide | (unfold vp_in; decide)⟩ b5.1 (fun u6 k6 hs m6 => ?_) (fun u6 k6 hs f6 => ?_)
      · rw [if_pos hs] at hR
        have hsl := sgn_lt hp hs
        have hS6 := sy_lex hS5 k6 m6 (by omega)
        obtain ⟨f1, f2, f3, f4, f5, f6, f7⟩ := id hS6
        rw [m6.2.2.2.2.2.1]
        refine i_pos rfl (r_toBr (p := p) he (by omega) f2 f3 c6 f7 (fun u7 k7 w7 c7 => ?_))
        rw [q3] at w7
        have hV : (b :: bel W ++ Wb).length = (bel W ++ Wb).length + 1 := rfl
        have ht := wt_top (V := bel W ++ Wb) w7
        have hWl : W.length = (abv W).length + (bel W).length + 1 := by
          have := congrArg List.length q1
          simp only [List.length_append, List.length_cons] at this
          omega
        have e1 : u7.1 198 111 - 1 = nI (bel W ++ Wb).length := by
          rw [w7.1]
          exact pk_sub (a := (bel W ++ Wb).length + 1) (b := 1) (by omega)
        have hlb : (bel W ++ Wb).length < 1690 := by
          simp only [List.length_append] at hlV ⊢
          omega
        rw [e1, nI_clamp (by omega), ht.1, show nI b + 2 = nI (b + 2) from nI_add b 2]
        refine ⟨vp_in_nI (by omega) (by omega), bnd_i ?_⟩
        have kz : Kp (fun a j => ¬ (a = 283)) u7 (tI u7 283 (bel W ++ Wb).length (nI (b + 2))) := kp_I (kp_r u7) (by omega)
        have wz : Wt' (tI u7 283 (bel W ++ Wb).length (nI (b + 2))) ((b + 2) :: bel W ++ Wb) := by
          refine ⟨by rw [kz.1 198 111 (by omega)]; exact w7.1, fun i hi => ?_, fun y hy => ?_⟩
          · have hi : i < (bel W ++ Wb).length + 1 := hi
            have hw := w7.2.1 i hi
            show (tI u7 283 (bel W ++ Wb).length (nI (b + 2))).1 283 ((bel W ++ Wb).length + 1 - 1 - i) = _
            by_cases e : i = 0
            · rw [e, show (bel W ++ Wb).length + 1 - 1 - 0 = (bel W ++ Wb).length by omega, t_s]
              rfl
            · obtain ⟨i', rfl⟩ : ∃ i', i = i' + 1 := ⟨i - 1, by omega⟩
              rw [t_n _ _ (by omega)]
              exact hw
          · rcases List.mem_cons.mp hy with rfl | hy
            · omega
            · exact w7.2.2 y (List.mem_cons_of_mem _ hy)
        refine hQ1 _ j _ _ _ _ o (by omega) ⟨ma_K (ma_K f1 k7 (fun a k h => by omega)) kz (fun a k h => by omega), wz, cd_K c7 kz (by omega) (fun k => by omega), ?_, ⟨?_, f5.2⟩, ?_, kp_t f7 (kp_t (kp_m k7 (fun a k h => by unfold SYq at h; omega)) (kp_m kz (fun a k h => by unfold SYq at h; omega)))⟩ hR.2
        · rw [kz.1 198 112 (by omega), k7.1 198 112 (by omega)]
          exact f4
        · have hno := f5.1
          rw [q1, nop_app, nop_0 hR.1, nop_b q2.1] at hno
          rw [nop_b (by omega)]
          omega
        · simp only [List.cons_append, List.length_cons, List.length_append] at c6 ⊢
          omega
      · rw [if_neg hs] at hR
        refine i_neg (mf_bad f6) (hQ0 u6 _ hR (sy_fail hS5 k6 f6))
    refine r_qBracket d2 (by omega) eg5.1 ?_
    by_cases h21 : brk W = some 21
    · rw [h21]
      exact i_pos rfl (h326 21 h21 (Or.inl rfl))
    refine i_neg ?_ (r_qBracket d2 (by omega) eg5.1 ?_)
    · cases hb : brk W with
      | none => decide
      | some b =>
        have hbr := (brk_split hb).2.1
        show ¬ nI b = nI 21
        rw [nI_e (by omega) (by omega)]
        intro e
        rw [e] at hb
        exact h21 hb
    by_cases h22 : brk W = some 22
    · rw [h22]
      exact i_pos rfl (h326 22 h22 (Or.inr rfl))
    refine i_neg ?_ (r_qBracket d2 (by omega) eg5.1 ?_)
    · cases hb : brk W with
      | none => decide
      | some b =>
        have hbr := (brk_split hb).2.1
        show ¬ nI b = nI 22
        rw [nI_e (by omega) (by omega)]
        intro e
        rw [e] at hb
        exact h22 hb
    cases hb : brk W with
    | none =>
      rw [hb] at hR
      exact i_pos rfl (hQd u5 p g W C o hS5 hR.1 hR.2)
    | some b =>
      have hbr := (brk_split hb).2.1
      rw [hb] at hR
      simp only at hR
      rw [if_neg (fun h => by
        rcases h with h | h
        · rw [h] at hb
          exact h21 hb
        · rw [h] at hb
          exact h22 hb)] at hR
      rw [show oI (some b) = nI b from rfl, d1.2.2.2.2.2.1]
      refine i_neg (by rw [x_ne1 (by omega)]; exact id) (i_pos rfl (r_failB b5 (fun u6 k6 f6 => hQ0 u6 _ hR (sy_fail hS5 k6 f6))))
  have h43 : ∀ b, brk W = some b → (b = 20 ∨ b = 23 ∨ b = 24) → isS X p g 41 → sX12_qGoesOn_p43 Q (sX12_qGoesOn_p0n Q n) u1 := by
    intro b hb hb2 hs
    have hc : isS X p g 41 ∧ (brk W = some 20 ∨ brk W = some 23 ∨ brk W = some 24) := ⟨hs, by rw [hb]; rcases hb2 with rfl | rfl | rfl <;> simp⟩
    rw [if_pos hc, hb] at hR
    obtain ⟨q1, q2, q3⟩ := brk_split hb
    have hsl := sgn_lt hp hs
    unfold sX12_qGoesOn_p43
    refine bnd_i ?_
    have m2 := ma_sgn b1 hs.1
    have k2 : Kp SXr u1 (tI u1 198 2 (u1.1 198 2 + 1)) := kp_I (kp_r u1) (by unfold SXr; omega)
    generalize tI u1 198 2 (u1.1 198 2 + 1) = u2 at m2 k2
    have hS2 := sy_lex hS1 k2 m2 (by omega)
    obtain ⟨f1, f2, f3, f4, f5, f6, f7⟩ := id hS2
    refine r_toBr (p := p) he (by omega) f2 f3 c6 f7 (fun u3 k3 w3 c3 => bnd_i (bnd_i ?_))
    rw [q3] at w3
    have ht := wt_top (V := bel W ++ Wb) w3
    have hWl : W.length = (abv W).length + (bel W).length + 1 := by
      have := congrArg List.length q1
      simp only [List.length_append, List.length_cons] at this
      omega
    have hlb : (bel W ++ Wb).length < 1690 := by
      simp only [List.length_append] at hlV ⊢
      omega
    have e1 : u3.1 198 111 - 1 = nI (bel W ++ Wb).length := by
      rw [w3.1]
      exact pk_sub (a := (bel W ++ Wb).length + 1) (b := 1) (by omega)
    have hno := f5.1
    rw [q1, nop_app, nop_0 hR.1, nop_b q2.1] at hno
    have e2 : u3.1 198 112 = nI o := by rw [k3.1 198 112 (by omega)]; exact f4
    rw [e1, t_n (k' := 112) _ _ (by omega), e2, show nI o - 1 = nI (o - 1) from pk_sub (b := 1) (by omega)]
    have kz : Kp (fun a j => ¬ (a = 198 ∧ (j = 111 ∨ j = 112))) u3 (tI (tI u3 198 111 (nI (bel W ++ Wb).length)) 198 112 (nI (o - 1))) := kp_I (kp_I (kp_r u3) (by omega)) (by omega)
    have z111 : (tI (tI u3 198 111 (nI (bel W ++ Wb).length)) 198 112 (nI (o - 1))).1 198 111 = nI (bel W ++ Wb).length := by rw [t_n _ _ (by omega), t_s]
    have z112 : (tI (tI u3 198 111 (nI (bel W ++ Wb).length)) 198 112 (nI (o - 1))).1 198 112 = nI (o - 1) := t_s _ _ _ _
    generalize (tI (tI u3 198 111 (nI (bel W ++ Wb).length)) 198 112 (nI (o - 1))) = z at kz z111 z112
    have wz := wt_pop w3 kz (fun k => by omega) z111
    have hSz : Sy X tk Wb Cb o0 u0 z (lnx X p) false (bel W) (C ++ abv W) (o - 1) := by
      refine ⟨ma_K (ma_K f1 k3 (fun a k h => by omega)) kz (fun a k h => by omega), wz, cd_K c3 kz (by omega) (fun k => by omega), z112, ⟨by omega, by omega⟩, ?_, kp_t f7 (kp_t (kp_m k3 (fun a k h => by unfold SYq at h; omega)) (kp_m kz (fun a k h => by unfold SYq at h; omega)))⟩
      simp only [List.length_append] at c6 ⊢
      omega
    have hlz : (bel W ++ Wb).length + (Cb ++ (C ++ abv W)).length < lnx X p := by
      simp only [List.length_append] at c6 ⊢
      omega
    rw [z111, nI_clamp (by omega), kz.1 283 _ (by omega), ht.1]
    refine ⟨vp_in_nI (by omega) (by omega), ?_⟩
    unfold sX12_qGoesOn_p112 sX12_qGoesOn_p115
    have hK0 : ∀ y k4 W4 C4 o4, k4 < j → Sy X tk Wb Cb o0 u0 y (lnx X p) false W4 C4 o4 → Rn X tk k4 2 (lnx X p) false W4 C4 o4 r → sX12_qGoesOn_p0n Q n y := fun y k4 W4 C4 o4 hk4 hS4 hR4 => hnext k4 y (by omega) ⟨lnx X p, false, W4, C4, o4, by omega, hS4, hR4⟩
    rcases hb2 with rfl | rfl | rfl
    · refine i_pos rfl ?_
      have hR2 := hR.2
      rw [if_pos rfl, List.append_nil] at hR2
      exact r_qEnds he j _ _ _ _ _ z hSz hR2 hK0
    · refine i_neg (by first | decide | (unfold vp_in; decide)) (i_pos rfl ?_)
      have hR2 := hR.2
      rw [if_neg (by simp), if_pos rfl] at hR2
      exact sy_code (t := 5) hSz hlz (fun y hSy => r_qEnds he j _ _ _ _ _ y hSy hR2 hK0)
    · refine i_neg (by first | decide | (unfold vp_in; decide)) (i_neg (by first | decide | (unfold vp_in; decide)) ?_)
      have hR2 := hR.2
      rw [if_neg (by simp), if_neg (by simp)] at hR2
      exact sy_code (t := 6) hSz hlz (fun y hSy => r_qEnds he j _ _ _ _ _ y hSy hR2 hK0)
  by_cases hs : isS X p g 41
  · refine i_pos ((lch_s (c := 41) b1 ⟨by omega, by first | decide | (unfold vp_in; decide)⟩).mpr hs) ?_
    have hne : ∀ x : Nat, x < 100 → brk W ≠ some x → ¬ oI (brk W) = nI x := by
      intro x hx hb
      cases hbb : brk W with
      | none =>
        show ¬ (-1 : Int32) = nI x
        rw [x_ne1' (by omega)]
        exact id
      | some b =>
        have hbr := (brk_split hbb).2.1
        show ¬ nI b = nI x
        rw [nI_e (by omega) (by omega)]
        intro e
        rw [e] at hbb
        exact hb hbb
    refine r_qBracket c2 (by omega) eg.1 ?_
    by_cases h20 : brk W = some 20
    · rw [h20]
      exact i_pos rfl (h43 20 h20 (Or.inl rfl) hs)
    refine i_neg (hne 20 (by omega) h20) (r_qBracket c2 (by omega) eg.1 ?_)
    by_cases h23 : brk W = some 23
    · rw [h23]
      exact i_pos rfl (h43 23 h23 (Or.inr (Or.inl rfl)) hs)
    refine i_neg (hne 23 (by omega) h23) (r_qBracket c2 (by omega) eg.1 ?_)
    by_cases h24 : brk W = some 24
    · rw [h24]
      exact i_pos rfl (h43 24 h24 (Or.inr (Or.inr rfl)) hs)
    refine i_neg (hne 24 (by omega) h24) (h122 (fun h => ?_))
    rcases h.2 with h | h | h
    · exact h20 h
    · exact h23 h
    · exact h24 h
  · exact i_neg (fun h => hs ((lch_s (c := 41) b1 ⟨by omega, by first | decide | (unfold vp_in; decide)⟩).mp h)) (h122 (fun h => hs h.1))
/-- the piles when a SUM is read -/
theorem r_sums {X : Tx} {tk p o : Nat} {g : Bool} {V L : List Nat} {r : Rs} {Q : St → Prop} {u : St} (htk : tk ≤ 2) (hG : gWords u) (h57 : u.1 198 57 = nI tk) (hm : Ma u X p g) (hV : Wt' u V) (hL : Cd u L) (ho : u.1 198 112 = nI o ∧ o ≤ 6) (hl : V.length + L.length ≤ p) (hVb : ∀ x, V.head? = some x → 10 ≤ x) (hR : Rx X tk 0 p g [] [] o r)
    (h1 : ∀ u' p' g' c, r = .ok (p', g', c) → Kp SYq u u' → Ma u' X p' g' → Wt' u' V → Cd u' (L ++ c) → u'.1 198 112 = nI o → V.length + (L ++ c).length ≤ p' → Q u') (h0 : ∀ u' e, r = .error e → SyF X u u' e → Q u') : s_X12_qSums Q u := by
  obtain ⟨k, hR⟩ := hR
  unfold s_X12_qSums
  refine bnd_i ?_
  have kA : Kp (fun a j => ¬ (a = 198 ∧ j = 113)) u (tI u 198 113 (u.1 198 111)) := kp_I (kp_r u) (by omega)
  have zb : (tI u 198 113 (u.1 198 111)).1 198 113 = nI V.length := by rw [t_s]; exact hV.1
  have back : ∀ s, Kp SYq (tI u 198 113 (u.1 198 111)) s → Kp SYq u (tI s 198 113 (u.1 198 113)) := by
    intro s hs
    refine ⟨fun a j hh => ?_, fun a ha => hs.2.1 a ha, hs.2.2⟩
    by_cases e : a = 198 ∧ j = 113
    · rw [e.1, e.2, t_s]
    · rw [t_n _ _ (by omega), hs.1 a j hh, kA.1 a j (by omega)]
  generalize hz : tI u 198 113 (u.1 198 111) = z at kA zb back
  have he : EnvR tk V z := ⟨htk, zb, by rw [kA.1 198 57 (by omega)]; exact h57, k_words hG kA (fun a k h => by unfold DWords at h; omega), hVb⟩
  have hS : Sy X tk V L o z z p g [] [] o := ⟨ma_K hm kA (fun a k h => by omega), wt_K hV kA (by omega) (fun k => by omega), by rw [List.append_nil]; exact cd_K hL kA (by omega) (fun k => by omega), by rw [kA.1 198 112 (by omega)]; exact ho.1, ⟨by simp [nop], ho.2⟩, by rw [List.append_nil]; exact hl, kp_r z⟩
  unfold sX12_qSums_p15
  refine lpx (σ := Int32 × St) (fun n s => sX12_qSums_p15n (u.1 198 113) Q n s.1 s.2) (fun j s => (s.1 = 1 ∧ ∃ k p g W C o', j = k + 1 ∧ Sy X tk V L o z s.2 p g W C o' ∧ Rn X tk k 0 p g W C o' r) ∨ (s.1 = 0 ∧ ∃ p g W C o', j = 0 ∧ Sy X tk V L o z s.2 p g W C o' ∧ r = .ok (p, g, C ++ W) ∧ ∀ x ∈ W, x < 20) ∨ (s.1 = 0 ∧ ∃ e, j = 0 ∧ r = .error e ∧ SyF X z s.2 e)) ?_ (k + 1) (1, z) (Or.inl ⟨rfl, k, p, g, [], [], o, rfl, hS, hR⟩)
  rintro n j ⟨v2, s⟩ hI hnext
  show sX12_qSums_p15b (u.1 198 113) Q (sX12_qSums_p15n (u.1 198 113) Q n) v2 s
  unfold sX12_qSums_p15b sX12_qSums_p48 sX12_qSums_p49
  rcases hI with ⟨e1, k, p, g, W, C, o', hj, hS, hR⟩ | ⟨e1, p, g, W, C, o', hj, hS, hr, hW⟩ | ⟨e1, e, hj, hr, hF⟩
  · simp only at e1 hS
    subst e1
    refine i_neg (by first | decide | (unfold vp_in; decide)) ?_
    rw [hS.1.2.2.2.2.2.1]
    refine i_pos rfl (r_partTold he k p g W C o' s hS hR (fun u2 k2 p2 g2 W2 C2 o2 hk2 hS2 hR2 => ?_) (fun u2 e hr hF => i_neg (mf_bad hF.1) (hnext 0 (0, u2) (by omega) (Or.inr (Or.inr ⟨rfl, e, rfl, hr, hF⟩)))))
    rw [hS2.1.2.2.2.2.2.1]
    refine i_pos rfl (r_goesOn he k2 p2 g2 W2 C2 o2 u2 hS2 hR2 (fun u3 k3 p3 g3 W3 C3 o3 hk3 hS3 hR3 => i_neg (by first | decide | (unfold vp_in; decide)) (hnext (k3 + 1) (1, u3) (by omega) (Or.inl ⟨rfl, k3, p3, g3, W3, C3, o3, rfl, hS3, hR3⟩))) (fun u3 p3 g3 W3 C3 o3 hS3 hr hW => i_pos rfl (hnext 0 (0, u3) (by omega) (Or.inr (Or.inl ⟨rfl, p3, g3, W3, C3, o3, rfl, hS3, hr, hW⟩)))) (fun u3 e hr hF => i_pos rfl (hnext 0 (0, u3) (by omega) (Or.inr (Or.inr ⟨rfl, e, rfl, hr, hF⟩)))))
  · simp only at e1 hS
    subst e1
    refine i_pos rfl ?_
    unfold sX12_qSums_p53
    obtain ⟨a1, a2, a3, a4, a5, a6, a7⟩ := hS
    have hoo : o' = o := by
      have := a5.1
      rw [nop_0 hW] at this
      omega
    have hp := a1.2.1
    have h16 := a1.1.1
    refine lpx (fun n s => sX12_qSums_p53n (u.1 198 113) Q n s) (fun j y => ∃ W' C', j = W'.length ∧ Kp (fun a k => ¬ (a = 198 ∧ (k = 109 ∨ k = 111)) ∧ a ≠ 282) s y ∧ Wt' y (W' ++ V) ∧ Cd y (L ++ C') ∧ (W' ++ V).length + (L ++ C').length ≤ p ∧ C' ++ W' = C ++ W) ?_ W.length s ⟨W, C, rfl, kp_r s, a2, a3, a6, rfl⟩
    rintro n2 j2 y ⟨W', C', hj2, hK, w1, c1, l1, e2⟩ hnext2
    show sX12_qSums_p53b (u.1 198 113) Q (sX12_qSums_p53n (u.1 198 113) Q n2) y
    unfold sX12_qSums_p53b sX12_qSums_p78
    have hKz : Kp SYq z y := kp_t a7 (kp_m hK (fun a k h => by unfold SYq at h; omega))
    have e113 : y.1 198 113 = nI V.length := (er_get he hKz).1
    have e5 : y.1 198 5 = 0 := by rw [hK.1 198 5 (by omega)]; exact a1.2.2.2.2.2.1
    rw [e5, w1.1, e113]
    refine i_pos rfl ?_
    cases W' with
    | nil =>
      refine i_pos (nI_le (by simp) (by simp only [List.nil_append] at l1; omega)) (bnd_i ?_)
      have kx : Kp (fun a j => ¬ (a = 198 ∧ j = 113)) y (tI y 198 113 (u.1 198 113)) := kp_I (kp_r y) (by omega)
      rw [List.append_nil] at e2
      refine h1 _ p g (C ++ W) hr (back y hKz) (ma_K (ma_K a1 hK (fun a k h => by omega)) kx (fun a k h => by omega)) (wt_K w1 kx (by omega) (fun k => by omega)) ?_ ?_ ?_
      · rw [← e2]
        exact cd_K c1 kx (by omega) (fun k => by omega)
      · rw [kx.1 198 112 (by omega), hK.1 198 112 (by omega), a4, hoo]
      · rw [← e2]
        exact l1
    | cons x W' =>
      simp only [List.cons_append, List.length_cons] at l1 hj2
      refine i_neg (nI_ge (by simp only [List.cons_append, List.length_cons, List.length_append]; omega) (by simp only [List.cons_append, List.length_cons]; omega)) ?_
      refine r_qDrops (V := W' ++ V) w1 c1 (by omega) (fun y2 k2 w2 c2 => hnext2 W'.length y2 (by omega) ⟨W', C' ++ [x], rfl, kp_t hK k2, w2, by rw [← List.append_assoc]; exact c2, ?_, ?_⟩)
      · simp only [List.length_append, List.length_cons, List.length_nil] at l1 ⊢
        omega
      · rw [← e2]
        simp
  · simp only at e1 hF
    subst e1
    refine i_pos rfl ?_
    unfold sX12_qSums_p53
    refine ⟨1, ?_⟩
    show sX12_qSums_p53b (u.1 198 113) Q _ s
    unfold sX12_qSums_p53b sX12_qSums_p78
    refine i_neg (mf_bad hF.1) (bnd_i ?_)
    have kx : Kp (fun a j => ¬ (a = 198 ∧ j = 113)) s (tI s 198 113 (u.1 198 113)) := kp_I (kp_r s) (by omega)
    obtain ⟨m, hm2, em⟩ := hF.2.1
    exact h0 _ e hr ⟨mf_K hF.1 kx (fun a k h => by omega), ⟨m, hm2, by rw [kx.1 198 109 (by omega)]; exact em⟩, back s hF.2.2⟩
