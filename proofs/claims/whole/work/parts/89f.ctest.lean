/-! ===== the class reads TESTS and QUESTIONS ===== -/
theorem ff_3 {X : Tx} {gc D : Nat} {e : Nat × Nat} {u0 u : St} {v : Int32} {Q : St → Prop} (hD : 4 ≤ D) (h : RdF X gc u0 u e) (hQ : ∀ u', RdF X gc u0 u' e → Q u') : sG D 3 v Q u := by
  obtain ⟨D, rfl⟩ : ∃ D', D = D' + 1 := ⟨D - 1, by omega⟩
  rw [sG_3]
  unfold s_X8_readComparison sX8_readComparison_p60
  refine ff_4 (by omega) h (fun u' h' => ?_)
  exact q_isSignF h'.1 (i_pos rfl (q_isSignF h'.1 (i_pos rfl (q_isSignF h'.1 (i_pos rfl (i_pos rfl (q_failF h'.1 (hQ u' h'))))))))
theorem ff_2 {X : Tx} {gc D : Nat} {e : Nat × Nat} {u0 u : St} {v : Int32} {Q : St → Prop} (hD : 5 ≤ D) (h : RdF X gc u0 u e) (hQ : ∀ u', RdF X gc u0 u' e → Q u') : sG D 2 v Q u := by
  obtain ⟨D, rfl⟩ : ∃ D', D = D' + 1 := ⟨D - 1, by omega⟩
  rw [sG_2]
  unfold s_X8_readFact
  exact q_wordInF h.1 (i_neg (by first | decide | (unfold vp_in; decide)) (q_isSignF h.1 (i_pos rfl (q_wordInF h.1 (i_neg (by first | decide | (unfold vp_in; decide)) (ff_3 (by omega) h hQ))))))
theorem ff_1 {X : Tx} {gc D : Nat} {e : Nat × Nat} {u0 u : St} {v : Int32} {Q : St → Prop} (hD : 6 ≤ D) (h : RdF X gc u0 u e) (hQ : ∀ u', RdF X gc u0 u' e → Q u') : sG D 1 v Q u := by
  obtain ⟨D, rfl⟩ : ∃ D', D = D' + 1 := ⟨D - 1, by omega⟩
  rw [sG_1]
  unfold s_X8_readBoth sX8_readBoth_p7
  refine ff_2 (by omega) h (fun u' h' => ⟨1, ?_⟩)
  show sX8_readBoth_p7b (sG D) v Q _ 0 u'
  unfold sX8_readBoth_p7b
  exact i_neg (by first | decide | (unfold vp_in; decide)) (q_wordInF h'.1 (i_neg (by first | decide | (unfold vp_in; decide)) (hQ u' h')))
theorem ff_0 {X : Tx} {gc D : Nat} {e : Nat × Nat} {u0 u : St} {v : Int32} {Q : St → Prop} (hD : 7 ≤ D) (h : RdF X gc u0 u e) (hQ : ∀ u', RdF X gc u0 u' e → Q u') : sG D 0 v Q u := by
  obtain ⟨D, rfl⟩ : ∃ D', D = D' + 1 := ⟨D - 1, by omega⟩
  rw [sG_0]
  unfold s_X8_readTest sX8_readTest_p7
  refine ff_1 (by omega) h (fun u' h' => ⟨1, ?_⟩)
  show sX8_readTest_p7b (sG D) v Q _ 0 u'
  unfold sX8_readTest_p7b
  exact i_neg (by first | decide | (unfold vp_in; decide)) (q_wordInF h'.1 (i_neg (by first | decide | (unfold vp_in; decide)) (hQ u' h')))
theorem c_cmp {X : Tx} {gc D d : Nat} {u0 : St} (he : EnvC gc 2 u0) (hP : SumP X gc 2 u0 D d) : RdP X gc u0 3 (D + 1) d (nF X) (OkF X d) (ErF X d) := by
  intro u p g C Q hf hS h1 h0
  rw [sG_3]
  unfold s_X8_readComparison
  refine hP u p g C _ trivial hS (fun u1 p1 g1 c1 hS1 ho1 => ?_) (fun u1 e hF her => ?_)
  · have h60 : ∀ c : Nat, isS X p1 g1 c → (c = 60 ∨ c = 62 ∨ c = 61) → sX8_readComparison_p60 (sG D) (nI d) (nI (kap (cmpT X p1))) Q u1 := by
      intro c hs hc
      have hcs : cmpS X p1 g1 := by
        rcases hc with rfl | rfl | rfl
        · exact Or.inl hs
        · exact Or.inr (Or.inl hs)
        · exact Or.inr (Or.inr hs)
      have hr := cmpT_r X p1
      have hkr : kap (cmpT X p1) = 10025 + cmpT X p1 := by
        unfold kap
        first | refine i_neg (by omega) ?_ | rw [if_neg (by omega)]
        first | refine i_neg (by omega) ?_ | rw [if_neg (by omega)]
        first | refine i_neg (by omega) ?_ | rw [if_neg (by omega)]
        first | refine i_neg (by omega) ?_ | rw [if_neg (by omega)]
        first | refine i_neg (by omega) ?_ | rw [if_neg (by omega)]
        first | refine i_neg (by omega) ?_ | rw [if_neg (by omega)]
        first | refine i_neg (by omega) ?_ | rw [if_neg (by omega)]
        try (with_reducible rfl)
      unfold sX8_readComparison_p60
      refine i_neg (by rw [hkr, x_ne1 (by omega)]; exact id) (rd_adv he hS1 (Or.inr (Or.inr hs.1)) (fun u2 hS2 => ?_))
      rw [hs.1] at hS2
      refine hP u2 (lnx X p1) false (C ++ c1) _ trivial hS2 (fun u3 p3 g3 c3 hS3 ho3 => ?_) (fun u3 e hF her => ?_)
      · have hcd := rd_code he hS3
        have l1 := cmp_lt hS1.1.2.1 hcs
        have hb := ho3.1.1.2.2.1
        have hle := hS1.2.2.1
        refine rd_add (t := cmpT X p1) he hS3 hcd.1 ?_ (fun u4 hS4 => h1 u4 p3 g3 (c1 ++ c3 ++ [cmpT X p1]) ?_ (f_cmp hf ho1.1 ho1.2 hcs ho3.1 ho3.2))
        · simp only [List.length_append] at hle ⊢
          omega
        · have e5 : C ++ (c1 ++ c3 ++ [cmpT X p1]) = C ++ c1 ++ c3 ++ [cmpT X p1] := by simp
          rw [e5]
          exact hS4
      · exact rf_add he hF (rf_code he hF) (fun u4 hF4 => h0 u4 e hF4 (f_cmp_2 hf ho1.1 ho1.2 hcs her))
    have hl1 := lst_p hS1.1.2.1
    have h16 := hS1.1.1.1
    refine q_isSign (c := 60) hS1.1 (by omega) (fun hs => i_neg (by first | decide | (unfold vp_in; decide)) ?_) (fun n1 => i_pos rfl ?_)
    · have := h60 60 hs (Or.inl rfl)
      rw [show cmpT X p1 = 7 by unfold cmpT; rw [if_pos hs.2]] at this
      exact this
    refine q_isSign (c := 62) hS1.1 (by omega) (fun hs => i_neg (by first | decide | (unfold vp_in; decide)) ?_) (fun n2 => i_pos rfl ?_)
    · have := h60 62 hs (Or.inr (Or.inl rfl))
      rw [show cmpT X p1 = 8 by unfold cmpT; rw [if_neg (by have := hs.2; omega), if_pos hs.2]] at this
      exact this
    refine q_isSign (c := 61) hS1.1 (by omega) (fun hs => i_neg (by first | decide | (unfold vp_in; decide)) ?_) (fun n3 => i_pos rfl ?_)
    · have := h60 61 hs (Or.inr (Or.inr rfl))
      rw [show cmpT X p1 = 9 by unfold cmpT; rw [if_neg (by have := hs.2; omega), if_neg (by have := hs.2; omega)]] at this
      exact this
    unfold sX8_readComparison_p60
    refine i_pos rfl ?_
    rw [hS1.1.2.2.2.1]
    exact rd_fail (f := 1) he hS1 (by omega) (by omega) (fun u' hF => h0 u' _ hF (f_cmp_n hf ho1.1 ho1.2 (fun h => by
      rcases h with h | h | h
      · exact n1 h
      · exact n2 h
      · exact n3 h)))
  · unfold sX8_readComparison_p60
    exact q_isSignF hF.1 (i_pos rfl (q_isSignF hF.1 (i_pos rfl (q_isSignF hF.1 (i_pos rfl (i_pos rfl (q_failF hF.1 (h0 u1 e hF (f_cmp_1 hf her)))))))))
theorem c_fact {X : Tx} {gc D d : Nat} {u0 : St} (he : EnvC gc 2 u0) (hd : d ≤ 6) (hC : RdP X gc u0 3 D d (nF X) (OkF X d) (ErF X d)) (hF2 : d < 6 → RdP X gc u0 2 D (d + 1) Any (OkF X (d + 1)) (ErF X (d + 1))) (hO : d < 6 → RdP X gc u0 0 D (d + 1) Any (fun p g p' g' c => OkO X (d + 1) p g p' g' c ∧ nO X p' g') (ErO X (d + 1))) : RdP X gc u0 2 (D + 1) d Any (OkF X d) (ErF X d) := by
  intro u p g C Q _ hS h1 h0
  rw [sG_2]
  unfold s_X8_readFact
  have hle := hS.2.2.1
  refine q_word1 (v := 15) (w := wNot) (by omega) rfl hS.1 (fun hw => i_pos rfl ?_) (fun n1 => i_neg (by first | decide | (unfold vp_in; decide)) ?_)
  · refine q_opens he hS hd (Or.inl hw.1) (fun hd6 u2 hS2 => i_neg (by first | decide | (unfold vp_in; decide)) ?_) (fun hd6 u2 hF => i_pos rfl (h0 u2 _ hF (by rw [hd6]; exact f_not_6 hw)))
    rw [hw.1] at hS2
    have hS2 : RdS X gc u0 u2 (lnx X p) true C := hS2
    have l1 := wrd_lt hS.1.2.1 (Or.inl hw.1)
    rw [nI_1]
    refine hF2 hd6 u2 _ true C _ trivial hS2 (fun u3 p3 g3 c3 hS3 ho3 => ?_) (fun u3 e hF her => ?_)
    · have hb := ho3.1.2.2.1
      refine rd_add (t := 12) he hS3 (rd_code he hS3).1 ?_ (fun u4 hS4 => h1 u4 p3 g3 (c3 ++ [12]) ?_ (f_not hS.1.2.1 hd6 hw ho3))
      · simp only [List.length_append]
        omega
      · have e5 : C ++ (c3 ++ [12]) = C ++ c3 ++ [12] := by simp
        rw [e5]
        exact hS4
    · exact rf_add he hF (rf_code he hF) (fun u4 hF4 => h0 u4 e hF4 (f_not_i hd6 hw her))
  refine q_isSign (c := 91) hS.1 (by omega) (fun hs => i_neg (by first | decide | (unfold vp_in; decide)) ?_) (fun n2 => i_pos rfl ?_)
  · refine q_opens he hS hd (Or.inr hs.1) (fun hd6 u2 hS2 => i_neg (by first | decide | (unfold vp_in; decide)) ?_) (fun hd6 u2 hF => i_pos rfl (h0 u2 _ hF (by rw [hd6]; exact f_sq_6 hs)))
    rw [hs.1] at hS2
    rw [nI_1]
    refine hO hd6 u2 _ false C _ trivial hS2 (fun u3 p3 g3 c3 hS3 ho3 => ?_) (fun u3 e hF her => ?_)
    · exact rd_tsign (c := 93) he hS3 (by omega) (fun u4 hs4 hS4 => h1 u4 _ _ _ hS4 (f_sq hS.1.2.1 hd6 hs ho3.1 hs4)) (fun u4 hs4 hF => h0 u4 _ hF (f_sq_c hd6 hs ho3.1 ho3.2 hs4))
    · exact q_takeSignF hF.1 (h0 u3 e hF (f_sq_i hd6 hs her))
  refine q_word1 (v := 16) (w := wAll) (by omega) rfl hS.1 (fun hw => i_pos rfl ?_) (fun n3 => i_neg (by first | decide | (unfold vp_in; decide)) ?_)
  · refine rd_adv he hS (Or.inl hw.1) (fun u2 hS2 => ?_)
    rw [hw.1] at hS2
    have hS2 : RdS X gc u0 u2 (lnx X p) true C := hS2
    have l1 := wrd_lt hS.1.2.1 (Or.inl hw.1)
    exact rd_add (t := 13) he hS2 (rd_code he hS2).1 (by omega) (fun u4 hS4 => h1 u4 _ _ [13] hS4 (f_all hS.1.2.1 hw))
  · exact hC u p g C _ ⟨n2, n1, n3⟩ hS h1 h0
theorem c_both {X : Tx} {gc D d : Nat} {u0 : St} (he : EnvC gc 2 u0) (hP : RdP X gc u0 2 D d Any (OkF X d) (ErF X d)) : RdP X gc u0 1 (D + 1) d Any (fun p g p' g' c => OkA X d p g p' g' c ∧ ¬ isW' X p' g' wAnd) (ErA X d) := by
  intro u p g C Q _ hS h1 h0
  rw [sG_1]
  unfold s_X8_readBoth
  have h16 := hS.1.1.1
  refine hP u p g C _ trivial hS (fun u1 p1 g1 c1 hS1 ho1 => ?_) (fun u1 e hF her => ?_)
  · unfold sX8_readBoth_p7
    have hlt1 := ho1.1.1
    refine lpx (σ := Int32 × St) (fun n s => sX8_readBoth_p7n (sG D) (nI d) Q n s.1 s.2) (fun k s => (∃ i p2 g2 c2, s.1 = nI i ∧ i < p2 ∧ k = X.2 + 1 - p2 ∧ RdS X gc u0 s.2 p2 g2 (C ++ c2) ∧ OkA X d p g p2 g2 c2) ∨ (∃ i e, i ≤ 1600 ∧ s.1 = nI i ∧ k = 0 ∧ RdF X gc u0 s.2 e ∧ ErA X d p g e)) ?_ (X.2 + 1 - p1) (0, u1) (Or.inl ⟨0, p1, g1, c1, rfl, by omega, rfl, hS1, a_first ho1⟩)
    rintro n k ⟨v2, s⟩ hI hnext
    show sX8_readBoth_p7b (sG D) (nI d) Q (sX8_readBoth_p7n (sG D) (nI d) Q n) v2 s
    unfold sX8_readBoth_p7b
    rcases hI with ⟨i, p2, g2, c2, e1, hi, hk, hS2, ho2⟩ | ⟨i, e, hi, e1, hk, hF, her⟩
    · simp only at e1 hS2
      subst e1
      have hp2 := hS2.1.2.1
      have hi' : ¬ nI 1600 ≤ nI i := nI_ge (by omega) (by omega)
      refine i_neg hi' ?_
      refine q_word1 (v := 17) (w := wAnd) (by omega) rfl hS2.1 (fun hw => i_pos rfl ?_) (fun n1 => i_neg (by first | decide | (unfold vp_in; decide)) (h1 s p2 g2 c2 hS2 ⟨ho2, n1⟩))
      have l2 := (wrd_lt hp2 (Or.inl hw.1)).1
      refine rd_adv he hS2 (Or.inl hw.1) (fun s3 hS3 => ?_)
      rw [hw.1] at hS3
      have hS3 : RdS X gc u0 s3 (lnx X p2) true (C ++ c2) := hS3
      refine hP s3 (lnx X p2) true (C ++ c2) _ trivial hS3 (fun s4 p4 g4 c4 hS4 ho4 => ?_) (fun s4 e hF her => ?_)
      · have hb4 := ho4.1
        have hle := hS2.2.2.1
        refine rd_add (t := 10) he hS4 (rd_code he hS4).1 ?_ (fun s5 hS5 => ?_)
        · have := hb4.2.2.1
          simp only [List.length_append] at hle ⊢
          omega
        · rw [nI_1]
          have := hb4.1
          refine hnext (X.2 + 1 - p4) (nI (i + 1), s5) (by have := hS5.1.2.1; omega) (Or.inl ⟨i + 1, p4, g4, c2 ++ c4 ++ [10], rfl, by omega, rfl, ?_, a_step ho2 hw ho4⟩)
          have e5 : C ++ (c2 ++ c4 ++ [10]) = C ++ c2 ++ c4 ++ [10] := by simp
          rw [e5]
          exact hS5
      · refine rf_add he hF (rf_code he hF) (fun s5 hF5 => ?_)
        rw [nI_1]
        exact hnext 0 (nI (i + 1), s5) (by omega) (Or.inr ⟨i + 1, e, by omega, rfl, rfl, hF5, a_step_e ho2 hw her⟩)
    · simp only at e1 hF
      subst e1
      by_cases hi16 : i = 1600
      · have hi' : nI 1600 ≤ nI i := nI_le (by omega) (by omega)
        exact i_pos hi' (h0 s e hF her)
      · have hi' : ¬ nI 1600 ≤ nI i := nI_ge (by omega) (by omega)
        exact i_neg hi' (q_wordInF hF.1 (i_neg (by first | decide | (unfold vp_in; decide)) (h0 s e hF her)))
  · unfold sX8_readBoth_p7
    refine ⟨1, ?_⟩
    show sX8_readBoth_p7b (sG D) (nI d) Q _ 0 u1
    unfold sX8_readBoth_p7b
    exact i_neg (by first | decide | (unfold vp_in; decide)) (q_wordInF hF.1 (i_neg (by first | decide | (unfold vp_in; decide)) (h0 u1 e hF (a_first_e her))))
theorem c_test {X : Tx} {gc D d : Nat} {u0 : St} (he : EnvC gc 2 u0) (hP : RdP X gc u0 1 D d Any (fun p g p' g' c => OkA X d p g p' g' c ∧ ¬ isW' X p' g' wAnd) (ErA X d)) : RdP X gc u0 0 (D + 1) d Any (fun p g p' g' c => OkO X d p g p' g' c ∧ nO X p' g') (ErO X d) := by
  intro u p g C Q _ hS h1 h0
  rw [sG_0]
  unfold s_X8_readTest
  have h16 := hS.1.1.1
  refine hP u p g C _ trivial hS (fun u1 p1 g1 c1 hS1 ho1 => ?_) (fun u1 e hF her => ?_)
  · unfold sX8_readTest_p7
    have hlt1 := ho1.1.1.1
    refine lpx (σ := Int32 × St) (fun n s => sX8_readTest_p7n (sG D) (nI d) Q n s.1 s.2) (fun k s => (∃ i p2 g2 c2, s.1 = nI i ∧ i < p2 ∧ k = X.2 + 1 - p2 ∧ RdS X gc u0 s.2 p2 g2 (C ++ c2) ∧ OkO X d p g p2 g2 c2 ∧ ¬ isW' X p2 g2 wAnd) ∨ (∃ i e, i ≤ 1600 ∧ s.1 = nI i ∧ k = 0 ∧ RdF X gc u0 s.2 e ∧ ErO X d p g e)) ?_ (X.2 + 1 - p1) (0, u1) (Or.inl ⟨0, p1, g1, c1, rfl, by omega, rfl, hS1, o_first ho1.1, ho1.2⟩)
    rintro n k ⟨v2, s⟩ hI hnext
    show sX8_readTest_p7b (sG D) (nI d) Q (sX8_readTest_p7n (sG D) (nI d) Q n) v2 s
    unfold sX8_readTest_p7b
    rcases hI with ⟨i, p2, g2, c2, e1, hi, hk, hS2, ho2, hna⟩ | ⟨i, e, hi, e1, hk, hF, her⟩
    · simp only at e1 hS2
      subst e1
      have hp2 := hS2.1.2.1
      have hi' : ¬ nI 1600 ≤ nI i := nI_ge (by omega) (by omega)
      refine i_neg hi' ?_
      refine q_word1 (v := 18) (w := wOr) (by omega) rfl hS2.1 (fun hw => i_pos rfl ?_) (fun n1 => i_neg (by first | decide | (unfold vp_in; decide)) (h1 s p2 g2 c2 hS2 ⟨ho2, hna, n1⟩))
      have l2 := (wrd_lt hp2 (Or.inl hw.1)).1
      refine rd_adv he hS2 (Or.inl hw.1) (fun s3 hS3 => ?_)
      rw [hw.1] at hS3
      have hS3 : RdS X gc u0 s3 (lnx X p2) true (C ++ c2) := hS3
      refine hP s3 (lnx X p2) true (C ++ c2) _ trivial hS3 (fun s4 p4 g4 c4 hS4 ho4 => ?_) (fun s4 e hF her => ?_)
      · have hb4 := ho4.1.1
        have hle := hS2.2.2.1
        refine rd_add (t := 11) he hS4 (rd_code he hS4).1 ?_ (fun s5 hS5 => ?_)
        · have := hb4.2.2.1
          simp only [List.length_append] at hle ⊢
          omega
        · rw [nI_1]
          have := hb4.1
          refine hnext (X.2 + 1 - p4) (nI (i + 1), s5) (by have := hS5.1.2.1; omega) (Or.inl ⟨i + 1, p4, g4, c2 ++ c4 ++ [11], rfl, by omega, rfl, ?_, o_step ho2 hw ho4.1, ho4.2⟩)
          have e5 : C ++ (c2 ++ c4 ++ [11]) = C ++ c2 ++ c4 ++ [11] := by simp
          rw [e5]
          exact hS5
      · refine rf_add he hF (rf_code he hF) (fun s5 hF5 => ?_)
        rw [nI_1]
        exact hnext 0 (nI (i + 1), s5) (by omega) (Or.inr ⟨i + 1, e, by omega, rfl, rfl, hF5, o_step_e ho2 hw her⟩)
    · simp only at e1 hF
      subst e1
      by_cases hi16 : i = 1600
      · have hi' : nI 1600 ≤ nI i := nI_le (by omega) (by omega)
        exact i_pos hi' (h0 s e hF her)
      · have hi' : ¬ nI 1600 ≤ nI i := nI_ge (by omega) (by omega)
        exact i_neg hi' (q_wordInF hF.1 (i_neg (by first | decide | (unfold vp_in; decide)) (h0 s e hF her)))
  · unfold sX8_readTest_p7
    refine ⟨1, ?_⟩
    show sX8_readTest_p7b (sG D) (nI d) Q _ 0 u1
    unfold sX8_readTest_p7b
    exact i_neg (by first | decide | (unfold vp_in; decide)) (q_wordInF hF.1 (i_neg (by first | decide | (unfold vp_in; decide)) (h0 u1 e hF (o_first_e her))))
theorem c_tests {X : Tx} {gc : Nat} {u0 : St} (he : EnvC gc 2 u0) : ∀ (j d D : Nat), d + j = 6 → 4 * j + 6 ≤ D → RdP X gc u0 2 D d Any (OkF X d) (ErF X d) ∧ RdP X gc u0 0 (D + 2) d Any (fun p g p' g' c => OkO X d p g p' g' c ∧ nO X p' g') (ErO X d) := by
  intro j
  induction j with
  | zero =>
    intro d D hd hD
    obtain ⟨D, rfl⟩ : ∃ D', D = D' + 4 := ⟨D - 4, by omega⟩
    have s4 := (c_sums (X := X) he 0 d D hd (by omega)).2
    have h2 : RdP X gc u0 2 (D + 4) d Any (OkF X d) (ErF X d) := c_fact he (by omega) (c_cmp he s4) (fun h => by omega) (fun h => by omega)
    exact ⟨h2, c_test he (c_both he h2)⟩
  | succ j ih =>
    intro d D hd hD
    obtain ⟨D, rfl⟩ : ∃ D', D = D' + 4 := ⟨D - 4, by omega⟩
    have s4 := (c_sums (X := X) he (j + 1) d D hd (by omega)).2
    have i2 := (ih (d + 1) (D + 3) (by omega) (by omega)).1
    have i0 := (ih (d + 1) (D + 1) (by omega) (by omega)).2
    have h2 : RdP X gc u0 2 (D + 4) d Any (OkF X d) (ErF X d) := c_fact he (by omega) (c_cmp he s4) (fun h => i2) (fun h => i0)
    exact ⟨h2, c_test he (c_both he h2)⟩
