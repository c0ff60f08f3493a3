/-! ===== the reference's two piles ===== -/
def RWL : List (Nat × List Nat) := [(201, [112, 108, 97, 105, 110]), (202, [98, 121]), (203, [104, 105, 103, 104]), (204, [115, 116, 111, 110, 101]), (205, [115, 111, 117, 114, 99, 101]), (206, [102, 97, 114, 109]), (207, [97, 116]), (208, [100, 97, 121]), (209, [112, 105, 101]), (210, [99, 97, 108, 108, 101, 114]), (211, [98, 111, 108, 100]), (212, [107, 105, 110, 100]), (213, [103, 111, 101, 115]), (214, [98, 97, 107, 101, 115]), (215, [121, 101, 97, 114]), (216, [98, 101, 101, 110]), (217, [104, 101, 105, 103, 104, 116]), (218, [100, 111, 119, 110]), (219, [115, 116, 101, 112]), (220, [119, 101, 116]), (221, [110, 117, 109, 98, 101, 114]), (222, [99, 111, 108, 117, 109, 110]), (223, [114, 111, 119]), (224, [102, 105, 114, 115, 116]), (225, [111, 114]), (226, [97, 110, 100]), (227, [110, 111, 116]), (228, [97, 108, 108]), (229, [109, 105, 110]), (230, [109, 97, 120]), (255, [102, 105, 114, 115, 116]), (256, [108, 97, 115, 116]), (257, [111, 102, 116, 101, 110]), (258, [116, 111, 116, 97, 108]), (259, [109, 111, 115, 116]), (260, [108, 101, 97, 115, 116]), (261, [110, 111, 116]), (262, [97, 110, 100]), (263, [111, 114]), (264, [97, 108, 108]), (265, [109, 105, 110]), (266, [109, 97, 120]), (267, [121, 101, 97, 114]), (268, [112, 105, 101]), (269, [98, 101, 101, 110]), (270, [98, 111, 108, 100]), (271, [107, 105, 110, 100]), (272, [104, 101, 105, 103, 104, 116]), (273, [100, 111, 119, 110]), (274, [115, 116, 101, 112]), (275, [119, 101, 116]), (276, [110, 117, 109, 98, 101, 114]), (277, [99, 111, 108, 117, 109, 110]), (278, [114, 111, 119]), (279, [100, 97, 121]), (280, [119, 101, 116]), (281, [115, 116, 101, 112])]

set_option maxRecDepth 100000 in
theorem rw_chk : RWL.all (fun q => decide (SH[q.1]? = some (101, q.2.length)) && decide (q.2.length < 100) && (List.range q.2.length).all (fun k => decide ((q.1, k, nI (q.2.getD k 0)) ∈ WL) && decide (q.2.getD k 0 < 256))) = true := by decide +kernel
theorem wd_of {u : St} {q : Nat × List Nat} (h : gWords u) (hq : q ∈ RWL) : WdA u q.1 q.2 := by
  have h1 := List.all_eq_true.mp rw_chk q hq
  simp only [Bool.and_eq_true, decide_eq_true_eq] at h1
  refine ⟨h1.1.1, h1.1.2, fun k hk => ?_⟩
  have h2 := List.all_eq_true.mp h1.2 k (List.mem_range.mpr hk)
  simp only [Bool.and_eq_true, decide_eq_true_eq] at h2
  exact ⟨h _ h2.1, h2.2⟩
def Wt' (u : St) (V : List Nat) : Prop := u.1 198 111 = nI V.length ∧ (∀ i, i < V.length → u.1 283 (V.length - 1 - i) = nI (V.getD i 0)) ∧ ∀ x ∈ V, x < 100
def Cd (u : St) (L : List Nat) : Prop := u.1 198 109 = nI L.length ∧ ∀ i, i < L.length → u.1 282 i = nI (L.getD i 0)
theorem wt_K {S : Nat → Nat → Prop} {u u' : St} {V : List Nat} (h : Wt' u V) (hK : Kp S u u') (h1 : S 198 111) (h2 : ∀ k, S 283 k) : Wt' u' V := by
  refine ⟨by rw [hK.1 198 111 h1]; exact h.1, fun i hi => ?_, h.2.2⟩
  rw [hK.1 283 _ (h2 _)]
  exact h.2.1 i hi
theorem cd_K {S : Nat → Nat → Prop} {u u' : St} {L : List Nat} (h : Cd u L) (hK : Kp S u u') (h1 : S 198 109) (h2 : ∀ k, S 282 k) : Cd u' L := by
  refine ⟨by rw [hK.1 198 109 h1]; exact h.1, fun i hi => ?_⟩
  rw [hK.1 282 _ (h2 _)]
  exact h.2 i hi
theorem r_qCode {t : Nat} {L : List Nat} {Q : St → Prop} {u : St} (h : Cd u L) (hl : L.length < 1700) (hQ : ∀ u', Kp (fun a k => ¬ (a = 198 ∧ k = 109) ∧ a ≠ 282) u u' → Cd u' (L ++ [t]) → Q u') : s_X12_qCode (nI t) Q u := by
  unfold s_X12_qCode
  rw [h.1, nI_clamp (by omega)]
  refine ⟨vp_in_nI (by omega) (by omega), bnd_i (bnd_i ?_)⟩
  rw [t_n _ _ (by omega), h.1, nI_1]
  refine hQ _ (kp_I (kp_I (kp_r u) (by omega)) (by omega)) ⟨?_, fun i hi => ?_⟩
  · rw [t_s]
    simp
  · rw [t_n _ _ (by omega)]
    simp only [List.length_append, List.length_cons, List.length_nil] at hi
    by_cases e : i = L.length
    · rw [e, t_s]
      simp
    · rw [t_n _ _ (by omega), h.2 i (by omega)]
      congr 1
      simp only [List.getD_eq_getElem?_getD]
      rw [List.getElem?_append_left (by omega)]
theorem r_qCodeF {v : Int32} {m : Nat} {Q : St → Prop} {u : St} (h : u.1 198 109 = nI m) (hl : m < 1700) (hQ : ∀ u', Kp (fun a k => ¬ (a = 198 ∧ k = 109) ∧ a ≠ 282) u u' → u'.1 198 109 = nI (m + 1) → Q u') : s_X12_qCode v Q u := by
  unfold s_X12_qCode
  rw [h, nI_clamp (by omega)]
  refine ⟨vp_in_nI (by omega) (by omega), bnd_i (bnd_i ?_)⟩
  rw [t_n _ _ (by omega), h, nI_1]
  exact hQ _ (kp_I (kp_I (kp_r u) (by omega)) (by omega)) (t_s _ _ _ _)
def SPl (a k : Nat) : Prop := ¬ (a = 198 ∧ (k = 109 ∨ k = 111 ∨ k = 112)) ∧ a ≠ 282 ∧ a ≠ 283
theorem wt_pop {u u' : St} {x : Nat} {V : List Nat} {S : Nat → Nat → Prop} (h : Wt' u (x :: V)) (hK : Kp S u u') (hS : ∀ k, S 283 k) (h1 : u'.1 198 111 = nI V.length) : Wt' u' V := by
  refine ⟨h1, fun i hi => ?_, fun y hy => h.2.2 y (by simp [hy])⟩
  rw [hK.1 283 _ (hS _)]
  have := h.2.1 (i + 1) (by simp only [List.length_cons]; omega)
  simp only [List.length_cons] at this
  rw [show V.length - 1 - i = V.length + 1 - 1 - (i + 1) by omega, this]
  simp
theorem wt_top {u : St} {x : Nat} {V : List Nat} (h : Wt' u (x :: V)) : u.1 283 V.length = nI x ∧ x < 100 := by
  have := h.2.1 0 (by simp)
  simp only [List.length_cons] at this
  rw [show V.length + 1 - 1 - 0 = V.length by omega] at this
  exact ⟨this, h.2.2 x (by simp)⟩
theorem r_qDrops {x : Nat} {V L : List Nat} {Q : St → Prop} {u : St} (h : Wt' u (x :: V)) (hc : Cd u L) (hl : V.length + L.length < 1690) (hQ : ∀ u', Kp (fun a k => ¬ (a = 198 ∧ (k = 109 ∨ k = 111)) ∧ a ≠ 282) u u' → Wt' u' V → Cd u' (L ++ [x]) → Q u') : s_X12_qDrops Q u := by
  unfold s_X12_qDrops
  refine bnd_i ?_
  have e1 : u.1 198 111 - 1 = nI V.length := by
    rw [h.1]
    simp only [List.length_cons]
    exact pk_sub (a := V.length + 1) (b := 1) (by omega)
  have ht := wt_top h
  rw [e1, t_s, nI_clamp (by omega)]
  refine ⟨vp_in_nI (by omega) (by omega), ?_⟩
  have k1 : Kp (fun a k => ¬ (a = 198 ∧ k = 111)) u (tI u 198 111 (nI V.length)) := kp_I (kp_r u) (by omega)
  rw [t_n _ _ (by omega), ht.1]
  have hw := wt_pop h k1 (fun k => by omega) (t_s _ _ _ _)
  have hcc : Cd (tI u 198 111 (nI V.length)) L := cd_K hc k1 (by omega) (fun k => by omega)
  refine r_qCode hcc (by omega) (fun u' k2 c2 => hQ u' (kp_t (kp_m k1 (fun a k h => by omega)) (kp_m k2 (fun a k h => by omega))) (wt_K hw k2 (by omega) (fun k => by omega)) c2)
theorem wt_push {u : St} {x : Nat} {V : List Nat} (h : Wt' u V) (hx : x < 100) : Wt' (tI (tI u 283 V.length (nI x)) 198 111 (nI (V.length + 1))) (x :: V) := by
  refine ⟨by rw [t_s]; rfl, fun i hi => ?_, fun y hy => ?_⟩
  · rw [t_n _ _ (by omega)]
    simp only [List.length_cons] at hi ⊢
    by_cases e : i = 0
    · rw [e, show V.length + 1 - 1 - 0 = V.length by omega, t_s]
      rfl
    · obtain ⟨j, rfl⟩ : ∃ j, i = j + 1 := ⟨i - 1, by omega⟩
      rw [t_n _ _ (by omega), show V.length + 1 - 1 - (j + 1) = V.length - 1 - j by omega, h.2.1 j (by omega)]
      rfl
  · rcases List.mem_cons.mp hy with rfl | hy
    · exact hx
    · exact h.2.2 y hy
theorem r_qIsOn {x : Nat} {V : List Nat} {Q : Int32 → St → Prop} {u : St} (h : Wt' u V) (hl : V.length < 1700) (hx : x < 100) (h1 : V.head? = some x → Q 1 u) (h0 : V.head? ≠ some x → Q 0 u) : s_X12_qIsOn (nI x) Q u := by
  unfold s_X12_qIsOn
  rw [h.1]
  cases V with
  | nil => exact i_pos (by first | decide | (unfold vp_in; decide)) (h0 (by simp))
  | cons y V =>
    have ht := wt_top h
    simp only [List.length_cons] at hl
    have hn : ¬ nI (V.length + 1) ≤ nI 0 := nI_ge (by omega) (by omega)
    have e1 : nI (y :: V).length - 1 = nI V.length := pk_sub (a := V.length + 1) (b := 1) (by omega)
    refine i_neg hn ?_
    rw [e1, nI_clamp (by omega), ht.1]
    refine ⟨vp_in_nI (by omega) (by omega), ?_⟩
    by_cases e : y = x
    · exact i_pos (by rw [e]) (h1 (by rw [e]; rfl))
    · exact i_neg (fun hh => e ((nI_e (by omega) (by omega)).mp hh)) (h0 (fun hh => e (Option.some.inj hh)))
theorem r_qIsBracket {x : Nat} {Q : Int32 → St → Prop} {u : St} (hx : x < 100) (h1 : isBr x = true → Q 1 u) (h0 : isBr x = false → Q 0 u) : s_X12_qIsBracket (nI x) Q u := by
  unfold s_X12_qIsBracket
  have h20 : (nI x < (20 : Int32)) = (x < 20) := x_lt (b := 20) (by omega) (by omega)
  have h24 : ((24 : Int32) < nI x) = (24 < x) := x_lt (a := 24) (by omega) (by omega)
  by_cases c1 : x < 20
  · exact i_pos (h20.mpr c1) (h0 (decide_eq_false (by omega)))
  · refine i_neg (fun h => c1 (h20.mp h)) ?_
    by_cases c2 : 24 < x
    · exact i_pos (h24.mpr c2) (h0 (decide_eq_false (by omega)))
    · exact i_neg (fun h => c2 (h24.mp h)) (h1 (decide_eq_true (by omega)))
theorem r_qBracket {W Wb : List Nat} {Q : Int32 → St → Prop} {u : St} (h : Wt' u (W ++ Wb)) (hl : (W ++ Wb).length < 1700) (hb : u.1 198 113 = nI Wb.length) (hQ : Q (oI (brk W)) u) : s_X12_qBracket Q u := by
  unfold s_X12_qBracket sX12_qBracket_p7
  rw [h.1]
  have hlen : (W ++ Wb).length = W.length + Wb.length := List.length_append
  rw [hlen] at hl
  have hh := for_g (fun i => nI (W.length + Wb.length) - 1 - nI i) (fun n i s => sX12_qBracket_p7n Q n i s) W.length (fun i s => s = u ∧ brk W = brk (W.drop i)) ?_ 0 u (by omega) ⟨rfl, by rw [List.drop_zero]⟩
  rotate_left
  · rintro n i s hi ⟨rfl, hbr⟩ hnext
    show sX12_qBracket_p7b Q (sX12_qBracket_p7n Q n) (nI (W.length + Wb.length) - 1 - nI i) s
    unfold sX12_qBracket_p7b sX12_qBracket_p33
    rw [hb]
    by_cases hie : i = W.length
    · have hd : brk W = none := by
        rw [hbr, hie, List.drop_length]
        rfl
      rw [hd] at hQ
      have hlt : nI (W.length + Wb.length) - 1 - nI i < nI Wb.length := by
        rw [hie, nI_iI (by omega), nI_iI (n := W.length) (by omega), nI_iI (n := Wb.length) (by omega), i_1, iI_sub, iI_sub]
        first | rw [ite_e (iI_lt (by omega) (by omega) (by omega) (by omega))] | rw [iI_lt (by omega) (by omega) (by omega) (by omega)]
        try (with_reducible rfl)
        omega
      exact i_pos hlt (i_pos hlt hQ)
    have ei : nI (W.length + Wb.length) - 1 - nI i = nI (W.length + Wb.length - 1 - i) := by
      rw [show nI (W.length + Wb.length) - 1 = nI (W.length + Wb.length - 1) from pk_sub (b := 1) (by omega), pk_sub (by omega)]
    rw [ei]
    have hlt : ¬ nI (W.length + Wb.length - 1 - i) < nI Wb.length := nI_nlt (by omega) (by omega)
    refine i_neg hlt ⟨vp_in_nI (by omega) (by omega), ?_⟩
    have hv := h.2.1 i (by rw [hlen]; omega)
    rw [hlen] at hv
    have hget : (W ++ Wb).getD i 0 = W.getD i 0 := by
      simp only [List.getD_eq_getElem?_getD]
      rw [List.getElem?_append_left (by omega)]
    have hmem : W.getD i 0 ∈ W ++ Wb := List.mem_append.mpr (Or.inl (getD_mem (by omega)))
    have h100 := h.2.2 _ hmem
    rw [hget] at hv
    have hdr : W.drop i = W.getD i 0 :: W.drop (i + 1) := drop_getD (by omega)
    rw [nI_clamp (by omega), hv]
    refine r_qIsBracket h100 (fun hy => i_neg (by first | decide | (unfold vp_in; decide)) ?_) (fun hn => i_pos rfl ?_)
    · have hd : brk W = some (W.getD i 0) := by
        rw [hbr, hdr]
        unfold brk
        rw [List.dropWhile_cons, hy]
        rfl
      rw [hd] at hQ
      refine i_neg (by rw [hb]; exact hlt) ⟨vp_in_nI (by omega) (by omega), ?_⟩
      rw [hv]
      exact hQ
    · have hd : brk W = brk (W.drop (i + 1)) := by
        rw [hbr, hdr]
        unfold brk
        rw [List.dropWhile_cons, hn]
        rfl
      have hx := hnext (by omega) s ⟨rfl, hd⟩
      have e2 : nI (W.length + Wb.length) - 1 - nI (i + 1) = nI (W.length + Wb.length - 1 - i) + (-1) := by
        rw [← ei, nI_iI (by omega), nI_iI (n := i + 1) (by omega), nI_iI (n := i) (by omega), m1_iI, i_1, iI_sub, iI_sub, iI_sub, iI_add]
        congr 1
        omega
      rw [← e2]
      exact hx
  · have e0 : nI (W.length + Wb.length) - 1 - nI 0 = nI (W.length + Wb.length) - 1 := Int32.sub_zero _
    obtain ⟨n, hn⟩ := hh
    refine ⟨n, ?_⟩
    rw [hlen, ← e0]
    exact hn
