/-! ===== the reference reads a PLAIN: names, its draft ===== -/
set_option maxRecDepth 20000 in
theorem r_own {X : Tx} {p : Nat} {g : Bool} {Q : Int32 → St → Prop} {u : St} (hG : gWords u) (h : Ma u X p g) (h1 : ∀ u', Kp SXr u u' → Mb u' X p g → wIn X p g (wds 3) ≠ none → Q 1 u') (h0 : ∀ u', Kp SXr u u' → Mb u' X p g → wIn X p g (wds 3) = none → Q 0 u') : s_X12_isOwnHere Q u := by
  have hy : ∀ (s : St) (w : List Nat), fnd w (wds 3) ≠ none → Kp SXr u s → Mb s X p g → isW' X p g w → Q 1 s := fun s w hw k m i => h1 s k m (by rw [wIn_w i]; exact hw)
  have h370 : ∀ s, Q 1 s → sX12_isOwnHere_p370 Q s := fun s h => h
  have h294 : ∀ s, Q 1 s → sX12_isOwnHere_p294 Q s := fun s h => by
    unfold sX12_isOwnHere_p294 sX12_isOwnHere_p299
    exact i_neg (by first | decide | (unfold vp_in; decide)) (h370 s h)
  have h218 : ∀ s, Q 1 s → sX12_isOwnHere_p218 Q s := fun s h => by
    unfold sX12_isOwnHere_p218 sX12_isOwnHere_p223
    exact i_neg (by first | decide | (unfold vp_in; decide)) (h294 s h)
  have h142 : ∀ s, Q 1 s → sX12_isOwnHere_p142 Q s := fun s h => by
    unfold sX12_isOwnHere_p142 sX12_isOwnHere_p147
    exact i_neg (by first | decide | (unfold vp_in; decide)) (h218 s h)
  have h66 : ∀ s, Q 1 s → sX12_isOwnHere_p66 Q s := fun s h => by
    unfold sX12_isOwnHere_p66 sX12_isOwnHere_p71
    exact i_neg (by first | decide | (unfold vp_in; decide)) (h142 s h)
  unfold s_X12_isOwnHere
  refine r_ish hG (v := 201) (w := [112, 108, 97, 105, 110]) (by first | decide | (unfold vp_in; decide)) (by omega) (kp_r u) h (fun s k b y => i_neg (by first | decide | (unfold vp_in; decide)) (h66 s (hy s _ (by first | decide | (unfold vp_in; decide)) k b y))) (fun s0 k0 b0 n0 => i_pos rfl ?_)
  refine r_ish hG (v := 202) (w := [98, 121]) (by first | decide | (unfold vp_in; decide)) (by omega) k0 b0.1 (fun s k b y => i_neg (by first | decide | (unfold vp_in; decide)) (h66 s (hy s _ (by first | decide | (unfold vp_in; decide)) k b y))) (fun s1 k1 b1 n1 => i_pos rfl ?_)
  refine r_ish hG (v := 203) (w := [104, 105, 103, 104]) (by first | decide | (unfold vp_in; decide)) (by omega) k1 b1.1 (fun s k b y => i_neg (by first | decide | (unfold vp_in; decide)) (h66 s (hy s _ (by first | decide | (unfold vp_in; decide)) k b y))) (fun s2 k2 b2 n2 => i_pos rfl ?_)
  refine r_ish hG (v := 204) (w := [115, 116, 111, 110, 101]) (by first | decide | (unfold vp_in; decide)) (by omega) k2 b2.1 (fun s k b y => i_neg (by first | decide | (unfold vp_in; decide)) (h66 s (hy s _ (by first | decide | (unfold vp_in; decide)) k b y))) (fun s3 k3 b3 n3 => i_pos rfl ?_)
  refine r_ish hG (v := 205) (w := [115, 111, 117, 114, 99, 101]) (by first | decide | (unfold vp_in; decide)) (by omega) k3 b3.1 (fun s k b y => i_neg (by first | decide | (unfold vp_in; decide)) (h66 s (hy s _ (by first | decide | (unfold vp_in; decide)) k b y))) (fun s4 k4 b4 n4 => i_pos rfl ?_)
  refine r_ish hG (v := 206) (w := [102, 97, 114, 109]) (by first | decide | (unfold vp_in; decide)) (by omega) k4 b4.1 (fun s k b y => i_neg (by first | decide | (unfold vp_in; decide)) (h66 s (hy s _ (by first | decide | (unfold vp_in; decide)) k b y))) (fun s5 k5 b5 n5 => i_pos rfl ?_)
  unfold sX12_isOwnHere_p71
  refine i_pos rfl ?_
  refine r_ish hG (v := 207) (w := [97, 116]) (by first | decide | (unfold vp_in; decide)) (by omega) k5 b5.1 (fun s k b y => i_neg (by first | decide | (unfold vp_in; decide)) (h142 s (hy s _ (by first | decide | (unfold vp_in; decide)) k b y))) (fun s6 k6 b6 n6 => i_pos rfl ?_)
  refine r_ish hG (v := 208) (w := [100, 97, 121]) (by first | decide | (unfold vp_in; decide)) (by omega) k6 b6.1 (fun s k b y => i_neg (by first | decide | (unfold vp_in; decide)) (h142 s (hy s _ (by first | decide | (unfold vp_in; decide)) k b y))) (fun s7 k7 b7 n7 => i_pos rfl ?_)
  refine r_ish hG (v := 209) (w := [112, 105, 101]) (by first | decide | (unfold vp_in; decide)) (by omega) k7 b7.1 (fun s k b y => i_neg (by first | decide | (unfold vp_in; decide)) (h142 s (hy s _ (by first | decide | (unfold vp_in; decide)) k b y))) (fun s8 k8 b8 n8 => i_pos rfl ?_)
  refine r_ish hG (v := 210) (w := [99, 97, 108, 108, 101, 114]) (by first | decide | (unfold vp_in; decide)) (by omega) k8 b8.1 (fun s k b y => i_neg (by first | decide | (unfold vp_in; decide)) (h142 s (hy s _ (by first | decide | (unfold vp_in; decide)) k b y))) (fun s9 k9 b9 n9 => i_pos rfl ?_)
  refine r_ish hG (v := 211) (w := [98, 111, 108, 100]) (by first | decide | (unfold vp_in; decide)) (by omega) k9 b9.1 (fun s k b y => i_neg (by first | decide | (unfold vp_in; decide)) (h142 s (hy s _ (by first | decide | (unfold vp_in; decide)) k b y))) (fun s10 k10 b10 n10 => i_pos rfl ?_)
  refine r_ish hG (v := 212) (w := [107, 105, 110, 100]) (by first | decide | (unfold vp_in; decide)) (by omega) k10 b10.1 (fun s k b y => i_neg (by first | decide | (unfold vp_in; decide)) (h142 s (hy s _ (by first | decide | (unfold vp_in; decide)) k b y))) (fun s11 k11 b11 n11 => i_pos rfl ?_)
  unfold sX12_isOwnHere_p147
  refine i_pos rfl ?_
  refine r_ish hG (v := 213) (w := [103, 111, 101, 115]) (by first | decide | (unfold vp_in; decide)) (by omega) k11 b11.1 (fun s k b y => i_neg (by first | decide | (unfold vp_in; decide)) (h218 s (hy s _ (by first | decide | (unfold vp_in; decide)) k b y))) (fun s12 k12 b12 n12 => i_pos rfl ?_)
  refine r_ish hG (v := 214) (w := [98, 97, 107, 101, 115]) (by first | decide | (unfold vp_in; decide)) (by omega) k12 b12.1 (fun s k b y => i_neg (by first | decide | (unfold vp_in; decide)) (h218 s (hy s _ (by first | decide | (unfold vp_in; decide)) k b y))) (fun s13 k13 b13 n13 => i_pos rfl ?_)
  refine r_ish hG (v := 215) (w := [121, 101, 97, 114]) (by first | decide | (unfold vp_in; decide)) (by omega) k13 b13.1 (fun s k b y => i_neg (by first | decide | (unfold vp_in; decide)) (h218 s (hy s _ (by first | decide | (unfold vp_in; decide)) k b y))) (fun s14 k14 b14 n14 => i_pos rfl ?_)
  refine r_ish hG (v := 216) (w := [98, 101, 101, 110]) (by first | decide | (unfold vp_in; decide)) (by omega) k14 b14.1 (fun s k b y => i_neg (by first | decide | (unfold vp_in; decide)) (h218 s (hy s _ (by first | decide | (unfold vp_in; decide)) k b y))) (fun s15 k15 b15 n15 => i_pos rfl ?_)
  refine r_ish hG (v := 217) (w := [104, 101, 105, 103, 104, 116]) (by first | decide | (unfold vp_in; decide)) (by omega) k15 b15.1 (fun s k b y => i_neg (by first | decide | (unfold vp_in; decide)) (h218 s (hy s _ (by first | decide | (unfold vp_in; decide)) k b y))) (fun s16 k16 b16 n16 => i_pos rfl ?_)
  refine r_ish hG (v := 218) (w := [100, 111, 119, 110]) (by first | decide | (unfold vp_in; decide)) (by omega) k16 b16.1 (fun s k b y => i_neg (by first | decide | (unfold vp_in; decide)) (h218 s (hy s _ (by first | decide | (unfold vp_in; decide)) k b y))) (fun s17 k17 b17 n17 => i_pos rfl ?_)
  unfold sX12_isOwnHere_p223
  refine i_pos rfl ?_
  refine r_ish hG (v := 219) (w := [115, 116, 101, 112]) (by first | decide | (unfold vp_in; decide)) (by omega) k17 b17.1 (fun s k b y => i_neg (by first | decide | (unfold vp_in; decide)) (h294 s (hy s _ (by first | decide | (unfold vp_in; decide)) k b y))) (fun s18 k18 b18 n18 => i_pos rfl ?_)
  refine r_ish hG (v := 220) (w := [119, 101, 116]) (by first | decide | (unfold vp_in; decide)) (by omega) k18 b18.1 (fun s k b y => i_neg (by first | decide | (unfold vp_in; decide)) (h294 s (hy s _ (by first | decide | (unfold vp_in; decide)) k b y))) (fun s19 k19 b19 n19 => i_pos rfl ?_)
  refine r_ish hG (v := 221) (w := [110, 117, 109, 98, 101, 114]) (by first | decide | (unfold vp_in; decide)) (by omega) k19 b19.1 (fun s k b y => i_neg (by first | decide | (unfold vp_in; decide)) (h294 s (hy s _ (by first | decide | (unfold vp_in; decide)) k b y))) (fun s20 k20 b20 n20 => i_pos rfl ?_)
  refine r_ish hG (v := 222) (w := [99, 111, 108, 117, 109, 110]) (by first | decide | (unfold vp_in; decide)) (by omega) k20 b20.1 (fun s k b y => i_neg (by first | decide | (unfold vp_in; decide)) (h294 s (hy s _ (by first | decide | (unfold vp_in; decide)) k b y))) (fun s21 k21 b21 n21 => i_pos rfl ?_)
  refine r_ish hG (v := 223) (w := [114, 111, 119]) (by first | decide | (unfold vp_in; decide)) (by omega) k21 b21.1 (fun s k b y => i_neg (by first | decide | (unfold vp_in; decide)) (h294 s (hy s _ (by first | decide | (unfold vp_in; decide)) k b y))) (fun s22 k22 b22 n22 => i_pos rfl ?_)
  refine r_ish hG (v := 224) (w := [102, 105, 114, 115, 116]) (by first | decide | (unfold vp_in; decide)) (by omega) k22 b22.1 (fun s k b y => i_neg (by first | decide | (unfold vp_in; decide)) (h294 s (hy s _ (by first | decide | (unfold vp_in; decide)) k b y))) (fun s23 k23 b23 n23 => i_pos rfl ?_)
  unfold sX12_isOwnHere_p299
  refine i_pos rfl ?_
  refine r_ish hG (v := 225) (w := [111, 114]) (by first | decide | (unfold vp_in; decide)) (by omega) k23 b23.1 (fun s k b y => i_neg (by first | decide | (unfold vp_in; decide)) (h370 s (hy s _ (by first | decide | (unfold vp_in; decide)) k b y))) (fun s24 k24 b24 n24 => i_pos rfl ?_)
  refine r_ish hG (v := 226) (w := [97, 110, 100]) (by first | decide | (unfold vp_in; decide)) (by omega) k24 b24.1 (fun s k b y => i_neg (by first | decide | (unfold vp_in; decide)) (h370 s (hy s _ (by first | decide | (unfold vp_in; decide)) k b y))) (fun s25 k25 b25 n25 => i_pos rfl ?_)
  refine r_ish hG (v := 227) (w := [110, 111, 116]) (by first | decide | (unfold vp_in; decide)) (by omega) k25 b25.1 (fun s k b y => i_neg (by first | decide | (unfold vp_in; decide)) (h370 s (hy s _ (by first | decide | (unfold vp_in; decide)) k b y))) (fun s26 k26 b26 n26 => i_pos rfl ?_)
  refine r_ish hG (v := 228) (w := [97, 108, 108]) (by first | decide | (unfold vp_in; decide)) (by omega) k26 b26.1 (fun s k b y => i_neg (by first | decide | (unfold vp_in; decide)) (h370 s (hy s _ (by first | decide | (unfold vp_in; decide)) k b y))) (fun s27 k27 b27 n27 => i_pos rfl ?_)
  refine r_ish hG (v := 229) (w := [109, 105, 110]) (by first | decide | (unfold vp_in; decide)) (by omega) k27 b27.1 (fun s k b y => i_neg (by first | decide | (unfold vp_in; decide)) (h370 s (hy s _ (by first | decide | (unfold vp_in; decide)) k b y))) (fun s28 k28 b28 n28 => i_pos rfl ?_)
  refine r_ish hG (v := 230) (w := [109, 97, 120]) (by first | decide | (unfold vp_in; decide)) (by omega) k28 b28.1 (fun s k b y => i_neg (by first | decide | (unfold vp_in; decide)) (h370 s (hy s _ (by first | decide | (unfold vp_in; decide)) k b y))) (fun s29 k29 b29 n29 => i_pos rfl ?_)
  refine h0 s29 k29 b29 (wIn_none (fun w hw => ?_))
  have hm : w = [112, 108, 97, 105, 110] ∨ w = [98, 121] ∨ w = [104, 105, 103, 104] ∨ w = [115, 116, 111, 110, 101] ∨ w = [115, 111, 117, 114, 99, 101] ∨ w = [102, 97, 114, 109] ∨ w = [97, 116] ∨ w = [100, 97, 121] ∨ w = [112, 105, 101] ∨ w = [99, 97, 108, 108, 101, 114] ∨ w = [98, 111, 108, 100] ∨ w = [107, 105, 110, 100] ∨ w = [103, 111, 101, 115] ∨ w = [98, 97, 107, 101, 115] ∨ w = [121, 101, 97, 114] ∨ w = [98, 101, 101, 110] ∨ w = [104, 101, 105, 103, 104, 116] ∨ w = [100, 111, 119, 110] ∨ w = [115, 116, 101, 112] ∨ w = [119, 101, 116] ∨ w = [110, 117, 109, 98, 101, 114] ∨ w = [99, 111, 108, 117, 109, 110] ∨ w = [114, 111, 119] ∨ w = [102, 105, 114, 115, 116] ∨ w = [111, 114] ∨ w = [97, 110, 100] ∨ w = [110, 111, 116] ∨ w = [97, 108, 108] ∨ w = [109, 105, 110] ∨ w = [109, 97, 120] := by
    simpa [wds] using hw
  rcases hm with rfl | rfl | rfl | rfl | rfl | rfl | rfl | rfl | rfl | rfl | rfl | rfl | rfl | rfl | rfl | rfl | rfl | rfl | rfl | rfl | rfl | rfl | rfl | rfl | rfl | rfl | rfl | rfl | rfl | rfl
  · exact n0
  · exact n1
  · exact n2
  · exact n3
  · exact n4
  · exact n5
  · exact n6
  · exact n7
  · exact n8
  · exact n9
  · exact n10
  · exact n11
  · exact n12
  · exact n13
  · exact n14
  · exact n15
  · exact n16
  · exact n17
  · exact n18
  · exact n19
  · exact n20
  · exact n21
  · exact n22
  · exact n23
  · exact n24
  · exact n25
  · exact n26
  · exact n27
  · exact n28
  · exact n29
def mC2 (u : St) (w n : Nat) (c : List Nat) : Prop := (u.1 238 w = -1 ∧ c = []) ∨ (c ≠ [] ∧ ∃ fr, u.1 238 w = nI fr ∧ u.1 239 w = nI (fr + c.length) ∧ fr + c.length ≤ n ∧ ∀ i, i < c.length → u.1 240 (fr + i) = nI (c.getD i 0))
def mDr (u : St) (D : Pl) : Prop := (u.1 231 0 = nI (pc D) ∧ u.1 231 1 = nI (pr D) ∧ u.1 198 43 = nI (ps D) ∧ u.1 232 0 = nI (pf D) ∧ u.1 232 1 = nI (pk D))
  ∧ (∀ f, f < pf D → u.1 234 (3 * f) = nI (fce D f) ∧ u.1 234 (3 * f + 1) = nI (fda D f) ∧ u.1 234 (3 * f + 2) = nI (D.1 7 f) ∧ u.2.1 233 f = lN (nmL (fnm D f) (nmK (fnm D f) 6)))
  ∧ (∀ c, c < pk D → u.1 235 (2 * c) = nI (cbo D c) ∧ u.1 235 (2 * c + 1) = nI (cki D c) ∧ u.2.1 233 (8 + c) = lN (nmL (cnm D c) (nmK (cnm D c) 6)))
  ∧ (∀ c, c < 36 → u.1 236 c = nI (D.1 5 c) ∧ u.1 237 c = nI (D.1 6 c))
  ∧ mC2 u 0 (D.2.1.length + D.2.2.length) D.2.1 ∧ mC2 u 1 (D.2.1.length + D.2.2.length) D.2.2 ∧ u.1 198 54 = nI (D.2.1.length + D.2.2.length)
def DRd (a k : Nat) : Prop := ((a = 231 ∨ a = 232 ∨ a = 238 ∨ a = 239) ∧ k < 2) ∨ (a = 198 ∧ (k = 43 ∨ k = 54)) ∨ (a = 234 ∧ k < 18) ∨ (a = 235 ∧ k < 10) ∨ a = 236 ∨ a = 237 ∨ (a = 240 ∧ k < 1600)
theorem mc2_K {S : Nat → Nat → Prop} {u u' : St} {w n m : Nat} {c : List Nat} (h : mC2 u w n c) (hw : w < 2) (hn : n ≤ m) (hm : m ≤ 1600) (hK : Kp S u u') (hS : ∀ a k, ((a = 238 ∨ a = 239) ∧ k = w) ∨ (a = 240 ∧ k < n) → S a k) : mC2 u' w m c := by
  rcases h with ⟨h1, h2⟩ | ⟨h1, fr, h2, h3, h4, h5⟩
  · exact Or.inl ⟨by rw [hK.1 _ _ (hS _ _ (by omega))]; exact h1, h2⟩
  · refine Or.inr ⟨h1, fr, by rw [hK.1 _ _ (hS _ _ (by omega))]; exact h2, by rw [hK.1 _ _ (hS _ _ (by omega))]; exact h3, by omega, fun i hi => ?_⟩
    rw [hK.1 _ _ (hS _ _ (by omega))]
    exact h5 i hi
theorem mdr_K {S : Nat → Nat → Prop} {u u' : St} {p : Nat} {D : Pl} (h : mDr u D) (hD : VD D p) (hp : p ≤ 1600) (hK : Kp S u u') (hS : ∀ a k, DRd a k → S a k) : mDr u' D := by
  have hl := hD.2.2.2.2.2.2.2
  have hb := hD.1
  obtain ⟨⟨a1, a2, a3, a4, a5⟩, b, c, d, e, f, g⟩ := h
  refine ⟨⟨?_, ?_, ?_, ?_, ?_⟩, fun x hx => ?_, fun x hx => ?_, fun x hx => ?_, mc2_K e (by omega) (Nat.le_refl _) (by omega) hK (fun a k h => hS _ _ (by unfold DRd; omega)), mc2_K f (by omega) (Nat.le_refl _) (by omega) hK (fun a k h => hS _ _ (by unfold DRd; omega)), ?_⟩
  · rw [hK.1 _ _ (hS _ _ (by unfold DRd; omega))]
    exact a1
  · rw [hK.1 _ _ (hS _ _ (by unfold DRd; omega))]
    exact a2
  · rw [hK.1 _ _ (hS _ _ (by unfold DRd; omega))]
    exact a3
  · rw [hK.1 _ _ (hS _ _ (by unfold DRd; omega))]
    exact a4
  · rw [hK.1 _ _ (hS _ _ (by unfold DRd; omega))]
    exact a5
  · rw [hK.1 _ _ (hS _ _ (by unfold DRd; omega)), hK.1 _ _ (hS _ _ (by unfold DRd; omega)), hK.1 _ _ (hS _ _ (by unfold DRd; omega)), hK.2.1 233 (by omega)]
    exact b x hx
  · rw [hK.1 _ _ (hS _ _ (by unfold DRd; omega)), hK.1 _ _ (hS _ _ (by unfold DRd; omega)), hK.2.1 233 (by omega)]
    exact c x hx
  · rw [hK.1 _ _ (hS _ _ (by unfold DRd; omega)), hK.1 _ _ (hS _ _ (by unfold DRd; omega))]
    exact d x hx
  · rw [hK.1 _ _ (hS _ _ (by unfold DRd; omega))]
    exact g
theorem nmK_lln {X : Tx} {p : Nat} (h : NmV (lln X p)) (h6 : lnx X p - lst X p ≤ 6) (hc : ∀ j, j < lnx X p - lst X p → 97 ≤ X.1 (lst X p + j)) : nmK (lln X p) 6 = lnx X p - lst X p := by
  obtain ⟨k1, k2, k3⟩ := nmK_ok h
  have e : ∀ k, k < 6 → (k < nmK (lln X p) 6 ↔ k < lnx X p - lst X p) := by
    intro k hk
    rw [k3 k hk]
    unfold lln
    by_cases c : k < lnx X p - lst X p
    · first | refine i_pos c ?_ | rw [if_pos c]
      try (with_reducible rfl)
      have := hc k c
      omega
    · first | refine i_neg c ?_ | rw [if_neg c]
      try (with_reducible rfl)
      omega
  have e0 := e 0 (by omega)
  have e1 := e 1 (by omega)
  have e2 := e 2 (by omega)
  have e3 := e 3 (by omega)
  have e4 := e 4 (by omega)
  have e5 := e 5 (by omega)
  omega
