/-! ===== the reference reads SUMS ===== -/
def nop : List Nat → Nat
  | [] => 0
  | x :: W => (if 20 ≤ x then 1 else 0) + nop W
theorem nop_b {x : Nat} {W : List Nat} (h : 20 ≤ x) : nop (x :: W) = nop W + 1 := by
  show (if 20 ≤ x then 1 else 0) + nop W = _
  first | refine i_pos h ?_ | rw [if_pos h]
  try (with_reducible rfl)
  omega
theorem nop_l {x : Nat} {W : List Nat} (h : x < 20) : nop (x :: W) = nop W := by
  show (if 20 ≤ x then 1 else 0) + nop W = _
  first | refine i_neg (by omega) ?_ | rw [if_neg (by omega)]
  try (with_reducible rfl)
  omega
theorem nop_0 : ∀ {W : List Nat}, (∀ x ∈ W, x < 20) → nop W = 0
  | [], _ => rfl
  | x :: W, h => by
    rw [nop_l (h x (by simp))]
    exact nop_0 (fun y hy => h y (by simp [hy]))
theorem nop_app : ∀ {U W : List Nat}, nop (U ++ W) = nop U + nop W
  | [], W => by simp [nop]
  | x :: U, W => by
    show (if 20 ≤ x then 1 else 0) + nop (U ++ W) = (if 20 ≤ x then 1 else 0) + nop U + nop W
    rw [nop_app (U := U)]
    omega
theorem nop_dw {q : Nat → Bool} (hq : ∀ x, q x = true → x < 20) : ∀ {W : List Nat}, nop (W.dropWhile q) = nop W
  | [] => rfl
  | x :: W => by
    rw [List.dropWhile_cons]
    cases e : q x with
    | true =>
      rw [nop_l (hq x e)]
      exact nop_dw hq
    | false => rfl
def SYq (a k : Nat) : Prop := ¬ (a = 198 ∧ (k = 2 ∨ k = 4 ∨ k = 5 ∨ k = 6 ∨ k = 10 ∨ k = 41 ∨ k = 109 ∨ k = 111 ∨ k = 112)) ∧ a ≠ 282 ∧ a ≠ 283
def Sy (X : Tx) (tk : Nat) (Wb Cb : List Nat) (o0 : Nat) (u0 u : St) (p : Nat) (g : Bool) (W C : List Nat) (o : Nat) : Prop := Ma u X p g ∧ Wt' u (W ++ Wb) ∧ Cd u (Cb ++ C) ∧ u.1 198 112 = nI o ∧ (nop W + o0 = o ∧ o ≤ 6) ∧ (W ++ Wb).length + (Cb ++ C).length ≤ p ∧ Kp SYq u0 u
def SyF (X : Tx) (u0 u : St) (e : Nat × Nat) : Prop := Mf u X e ∧ (∃ m, m ≤ 1610 ∧ u.1 198 109 = nI m) ∧ Kp SYq u0 u
/-- what holds of the piles as the sum begins -/
def EnvR (tk : Nat) (Wb : List Nat) (u0 : St) : Prop := tk ≤ 2 ∧ u0.1 198 113 = nI Wb.length ∧ u0.1 198 57 = nI tk ∧ gWords u0 ∧ ∀ x, Wb.head? = some x → 10 ≤ x
theorem er_get {tk : Nat} {Wb : List Nat} {u0 u : St} (he : EnvR tk Wb u0) (hK : Kp SYq u0 u) : u.1 198 113 = nI Wb.length ∧ u.1 198 57 = nI tk ∧ gWords u := by
  refine ⟨?_, ?_, k_words he.2.2.2.1 hK (fun a k h => by unfold DWords at h; unfold SYq; omega)⟩
  · rw [hK.1 198 113 (by unfold SYq; omega)]
    exact he.2.1
  · rw [hK.1 198 57 (by unfold SYq; omega)]
    exact he.2.2.1
theorem sy_lex {X : Tx} {tk : Nat} {Wb Cb : List Nat} {o0 : Nat} {u0 u u' : St} {p p' : Nat} {g g' : Bool} {W C : List Nat} {o : Nat} (h : Sy X tk Wb Cb o0 u0 u p g W C o) (hK : Kp SXr u u') (hm : Ma u' X p' g') (hp : p ≤ p') : Sy X tk Wb Cb o0 u0 u' p' g' W C o := by
  obtain ⟨a1, a2, a3, a4, a5, a6, a7⟩ := h
  refine ⟨hm, wt_K a2 hK (by unfold SXr; omega) (fun k => by unfold SXr; omega), cd_K a3 hK (by unfold SXr; omega) (fun k => by unfold SXr; omega), ?_, a5, by omega, kp_t a7 (kp_m hK (fun a k h => by unfold SYq at h; unfold SXr; omega))⟩
  rw [hK.1 198 112 (by unfold SXr; omega)]
  exact a4
theorem sy_fail {X : Tx} {tk : Nat} {Wb Cb : List Nat} {o0 : Nat} {u0 u u' : St} {p : Nat} {g : Bool} {W C : List Nat} {o : Nat} {e : Nat × Nat} (h : Sy X tk Wb Cb o0 u0 u p g W C o) (hK : Kp SXr u u') (hm : Mf u' X e) : SyF X u0 u' e := by
  obtain ⟨a1, a2, a3, a4, a5, a6, a7⟩ := h
  have hp := a1.2.1
  have h16 := a1.1.1
  exact ⟨hm, ⟨(Cb ++ C).length, by omega, by rw [hK.1 198 109 (by unfold SXr; omega)]; exact a3.1⟩, kp_t a7 (kp_m hK (fun a k h => by unfold SYq at h; unfold SXr; omega))⟩
theorem r_qOpens {x o : Nat} {V : List Nat} {v2 : Int32} {Q : St → Prop} {u : St} (h : Wt' u V) (hl : V.length < 1690) (hx : x < 100) (ho : o ≤ 6) (h112 : u.1 198 112 = nI o) (h5 : u.1 198 5 = 0) (h1 : o ≠ 6 → ∀ u', Kp (fun a k => ¬ (a = 198 ∧ (k = 111 ∨ k = 112)) ∧ a ≠ 283) u u' → Wt' u' (x :: V) → u'.1 198 112 = nI (o + 1) → Q u') (h6 : o = 6 → s_X12_fail (4 : Int32) v2 Q u) : s_X12_qOpens (nI x) v2 Q u := by
  unfold s_X12_qOpens
  rw [h5, h112]
  refine i_pos rfl ?_
  by_cases c : o = 6
  · exact i_pos (by rw [c]; rfl) (h6 c)
  · refine i_neg (x_ne (k := 6) (by omega) (by omega) c) (bnd_i ?_)
    rw [nI_1]
    have k1 : Kp (fun a k => ¬ (a = 198 ∧ k = 112)) u (tI u 198 112 (nI (o + 1))) := kp_I (kp_r u) (by omega)
    have w1 : Wt' (tI u 198 112 (nI (o + 1))) V := wt_K h k1 (by omega) (fun k => by omega)
    have e112 : (tI u 198 112 (nI (o + 1))).1 198 112 = nI (o + 1) := t_s _ _ _ _
    generalize (tI u 198 112 (nI (o + 1))) = z at k1 w1 e112
    rw [w1.1, nI_clamp (by omega)]
    refine ⟨vp_in_nI (by omega) (by omega), bnd_i (bnd_i ?_)⟩
    rw [t_n _ _ (by omega), w1.1, nI_1]
    refine h1 c _ (kp_t (kp_m k1 (fun a k h => by omega)) (kp_I (kp_I (kp_r z) (by omega)) (by omega))) (wt_push w1 hx) ?_
    rw [t_n _ _ (by omega), t_n _ _ (by omega)]
    exact e112
theorem r_qEnds {X : Tx} {tk : Nat} {Wb Cb : List Nat} {o0 : Nat} {u0 : St} {r : Rs} {Q : St → Prop} (he : EnvR tk Wb u0) : ∀ (k p : Nat) (g : Bool) (W C : List Nat) (o : Nat) (u : St), Sy X tk Wb Cb o0 u0 u p g W C o → Rn X tk k 1 p g W C o r → (∀ u' k' W' C' o', k' < k → Sy X tk Wb Cb o0 u0 u' p g W' C' o' → Rn X tk k' 2 p g W' C' o' r → Q u') → s_X12_qEndsPart Q u := by
  intro k p g W C o u hS hR hQ
  unfold s_X12_qEndsPart sX12_qEndsPart_p0
  refine lpx (fun n s => sX12_qEndsPart_p0n Q n s) (fun j s => ∃ W C o, j ≤ k ∧ Sy X tk Wb Cb o0 u0 s p g W C o ∧ Rn X tk j 1 p g W C o r) ?_ k u ⟨W, C, o, Nat.le_refl _, hS, hR⟩
  rintro n j s ⟨W, C, o, hj, hS, hR⟩ hnext
  show sX12_qEndsPart_p0b Q (sX12_qEndsPart_p0n Q n) s
  unfold sX12_qEndsPart_p0b
  obtain ⟨a1, a2, a3, a4, a5, a6, a7⟩ := hS
  have hp := a1.2.1
  have h16 := a1.1.1
  have eg := er_get he a7
  have hlen : (W ++ Wb).length = W.length + Wb.length := List.length_append
  cases j with
  | zero => exact absurd hR id
  | succ j =>
    unfold Rn at hR
    rw [if_neg (by omega), if_pos rfl] at hR
    rw [a1.2.2.2.2.2.1, a2.1, eg.1]
    refine i_pos rfl ?_
    cases W with
    | nil =>
      refine i_pos (nI_le (by simp) (by simp only [List.nil_append] at a6; omega)) (hQ s j [] C o (by omega) ⟨a1, a2, a3, a4, a5, a6, a7⟩ hR)
    | cons x W =>
      have ht := wt_top (V := W ++ Wb) a2
      simp only [List.cons_append, List.length_cons] at a6 hlen ht
      have hlw : (W ++ Wb).length = W.length + Wb.length := List.length_append
      refine i_neg (nI_ge (by simp only [List.cons_append, List.length_cons]; omega) (by simp only [List.cons_append, List.length_cons]; omega)) ?_
      have e1 : nI (x :: W ++ Wb).length - 1 = nI (W ++ Wb).length := pk_sub (a := (W ++ Wb).length + 1) (b := 1) (by omega)
      rw [e1, nI_clamp (by omega), ht.1]
      refine ⟨vp_in_nI (by omega) (by omega), ?_⟩
      have hR : (if 60 ≤ x then Rn X tk j 1 p g W (C ++ [x]) (o - 1) r else Rn X tk j 2 p g (x :: W) C o r) := hR
      by_cases hx : 60 ≤ x
      · rw [if_pos hx] at hR
        have hx' : ¬ nI x < nI 60 := nI_nlt (by omega) (by omega)
        have hno := nop_b (W := W) (show 20 ≤ x by omega)
        refine i_neg hx' (bnd_i ?_)
        rw [a4, show nI o - 1 = nI (o - 1) from pk_sub (b := 1) (by omega)]
        have k1 : Kp (fun a k => ¬ (a = 198 ∧ k = 112)) s (tI s 198 112 (nI (o - 1))) := kp_I (kp_r s) (by omega)
        refine r_qDrops (V := W ++ Wb) (wt_K a2 k1 (by omega) (fun k => by omega)) (cd_K a3 k1 (by omega) (fun k => by omega)) (by omega) (fun s2 k2 w2 c2 => ?_)
        have k12 : Kp SPl s s2 := kp_t (kp_m k1 (fun a k h => by unfold SPl at h; omega)) (kp_m k2 (fun a k h => by unfold SPl at h; omega))
        refine hnext j s2 (by omega) ⟨W, C ++ [x], o - 1, by omega, ⟨ma_K a1 k12 (fun a k h => by unfold SPl; omega), w2, by rw [← List.append_assoc]; exact c2, ?_, ⟨by omega, by omega⟩, ?_, kp_t a7 (kp_m k12 (fun a k h => by unfold SYq at h; unfold SPl; omega))⟩, hR⟩
        · rw [k2.1 198 112 (by omega), t_s]
        · simp only [List.length_append, List.length_cons, List.length_nil] at a6 ⊢
          omega
      · rw [if_neg hx] at hR
        have hx' : nI x < nI 60 := nI_lt (by omega) (by omega)
        exact i_pos hx' (hQ s j (x :: W) C o (by omega) ⟨a1, a2, a3, a4, a5, by simp only [List.cons_append, List.length_cons]; omega, a7⟩ hR)
theorem r_toBr {tk : Nat} {Wb Cb : List Nat} {u0 : St} {p : Nat} {Q : St → Prop} (he : EnvR tk Wb u0) {W C : List Nat} {u : St} (hp : p ≤ 1600) (a2 : Wt' u (W ++ Wb)) (a3 : Cd u (Cb ++ C)) (a6 : (W ++ Wb).length + (Cb ++ C).length ≤ p) (a7 : Kp SYq u0 u) (hQ : ∀ u', Kp (fun a k => ¬ (a = 198 ∧ (k = 109 ∨ k = 111)) ∧ a ≠ 282) u u' → Wt' u' (W.dropWhile (fun x => !isBr x) ++ Wb) → Cd u' (Cb ++ (C ++ abv W)) → Q u') : s_X12_qDropsToBracket Q u := by
  unfold s_X12_qDropsToBracket sX12_qDropsToBracket_p0
  refine lpx (fun n s => sX12_qDropsToBracket_p0n Q n s) (fun j s => ∃ W' C', j = W'.length ∧ Kp (fun a k => ¬ (a = 198 ∧ (k = 109 ∨ k = 111)) ∧ a ≠ 282) u s ∧ Wt' s (W' ++ Wb) ∧ Cd s (Cb ++ C') ∧ (W' ++ Wb).length + (Cb ++ C').length ≤ p ∧ W'.dropWhile (fun x => !isBr x) = W.dropWhile (fun x => !isBr x) ∧ C' ++ abv W' = C ++ abv W) ?_ W.length u ⟨W, C, rfl, kp_r u, a2, a3, a6, rfl, rfl⟩
  rintro n j s ⟨W', C', hj, hK, w1, c1, l1, e1, e2⟩ hnext
  show sX12_qDropsToBracket_p0b Q (sX12_qDropsToBracket_p0n Q n) s
  unfold sX12_qDropsToBracket_p0b
  have eg := er_get he a7
  have e113 : s.1 198 113 = nI Wb.length := by rw [hK.1 198 113 (by omega)]; exact eg.1
  have hlw : (W' ++ Wb).length = W'.length + Wb.length := List.length_append
  rw [w1.1, e113]
  cases W' with
  | nil =>
    refine i_pos (nI_le (by simp) (by simp only [List.nil_append] at l1; omega)) (hQ s hK ?_ ?_)
    · rw [← e1]
      exact w1
    · rw [← e2]
      show Cd s (Cb ++ (C' ++ []))
      rw [List.append_nil]
      exact c1
  | cons x W' =>
    have ht := wt_top (V := W' ++ Wb) w1
    simp only [List.cons_append, List.length_cons] at l1 hlw ht hj
    have hlw2 : (W' ++ Wb).length = W'.length + Wb.length := List.length_append
    refine i_neg (nI_ge (by simp only [List.cons_append, List.length_cons]; omega) (by simp only [List.cons_append, List.length_cons]; omega)) ?_
    have e3 : nI (x :: W' ++ Wb).length - 1 = nI (W' ++ Wb).length := pk_sub (a := (W' ++ Wb).length + 1) (b := 1) (by omega)
    rw [e3, nI_clamp (by omega), ht.1]
    refine ⟨vp_in_nI (by omega) (by omega), ?_⟩
    refine r_qIsBracket ht.2 (fun hy => i_neg (by first | decide | (unfold vp_in; decide)) (hQ s hK ?_ ?_)) (fun hn => i_pos rfl ?_)
    · rw [← e1, List.dropWhile_cons, hy]
      exact w1
    · rw [← e2]
      have : abv (x :: W') = [] := by
        unfold abv
        rw [List.takeWhile_cons, hy]
        rfl
      rw [this, List.append_nil]
      exact c1
    · refine r_qDrops (V := W' ++ Wb) w1 c1 (by omega) (fun s2 k2 w2 c2 => hnext W'.length s2 (by omega) ⟨W', C' ++ [x], rfl, kp_t hK k2, w2, by rw [← List.append_assoc]; exact c2, ?_, ?_, ?_⟩)
      · simp only [List.length_append, List.length_cons, List.length_nil] at l1 ⊢
        omega
      · rw [← e1, List.dropWhile_cons, hn]
        rfl
      · rw [← e2]
        have : abv (x :: W') = x :: abv W' := by
          unfold abv
          rw [List.takeWhile_cons, hn]
          rfl
        rw [this]
        simp
