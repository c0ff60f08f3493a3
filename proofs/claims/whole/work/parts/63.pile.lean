/-! ===== the reference's pile ===== -/
def StkL (f : Nat → Int64) : List Int → Prop
  | [] => True
  | x :: st => f st.length = lI x ∧ StkL f st
theorem stkL_c {f f' : Nat → Int64} : ∀ (st : List Int), (∀ i, i < st.length → f' i = f i) → StkL f st → StkL f' st
  | [], _, _ => trivial
  | x :: st, h, hs => ⟨(h st.length (by simp)).trans hs.1, stkL_c st (fun i hi => h i (by simp only [List.length_cons]; omega)) hs.2⟩
def Pil (u : St) (st : List Int) : Prop := u.1 198 115 = nI st.length ∧ StkL (u.2.1 284) st
theorem tL_s (u : St) (a k : Nat) (v : Int64) : (tL u a k v).2.1 a k = v := by
  show (if a = a ∧ k = k then v else _) = v
  first | refine i_pos ⟨rfl, rfl⟩ ?_ | rw [if_pos ⟨rfl, rfl⟩]
theorem tL_n (u : St) {a k k' : Nat} (v : Int64) (h : k' ≠ k) : (tL u a k v).2.1 a k' = u.2.1 a k' := by
  show (if a = a ∧ k' = k then v else _) = _
  first | refine i_neg (fun e => h e.2) ?_ | rw [if_neg (fun e => h e.2)]
theorem r_puts {z : Int} {st : List Int} {S : Nat → Nat → Prop} {u0 : St} {Q : St → Prop} {u : St} (hp : Pil u st) (hl : st.length < 1700) (hK : Kp S u0 u) (hS : ¬ S 198 115) (hQ : ∀ u', Pil u' (z :: st) → Kp S u0 u' → (∀ a k, ¬ (a = 198 ∧ k = 115) → u'.1 a k = u.1 a k) → Q u') : s_X12_qPuts (lI z) Q u := by
  unfold s_X12_qPuts
  rw [hp.1]
  refine ⟨vp_in_nI hl (by omega), ?_⟩
  rw [nI_clamp (by omega)]
  show Q (tI (tL u 284 st.length (lI z)) 198 115 ((tL u 284 st.length (lI z)).1 198 115 + 1))
  have e : (tL u 284 st.length (lI z)).1 198 115 + 1 = nI (st.length + 1) := by
    show u.1 198 115 + 1 = _
    rw [hp.1, nI_1]
  rw [e]
  refine hQ _ ⟨t_s _ _ _ _, tL_s _ _ _ _, stkL_c st (fun i hi => tL_n _ _ (by omega)) hp.2⟩ (kp_I (kp_L hK) hS) (fun a k h => ?_)
  rw [t_n]
  · rfl
  · omega
theorem r_clip {z : Int} {Q : Int64 → St → Prop} {u : St} (h1 : -4000000000000000000 ≤ z) (h2 : z < 4000000000000000000) (h : Q (lI (clip z)) u) : s_X12_qClip (lI z) Q u := by
  unfold s_X12_qClip
  simp only [lg_cmp_le, lg_cmp_ge]
  rw [l_m, l_M]
  first | rw [ite_e (lI_le (by omega) (by omega) (by omega) (by omega))] | rw [lI_le (by omega) (by omega) (by omega) (by omega)]
  first | rw [ite_e (lI_le (by omega) (by omega) (by omega) (by omega))] | rw [lI_le (by omega) (by omega) (by omega) (by omega)]
  unfold clip at h
  by_cases c1 : 1000000 < z
  · rw [if_pos c1] at h
    first | refine i_neg (by omega) ?_ | rw [if_neg (by omega)]
    exact h
  · rw [if_neg c1] at h
    first | refine i_pos (by omega) ?_ | rw [if_pos (by omega)]
    by_cases c2 : z < -1000000
    · rw [if_pos c2] at h
      first | refine i_neg (by omega) ?_ | rw [if_neg (by omega)]
      exact h
    · rw [if_neg c2] at h
      first | refine i_pos (by omega) ?_ | rw [if_pos (by omega)]
      exact h
theorem r_floor {a b : Int} {Q : Int64 → St → Prop} {u : St} (ha : -2000000 ≤ a) (ha2 : a ≤ 2000000) (hb : -2000000 ≤ b) (hb2 : b ≤ 2000000) (h : Q (lI (flo a b)) u) : s_X12_qFloor (lI a) (lI b) Q u := by
  have hq := Int.natAbs_tdiv_le_natAbs a b
  have hm := Int.tdiv_mul_add_tmod a b
  have hm2 : (a.tmod b).natAbs ≤ a.natAbs := by
    rw [Int.natAbs_tmod]
    exact Nat.mod_le _ _
  unfold s_X12_qFloor sX12_qFloor_p32 sX12_qFloor_p43
  rw [lI_div (by omega) (by omega) (by omega) (by omega), lI_mul, lI_sub, l_1, lI_sub, l_0]
  have g1 : (lI b = lI 0) = (b = 0) := lI_eq (by omega) (by omega) (by omega) (by omega)
  have g2 : (lI (a - a.tdiv b * b) = lI 0) = (a - a.tdiv b * b = 0) := lI_eq (by omega) (by omega) (by omega) (by omega)
  have g3 : (lI 0 ≤ lI a) = (0 ≤ a) := lI_le (by omega) (by omega) (by omega) (by omega)
  have g4 : (lI 0 ≤ lI b) = (0 ≤ b) := lI_le (by omega) (by omega) (by omega) (by omega)
  simp only [lg_cmp_eq, lg_cmp_ge, g1, g2, g3, g4]
  unfold flo at h
  by_cases c0 : b = 0
  · rw [if_pos c0] at h
    first | refine i_pos c0 ?_ | rw [if_pos c0]
    exact h
  rw [if_neg c0] at h
  first | refine i_neg c0 ?_ | rw [if_neg c0]
  refine ⟨c0, c0, ?_⟩
  have h01 : ¬ (0 : Int32) = 1 := by first | decide | (unfold vp_in; decide)
  have h10 : ¬ (1 : Int32) = 0 := by first | decide | (unfold vp_in; decide)
  by_cases c1 : a - a.tdiv b * b = 0
  · first | refine i_pos c1 ?_ | rw [if_pos c1]
    rw [if_neg (by omega)] at h
    exact h
  first | refine i_neg c1 ?_ | rw [if_neg c1]
  have ha0 : a ≠ 0 := by
    intro e
    rw [e, Int.zero_tdiv] at c1
    omega
  by_cases c2 : 0 ≤ a
  · by_cases c3 : 0 ≤ b
    · rw [if_neg (by omega)] at h
      simp only [c2, c3, if_true]
      exact h
    · rw [if_pos (by omega)] at h
      simp only [c2, c3, if_true, if_false, h01]
      exact h
  · by_cases c3 : 0 ≤ b
    · rw [if_pos (by omega)] at h
      simp only [c2, c3, if_true, if_false, h10]
      exact h
    · rw [if_neg (by omega)] at h
      simp only [c2, c3, if_true, if_false]
      exact h
theorem ty_two {c : Nat} {ts ts' : List Bool} (h : tyE c ts = some ts') (hc : c ≤ 11) : 1 ≤ c ∧ 2 ≤ ts.length := by
  unfold tyE at h
  rw [if_neg (by omega), if_neg (by omega), if_neg (by omega), if_neg (by omega), if_neg (by omega)] at h
  by_cases c0 : c = 0
  · rw [if_pos c0] at h
    exact absurd h (by simp)
  refine ⟨by omega, ?_⟩
  rw [if_neg c0] at h
  by_cases c1 : c ≤ 9
  · rw [if_pos c1] at h
    match ts, h with
    | _ :: _ :: _, _ => simp
    | [], h => exact absurd h (by simp)
    | [true], h => exact absurd h (by simp)
    | [false], h => exact absurd h (by simp)
  · rw [if_neg c1, if_pos hc] at h
    match ts, h with
    | _ :: _ :: _, _ => simp
    | [], h => exact absurd h (by simp)
    | [true], h => exact absurd h (by simp)
    | [false], h => exact absurd h (by simp)
theorem r_joins {c : Nat} {b a : Int} {st : List Int} {S : Nat → Nat → Prop} {u0 : St} {Q : St → Prop} {u : St} (hp : Pil u (b :: a :: st)) (hl : st.length + 2 < 1700) (hc : 1 ≤ c ∧ c ≤ 11) (ha : -1000000 ≤ a ∧ a ≤ 1000000) (hb : -1000000 ≤ b ∧ b ≤ 1000000) (hK : Kp S u0 u) (hS : ¬ S 198 115) (hQ : ∀ u', Pil u' (jo c a b :: st) → Kp S u0 u' → (∀ a k, ¬ (a = 198 ∧ k = 115) → u'.1 a k = u.1 a k) → Q u') : s_X12_qJoins (nI c) Q u := by
  unfold s_X12_qJoins
  have e0 : u.1 198 115 = nI (st.length + 2) := hp.1
  have e1 : nI (st.length + 2) - 1 = nI (st.length + 1) := nI_pred _
  have e2 : nI (st.length + 2) - 2 = nI st.length := pk_sub (a := st.length + 2) (b := 2) (by omega)
  rw [e0, e1, e2]
  refine ⟨vp_in_nI (by omega) (by omega), vp_in_nI (by omega) (by omega), ?_⟩
  rw [nI_clamp (by omega), nI_clamp (by omega)]
  have p1 : u.2.1 284 (st.length + 1) = lI b := hp.2.1
  have p2 : u.2.1 284 st.length = lI a := hp.2.2.1
  rw [p1, p2]
  have hp2 : Pil (tI u 198 115 (nI st.length)) st := ⟨t_s _ _ _ _, hp.2.2.2⟩
  have hK2 : Kp S u0 (tI u 198 115 (nI st.length)) := kp_I hK hS
  have put : ∀ z, z = jo c a b → s_X12_qPuts (lI z) (fun u' => Q u') (tI u 198 115 (nI st.length)) := by
    rintro z rfl
    refine r_puts hp2 (by omega) hK2 hS (fun u' q1 q2 q3 => hQ u' q1 q2 (fun a' k' h => ?_))
    rw [q3 a' k' h, t_n]
    omega
  have hm : -4000000000000 ≤ a * b ∧ a * b ≤ 4000000000000 := by
    have h3 : (a * b).natAbs ≤ 2000000 * 2000000 := by
      rw [Int.natAbs_mul]
      exact Nat.mul_le_mul (by omega) (by omega)
    omega
  show (if nI c = 1 then _ else _)
  simp only [lg_cmp_le, lg_cmp_ge, lg_cmp_eq, lI_add, lI_sub, lI_mul, l_0, l_1]
  have g1 : (lI a ≤ lI b) = (a ≤ b) := lI_le (by omega) (by omega) (by omega) (by omega)
  have g2 : (lI b ≤ lI a) = (b ≤ a) := lI_le (by omega) (by omega) (by omega) (by omega)
  have g3 : (lI a = lI b) = (a = b) := lI_eq (by omega) (by omega) (by omega) (by omega)
  have g4 : (lI (a + b) ≤ lI 0) = (a + b ≤ 0) := lI_le (by omega) (by omega) (by omega) (by omega)
  simp only [g1, g2, g3, g4]
  have h : c = 1 ∨ c = 2 ∨ c = 3 ∨ c = 4 ∨ c = 5 ∨ c = 6 ∨ c = 7 ∨ c = 8 ∨ c = 9 ∨ c = 10 ∨ c = 11 := by omega
  rcases h with rfl | rfl | rfl | rfl | rfl | rfl | rfl | rfl | rfl | rfl | rfl
  · first | refine i_pos (by first | decide | (unfold vp_in; decide)) ?_ | rw [if_pos (by first | decide | (unfold vp_in; decide))]
    exact r_clip (by omega) (by omega) (put _ (by simp [jo]))
  · first | refine i_neg (by first | decide | (unfold vp_in; decide)) ?_ | rw [if_neg (by first | decide | (unfold vp_in; decide))]
    first | refine i_pos (by first | decide | (unfold vp_in; decide)) ?_ | rw [if_pos (by first | decide | (unfold vp_in; decide))]
    exact r_clip (by omega) (by omega) (put _ (by simp [jo]))
  · first | refine i_neg (by first | decide | (unfold vp_in; decide)) ?_ | rw [if_neg (by first | decide | (unfold vp_in; decide))]
    first | refine i_neg (by first | decide | (unfold vp_in; decide)) ?_ | rw [if_neg (by first | decide | (unfold vp_in; decide))]
    first | refine i_pos (by first | decide | (unfold vp_in; decide)) ?_ | rw [if_pos (by first | decide | (unfold vp_in; decide))]
    exact r_clip (by omega) (by omega) (put _ (by simp [jo]))
  · first | refine i_neg (by first | decide | (unfold vp_in; decide)) ?_ | rw [if_neg (by first | decide | (unfold vp_in; decide))]
    first | refine i_neg (by first | decide | (unfold vp_in; decide)) ?_ | rw [if_neg (by first | decide | (unfold vp_in; decide))]
    first | refine i_neg (by first | decide | (unfold vp_in; decide)) ?_ | rw [if_neg (by first | decide | (unfold vp_in; decide))]
    first | refine i_pos (by first | decide | (unfold vp_in; decide)) ?_ | rw [if_pos (by first | decide | (unfold vp_in; decide))]
    exact r_floor (by omega) (by omega) (by omega) (by omega) (put _ (by simp [jo]))
  · first | refine i_neg (by first | decide | (unfold vp_in; decide)) ?_ | rw [if_neg (by first | decide | (unfold vp_in; decide))]
    first | refine i_neg (by first | decide | (unfold vp_in; decide)) ?_ | rw [if_neg (by first | decide | (unfold vp_in; decide))]
    first | refine i_neg (by first | decide | (unfold vp_in; decide)) ?_ | rw [if_neg (by first | decide | (unfold vp_in; decide))]
    first | refine i_neg (by first | decide | (unfold vp_in; decide)) ?_ | rw [if_neg (by first | decide | (unfold vp_in; decide))]
    first | refine i_pos (by first | decide | (unfold vp_in; decide)) ?_ | rw [if_pos (by first | decide | (unfold vp_in; decide))]
    have e : jo 5 a b = if a < b then a else b := by simp [jo]
    by_cases hz : b ≤ a
    · first | refine i_pos hz ?_ | rw [if_pos hz]
      exact put b (by rw [e, if_neg (by omega)])
    · first | refine i_neg hz ?_ | rw [if_neg hz]
      exact put a (by rw [e, if_pos (by omega)])
  · first | refine i_neg (by first | decide | (unfold vp_in; decide)) ?_ | rw [if_neg (by first | decide | (unfold vp_in; decide))]
    first | refine i_neg (by first | decide | (unfold vp_in; decide)) ?_ | rw [if_neg (by first | decide | (unfold vp_in; decide))]
    first | refine i_neg (by first | decide | (unfold vp_in; decide)) ?_ | rw [if_neg (by first | decide | (unfold vp_in; decide))]
    first | refine i_neg (by first | decide | (unfold vp_in; decide)) ?_ | rw [if_neg (by first | decide | (unfold vp_in; decide))]
    first | refine i_neg (by first | decide | (unfold vp_in; decide)) ?_ | rw [if_neg (by first | decide | (unfold vp_in; decide))]
    first | refine i_pos (by first | decide | (unfold vp_in; decide)) ?_ | rw [if_pos (by first | decide | (unfold vp_in; decide))]
    have e : jo 6 a b = if b < a then a else b := by simp [jo]
    by_cases hz : a ≤ b
    · first | refine i_pos hz ?_ | rw [if_pos hz]
      exact put b (by rw [e, if_neg (by omega)])
    · first | refine i_neg hz ?_ | rw [if_neg hz]
      exact put a (by rw [e, if_pos (by omega)])
  · first | refine i_neg (by first | decide | (unfold vp_in; decide)) ?_ | rw [if_neg (by first | decide | (unfold vp_in; decide))]
    first | refine i_neg (by first | decide | (unfold vp_in; decide)) ?_ | rw [if_neg (by first | decide | (unfold vp_in; decide))]
    first | refine i_neg (by first | decide | (unfold vp_in; decide)) ?_ | rw [if_neg (by first | decide | (unfold vp_in; decide))]
    first | refine i_neg (by first | decide | (unfold vp_in; decide)) ?_ | rw [if_neg (by first | decide | (unfold vp_in; decide))]
    first | refine i_neg (by first | decide | (unfold vp_in; decide)) ?_ | rw [if_neg (by first | decide | (unfold vp_in; decide))]
    first | refine i_neg (by first | decide | (unfold vp_in; decide)) ?_ | rw [if_neg (by first | decide | (unfold vp_in; decide))]
    first | refine i_pos (by first | decide | (unfold vp_in; decide)) ?_ | rw [if_pos (by first | decide | (unfold vp_in; decide))]
    have e : jo 7 a b = if a < b then 1 else 0 := by simp [jo]
    by_cases hz : b ≤ a
    · first | refine i_pos hz ?_ | rw [if_pos hz]
      exact put 0 (by rw [e, if_neg (by omega)])
    · first | refine i_neg hz ?_ | rw [if_neg hz]
      exact put 1 (by rw [e, if_pos (by omega)])
  · first | refine i_neg (by first | decide | (unfold vp_in; decide)) ?_ | rw [if_neg (by first | decide | (unfold vp_in; decide))]
    first | refine i_neg (by first | decide | (unfold vp_in; decide)) ?_ | rw [if_neg (by first | decide | (unfold vp_in; decide))]
    first | refine i_neg (by first | decide | (unfold vp_in; decide)) ?_ | rw [if_neg (by first | decide | (unfold vp_in; decide))]
    first | refine i_neg (by first | decide | (unfold vp_in; decide)) ?_ | rw [if_neg (by first | decide | (unfold vp_in; decide))]
    first | refine i_neg (by first | decide | (unfold vp_in; decide)) ?_ | rw [if_neg (by first | decide | (unfold vp_in; decide))]
    first | refine i_neg (by first | decide | (unfold vp_in; decide)) ?_ | rw [if_neg (by first | decide | (unfold vp_in; decide))]
    first | refine i_neg (by first | decide | (unfold vp_in; decide)) ?_ | rw [if_neg (by first | decide | (unfold vp_in; decide))]
    first | refine i_pos (by first | decide | (unfold vp_in; decide)) ?_ | rw [if_pos (by first | decide | (unfold vp_in; decide))]
    have e : jo 8 a b = if b < a then 1 else 0 := by simp [jo]
    by_cases hz : a ≤ b
    · first | refine i_pos hz ?_ | rw [if_pos hz]
      exact put 0 (by rw [e, if_neg (by omega)])
    · first | refine i_neg hz ?_ | rw [if_neg hz]
      exact put 1 (by rw [e, if_pos (by omega)])
  · first | refine i_neg (by first | decide | (unfold vp_in; decide)) ?_ | rw [if_neg (by first | decide | (unfold vp_in; decide))]
    first | refine i_neg (by first | decide | (unfold vp_in; decide)) ?_ | rw [if_neg (by first | decide | (unfold vp_in; decide))]
    first | refine i_neg (by first | decide | (unfold vp_in; decide)) ?_ | rw [if_neg (by first | decide | (unfold vp_in; decide))]
    first | refine i_neg (by first | decide | (unfold vp_in; decide)) ?_ | rw [if_neg (by first | decide | (unfold vp_in; decide))]
    first | refine i_neg (by first | decide | (unfold vp_in; decide)) ?_ | rw [if_neg (by first | decide | (unfold vp_in; decide))]
    first | refine i_neg (by first | decide | (unfold vp_in; decide)) ?_ | rw [if_neg (by first | decide | (unfold vp_in; decide))]
    first | refine i_neg (by first | decide | (unfold vp_in; decide)) ?_ | rw [if_neg (by first | decide | (unfold vp_in; decide))]
    first | refine i_neg (by first | decide | (unfold vp_in; decide)) ?_ | rw [if_neg (by first | decide | (unfold vp_in; decide))]
    first | refine i_pos (by first | decide | (unfold vp_in; decide)) ?_ | rw [if_pos (by first | decide | (unfold vp_in; decide))]
    have e : jo 9 a b = if a = b then 1 else 0 := by simp [jo]
    by_cases hz : a = b
    · first | refine i_pos hz ?_ | rw [if_pos hz]
      exact put 1 (by rw [e, if_pos hz])
    · first | refine i_neg hz ?_ | rw [if_neg hz]
      exact put 0 (by rw [e, if_neg hz])
  · first | refine i_neg (by first | decide | (unfold vp_in; decide)) ?_ | rw [if_neg (by first | decide | (unfold vp_in; decide))]
    first | refine i_neg (by first | decide | (unfold vp_in; decide)) ?_ | rw [if_neg (by first | decide | (unfold vp_in; decide))]
    first | refine i_neg (by first | decide | (unfold vp_in; decide)) ?_ | rw [if_neg (by first | decide | (unfold vp_in; decide))]
    first | refine i_neg (by first | decide | (unfold vp_in; decide)) ?_ | rw [if_neg (by first | decide | (unfold vp_in; decide))]
    first | refine i_neg (by first | decide | (unfold vp_in; decide)) ?_ | rw [if_neg (by first | decide | (unfold vp_in; decide))]
    first | refine i_neg (by first | decide | (unfold vp_in; decide)) ?_ | rw [if_neg (by first | decide | (unfold vp_in; decide))]
    first | refine i_neg (by first | decide | (unfold vp_in; decide)) ?_ | rw [if_neg (by first | decide | (unfold vp_in; decide))]
    first | refine i_neg (by first | decide | (unfold vp_in; decide)) ?_ | rw [if_neg (by first | decide | (unfold vp_in; decide))]
    first | refine i_neg (by first | decide | (unfold vp_in; decide)) ?_ | rw [if_neg (by first | decide | (unfold vp_in; decide))]
    first | refine i_pos (by first | decide | (unfold vp_in; decide)) ?_ | rw [if_pos (by first | decide | (unfold vp_in; decide))]
    exact put (a * b) (by simp [jo])
  · first | refine i_neg (by first | decide | (unfold vp_in; decide)) ?_ | rw [if_neg (by first | decide | (unfold vp_in; decide))]
    first | refine i_neg (by first | decide | (unfold vp_in; decide)) ?_ | rw [if_neg (by first | decide | (unfold vp_in; decide))]
    first | refine i_neg (by first | decide | (unfold vp_in; decide)) ?_ | rw [if_neg (by first | decide | (unfold vp_in; decide))]
    first | refine i_neg (by first | decide | (unfold vp_in; decide)) ?_ | rw [if_neg (by first | decide | (unfold vp_in; decide))]
    first | refine i_neg (by first | decide | (unfold vp_in; decide)) ?_ | rw [if_neg (by first | decide | (unfold vp_in; decide))]
    first | refine i_neg (by first | decide | (unfold vp_in; decide)) ?_ | rw [if_neg (by first | decide | (unfold vp_in; decide))]
    first | refine i_neg (by first | decide | (unfold vp_in; decide)) ?_ | rw [if_neg (by first | decide | (unfold vp_in; decide))]
    first | refine i_neg (by first | decide | (unfold vp_in; decide)) ?_ | rw [if_neg (by first | decide | (unfold vp_in; decide))]
    first | refine i_neg (by first | decide | (unfold vp_in; decide)) ?_ | rw [if_neg (by first | decide | (unfold vp_in; decide))]
    first | refine i_neg (by first | decide | (unfold vp_in; decide)) ?_ | rw [if_neg (by first | decide | (unfold vp_in; decide))]
    have e : jo 11 a b = if 0 < a + b then 1 else 0 := by simp [jo]
    by_cases hz : a + b ≤ 0
    · first | refine i_pos hz ?_ | rw [if_pos hz]
      exact put 0 (by rw [e, if_neg (by omega)])
    · first | refine i_neg hz ?_ | rw [if_neg hz]
      exact put 1 (by rw [e, if_pos (by omega)])
theorem getD_mem {c : List Nat} {i : Nat} (h : i < c.length) : c.getD i 0 ∈ c := by
  rw [List.getD_eq_getElem?_getD, List.getElem?_eq_getElem h]
  exact List.getElem_mem h
theorem drop_getD {c : List Nat} {k : Nat} (h : k < c.length) : c.drop k = c.getD k 0 :: c.drop (k + 1) := by
  rw [List.drop_eq_getElem_cons h]
  simp [List.getD_eq_getElem?_getD, h]
/-- the worth of goes or bakes, as the reference reckons it -/
theorem r_codes {w fr : Nat} {vf : Int32} {c : List Nat} {F : Nat → Int} {Q : Int64 → St → Prop} {u : St} (hw : w < 2) (hf : u.1 238 (2 + w) = nI fr) (he : u.1 239 (2 + w) = nI (fr + c.length)) (hl : fr + c.length ≤ 1600) (hc : ∀ i, i < c.length → u.1 240 (1600 + (fr + i)) = nI (c.getD i 0)) (hp : ∀ t ∈ c, 1000 ≤ t ∨ (40 ≤ t ∧ t < 53) ∨ t ≤ 9) (hG : GF F) (hg : Good false 64 c)
    (H : ∀ u', Kp (fun a k => ¬ (a = 198 ∧ (k = 57 ∨ k = 115))) u u' → u'.1 198 57 = nI w → ∀ k (Q' : Int64 → St → Prop), 40 + k ∈ c → k < 13 → Q' (lI (F k)) u' → s_X12_qPartOf (nI k) vf Q' u')
    (hQ : ∀ u', Kp (fun a k => ¬ (a = 198 ∧ (k = 57 ∨ k = 115))) u u' → Q (lI (valM F c)) u') : s_X12_codesTell (nI w) vf Q u := by
  have hv := good_val hG (Nat.le_refl 64) hg
  have hty : tyR c [] = some [false] := hg [] (by simp)
  have eA : (2 : Int32) + nI w = nI (2 + w) := nI_add 2 w
  unfold s_X12_codesTell
  show vp_in ((2 : Int32) + nI w) 4 ∧ sX12_codesTell_p19 (nI w) vf Q ((tI (tI u 198 57 (nI w)) 198 115 0).1 238 ((2 : Int32) + nI w).toNatClampNeg) (tI (tI u 198 57 (nI w)) 198 115 0)
  rw [eA, nI_clamp (by omega), t_n _ _ (by omega), t_n _ _ (by omega), hf]
  refine ⟨vp_in_nI (by omega) (by omega), ?_⟩
  unfold sX12_codesTell_p19
  refine for_up (fun n i s => sX12_codesTell_p19n (nI w) vf Q n i s) (fr + c.length) (fun i s => ∃ (st : List Int) (ts : List Bool), Pil s st ∧ Tyd st ts ∧ tyR (c.drop (i - fr)) ts = some [false] ∧ ruM F (c.drop (i - fr)) st = [valM F c] ∧ fr ≤ i ∧ st.length ≤ i - fr ∧ Kp (fun a k => ¬ (a = 198 ∧ (k = 57 ∨ k = 115))) u s ∧ s.1 198 57 = nI w) ?_ fr _ (by omega) ⟨[], [], ⟨t_s _ _ _ _, trivial⟩, trivial, by simpa using hty, by simpa using hv.1, by omega, by simp, kp_I (kp_I (kp_r u) (by simp)) (by simp), by rw [t_n _ _ (by omega), t_s]⟩
  rintro n i s hi ⟨st, ts, hP, hT, h1, h2, h3, h4, hK, h57⟩ hnext
  show sX12_codesTell_p19b (nI w) vf Q (sX12_codesTell_p19n (nI w) vf Q n) (nI i) s
  unfold sX12_codesTell_p19b
  rw [eA, nI_clamp (by omega), (hK.1 239 (2 + w) (by omega)).trans he]
  refine ⟨vp_in_nI (by omega) (by omega), ?_⟩
  by_cases hie : i = fr + c.length
  · first | refine i_pos (by rw [hie]; exact nI_le (Nat.le_refl _) (by omega)) ?_ | rw [if_pos (by rw [hie]; exact nI_le (Nat.le_refl _) (by omega))]
    refine ⟨by first | decide | (unfold vp_in; decide), ?_⟩
    have e : c.drop (i - fr) = [] := by rw [List.drop_eq_nil_iff]; omega
    rw [e] at h2
    have h2' : st = [valM F c] := h2
    subst h2'
    have e3 : s.2.1 284 0 = lI (valM F c) := hP.2.1
    show Q (s.2.1 284 0) s
    rw [e3]
    exact hQ s hK
  first | refine i_neg (nI_ge (by omega) (by omega)) ?_ | rw [if_neg (nI_ge (by omega) (by omega))]
  have eB : (1600 : Int32) + nI i = nI (1600 + i) := nI_add 1600 i
  have hkl : i - fr < c.length := by omega
  have et : s.1 240 (1600 + i) = nI (c.getD (i - fr) 0) := by
    rw [hK.1 240 (1600 + i) (by omega), ← hc (i - fr) hkl, show 1600 + (fr + (i - fr)) = 1600 + i by omega]
  rw [eB, nI_clamp (by omega), et]
  refine ⟨vp_in_nI (by omega) (by omega), ?_⟩
  have hmem := getD_mem hkl
  have hpt := hp _ hmem
  rw [drop_getD hkl] at h1 h2
  generalize c.getD (i - fr) 0 = t at hmem hpt h1 h2
  have hsub : i + 1 - fr = i - fr + 1 := by omega
  have h1' : (tyE t ts).bind (tyR (c.drop (i - fr + 1))) = some [false] := h1
  have h2' : ruM F (c.drop (i - fr + 1)) (evM F t st) = [valM F c] := h2
  cases hty2 : tyE t ts with
  | none => rw [hty2] at h1'; exact absurd h1' (by simp)
  | some ts2 =>
  rw [hty2] at h1'
  have hev := (ev_ok hG hT hty2).1
  have hgo : ∀ u2, Pil u2 (evM F t st) → (evM F t st).length ≤ st.length + 1 → Kp (fun a k => ¬ (a = 198 ∧ (k = 57 ∨ k = 115))) u u2 → u2.1 198 57 = nI w → sX12_codesTell_p95 (nI w) vf (nI i) Q (sX12_codesTell_p19n (nI w) vf Q n) u2 := by
    intro u2 a1 a2 a3 a4
    show sX12_codesTell_p19n (nI w) vf Q n (nI i + 1) u2
    rw [nI_1]
    refine hnext (by omega) u2 ⟨evM F t st, ts2, a1, hev, ?_, ?_, by omega, by omega, a3, a4⟩
    · rw [hsub]; exact h1'
    · rw [hsub]; exact h2'
  have hrng : t < 2147483648 := by
    by_cases ht : 1000 ≤ t
    · unfold tyE at hty2
      rw [if_pos ht] at hty2
      by_cases h5 : t ≤ 10999 ∧ ts.length < 64
      · omega
      · rw [if_neg h5] at hty2
        exact absurd hty2 (by simp)
    · omega
  rcases hpt with hpt | hpt | hpt
  · first | refine i_neg (nI_nlt (b := 1000) hpt hrng) ?_ | rw [if_neg (nI_nlt (b := 1000) hpt hrng)]
    have e5 : (nI t - 1000).toInt64 = lI ((t - 1000 : Nat) : Int) := by
      rw [show nI t - 1000 = nI (t - 1000) from pk_sub (b := 1000) hpt, nI_l (by omega), lN_lI (by omega)]
    have e6 : evM F t st = ((t - 1000 : Nat) : Int) :: st := by unfold evM; rw [if_pos hpt]
    rw [e5]
    rw [e6] at hgo
    exact r_puts hP (by omega) hK (by simp) (fun u' q1 q2 q3 => hgo u' q1 (by simp) q2 (by rw [q3 198 57 (by omega)]; exact h57))
  · first | refine i_pos (nI_lt (b := 1000) (by omega) (by omega)) ?_ | rw [if_pos (nI_lt (b := 1000) (by omega) (by omega))]
    first | refine i_neg (nI_nlt (b := 40) hpt.1 hrng) ?_ | rw [if_neg (nI_nlt (b := 40) hpt.1 hrng)]
    rw [show nI t - 40 = nI (t - 40) from pk_sub (b := 40) hpt.1]
    have e6 : evM F t st = F (t - 40) :: st := by
      unfold evM
      first | refine i_neg (by omega) ?_ | rw [if_neg (by omega)]
      first | refine i_neg (by omega) ?_ | rw [if_neg (by omega)]
      first | refine i_pos hpt.1 ?_ | rw [if_pos hpt.1]
    rw [e6] at hgo
    refine H s hK h57 (t - 40) _ (by rw [show 40 + (t - 40) = t by omega]; exact hmem) (by omega) ?_
    exact r_puts hP (by omega) hK (by simp) (fun u' q1 q2 q3 => hgo u' q1 (by simp) q2 (by rw [q3 198 57 (by omega)]; exact h57))
  · first | refine i_pos (nI_lt (b := 1000) (by omega) (by omega)) ?_ | rw [if_pos (nI_lt (b := 1000) (by omega) (by omega))]
    first | refine i_pos (nI_lt (b := 40) (by omega) (by omega)) ?_ | rw [if_pos (nI_lt (b := 40) (by omega) (by omega))]
    have h6 := ty_two hty2 (by omega)
    have hlen := tyd_len hT
    match st, ts, hT, hP, hgo, h4, hlen with
    | b :: a :: r, tb :: ta :: tr, hT, hP, hgo, h4, hlen =>
      have e6 : evM F t (b :: a :: r) = jo t a b :: r := by
        unfold evM
        first | refine i_neg (by omega) ?_ | rw [if_neg (by omega)]
        first | refine i_neg (by omega) ?_ | rw [if_neg (by omega)]
        first | refine i_neg (by omega) ?_ | rw [if_neg (by omega)]
        first | refine i_neg (by omega) ?_ | rw [if_neg (by omega)]
        first | refine i_neg (by omega) ?_ | rw [if_neg (by omega)]
      rw [e6] at hgo
      simp only [List.length_cons] at h4
      exact r_joins hP (by omega) ⟨h6.1, by omega⟩ ⟨hT.2.1.1, hT.2.1.2.1⟩ ⟨hT.1.1, hT.1.2.1⟩ hK (by simp) (fun u' q1 q2 q3 => hgo u' q1 (by simp) q2 (by rw [q3 198 57 (by omega)]; exact h57))
    | [], ts, hT, hP, hgo, h4, hlen => exact absurd h6.2 (by simp only [List.length_nil] at hlen; omega)
    | [x], ts, hT, hP, hgo, h4, hlen => exact absurd h6.2 (by simp only [List.length_cons, List.length_nil] at hlen; omega)
    | b :: a :: r, [], hT, hP, hgo, h4, hlen => exact hT.elim
    | b :: a :: r, [_], hT, hP, hgo, h4, hlen => exact hT.2.elim
theorem ty_rng {c : Nat} {ts ts' : List Bool} (h : tyE c ts = some ts') : c ≤ 10999 := by
  by_cases h5 : c ≤ 10999
  · exact h5
  · unfold tyE at h
    rw [if_pos (by omega), if_neg (by omega)] at h
    exact absurd h (by simp)
theorem tyR_rng : ∀ (c : List Nat) {ts ts' : List Bool}, tyR c ts = some ts' → ∀ t ∈ c, t ≤ 10999
  | [], _, _, _, t, ht => absurd ht (by simp)
  | x :: c, ts, ts', h, t, ht => by
    have h' : (tyE x ts).bind (tyR c) = some ts' := h
    cases he : tyE x ts with
    | none => rw [he] at h'; exact absurd h' (by simp)
    | some t2 =>
      rw [he] at h'
      rcases List.mem_cons.mp ht with rfl | ht
      · exact ty_rng he
      · exact tyR_rng c h' t ht
theorem good_rng {b : Bool} {c : List Nat} (h : Good b 64 c) : ∀ t ∈ c, t ≤ 10999 := tyR_rng c (h [] (by simp))
