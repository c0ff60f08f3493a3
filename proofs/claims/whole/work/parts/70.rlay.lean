/-! ===== the reference: goesTo, nextOf, laysWay ===== -/
theorem mPl_K {S : Nat → Nat → Prop} {u u' : St} {P : Pl} (h : mPl u P) (hK : Kp S u u') (hS : ∀ x k, (x = 198 ∧ (k = 44 ∨ k = 56)) ∨ ((x = 231 ∨ x = 232 ∨ x = 238 ∨ x = 239) ∧ 2 ≤ k) ∨ (x = 234 ∧ 18 ≤ k) ∨ (x = 235 ∧ 10 ≤ k) ∨ (x = 240 ∧ 1600 ≤ k) → S x k) : mPl u' P := by
  refine ⟨?_, fun f hf => ?_, fun c hc => ?_, fun h0 => ?_⟩
  · rw [hK.1 198 56 (hS _ _ (by omega)), hK.1 198 44 (hS _ _ (by omega)), hK.1 231 2 (hS _ _ (by omega)), hK.1 231 3 (hS _ _ (by omega)), hK.1 232 2 (hS _ _ (by omega)), hK.1 232 3 (hS _ _ (by omega))]
    exact h.1
  · rw [hK.1 234 _ (hS _ _ (by omega)), hK.1 234 _ (hS _ _ (by omega)), hK.2.1 233 (by omega)]
    exact h.2.1 f hf
  · rw [hK.1 235 _ (hS _ _ (by omega)), hK.1 235 _ (hS _ _ (by omega)), hK.2.1 233 (by omega)]
    exact h.2.2.1 c hc
  · have q := h.2.2.2 h0
    have mc : ∀ w d c, mCo u w d c → mCo u' w d c := by
      intro w d c hq
      unfold mCo at hq ⊢
      rw [hK.1 238 _ (hS _ _ (by omega)), hK.1 239 _ (hS _ _ (by omega))]
      rcases hq with hq | ⟨fr, a1, a2, a3, a4⟩
      · exact Or.inl hq
      · refine Or.inr ⟨fr, a1, a2, a3, fun i hi => ?_⟩
        rw [hK.1 240 _ (hS _ _ (by omega))]
        exact a4 i hi
    exact ⟨mc _ _ _ q.1, mc _ _ _ q.2⟩
theorem mLa_K {S : Nat → Nat → Prop} {u u' : St} {N : Nat → Nat} (h : mLa u N) (hK : Kp S u u') (hS : ∀ k, S 241 k) : mLa u' N := by
  intro k hk
  rw [hK.1 241 k (hS k)]
  exact h k hk
theorem dfl_gv {P : Pl} {N : Nat → Nat} {k d s : Nat} (hd : d / 6 < pr P) (h : pr P ≤ 6) (hg : pgo P = [1000, 46, 2]) : gv P N k d s = (d / 6 : Nat) - (pr P : Int) + 1 := by
  unfold gv
  rw [hg]
  show clip (((0 : Nat) : Int) - gF P N k d s 6) = _
  have e : gF P N k d s 6 = ((pr P - 1 - d / 6 : Nat) : Int) := rfl
  rw [e, clip_i (by omega) (by omega)]
  omega
theorem r_pieAt {P : Pl} {N : Nat → Nat} {d : Nat} {Q : Int32 → St → Prop} {u : St} (hP : VP P) (hM : mPl u P) (hL : mLa u N) (hd : d < 36) (hQ : Q (nI (pieAt P N d)) u) : s_X12_pieAt (nI d) Q u := by
  have h6 := hP.2.2.2.2.1
  unfold s_X12_pieAt
  refine r_farmAt hP hM hd ?_
  unfold pieAt at hQ
  cases e : fAt P d with
  | none =>
    first | refine i_pos (by rfl) ?_ | rw [if_pos (by rfl)]
    try (with_reducible rfl)
    rw [e] at hQ
    exact hQ
  | some f =>
    have hf := (fAt_some e).1
    rw [e] at hQ
    show (if nI f = -1 then _ else _)
    first | refine i_neg (by rw [x_ne1 (by omega)]; exact id) ?_ | rw [if_neg (by rw [x_ne1 (by omega)]; exact id)]
    try (with_reducible rfl)
    exact r_pieOf hL (by omega) hQ
theorem r_goesTo {P : Pl} {N : Nat → Nat} {k d s : Nat} {Q : Int64 → St → Prop} {u : St} (hP : VP P) (hN : VN P N) (h0 : pc P ≠ 0) (hk : k < pk P) (hd : cel P d) (hs : s ≤ 1000) (hM : mPl u P) (hL : mLa u N) (hc : u.1 198 59 = nI k) (hQ : ∀ u', Kp (fun a k => ¬ (a = 198 ∧ (k = 57 ∨ k = 60 ∨ k = 61 ∨ k = 115))) u u' → Q (lI (gv P N k d s)) u') : s_X12_goesTo (nI d) (nI s) Q u := by
  have h36 := cel_lt hP hd
  have h6 := hP.1
  have h7 := hP.2.1
  have hv := hP.2.2.2.1 h0
  unfold s_X12_goesTo
  simp only [bnd]
  rw [show ((2 : Int32)).toNatClampNeg = 2 by first | decide | (unfold vp_in; decide), show ((3 : Int32)).toNatClampNeg = 3 by first | decide | (unfold vp_in; decide)]
  refine ⟨by first | decide | (unfold vp_in; decide), ?_⟩
  have hK1 : Kp (fun a k => ¬ (a = 198 ∧ (k = 57 ∨ k = 60 ∨ k = 61 ∨ k = 115))) u (tI (tI u 198 60 (nI d)) 198 61 (nI s)) := kp_I (kp_I (kp_r u) (by omega)) (by omega)
  have e60 : (tI (tI u 198 60 (nI d)) 198 61 (nI s)).1 198 60 = nI d := by rw [t_n _ _ (by omega), t_s]
  have e61 : (tI (tI u 198 60 (nI d)) 198 61 (nI s)).1 198 61 = nI s := t_s _ _ _ _
  generalize (tI (tI u 198 60 (nI d)) 198 61 (nI s)) = w at hK1 e60 e61
  have hMw : mPl w P := mPl_K hM hK1 (fun x k h => by omega)
  have hLw : mLa w N := mLa_K hL hK1 (fun k => by omega)
  have hcw : w.1 198 59 = nI k := by rw [hK1.1 198 59 (by omega)]; exact hc
  rcases (hMw.2.2.2 h0).1 with ⟨e1, e2⟩ | ⟨fr, e1, e2, e3, e4⟩
  · rw [show w.1 238 2 = -1 from e1]
    first | refine i_pos rfl ?_ | rw [if_pos rfl]
    try (with_reducible rfl)
    refine ⟨by first | decide | (unfold vp_in; decide), ?_⟩
    rw [hMw.1.2.2.2.1]
    have hv2 : (nI d / 6 - nI (pr P) + 1).toInt64 = lI (gv P N k d s) := by
      rw [dfl_gv hd.2 h7 e2, show nI d / 6 = nI (d / 6) from pk_div (d := 6) (by omega) (by omega) (by omega), nI_iI (by omega), nI_iI (by omega), i_1, iI_sub, iI_add, iI_l (by omega) (by omega)]
    rw [hv2]
    exact hQ w hK1
  · rw [show w.1 238 2 = nI fr from e1]
    first | refine i_neg (by rw [x_ne1 (by omega)]; exact id) ?_ | rw [if_neg (by rw [x_ne1 (by omega)]; exact id)]
    try (with_reducible rfl)
    refine r_codes (w := 0) (fr := fr) (c := pgo P) (F := gF P N k d s) (by omega) e1 e2 e3 e4 (fun t ht => ?_) (gF_ok hP hN hk hd hs) hv.2.2.2.1 (fun u' hK' h57 i Q' hi hi13 hq => ?_) (fun u' hK' => hQ u' (kp_t hK1 (kp_m hK' (fun a k h => by omega))))
    · rcases hv.2.2.2.2.2.1 t ht with h | h | h
      · exact Or.inl h
      · exact Or.inr (Or.inl ⟨h.1, h.2.1⟩)
      · exact Or.inr (Or.inr h)
    have hMu : mPl u' P := mPl_K hMw hK' (fun x k h => by omega)
    have hLu : mLa u' N := mLa_K hLw hK' (fun k => by omega)
    have u60 : u'.1 198 60 = nI d := by rw [hK'.1 198 60 (by omega)]; exact e60
    have u61 : u'.1 198 61 = nI s := by rw [hK'.1 198 61 (by omega)]; exact e61
    have u59 : u'.1 198 59 = nI k := by rw [hK'.1 198 59 (by omega)]; exact hcw
    have hn := hN.2.1 d hd
    have hn0 := hN.1
    have hk5 := hP.2.2.2.2.2.1
    have hcal := hP.2.2.2.2.2.2.2.2.1 k hk
    have hpie : pieAt P N d ≤ 9 := by
      unfold pieAt
      cases e : fAt P d with
      | none => simp
      | some f => exact hN.2.2.2.1 f (fAt_some e).1
    have hi8 : i = 0 ∨ i = 1 ∨ i = 2 ∨ i = 3 ∨ i = 4 ∨ i = 5 ∨ i = 6 ∨ i = 7 := by
      rcases hv.2.2.2.2.2.1 _ hi with h | h | h
      · omega
      · have := h.2.2
        simp only [List.mem_cons, List.not_mem_nil, or_false] at this
        omega
      · omega
    have nl : ∀ n : Nat, n < 2147483648 → (nI n).toInt64 = lI n := fun n hn => by rw [nI_l (by omega), lN_lI (by omega)]
    unfold s_X12_qPartOf sX12_qPartOf_p180
    rw [h57, u60, u61, u59]
    rcases hi8 with rfl | rfl | rfl | rfl | rfl | rfl | rfl | rfl
    · first | refine i_pos (by first | decide | (unfold vp_in; decide)) ?_ | rw [if_pos (by first | decide | (unfold vp_in; decide))]
      try (with_reducible rfl)
      refine ⟨by first | decide | (unfold vp_in; decide), ?_⟩
      rw [show ((0 : Int32)).toNatClampNeg = 0 by first | decide | (unfold vp_in; decide), hLu 0 (by omega), nl _ (by omega)]
      exact hq
    · first | refine i_neg (by first | decide | (unfold vp_in; decide)) ?_ | rw [if_neg (by first | decide | (unfold vp_in; decide))]
      first | refine i_pos (by first | decide | (unfold vp_in; decide)) ?_ | rw [if_pos (by first | decide | (unfold vp_in; decide))]
      first | refine i_pos (by first | decide | (unfold vp_in; decide)) ?_ | rw [if_pos (by first | decide | (unfold vp_in; decide))]
      try (with_reducible rfl)
      refine r_pieAt hP hMu hLu h36 ?_
      rw [nl _ (by omega)]
      exact hq
    · first | refine i_neg (by first | decide | (unfold vp_in; decide)) ?_ | rw [if_neg (by first | decide | (unfold vp_in; decide))]
      first | refine i_neg (by first | decide | (unfold vp_in; decide)) ?_ | rw [if_neg (by first | decide | (unfold vp_in; decide))]
      first | refine i_pos (by first | decide | (unfold vp_in; decide)) ?_ | rw [if_pos (by first | decide | (unfold vp_in; decide))]
      first | refine i_pos (by first | decide | (unfold vp_in; decide)) ?_ | rw [if_pos (by first | decide | (unfold vp_in; decide))]
      try (with_reducible rfl)
      refine r_beenOf hLu h36 ?_
      rw [nl _ (by omega)]
      exact hq
    · first | refine i_neg (by first | decide | (unfold vp_in; decide)) ?_ | rw [if_neg (by first | decide | (unfold vp_in; decide))]
      first | refine i_neg (by first | decide | (unfold vp_in; decide)) ?_ | rw [if_neg (by first | decide | (unfold vp_in; decide))]
      first | refine i_neg (by first | decide | (unfold vp_in; decide)) ?_ | rw [if_neg (by first | decide | (unfold vp_in; decide))]
      first | refine i_pos (by first | decide | (unfold vp_in; decide)) ?_ | rw [if_pos (by first | decide | (unfold vp_in; decide))]
      try (with_reducible rfl)
      rw [show (2 : Int32) * nI k = nI (2 * k) from pk_mul 2 k, show (10 : Int32) + nI (2 * k) = nI (10 + 2 * k) from nI_add 10 _, nI_clamp (by omega), (hMu.2.2.1 k hk).1, nl _ (by omega)]
      exact ⟨vp_in_nI (by omega) (by omega), hq⟩
    · first | refine i_neg (by first | decide | (unfold vp_in; decide)) ?_ | rw [if_neg (by first | decide | (unfold vp_in; decide))]
      first | refine i_neg (by first | decide | (unfold vp_in; decide)) ?_ | rw [if_neg (by first | decide | (unfold vp_in; decide))]
      first | refine i_neg (by first | decide | (unfold vp_in; decide)) ?_ | rw [if_neg (by first | decide | (unfold vp_in; decide))]
      first | refine i_neg (by first | decide | (unfold vp_in; decide)) ?_ | rw [if_neg (by first | decide | (unfold vp_in; decide))]
      first | refine i_pos (by first | decide | (unfold vp_in; decide)) ?_ | rw [if_pos (by first | decide | (unfold vp_in; decide))]
      try (with_reducible rfl)
      rw [show (2 : Int32) * nI k = nI (2 * k) from pk_mul 2 k, show (11 : Int32) + nI (2 * k) = nI (11 + 2 * k) from nI_add 11 _, nI_clamp (by omega), (hMu.2.2.1 k hk).2.1, nl _ (by omega)]
      exact ⟨vp_in_nI (by omega) (by omega), hq⟩
    · first | refine i_neg (by first | decide | (unfold vp_in; decide)) ?_ | rw [if_neg (by first | decide | (unfold vp_in; decide))]
      first | refine i_neg (by first | decide | (unfold vp_in; decide)) ?_ | rw [if_neg (by first | decide | (unfold vp_in; decide))]
      first | refine i_neg (by first | decide | (unfold vp_in; decide)) ?_ | rw [if_neg (by first | decide | (unfold vp_in; decide))]
      first | refine i_neg (by first | decide | (unfold vp_in; decide)) ?_ | rw [if_neg (by first | decide | (unfold vp_in; decide))]
      first | refine i_neg (by first | decide | (unfold vp_in; decide)) ?_ | rw [if_neg (by first | decide | (unfold vp_in; decide))]
      first | refine i_pos (by first | decide | (unfold vp_in; decide)) ?_ | rw [if_pos (by first | decide | (unfold vp_in; decide))]
      first | refine i_pos (by first | decide | (unfold vp_in; decide)) ?_ | rw [if_pos (by first | decide | (unfold vp_in; decide))]
      try (with_reducible rfl)
      refine r_heightOf hLu h36 ?_
      rw [nl _ (by omega)]
      exact hq
    · first | refine i_neg (by first | decide | (unfold vp_in; decide)) ?_ | rw [if_neg (by first | decide | (unfold vp_in; decide))]
      first | refine i_neg (by first | decide | (unfold vp_in; decide)) ?_ | rw [if_neg (by first | decide | (unfold vp_in; decide))]
      first | refine i_neg (by first | decide | (unfold vp_in; decide)) ?_ | rw [if_neg (by first | decide | (unfold vp_in; decide))]
      first | refine i_neg (by first | decide | (unfold vp_in; decide)) ?_ | rw [if_neg (by first | decide | (unfold vp_in; decide))]
      first | refine i_neg (by first | decide | (unfold vp_in; decide)) ?_ | rw [if_neg (by first | decide | (unfold vp_in; decide))]
      first | refine i_neg (by first | decide | (unfold vp_in; decide)) ?_ | rw [if_neg (by first | decide | (unfold vp_in; decide))]
      first | refine i_pos (by first | decide | (unfold vp_in; decide)) ?_ | rw [if_pos (by first | decide | (unfold vp_in; decide))]
      try (with_reducible rfl)
      refine ⟨by first | decide | (unfold vp_in; decide), ?_⟩
      have hdr := hd.2
      rw [show ((3 : Int32)).toNatClampNeg = 3 by first | decide | (unfold vp_in; decide), hMu.1.2.2.2.1, show nI d / 6 = nI (d / 6) from pk_div (d := 6) (by omega) (by omega) (by omega), show nI (pr P) - 1 = nI (pr P - 1) from pk_sub (b := 1) (by omega), pk_sub (by omega), nl _ (by omega)]
      exact hq
    · first | refine i_neg (by first | decide | (unfold vp_in; decide)) ?_ | rw [if_neg (by first | decide | (unfold vp_in; decide))]
      first | refine i_neg (by first | decide | (unfold vp_in; decide)) ?_ | rw [if_neg (by first | decide | (unfold vp_in; decide))]
      first | refine i_neg (by first | decide | (unfold vp_in; decide)) ?_ | rw [if_neg (by first | decide | (unfold vp_in; decide))]
      first | refine i_neg (by first | decide | (unfold vp_in; decide)) ?_ | rw [if_neg (by first | decide | (unfold vp_in; decide))]
      first | refine i_neg (by first | decide | (unfold vp_in; decide)) ?_ | rw [if_neg (by first | decide | (unfold vp_in; decide))]
      first | refine i_neg (by first | decide | (unfold vp_in; decide)) ?_ | rw [if_neg (by first | decide | (unfold vp_in; decide))]
      first | refine i_neg (by first | decide | (unfold vp_in; decide)) ?_ | rw [if_neg (by first | decide | (unfold vp_in; decide))]
      first | refine i_pos (by first | decide | (unfold vp_in; decide)) ?_ | rw [if_pos (by first | decide | (unfold vp_in; decide))]
      rw [nl _ (by omega)]
      exact hq
def WayN (u : St) (p : Nat → Nat) (m : Nat) : Prop := u.1 198 64 = nI m ∧ (∀ i, i < m → u.1 242 i = nI (p i)) ∧ ∀ c, c < 36 → u.1 243 c = oI (stp p m c)
theorem r_nextOf {P : Pl} {N : Nat → Nat} {k m : Nat} {p : Nat → Nat} {Q : Int32 → St → Prop} {u : St} (hP : VP P) (hN : VN P N) (h0 : pc P ≠ 0) (hk : k < pk P) (hM : mPl u P) (hL : mLa u N) (hc : u.1 198 59 = nI k) (hm : 0 < m ∧ m ≤ 36) (hpm : cel P (p (m - 1))) (hW : WayN u p m)
    (hQ : ∀ r u', Nx P N k p m r → Kp (fun a k => ¬ (a = 198 ∧ (k = 57 ∨ k = 60 ∨ k = 61 ∨ k = 115))) u u' → Q (oI r) u') : s_X12_nextOf (nI (p (m - 1))) Q u := by
  have h6 := hP.1
  have h7 := hP.2.1
  have har := area_le hP
  have hp36 := cel_lt hP hpm
  have hv := hP.2.2.2.1 h0
  unfold s_X12_nextOf
  refine ⟨by first | decide | (unfold vp_in; decide), ?_⟩
  rw [show ((3 : Int32)).toNatClampNeg = 3 by first | decide | (unfold vp_in; decide), hM.1.2.2.2.1, show nI (p (m - 1)) / 6 = nI (p (m - 1) / 6) from pk_div (d := 6) (by omega) (by omega) (by omega), show nI (pr P) - 1 = nI (pr P - 1) from pk_sub (b := 1) (by omega)]
  first | rw [ite_c (nI_eq (by omega) (by omega))] | rw [nI_eq (by omega) (by omega)]
  try (with_reducible rfl)
  by_cases hsea : p (m - 1) / 6 + 1 = pr P
  · first | refine i_pos (by omega) ?_ | rw [if_pos (by omega)]
    try (with_reducible rfl)
    refine hQ none u ?_ (kp_r u)
    unfold Nx
    first | refine i_neg (by omega) ?_ | rw [if_neg (by omega)]
    first | refine i_pos hsea ?_ | rw [if_pos hsea]
    try (with_reducible rfl)
  first | refine i_neg (by omega) ?_ | rw [if_neg (by omega)]
  try (with_reducible rfl)
  unfold sX12_nextOf_p24
  have key := for_up (fun n i (s : Int32 × Int64 × St) => sX12_nextOf_p24n (nI (p (m - 1))) Q n s.1 s.2.1 i s.2.2) (pc P * pr P)
    (fun i s => ∃ r : Option Nat, Bst P N k (fun d => ∃ j, j < m ∧ p j = d) (p (m - 1)) m (fun d => cel P d ∧ pl P d < i) r ∧ s.1 = oI r ∧ (∀ e, r = some e → s.2.1 = lI (gv P N k e m)) ∧ Kp (fun a k => ¬ (a = 198 ∧ (k = 57 ∨ k = 60 ∨ k = 61 ∨ k = 115))) u s.2.2)
    ?_ 0 (-1, 0, u) (by omega) ⟨none, fun d hd => absurd hd.2 (by omega), rfl, fun e h => absurd h (by simp), kp_r u⟩
  · exact key
  rintro n i ⟨v2, v3, w⟩ hi ⟨r, hb1, e2, e3, hK⟩ hnext
  simp only at e2 e3 hK
  subst e2
  show sX12_nextOf_p24b (nI (p (m - 1))) Q (sX12_nextOf_p24n (nI (p (m - 1))) Q n) (oI r) v3 (nI i) w
  unfold sX12_nextOf_p24b s_X12_cellMany s_X12_cellOfNumber
  dsimp only
  have hMw : mPl w P := mPl_K hM hK (fun x k h => by omega)
  have hLw : mLa w N := mLa_K hL hK (fun k => by omega)
  refine ⟨by first | decide | (unfold vp_in; decide), by first | decide | (unfold vp_in; decide), ?_⟩
  rw [show ((2 : Int32)).toNatClampNeg = 2 by first | decide | (unfold vp_in; decide), show ((3 : Int32)).toNatClampNeg = 3 by first | decide | (unfold vp_in; decide), hMw.1.2.2.1, hMw.1.2.2.2.1, pk_mul]
  by_cases hie : i = pc P * pr P
  · first | refine i_pos (by rw [hie]; exact nI_le (Nat.le_refl _) (by omega)) ?_ | rw [if_pos (by rw [hie]; exact nI_le (Nat.le_refl _) (by omega))]
    try (with_reducible rfl)
    refine hQ r w ?_ hK
    unfold Nx
    first | refine i_neg (by omega) ?_ | rw [if_neg (by omega)]
    first | refine i_neg hsea ?_ | rw [if_neg hsea]
    try (with_reducible rfl)
    exact bst_no hb1 (fun _ _ => trivial) (fun d _ hg => ⟨hg.1, by rw [hie]; exact pl_lt hg.1⟩)
  first | refine i_neg (nI_ge (by omega) (by omega)) ?_ | rw [if_neg (nI_ge (by omega) (by omega))]
  try (with_reducible rfl)
  refine ⟨by first | decide | (unfold vp_in; decide), nI_ne0 (by omega) (by omega), nI_ne0 (by omega) (by omega), ?_⟩
  have hil : i < pc P * pr P := by omega
  obtain ⟨hd, hd1, hd2⟩ := ce_cel hP hil
  have hpl := pl_ce hP hil
  have ed : nI i - nI i / nI (pc P) * nI (pc P) + 6 * (nI i / nI (pc P)) = nI (ce P i) := by
    rw [pk_rem (by omega) (by omega) (by omega), pk_div (by omega) (by omega) (by omega), show (6 : Int32) * nI (i / pc P) = nI (6 * (i / pc P)) from pk_mul 6 _, nI_add]
    rfl
  rw [ed]
  generalize ce P i = d at hd hd1 hd2 hpl ed
  have hd36 := cel_lt hP hd
  refine ⟨vp_in_nI hd36 (by omega), ?_⟩
  rw [nI_clamp (by omega), hK.1 243 d (by omega), hW.2.2 d hd36]
  first | rw [ite_e (oI_m1 (fun x hx => by have := (stp_some hx).1; omega))] | rw [oI_m1 (fun x hx => by have := (stp_some hx).1; omega)]
  try (with_reducible rfl)
  have hskip : ¬ Go P N (fun d => ∃ j, j < m ∧ p j = d) (p (m - 1)) d → sX12_nextOf_p108 (nI (p (m - 1))) (oI r) v3 (nI i) Q (sX12_nextOf_p24n (nI (p (m - 1))) Q n) w := by
    intro hng
    show sX12_nextOf_p24n (nI (p (m - 1))) Q n (oI r) v3 (nI i + 1) w
    rw [nI_1]
    refine hnext (by omega) (oI r, v3, w) ⟨r, bst_no hb1 (fun x hx => ⟨hx.1, by omega⟩) (fun x hx hg => ?_), rfl, e3, hK⟩
    by_cases hxi : pl P x = i
    · have hxd : x = d := pl_inj hx.1 hd (by rw [hxi, hpl])
      rw [hxd] at hg
      exact absurd hg hng
    · exact ⟨hx.1, by omega⟩
  by_cases hvis : stp p m d = none
  · first | refine i_pos hvis ?_ | rw [if_pos hvis]
    try (with_reducible rfl)
    have hnv : ¬ ∃ j, j < m ∧ p j = d := by
      rintro ⟨j, hj, e⟩
      exact stp_none.mp hvis j hj e
    refine r_areBeside hP hMw hpm hd36 (fun _ hadj => ?_) (fun hna => ?_)
    · first | refine i_neg (by first | decide | (unfold vp_in; decide)) ?_ | rw [if_neg (by first | decide | (unfold vp_in; decide))]
      try (with_reducible rfl)
      refine r_canFlow hP hN hLw hpm hd (fun f1 f2 => ?_) (fun hnf => ?_)
      · first | refine i_neg (by first | decide | (unfold vp_in; decide)) ?_ | rw [if_neg (by first | decide | (unfold vp_in; decide))]
        try (with_reducible rfl)
        have hgo : Go P N (fun d => ∃ j, j < m ∧ p j = d) (p (m - 1)) d := ⟨hd, hadj, hnv, f1, f2⟩
        rw [hK.1 198 64 (by omega), hW.1]
        refine r_goesTo hP hN h0 hk hd (by omega) hMw hLw (by rw [hK.1 198 59 (by omega)]; exact hc) (fun y hy => ?_)
        have hKy : Kp (fun a k => ¬ (a = 198 ∧ (k = 57 ∨ k = 60 ∨ k = 61 ∨ k = 115))) u y := kp_t hK hy
        have hgb := gv_b (st := m) hP hN h0 hk hd (by omega)
        have hD1 : ∀ x, (cel P x ∧ pl P x < i) → x < d := by
          rintro x ⟨hx, hlt⟩
          by_cases hxd : x < d
          · exact hxd
          · by_cases hxe : x = d
            · rw [hxe, hpl] at hlt
              omega
            · have := pl_mono hd hx (by omega)
              omega
        have hD2 : ∀ x, (cel P x ∧ pl P x < i + 1) → Go P N (fun d => ∃ j, j < m ∧ p j = d) (p (m - 1)) x → (cel P x ∧ pl P x < i) ∨ x = d := by
          rintro x ⟨hx, hlt⟩ _
          by_cases hxi : pl P x = i
          · exact Or.inr (pl_inj hx hd (by rw [hxi, hpl]))
          · exact Or.inl ⟨hx, by omega⟩
        have hD3 : ∀ x, (cel P x ∧ pl P x < i) → cel P x ∧ pl P x < i + 1 := fun x hx => ⟨hx.1, by omega⟩
        have htake : ((r = none ∧ some d = some d) ∨ ∃ e, r = some e ∧ ((gv P N k d m ≤ gv P N k e m ∧ some d = some e) ∨ (gv P N k e m < gv P N k d m ∧ some d = some d))) → sX12_nextOf_p102 (nI (p (m - 1))) (nI i) (nI d) (lI (gv P N k d m)) Q (sX12_nextOf_p24n (nI (p (m - 1))) Q n) y := by
          intro hr
          show sX12_nextOf_p24n (nI (p (m - 1))) Q n (nI d) (lI (gv P N k d m)) (nI i + 1) y
          rw [nI_1]
          exact hnext (by omega) (nI d, lI (gv P N k d m), y) ⟨some d, bst_add hb1 hgo hD1 hD2 hD3 ⟨hd, by omega⟩ hr, rfl, fun e he => by rw [Option.some.inj he], hKy⟩
        cases r with
        | none =>
          first | refine i_pos (by rfl) ?_ | rw [if_pos (by rfl)]
          try (with_reducible rfl)
          exact htake (Or.inl ⟨rfl, rfl⟩)
        | some e =>
          have hce : cel P e := hb1.2.1.1
          have he36 := cel_lt hP hce
          have hge := gv_b (st := m) hP hN h0 hk hce (by omega)
          show (if nI e = -1 then _ else _)
          first | refine i_neg (by rw [x_ne1 (by omega)]; exact id) ?_ | rw [if_neg (by rw [x_ne1 (by omega)]; exact id)]
          rw [e3 e rfl]
          simp only [lg_cmp_gt]
          first | rw [ite_e (lI_lt (by omega) (by omega) (by omega) (by omega))] | rw [lI_lt (by omega) (by omega) (by omega) (by omega)]
          try (with_reducible rfl)
          by_cases hle : gv P N k e m < gv P N k d m
          · first | refine i_pos hle ?_ | rw [if_pos hle]
            try (with_reducible rfl)
            exact htake (Or.inr ⟨e, rfl, Or.inr ⟨hle, rfl⟩⟩)
          · first | refine i_neg hle ?_ | rw [if_neg hle]
            try (with_reducible rfl)
            show sX12_nextOf_p24n (nI (p (m - 1))) Q n (nI e) (lI (gv P N k e m)) (nI i + 1) y
            rw [nI_1]
            exact hnext (by omega) (nI e, lI (gv P N k e m), y) ⟨some e, bst_add hb1 hgo hD1 hD2 hD3 ⟨hd, by omega⟩ (Or.inr ⟨e, rfl, Or.inl ⟨by omega, rfl⟩⟩), rfl, fun e2 he => by rw [Option.some.inj he], hKy⟩
      · first | refine i_pos rfl ?_ | rw [if_pos rfl]
        try (with_reducible rfl)
        exact hskip (fun hg => hnf ⟨hg.2.2.2.1, hg.2.2.2.2⟩)
    · first | refine i_pos rfl ?_ | rw [if_pos rfl]
      try (with_reducible rfl)
      exact hskip (fun hg => hna ⟨hg.1, hg.2.1⟩)
  · first | refine i_neg hvis ?_ | rw [if_neg hvis]
    try (with_reducible rfl)
    refine hskip (fun hg => hvis ?_)
    rw [stp_none]
    exact fun j hj e => hg.2.2.1 ⟨j, hj, e⟩
def SW (a k : Nat) : Prop := a ≠ 242 ∧ a ≠ 243 ∧ ¬ (a = 198 ∧ (k = 57 ∨ k = 59 ∨ k = 60 ∨ k = 61 ∨ k = 64 ∨ k = 115))
theorem r_hasWay {P : Pl} {N : Nat → Nat} {Q : Int32 → St → Prop} {u : St} (hP : VP P) (hN : VN P N) (hM : mPl u P) (hL : mLa u N) (h1 : pc P ≠ 0 → N (2 + 3 * ps P) ≠ 1 → Q 1 u) (h2 : ¬ (pc P ≠ 0 ∧ N (2 + 3 * ps P) ≠ 1) → Q 0 u) : s_X12_hasWay Q u := by
  have h6 := hP.1
  unfold s_X12_hasWay
  rw [hM.1.1]
  by_cases h0 : pc P = 0
  · first | refine i_pos (by rw [if_pos h0]) ?_ | rw [if_pos (by rw [if_pos h0])]
    try (with_reducible rfl)
    exact h2 (fun h => h.1 h0)
  · first | refine i_neg (by rw [if_neg h0]; decide) ?_ | rw [if_neg (by rw [if_neg h0]; decide)]
    rw [hM.1.2.1]
    have hv := hP.2.2.2.1 h0
    have hsrc : cel P (ps P) := by
      unfold cel
      omega
    refine r_isStone hP hN hL hsrc (fun e => ?_) (fun e => ?_)
    · first | refine i_neg (by first | decide | (unfold vp_in; decide)) ?_ | rw [if_neg (by first | decide | (unfold vp_in; decide))]
      try (with_reducible rfl)
      exact h2 (fun h => h.2 e)
    · first | refine i_pos rfl ?_ | rw [if_pos rfl]
      try (with_reducible rfl)
      exact h1 h0 e
theorem r_laysWay {P : Pl} {N : Nat → Nat} {k : Nat} {Q : St → Prop} {u : St} (hP : VP P) (hN : VN P N) (h0 : pc P ≠ 0) (hk : k < pk P) (hM : mPl u P) (hL : mLa u N) (hQ : ∀ u' p m, IsWay P N k p m → WayN u' p m → Kp SW u u' → Q u') : s_X12_laysWay (nI k) Q u := by
  have h6 := hP.1
  have hv := hP.2.2.2.1 h0
  unfold s_X12_laysWay
  simp only [bnd]
  have hK1 : Kp SW u (tI (tI u 198 59 (nI k)) 198 64 0) := kp_I (kp_I (kp_r u) (by unfold SW; omega)) (by unfold SW; omega)
  have e59 : (tI (tI u 198 59 (nI k)) 198 64 0).1 198 59 = nI k := by rw [t_n _ _ (by omega), t_s]
  have e64 : (tI (tI u 198 59 (nI k)) 198 64 0).1 198 64 = 0 := t_s _ _ _ _
  generalize (tI (tI u 198 59 (nI k)) 198 64 0) = w at hK1 e59 e64
  have hrun : ∀ (v : Int32) (z : St) (p : Nat → Nat) (m : Nat) (r : Option Nat), v = oI r → PW P N k p m → Nx P N k p m r → WayN z p m → z.1 198 59 = nI k → Kp SW u z → sX12_laysWay_p47 Q v z := by
    intro v z p m r h1 h2 h3 h4 h5 h7
    unfold sX12_laysWay_p47
    refine lp2 (fun n v z => sX12_laysWay_p47n Q n v z) (fun v z => ∃ (p : Nat → Nat) (m : Nat) (r : Option Nat), v = oI r ∧ PW P N k p m ∧ Nx P N k p m r ∧ WayN z p m ∧ z.1 198 59 = nI k ∧ Kp SW u z) (fun _ z => 40 - (z.1 198 64).toNatClampNeg) ?_ v z ⟨p, m, r, h1, h2, h3, h4, h5, h7⟩
    rintro n v z ⟨p, m, r, rfl, hpw, hnx, hW, hz59, hK⟩ hnext
    show sX12_laysWay_p47b Q (sX12_laysWay_p47n Q n) (oI r) z
    unfold sX12_laysWay_p47b
    cases r with
    | none =>
      first | refine i_pos (by rfl) ?_ | rw [if_pos (by rfl)]
      try (with_reducible rfl)
      exact hQ z p m ⟨hpw, hnx⟩ hW hK
    | some c =>
      obtain ⟨hc, hnew⟩ := nx_cel hP h0 hnx
      have hc36 := cel_lt hP hc
      let q : Nat → Nat := fun j => if j = m then c else p j
      have hqp : ∀ j, j < m → p j = q j := fun j hj => by
        show p j = if j = m then c else p j
        first | refine i_neg (by omega) ?_ | rw [if_neg (by omega)]
        try (with_reducible rfl)
      have hqi : q m = c := by
        show (if m = m then c else p m) = c
        first | refine i_pos rfl ?_ | rw [if_pos rfl]
        try (with_reducible rfl)
      have hpw' : PW P N k q (m + 1) := by
        intro j hj
        by_cases hji : j = m
        · rw [hji, hqi]
          exact nx_c hqp hnx
        · rw [← hqp j (by omega)]
          exact nx_c (fun l hl => hqp l (by omega)) (hpw j (by omega))
      have hle := pw_36 hP h0 hpw'
      show (if nI c = -1 then _ else _)
      first | refine i_neg (by rw [x_ne1 (by omega)]; exact id) ?_ | rw [if_neg (by rw [x_ne1 (by omega)]; exact id)]
      try (with_reducible rfl)
      simp only [bnd]
      show vp_in (z.1 198 64) 36 ∧ vp_in (nI c) 36 ∧ s_X12_nextOf (nI c) (fun r15 u16 => sX12_laysWay_p47n Q n r15 u16) (tI (tI (tI z 242 (z.1 198 64).toNatClampNeg (nI c)) 243 (nI c).toNatClampNeg ((tI z 242 (z.1 198 64).toNatClampNeg (nI c)).1 198 64)) 198 64 ((tI (tI z 242 (z.1 198 64).toNatClampNeg (nI c)) 243 (nI c).toNatClampNeg ((tI z 242 (z.1 198 64).toNatClampNeg (nI c)).1 198 64)).1 198 64 + 1))
      rw [t_n (a' := 198) _ _ (by omega), t_n (a' := 198) _ _ (by omega), t_n (a' := 198) _ _ (by omega), hW.1, nI_1, nI_clamp (by omega), nI_clamp (by omega)]
      refine ⟨vp_in_nI (by omega) (by omega), vp_in_nI hc36 (by omega), ?_⟩
      have hWq : WayN (tI (tI (tI z 242 m (nI c)) 243 c (nI m)) 198 64 (nI (m + 1))) q (m + 1) := by
        refine ⟨t_s _ _ _ _, fun i hi => ?_, fun d hd => ?_⟩
        · rw [t_n _ _ (by omega), t_n _ _ (by omega)]
          by_cases e : i = m
          · rw [e, t_s, hqi]
          · rw [t_n _ _ (Or.inr e), ← hqp i (by omega)]
            exact hW.2.1 i (by omega)
        · rw [t_n _ _ (by omega)]
          unfold stp
          rw [hqi]
          by_cases e : c = d
          · first | refine i_pos e ?_ | rw [if_pos e]
            rw [e, t_s]
            rfl
          · first | refine i_neg e ?_ | rw [if_neg e]
            rw [t_n _ _ (Or.inr (fun h => e h.symm)), t_n _ _ (by omega), ← stp_c hqp]
            exact hW.2.2 d hd
      have hK2 : Kp SW u (tI (tI (tI z 242 m (nI c)) 243 c (nI m)) 198 64 (nI (m + 1))) := kp_I (kp_I (kp_I hK (by unfold SW; omega)) (by unfold SW; omega)) (by unfold SW; omega)
      have h59 : (tI (tI (tI z 242 m (nI c)) 243 c (nI m)) 198 64 (nI (m + 1))).1 198 59 = nI k := by rw [t_n _ _ (by omega), t_n _ _ (by omega), t_n _ _ (by omega)]; exact hz59
      have hz64 : (z.1 198 64).toNatClampNeg = m := by rw [hW.1, nI_clamp (by omega)]
      generalize (tI (tI (tI z 242 m (nI c)) 243 c (nI m)) 198 64 (nI (m + 1))) = y at hWq hK2 h59
      have hnn := r_nextOf (m := m + 1) (p := q) (Q := fun r15 u16 => sX12_laysWay_p47n Q n r15 u16) (u := y) hP hN h0 hk (mPl_K hM hK2 (fun x k h => by unfold SW; omega)) (mLa_K hL hK2 (fun k => by unfold SW; omega)) h59 ⟨by omega, by omega⟩ (by rw [Nat.add_sub_cancel, hqi]; exact hc) hWq (fun r y2 b1 b2 => by
        have hW2 : WayN y2 q (m + 1) := ⟨by rw [b2.1 198 64 (by omega)]; exact hWq.1, fun i hi => by rw [b2.1 242 i (by omega)]; exact hWq.2.1 i hi, fun c hc => by rw [b2.1 243 c (by omega)]; exact hWq.2.2 c hc⟩
        refine hnext (oI r) y2 ⟨q, m + 1, r, rfl, hpw', b1, hW2, by rw [b2.1 198 59 (by omega)]; exact h59, kp_t hK2 (kp_m b2 (fun a k h => by unfold SW at h; omega))⟩ ?_
        show 40 - (y2.1 198 64).toNatClampNeg < 40 - (z.1 198 64).toNatClampNeg
        rw [hz64, hW2.1, nI_clamp (by omega)]
        omega)
      rw [Nat.add_sub_cancel, hqi] at hnn
      exact hnn
  unfold sX12_laysWay_p12
  refine for_up (fun n i s => sX12_laysWay_p12n Q n i s) 36 (fun i s => Kp SW u s ∧ s.1 198 59 = nI k ∧ s.1 198 64 = 0 ∧ ∀ c, c < i → s.1 243 c = -1) ?_ 0 w (by omega) ⟨hK1, e59, e64, fun c hc => absurd hc (by omega)⟩
  rintro n i z hi ⟨hK, z59, z64, z243⟩ hnext
  show sX12_laysWay_p12b Q (sX12_laysWay_p12n Q n) (nI i) z
  unfold sX12_laysWay_p12b
  by_cases h36 : i = 36
  · subst h36
    first | refine i_pos (nI_le (a := 36) (Nat.le_refl _) (by omega)) ?_ | rw [if_pos (nI_le (a := 36) (Nat.le_refl _) (by omega))]
    try (with_reducible rfl)
    have hMz : mPl z P := mPl_K hM hK (fun x k h => by unfold SW; omega)
    have hLz : mLa z N := mLa_K hL hK (fun k => by unfold SW; omega)
    have hWz : WayN z (fun _ => 0) 0 := ⟨z64, fun i hi => absurd hi (by omega), fun c hc => z243 c hc⟩
    refine r_hasWay hP hN hMz hLz (fun _ hs => ?_) (fun hs => ?_)
    · first | refine i_neg (by first | decide | (unfold vp_in; decide)) ?_ | rw [if_neg (by first | decide | (unfold vp_in; decide))]
      rw [hMz.1.2.1]
      exact hrun _ z (fun _ => 0) 0 (some (ps P)) rfl (fun i hi => absurd hi (by omega)) (by unfold Nx; rw [if_pos rfl, if_neg hs]) hWz z59 hK
    · first | refine i_pos rfl ?_ | rw [if_pos rfl]
      try (with_reducible rfl)
      refine hrun _ z (fun _ => 0) 0 none rfl (fun i hi => absurd hi (by omega)) ?_ hWz z59 hK
      unfold Nx
      first | refine i_pos rfl ?_ | rw [if_pos rfl]
      try (with_reducible rfl)
      by_cases e : N (2 + 3 * ps P) = 1
      · first | refine i_pos e ?_ | rw [if_pos e]
        try (with_reducible rfl)
      · exact absurd ⟨h0, e⟩ hs
  · first | refine i_neg (nI_ge (b := 36) (by omega) (by omega)) ?_ | rw [if_neg (nI_ge (b := 36) (by omega) (by omega))]
    try (with_reducible rfl)
    refine ⟨vp_in_nI (by omega) (by omega), ?_⟩
    show sX12_laysWay_p12n Q n (nI i + 1) (tI z 243 (nI i).toNatClampNeg (-1))
    rw [nI_1, nI_clamp (by omega)]
    refine hnext (by omega) _ ⟨kp_I hK (by unfold SW; omega), by rw [t_n _ _ (by omega)]; exact z59, by rw [t_n _ _ (by omega)]; exact z64, fun c hc => ?_⟩
    by_cases e : c = i
    · rw [e, t_s]
    · rw [t_n _ _ (Or.inr e)]
      exact z243 c (by omega)
