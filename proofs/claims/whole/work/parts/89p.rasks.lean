/-! ===== the reference answers a QUESTION ===== -/
def StT (u : St) (P : Pl) (N : Nat → Nat) (m : Nat) : Prop := ∀ k, k < m → ∀ f, f < pf P → u.1 244 (6 * k + f) = oI (stp (wp P N k) (wm P N k) (fce P f))
theorem r_laysSteps {P : Pl} {N : Nat → Nat} {k : Nat} {Q : St → Prop} {u : St} (hP : VP P) (hN : VN P N) (hk : k < pk P) (hM : mPl u P) (hL : mLa u N) (hS : StT u P N k) (hQ : ∀ u', Kp (fun a j => SW a j ∧ a ≠ 244) u u' → StT u' P N (k + 1) → IsWay P N k (wp P N k) (wm P N k) → Q u') : s_X12_laysSteps (nI k) Q u := by
  have h0 := pk_pc hP hk
  have hk5 := hP.2.2.2.2.2.1
  have h6 := hP.2.2.2.2.1
  unfold s_X12_laysSteps
  refine r_laysWay hP hN h0 hk hM hL (fun u1 p m h1 h2 k1 => ?_)
  obtain ⟨a1, a2, a3⟩ := w_spec h1
  have hst : ∀ c, c < 36 → u1.1 243 c = oI (stp (wp P N k) (wm P N k) c) := fun c hc => by rw [h2.2.2 c hc, a2, stp_c a3]
  have hM1 : mPl u1 P := mPl_K hM k1 (fun x j h => by unfold SW; omega)
  unfold sX12_laysSteps_p7
  refine for_up (fun n i s => sX12_laysSteps_p7n (nI k) Q n i s) (pf P) (fun i s => Kp (fun a _ => a ≠ 244) u1 s ∧ StT s P N k ∧ ∀ f, f < i → s.1 244 (6 * k + f) = oI (stp (wp P N k) (wm P N k) (fce P f))) ?_ 0 u1 (by omega) ⟨kp_r u1, fun j hj f hf => by rw [k1.1 244 _ (by unfold SW; omega)]; exact hS j hj f hf, fun f hf => absurd hf (by omega)⟩
  rintro n i s hi ⟨hK, hSs, hF⟩ hnext
  show sX12_laysSteps_p7b (nI k) Q (sX12_laysSteps_p7n (nI k) Q n) (nI i) s
  unfold sX12_laysSteps_p7b
  have hMs : mPl s P := mPl_K hM1 hK (fun x j h => by omega)
  refine r_farmMany hMs ?_
  by_cases hie : i = pf P
  · rw [hie]
    refine i_pos (nI_le (Nat.le_refl _) (by omega)) (hQ s (kp_t (kp_m k1 (fun a j h => h.1)) (kp_m hK (fun a j h => h.2))) (fun j hj f hf => ?_) a1)
    by_cases ej : j = k
    · rw [ej]
      exact hF f (by omega)
    · exact hSs j (by omega) f hf
  refine i_neg (nI_ge (by omega) (by omega)) ?_
  have hc := (hP.2.2.2.2.2.2.1 i (by omega)).1
  have h36 := cel_lt hP hc
  refine r_cellOf hP hMs (by omega) ?_
  rw [show (6 : Int32) * nI k = nI (6 * k) from pk_mul 6 k, nI_add, nI_clamp (by omega), nI_clamp (by omega), hK.1 243 _ (by omega), hst _ h36, nI_1]
  refine ⟨vp_in_nI (by omega) (by omega), vp_in_nI (by omega) (by omega), bnd_i ?_⟩
  refine hnext (by omega) _ ⟨kp_I hK (by omega), fun j hj f hf => ?_, fun f hf => ?_⟩
  · rw [t_n _ _ (by omega)]
    exact hSs j hj f hf
  · by_cases ef : f = i
    · rw [ef, t_s]
    · rw [t_n _ _ (by omega)]
      exact hF f (by omega)
theorem r_qClip {z : Int} {Q : Int64 → St → Prop} {u : St} (h1 : -1000000 ≤ z) (h2 : z ≤ 1000000) (hQ : Q (lI z) u) : s_X12_qClip (lI z) Q u := by
  refine r_clip (by omega) (by omega) ?_
  rw [clip_i h1 h2]
  exact hQ
theorem r_isCallerL {P : Pl} {a : Int} {Q : Int32 → St → Prop} {u : St} (hP : VP P) (hM : mPl u P) (ha : -1000000 ≤ a ∧ a ≤ 1000000) (h1 : 0 ≤ a → a < pk P → Q 1 u) (h2 : ¬ (0 ≤ a ∧ a < pk P) → Q 0 u) : s_X12_isCaller (lI a) Q u := by
  have hk5 := hP.2.2.2.2.2.1
  unfold s_X12_isCaller
  refine r_callerMany hM ?_
  have e : (nI (pk P) - 1).toInt64 = lI ((pk P : Int) - 1) := by
    rw [nI_iI (by omega), i_1, iI_sub, iI_l (by omega) (by omega)]
  rw [e, l_0]
  exact r_isIn (by omega) (by omega) (by omega) (fun b c => ⟨Or.inr rfl, h1 b (by omega)⟩) (fun b => ⟨Or.inl rfl, h2 (by omega)⟩)
theorem r_qOf {P : Pl} {N : Nat → Nat} {i w : Nat} {a : Int} {Q : Int64 → St → Prop} {u : St} (hP : VP P) (hM : mPl u P) (h0 : pc P ≠ 0) (hi : i < pf P) (hw : w < 2) (ha : -1000000 ≤ a ∧ a ≤ 1000000) (hS : StT u P N (pk P)) (hW : ∀ k, k < pk P → IsWay P N k (wp P N k) (wm P N k)) (hQ : Q (lI (ofc (Fq P N i) w a)) u) : s_X12_qOf (nI w) (lI a) (nI i) Q u := by
  have hk5 := hP.2.2.2.2.2.1
  have h6 := hP.2.2.2.2.1
  have hf := hP.2.2.2.2.2.2.1 i hi
  have hF13 : ∀ k, k < 5 → Fq P N i (13 + k) = wtF P N i k := fun k hk => by
    unfold Fq
    first | refine i_neg (by omega) ?_ | rw [if_neg (by omega)]
    first | refine i_neg (by omega) ?_ | rw [if_neg (by omega)]
    first | refine i_neg (by omega) ?_ | rw [if_neg (by omega)]
    first | refine i_neg (by omega) ?_ | rw [if_neg (by omega)]
    first | refine i_neg (by omega) ?_ | rw [if_neg (by omega)]
    first | refine i_neg (by omega) ?_ | rw [if_neg (by omega)]
    first | refine i_neg (by omega) ?_ | rw [if_neg (by omega)]
    first | refine i_neg (by omega) ?_ | rw [if_neg (by omega)]
    first | refine i_pos (by omega) ?_ | rw [if_pos (by omega)]
    rw [show 13 + k - 13 = k by omega]
  have hF18 : ∀ k, k < 5 → Fq P N i (18 + k) = stF P N i k := fun k hk => by
    unfold Fq
    first | refine i_neg (by omega) ?_ | rw [if_neg (by omega)]
    first | refine i_neg (by omega) ?_ | rw [if_neg (by omega)]
    first | refine i_neg (by omega) ?_ | rw [if_neg (by omega)]
    first | refine i_neg (by omega) ?_ | rw [if_neg (by omega)]
    first | refine i_neg (by omega) ?_ | rw [if_neg (by omega)]
    first | refine i_neg (by omega) ?_ | rw [if_neg (by omega)]
    first | refine i_neg (by omega) ?_ | rw [if_neg (by omega)]
    first | refine i_neg (by omega) ?_ | rw [if_neg (by omega)]
    first | refine i_neg (by omega) ?_ | rw [if_neg (by omega)]
    first | refine i_pos (by omega) ?_ | rw [if_pos (by omega)]
    rw [show 18 + k - 18 = k by omega]
  have hidx : ∀ k : Nat, a = (k : Int) → k < pk P → (6 : Int32) * (lI a).toInt32 + nI i = nI (6 * k + i) := fun k hk hkp => by
    rw [lI_i (by omega) (by omega), hk, ← nI_iI (by omega), show (6 : Int32) * nI k = nI (6 * k) from pk_mul 6 k, nI_add]
  unfold s_X12_qOf
  unfold ofc at hQ
  have hc : w = 0 ∨ w = 1 := by omega
  rcases hc with rfl | rfl
  · refine i_pos rfl (r_isCallerL hP hM ha (fun b1 b2 => i_neg (by first | decide | (unfold vp_in; decide)) ?_) (fun b => i_pos rfl ?_))
    · obtain ⟨k, rfl⟩ := Int.eq_ofNat_of_zero_le b1
      have hkp : k < pk P := by omega
      rw [if_pos ⟨b1, by omega⟩, if_pos rfl, show ((k : Int)).toNat = k by omega, hF13 k (by omega)] at hQ
      rw [hidx k rfl hkp, nI_clamp (by omega), hS k hkp i hi]
      refine ⟨vp_in_nI (by omega) (by omega), ?_⟩
      have hwc := w_cel hP h0 (hW k hkp)
      unfold wtF at hQ
      have hbit := isW_bit hP hwc.2.2 hi
      cases e : stp (wp P N k) (wm P N k) (fce P i) with
      | none =>
        rw [if_neg (fun h => by
          obtain ⟨s, hs, _⟩ := hbit.mp h.2
          rw [e] at hs
          exact absurd hs (by simp))] at hQ
        exact i_pos (by first | decide | (unfold vp_in; decide)) hQ
      | some s =>
        have hs := (stp_some e).1
        rw [show oI (some s) = nI s from rfl]
        refine i_neg (nI_pos (by omega)) (r_dayOf hP hM hi ?_)
        by_cases hd : fda P i < s
        · rw [if_neg (fun h => by
            obtain ⟨s', hs', hd'⟩ := hbit.mp h.2
            rw [e] at hs'
            have := Option.some.inj hs'
            omega)] at hQ
          exact i_pos (nI_lt hd (by omega)) hQ
        · rw [if_pos ⟨hkp, hbit.mpr ⟨s, e, by omega⟩⟩] at hQ
          exact i_neg (nI_nlt (by omega) (by omega)) hQ
    · by_cases h5 : 0 ≤ a ∧ a < 5
      · obtain ⟨k, rfl⟩ := Int.eq_ofNat_of_zero_le h5.1
        rw [if_pos h5, if_pos rfl, show ((k : Int)).toNat = k by omega, hF13 k (by omega)] at hQ
        unfold wtF at hQ
        rw [if_neg (fun h => b ⟨by omega, by omega⟩)] at hQ
        exact hQ
      · rw [if_neg h5, if_pos rfl] at hQ
        exact hQ
  · refine i_neg (by first | decide | (unfold vp_in; decide)) (r_isCallerL hP hM ha (fun b1 b2 => i_neg (by first | decide | (unfold vp_in; decide)) ?_) (fun b => i_pos rfl ?_))
    · obtain ⟨k, rfl⟩ := Int.eq_ofNat_of_zero_le b1
      have hkp : k < pk P := by omega
      rw [if_pos ⟨b1, by omega⟩, if_neg (by omega), show ((k : Int)).toNat = k by omega, hF18 k (by omega)] at hQ
      rw [hidx k rfl hkp, nI_clamp (by omega), hS k hkp i hi]
      refine ⟨vp_in_nI (by omega) (by omega), ?_⟩
      have hwc := (w_cel hP h0 (hW k hkp)).1
      unfold stF at hQ
      rw [if_pos hkp] at hQ
      cases e : stp (wp P N k) (wm P N k) (fce P i) with
      | none =>
        rw [e] at hQ
        rw [show (oI none).toInt64 = lI (-1) by first | decide | (unfold vp_in; decide)]
        exact hQ
      | some s =>
        have hs := (stp_some e).1
        rw [e] at hQ
        rw [show (oI (some s)).toInt64 = lI (s : Int) by show (nI s).toInt64 = _; rw [nI_l (by omega), lN_lI (by omega)]]
        exact hQ
    · by_cases h5 : 0 ≤ a ∧ a < 5
      · obtain ⟨k, rfl⟩ := Int.eq_ofNat_of_zero_le h5.1
        rw [if_pos h5, if_neg (by omega), show ((k : Int)).toNat = k by omega, hF18 k (by omega)] at hQ
        unfold stF at hQ
        rw [if_neg (fun h => b ⟨by omega, by omega⟩)] at hQ
        rw [l_m1]
        exact hQ
      · rw [if_neg h5, if_neg (by omega)] at hQ
        rw [l_m1]
        exact hQ
theorem r_qPartQ {P : Pl} {N : Nat → Nat} {i j : Nat} {Q : Int64 → St → Prop} {u : St} (hP : VP P) (hN : VN P N) (hM : mPl u P) (hL : mLa u N) (h57 : u.1 198 57 = nI 2) (hi : i < pf P) (hj : j < 13) (ha : al 2 j = true) (hQ : Q (lI (Fq P N i j)) u) : s_X12_qPartOf (nI j) (nI i) Q u := by
  have hf := hP.2.2.2.2.2.2.1 i hi
  have h36 := cel_lt hP hf.1
  have h6 := hP.2.2.2.2.1
  have hn0 := hN.1
  have hpie := hN.2.2.2.1 i hi
  have hce := hN.2.1 _ hf.1
  have nl : ∀ n : Nat, n < 2147483648 → (nI n).toInt64 = lI n := fun n hn => by rw [nI_l (by omega), lN_lI (by omega)]
  have hjj : j = 0 ∨ j = 1 ∨ j = 2 ∨ j = 5 ∨ j = 9 ∨ j = 10 ∨ j = 11 ∨ j = 12 := by
    have : j < 3 ∨ j = 5 ∨ 8 < j := of_decide_eq_true ha
    omega
  unfold s_X12_qPartOf sX12_qPartOf_p180
  rw [h57]
  rcases hjj with rfl | rfl | rfl | rfl | rfl | rfl | rfl | rfl
  · refine i_pos rfl ⟨by first | decide | (unfold vp_in; decide), ?_⟩
    rw [show ((0 : Int32)).toNatClampNeg = 0 by first | decide | (unfold vp_in; decide), hL 0 (by omega), nl _ (by omega)]
    exact hQ
  · refine i_neg (by first | decide | (unfold vp_in; decide)) (i_pos rfl (i_neg (by first | decide | (unfold vp_in; decide)) (r_pieOf hL (by omega) ?_)))
    rw [nl _ (by omega)]
    exact hQ
  · refine i_neg (by first | decide | (unfold vp_in; decide)) (i_neg (by first | decide | (unfold vp_in; decide)) (i_pos rfl (i_neg (by first | decide | (unfold vp_in; decide)) (r_cellOf hP hM hi (r_beenOf hL h36 ?_)))))
    rw [nl _ (by omega)]
    exact hQ
  · refine i_neg (by first | decide | (unfold vp_in; decide)) (i_neg (by first | decide | (unfold vp_in; decide)) (i_neg (by first | decide | (unfold vp_in; decide)) (i_neg (by first | decide | (unfold vp_in; decide)) (i_neg (by first | decide | (unfold vp_in; decide)) (i_pos rfl (i_neg (by first | decide | (unfold vp_in; decide)) (r_cellOf hP hM hi (r_heightOf hL h36 ?_))))))))
    rw [nl _ (by omega)]
    exact hQ
  · refine i_neg (by first | decide | (unfold vp_in; decide)) (i_neg (by first | decide | (unfold vp_in; decide)) (i_neg (by first | decide | (unfold vp_in; decide)) (i_neg (by first | decide | (unfold vp_in; decide)) (i_neg (by first | decide | (unfold vp_in; decide)) (i_neg (by first | decide | (unfold vp_in; decide)) (i_neg (by first | decide | (unfold vp_in; decide)) (i_neg (by first | decide | (unfold vp_in; decide)) (i_neg (by first | decide | (unfold vp_in; decide)) (i_pos rfl ?_)))))))))
    rw [nl _ (by omega)]
    exact hQ
  · refine i_neg (by first | decide | (unfold vp_in; decide)) (i_neg (by first | decide | (unfold vp_in; decide)) (i_neg (by first | decide | (unfold vp_in; decide)) (i_neg (by first | decide | (unfold vp_in; decide)) (i_neg (by first | decide | (unfold vp_in; decide)) (i_neg (by first | decide | (unfold vp_in; decide)) (i_neg (by first | decide | (unfold vp_in; decide)) (i_neg (by first | decide | (unfold vp_in; decide)) (i_neg (by first | decide | (unfold vp_in; decide)) (i_neg (by first | decide | (unfold vp_in; decide)) (i_pos rfl (r_cellOf hP hM hi ?_)))))))))))
    rw [show nI (fce P i) - nI (fce P i) / 6 * 6 = nI (fce P i % 6) from pk_rem (d := 6) (by omega) (by omega) (by omega), nl _ (by omega)]
    exact hQ
  · refine i_neg (by first | decide | (unfold vp_in; decide)) (i_neg (by first | decide | (unfold vp_in; decide)) (i_neg (by first | decide | (unfold vp_in; decide)) (i_neg (by first | decide | (unfold vp_in; decide)) (i_neg (by first | decide | (unfold vp_in; decide)) (i_neg (by first | decide | (unfold vp_in; decide)) (i_neg (by first | decide | (unfold vp_in; decide)) (i_neg (by first | decide | (unfold vp_in; decide)) (i_neg (by first | decide | (unfold vp_in; decide)) (i_neg (by first | decide | (unfold vp_in; decide)) (i_neg (by first | decide | (unfold vp_in; decide)) (i_pos rfl (r_cellOf hP hM hi ?_))))))))))))
    rw [show nI (fce P i) / 6 = nI (fce P i / 6) from pk_div (d := 6) (by omega) (by omega) (by omega), nl _ (by omega)]
    exact hQ
  · refine i_neg (by first | decide | (unfold vp_in; decide)) (i_neg (by first | decide | (unfold vp_in; decide)) (i_neg (by first | decide | (unfold vp_in; decide)) (i_neg (by first | decide | (unfold vp_in; decide)) (i_neg (by first | decide | (unfold vp_in; decide)) (i_neg (by first | decide | (unfold vp_in; decide)) (i_neg (by first | decide | (unfold vp_in; decide)) (i_neg (by first | decide | (unfold vp_in; decide)) (i_neg (by first | decide | (unfold vp_in; decide)) (i_neg (by first | decide | (unfold vp_in; decide)) (i_neg (by first | decide | (unfold vp_in; decide)) (i_neg (by first | decide | (unfold vp_in; decide)) (r_dayOf hP hM hi ?_))))))))))))
    rw [nl _ (by omega)]
    exact hQ
theorem pil_top {u : St} {a b : Int} {st : List Int} (hp : Pil u (a :: st)) : Pil (tL u 284 st.length (lI b)) (b :: st) := ⟨hp.1, tL_s _ _ _ _, stkL_c st (fun i hi => tL_n _ _ (by omega)) hp.2.2⟩
theorem ev_12 {F : Nat → Int} {a : Int} {r : List Int} : evM F 12 (a :: r) = (1 - a) :: r := rfl
theorem ty_hd {t : Nat} {ts ts' : List Bool} (h : tyE t ts = some ts') (ht : t = 12 ∨ t = 60 ∨ t = 61) : 1 ≤ ts.length := by
  cases ts with
  | nil =>
    rcases ht with rfl | rfl | rfl
    · exact absurd h (by simp [tyE])
    · exact absurd h (by simp [tyE])
    · exact absurd h (by simp [tyE])
  | cons x r => simp
theorem r_qTold {P : Pl} {N : Nat → Nat} {i : Nat} {c : List Nat} {tt : Bool} {Q : Int64 → St → Prop} {u : St} (hP : VP P) (hN : VN P N) (h0 : pc P ≠ 0) (hi : i < pf P) (hM : mPl u P) (hL : mLa u N) (h57 : u.1 198 57 = nI 2) (hS : StT u P N (pk P)) (hW : ∀ k, k < pk P → IsWay P N k (wp P N k) (wm P N k)) (hC : Cd u c) (hg : Good tt 64 c) (hk : OkK 2 c) (hl : c.length ≤ 1600)
    (hQ : ∀ u', Kp (fun a k => ¬ (a = 198 ∧ k = 115)) u u' → Q (lI (vq P N c i)) u') : s_X12_qTold (nI i) Q u := by
  have hm : ∀ k, k < pk P → wm P N k ≤ 36 := fun k hk => (w_cel hP h0 (hW k hk)).1
  have hG := Fq_ok hP hN hi hm
  have hv := good_val hG (Nat.le_refl 64) hg
  have hty : tyR c [] = some [tt] := hg [] (by simp)
  unfold s_X12_qTold
  refine bnd_i ?_
  unfold sX12_qTold_p7
  refine for_up (fun n j s => sX12_qTold_p7n (nI i) Q n j s) c.length (fun j s => ∃ (st : List Int) (ts : List Bool), Pil s st ∧ Tyd st ts ∧ tyR (c.drop j) ts = some [tt] ∧ ruM (Fq P N i) (c.drop j) st = [vq P N c i] ∧ st.length ≤ j ∧ Kp (fun a k => ¬ (a = 198 ∧ k = 115)) u s) ?_ 0 _ (by omega) ⟨[], [], ⟨t_s _ _ _ _, trivial⟩, trivial, by simpa using hty, by rw [List.drop_zero]; exact hv.1, by simp, kp_I (kp_r u) (by omega)⟩
  rintro n j s hj ⟨st, ts, hPl, hT, h1, h2, h4, hK⟩ hnext
  show sX12_qTold_p7b (nI i) Q (sX12_qTold_p7n (nI i) Q n) (nI j) s
  unfold sX12_qTold_p7b sX12_qTold_p162
  rw [(hK.1 198 109 (by omega)).trans hC.1]
  by_cases hje : j = c.length
  · refine i_pos (nI_le (by omega) (by omega)) ⟨by first | decide | (unfold vp_in; decide), ?_⟩
    rw [hje, List.drop_length] at h2
    have h2' : st = [vq P N c i] := h2
    subst h2'
    have e3 : s.2.1 284 0 = lI (vq P N c i) := hPl.2.1
    show Q (s.2.1 284 0) s
    rw [e3]
    exact hQ s hK
  refine i_neg (nI_ge (by omega) (by omega)) ?_
  have hkl : j < c.length := by omega
  have et : s.1 282 j = nI (c.getD j 0) := by
    rw [hK.1 282 j (by omega)]
    exact hC.2 j hkl
  rw [nI_clamp (by omega), et, nI_1]
  refine ⟨vp_in_nI (by omega) (by omega), ?_⟩
  have hmem := getD_mem hkl
  have hpt := hk _ hmem
  have hrng := good_rng hg _ hmem
  rw [drop_getD hkl] at h1 h2
  generalize c.getD j 0 = t at hmem hpt h1 h2 hrng
  have h1' : (tyE t ts).bind (tyR (c.drop (j + 1))) = some [tt] := h1
  have h2' : ruM (Fq P N i) (c.drop (j + 1)) (evM (Fq P N i) t st) = [vq P N c i] := h2
  cases hty2 : tyE t ts with
  | none => rw [hty2] at h1'; exact absurd h1' (by simp)
  | some ts2 =>
  rw [hty2] at h1'
  have hev := (ev_ok hG hT hty2).1
  have hMs : mPl s P := mPl_K hM hK (fun x k h => by omega)
  have hLs : mLa s N := mLa_K hL hK (fun k => by omega)
  have h57s : s.1 198 57 = nI 2 := by rw [hK.1 198 57 (by omega)]; exact h57
  have hSs : StT s P N (pk P) := fun k hk f hf => by rw [hK.1 244 _ (by omega)]; exact hS k hk f hf
  have hgo : ∀ u2, Pil u2 (evM (Fq P N i) t st) → (evM (Fq P N i) t st).length ≤ st.length + 1 → Kp (fun a k => ¬ (a = 198 ∧ k = 115)) u u2 → sX12_qTold_p7n (nI i) Q n (nI (j + 1)) u2 := fun u2 a1 a2 a3 => hnext (by omega) u2 ⟨evM (Fq P N i) t st, ts2, a1, hev, h1', h2', by omega, a3⟩
  have hlen := tyd_len hT
  by_cases c1000 : 1000 ≤ t
  · have q1 : ¬ nI t < nI 1000 := nI_nlt (by omega) (by omega)
    refine i_neg q1 ?_
    have e5 : (nI t - 1000).toInt64 = lI ((t - 1000 : Nat) : Int) := by
      rw [show nI t - 1000 = nI (t - 1000) from pk_sub (b := 1000) c1000, nI_l (by omega), lN_lI (by omega)]
    have e6 : evM (Fq P N i) t st = ((t - 1000 : Nat) : Int) :: st := by unfold evM; rw [if_pos c1000]
    rw [e5]
    rw [e6] at hgo
    exact r_puts hPl (by omega) hK (by simp) (fun u' q1 q2 q3 => hgo u' q1 (by simp) q2)
  have q1 : nI t < nI 1000 := nI_lt (by omega) (by omega)
  refine i_pos q1 ?_
  by_cases c60 : 60 ≤ t
  · have ht : t = 60 ∨ t = 61 := by
      rcases hpt with h | h | h | h
      · omega
      · omega
      · omega
      · omega
    have q2 : ¬ nI t < nI 60 := nI_nlt (by omega) (by omega)
    refine i_neg q2 ?_
    have hn1 := ty_hd hty2 (by omega)
    match st, ts, hT, hPl, hgo, h4, hlen with
    | a :: r, ta :: tr, hT, hPl, hgo, h4, hlen =>
      simp only [List.length_cons] at h4
      have e115 : s.1 198 115 - 1 = nI r.length := by
        rw [hPl.1]
        exact pk_sub (a := r.length + 1) (b := 1) (by omega)
      have e6 : evM (Fq P N i) t (a :: r) = ofc (Fq P N i) (t - 60) a :: r := by
        unfold evM
        first | refine i_neg c1000 ?_ | rw [if_neg c1000]
        first | refine i_pos c60 ?_ | rw [if_pos c60]
        try (with_reducible rfl)
      rw [e6] at hgo
      rw [e6] at hev
      have hob : -1000000 ≤ ofc (Fq P N i) (t - 60) a ∧ ofc (Fq P N i) (t - 60) a ≤ 1000000 := by
        unfold ofc
        by_cases ha : 0 ≤ a ∧ a < 5
        · first | refine i_pos ha ?_ | rw [if_pos ha]
          try (with_reducible rfl)
          refine hG _ ?_
          by_cases hz : t - 60 = 0
          · first | refine i_pos hz ?_ | rw [if_pos hz]
            try (with_reducible rfl)
            omega
          · first | refine i_neg hz ?_ | rw [if_neg hz]
            try (with_reducible rfl)
            omega
        · first | refine i_neg ha ?_ | rw [if_neg ha]
          try (with_reducible rfl)
          by_cases hz : t - 60 = 0
          · first | refine i_pos hz ?_ | rw [if_pos hz]
            try (with_reducible rfl)
            omega
          · first | refine i_neg hz ?_ | rw [if_neg hz]
            try (with_reducible rfl)
            omega
      have etop : s.2.1 284 r.length = lI a := hPl.2.1
      rw [e115, nI_clamp (by omega), etop, show nI t - 60 = nI (t - 60) from pk_sub (b := 60) c60]
      refine ⟨vp_in_nI (by omega) (by omega), ?_⟩
      refine r_qOf hP hMs h0 hi (by omega) ⟨hT.1.1, hT.1.2.1⟩ hSs hW ?_
      refine r_qClip hob.1 hob.2 (bnd_i ?_)
      exact hgo _ (pil_top hPl) (by simp) (kp_L hK)
    | [], ts, hT, hPl, hgo, h4, hlen => exact absurd hn1 (by simp only [List.length_nil] at hlen; omega)
    | a :: r, [], hT, hPl, hgo, h4, hlen => exact hT.elim
  have q2 : nI t < nI 60 := nI_lt (by omega) (by omega)
  refine i_pos q2 ?_
  by_cases c40 : 40 ≤ t
  · have q3 : ¬ nI t < nI 40 := nI_nlt (by omega) (by omega)
    have hta : t < 53 ∧ al 2 (t - 40) = true := by
      rcases hpt with h | h | h | h
      · omega
      · exact h.2
      · omega
      · omega
    refine i_neg q3 ?_
    rw [show nI t - 40 = nI (t - 40) from pk_sub (b := 40) c40]
    have e6 : evM (Fq P N i) t st = Fq P N i (t - 40) :: st := by
      unfold evM
      first | refine i_neg c1000 ?_ | rw [if_neg c1000]
      first | refine i_neg c60 ?_ | rw [if_neg c60]
      first | refine i_pos c40 ?_ | rw [if_pos c40]
      try (with_reducible rfl)
    rw [e6] at hgo
    have hfb := hG (t - 40) (by omega)
    refine r_qPartQ hP hN hMs hLs h57s hi (by omega) hta.2 (r_qClip hfb.1 hfb.2 ?_)
    exact r_puts hPl (by omega) hK (by simp) (fun u' q1 q2 q3 => hgo u' q1 (by simp) q2)
  have q3 : nI t < nI 40 := nI_lt (by omega) (by omega)
  refine i_pos q3 ?_
  by_cases c13 : t = 13
  · subst c13
    refine i_pos rfl ?_
    have e6 : evM (Fq P N i) 13 st = 1 :: st := rfl
    rw [e6] at hgo
    rw [l_1]
    exact r_puts hPl (by omega) hK (by simp) (fun u' q1 q2 q3 => hgo u' q1 (by simp) q2)
  refine i_neg (x_ne (k := 13) (by omega) (by omega) c13) ?_
  by_cases c12 : t = 12
  · subst c12
    refine i_pos rfl ?_
    have hn1 := ty_hd hty2 (by omega)
    match st, ts, hT, hPl, hgo, h4, hlen with
    | a :: r, ta :: tr, hT, hPl, hgo, h4, hlen =>
      simp only [List.length_cons] at h4
      have e115 : s.1 198 115 - 1 = nI r.length := by
        rw [hPl.1]
        exact pk_sub (a := r.length + 1) (b := 1) (by omega)
      rw [ev_12] at hgo
      have etop : s.2.1 284 r.length = lI a := hPl.2.1
      rw [e115, nI_clamp (by omega), etop, l_1, lI_sub]
      exact ⟨vp_in_nI (by omega) (by omega), bnd_i (hgo _ (pil_top hPl) (by simp) (kp_L hK))⟩
    | [], ts, hT, hPl, hgo, h4, hlen => exact absurd hn1 (by simp only [List.length_nil] at hlen; omega)
    | a :: r, [], hT, hPl, hgo, h4, hlen => exact hT.elim
  refine i_neg (x_ne (k := 12) (by omega) (by omega) c12) ?_
  have h6 := ty_two hty2 (by omega)
  match st, ts, hT, hPl, hgo, h4, hlen with
  | b :: a :: r, tb :: ta :: tr, hT, hPl, hgo, h4, hlen =>
    have e6 : evM (Fq P N i) t (b :: a :: r) = jo t a b :: r := by
      unfold evM
      first | refine i_neg (by omega) ?_ | rw [if_neg (by omega)]
      first | refine i_neg (by omega) ?_ | rw [if_neg (by omega)]
      first | refine i_neg (by omega) ?_ | rw [if_neg (by omega)]
      first | refine i_neg (by omega) ?_ | rw [if_neg (by omega)]
      first | refine i_neg (by omega) ?_ | rw [if_neg (by omega)]
      try (with_reducible rfl)
    rw [e6] at hgo
    simp only [List.length_cons] at h4
    exact r_joins hPl (by omega) ⟨h6.1, by omega⟩ ⟨hT.2.1.1, hT.2.1.2.1⟩ ⟨hT.1.1, hT.1.2.1⟩ hK (by simp) (fun u' q1 q2 q3 => hgo u' q1 (by simp) q2)
  | [], ts, hT, hPl, hgo, h4, hlen => exact absurd h6.2 (by simp only [List.length_nil] at hlen; omega)
  | [x], ts, hT, hPl, hgo, h4, hlen => exact absurd h6.2 (by simp only [List.length_cons, List.length_nil] at hlen; omega)
  | b :: a :: r, [], hT, hPl, hgo, h4, hlen => exact hT.elim
  | b :: a :: r, [_], hT, hPl, hgo, h4, hlen => exact hT.2.elim
/-- one farm's worth is taken into the answer -/
theorem r_qTk {kd i : Nat} {v A A' : Int} {Q : St → Prop} {u : St} (hkd : kd < 6) (hi : i < 6) (hv : -1000000 ≤ v ∧ v ≤ 1000000) (ht : kd < 3 → v = 0 ∨ v = 1) (hA : -10000000 ≤ A ∧ A ≤ 10000000) (h116 : u.2.1 198 116 = lI A) (h117 : u.1 198 117 = (if i = 0 then 1 else 0)) (hA' : A' = if kd = 0 then (if v = 1 ∧ A = -1 then (i : Int) else A) else if kd = 1 then (if v = 1 then (i : Int) else A) else if kd < 4 then A + v else if i = 0 then v else if kd = 4 then (if A < v then v else A) else (if v < A then v else A)) (hQ : Q (tI (tL u 198 116 (lI A')) 198 117 0)) : s_X12_qTakes (nI kd) (lI v) (nI i) Q u := by
  have hi64 : (nI i).toInt64 = lI (i : Int) := by rw [nI_l (by omega), lN_lI (by omega)]
  have eid : tL u 198 116 (lI A) = u := tL_id h116
  have e1 : (lI v = lI 1) = (v = 1) := lI_eq (by omega) (by omega) (by omega) (by omega)
  have ec1 : (lg_cmp (lI v) (1 : Int64) = 0) ↔ (v = 1) := by
    simp only [lg_cmp_eq]
    rw [l_1]
    exact iff_of_eq e1
  have hsame : A' = A → Q (tI u 198 117 0) := fun e => by
    rw [e, eid] at hQ
    exact hQ
  have h117n : ¬ i = 0 → u.1 198 117 = 0 := fun h => by rw [h117, if_neg h]
  have h117z : i = 0 → u.1 198 117 = 1 := fun h => by rw [h117, if_pos h]
  unfold s_X12_qTakes sX12_qTakes_p15 sX12_qTakes_p16 sX12_qTakes_p38 sX12_qTakes_p48 sX12_qTakes_p55 sX12_qTakes_p75 sX12_qTakes_p90 sX12_qTakes_p128 sX12_qTakes_p133
  have hcase : kd = 0 ∨ kd = 1 ∨ kd = 2 ∨ kd = 3 ∨ kd = 4 ∨ kd = 5 := by omega
  rcases hcase with rfl | rfl | rfl | rfl | rfl | rfl
  · refine i_neg (by first | decide | (unfold vp_in; decide)) ?_
    rw [if_pos rfl] at hA'
    by_cases c1 : v = 1
    · refine i_pos (ec1.mpr c1) (i_pos rfl (i_neg (by first | decide | (unfold vp_in; decide)) ?_))
      rw [h116]
      have e2 : (lg_cmp (lI A) (-1 : Int64) = 0) ↔ (A = -1) := by
        simp only [lg_cmp_eq]
        rw [l_m1]
        exact iff_of_eq (lI_eq (by omega) (by omega) (by omega) (by omega))
      by_cases c2 : A = -1
      · rw [if_pos ⟨c1, c2⟩] at hA'
        refine i_pos (e2.mpr c2) (bnd_i (i_neg (by first | decide | (unfold vp_in; decide)) (i_neg (by first | decide | (unfold vp_in; decide)) (i_pos (by first | decide | (unfold vp_in; decide)) (bnd_i ?_)))))
        rw [hi64, ← hA']
        exact hQ
      · rw [if_neg (fun h => c2 h.2)] at hA'
        exact i_neg (fun h => c2 (e2.mp h)) (i_neg (by first | decide | (unfold vp_in; decide)) (i_neg (by first | decide | (unfold vp_in; decide)) (i_neg (by first | decide | (unfold vp_in; decide)) (i_pos (by first | decide | (unfold vp_in; decide)) (bnd_i (hsame hA'))))))
    · rw [if_neg (fun h => c1 h.1)] at hA'
      exact i_neg (fun h => c1 (ec1.mp h)) (i_pos rfl (i_pos rfl (i_neg (by first | decide | (unfold vp_in; decide)) (i_neg (by first | decide | (unfold vp_in; decide)) (i_neg (by first | decide | (unfold vp_in; decide)) (i_pos (by first | decide | (unfold vp_in; decide)) (bnd_i (hsame hA'))))))))
  · refine i_neg (by first | decide | (unfold vp_in; decide)) ?_
    rw [if_neg (by omega), if_pos rfl] at hA'
    by_cases c1 : v = 1
    · rw [if_pos c1] at hA'
      refine i_pos (ec1.mpr c1) (i_neg (by first | decide | (unfold vp_in; decide)) (i_pos rfl (i_neg (by first | decide | (unfold vp_in; decide)) (bnd_i (i_neg (by first | decide | (unfold vp_in; decide)) (i_neg (by first | decide | (unfold vp_in; decide)) (i_pos (by first | decide | (unfold vp_in; decide)) (bnd_i ?_))))))))
      rw [hi64, ← hA']
      exact hQ
    · rw [if_neg c1] at hA'
      exact i_neg (fun h => c1 (ec1.mp h)) (i_neg (by first | decide | (unfold vp_in; decide)) (i_pos rfl (i_pos rfl (i_neg (by first | decide | (unfold vp_in; decide)) (i_neg (by first | decide | (unfold vp_in; decide)) (i_pos (by first | decide | (unfold vp_in; decide)) (bnd_i (hsame hA'))))))))
  · refine i_neg (by first | decide | (unfold vp_in; decide)) ?_
    rw [if_neg (by omega), if_neg (by omega), if_pos (by omega)] at hA'
    rcases ht (by omega) with c1 | c1
    · rw [c1, Int.add_zero] at hA'
      exact i_neg (fun h => absurd (ec1.mp h) (by omega)) (i_neg (by first | decide | (unfold vp_in; decide)) (i_neg (by first | decide | (unfold vp_in; decide)) (i_pos rfl (i_pos rfl (i_neg (by first | decide | (unfold vp_in; decide)) (i_pos (by first | decide | (unfold vp_in; decide)) (bnd_i (hsame hA'))))))))
    · refine i_pos (ec1.mpr c1) (i_neg (by first | decide | (unfold vp_in; decide)) (i_neg (by first | decide | (unfold vp_in; decide)) (i_pos rfl (i_neg (by first | decide | (unfold vp_in; decide)) (bnd_i (i_neg (by first | decide | (unfold vp_in; decide)) (i_pos (by first | decide | (unfold vp_in; decide)) (bnd_i ?_))))))))
      rw [h116, l_1, lI_add, show A + 1 = A' by omega]
      exact hQ
  · refine i_pos (by first | decide | (unfold vp_in; decide)) (i_neg (by first | decide | (unfold vp_in; decide)) (i_neg (by first | decide | (unfold vp_in; decide)) (i_neg (by first | decide | (unfold vp_in; decide)) (i_pos rfl (bnd_i (i_pos (by first | decide | (unfold vp_in; decide)) (bnd_i ?_)))))))
    rw [if_neg (by omega), if_neg (by omega), if_pos (by omega)] at hA'
    rw [h116, lI_add, ← hA']
    exact hQ
  · refine i_pos (by first | decide | (unfold vp_in; decide)) (i_neg (by first | decide | (unfold vp_in; decide)) (i_neg (by first | decide | (unfold vp_in; decide)) (i_neg (by first | decide | (unfold vp_in; decide)) (i_neg (by first | decide | (unfold vp_in; decide)) (i_neg (by first | decide | (unfold vp_in; decide)) ?_)))))
    rw [if_neg (by omega), if_neg (by omega), if_neg (by omega)] at hA'
    by_cases ci : i = 0
    · rw [if_pos ci] at hA'
      rw [h117z ci]
      refine i_neg (by first | decide | (unfold vp_in; decide)) (bnd_i (bnd_i ?_))
      rw [← hA']
      exact hQ
    · rw [if_neg ci, if_pos rfl] at hA'
      rw [h117n ci]
      refine i_pos rfl (i_pos rfl ?_)
      rw [h116]
      have e2 : (lg_cmp (lI v) (lI A) ≤ 0) ↔ (v ≤ A) := by
        simp only [lg_cmp_le]
        exact iff_of_eq (lI_le (by omega) (by omega) (by omega) (by omega))
      by_cases c2 : A < v
      · rw [if_pos c2] at hA'
        refine i_neg (fun h => absurd (e2.mp h) (by omega)) (bnd_i (bnd_i ?_))
        rw [← hA']
        exact hQ
      · rw [if_neg c2] at hA'
        exact i_pos (e2.mpr (by omega)) (bnd_i (hsame hA'))
  · refine i_pos (by first | decide | (unfold vp_in; decide)) (i_neg (by first | decide | (unfold vp_in; decide)) (i_neg (by first | decide | (unfold vp_in; decide)) (i_neg (by first | decide | (unfold vp_in; decide)) (i_neg (by first | decide | (unfold vp_in; decide)) (i_neg (by first | decide | (unfold vp_in; decide)) ?_)))))
    rw [if_neg (by omega), if_neg (by omega), if_neg (by omega)] at hA'
    by_cases ci : i = 0
    · rw [if_pos ci] at hA'
      rw [h117z ci]
      refine i_neg (by first | decide | (unfold vp_in; decide)) (bnd_i (bnd_i ?_))
      rw [← hA']
      exact hQ
    · rw [if_neg ci, if_neg (by omega)] at hA'
      rw [h117n ci]
      refine i_pos rfl (i_neg (by first | decide | (unfold vp_in; decide)) ?_)
      rw [h116]
      have e2 : (0 ≤ lg_cmp (lI v) (lI A)) ↔ (A ≤ v) := by
        simp only [lg_cmp_ge]
        exact iff_of_eq (lI_le (by omega) (by omega) (by omega) (by omega))
      by_cases c2 : v < A
      · rw [if_pos c2] at hA'
        refine i_neg (fun h => absurd (e2.mp h) (by omega)) (bnd_i (bnd_i ?_))
        rw [← hA']
        exact hQ
      · rw [if_neg c2] at hA'
        exact i_pos (e2.mpr (by omega)) (bnd_i (hsame hA'))
def SRa (a k : Nat) : Prop := SW a k ∧ a ≠ 244 ∧ ¬ (a = 198 ∧ (k = 117 ∨ k = 57 ∨ k = 115))
/-- the reference's answer, the text being read -/
theorem r_answer {P : Pl} {N : Nat → Nat} {c : List Nat} {kd : Nat} {Q : Int64 → St → Prop} {u : St} (hP : VP P) (hN : VN P N) (h0 : pc P ≠ 0) (hkd : kd < 6) (hM : mPl u P) (hL : mLa u N) (hC : Cd u c) (hg : Good (decide (kd < 3)) 64 c) (hk : OkK 2 c) (hl : c.length ≤ 1600)
    (hQ : ∀ u', Kp SRa (tL u 198 116 (lI (ansQ P N c kd (pf P)))) u' → Q (lI (ansQ P N c kd (pf P))) u') : (if (2 : Int32) ≤ nI kd then sX12_ask_p173 (nI kd) (0 : Int64) Q u else sX12_ask_p173 (nI kd) (-1 : Int64) Q u) := by
  have h6 := hP.2.2.2.2.1
  have hk5 := hP.2.2.2.2.2.1
  have hgo : ∀ z : Int, z = ansQ P N c kd 0 → sX12_ask_p173 (nI kd) (lI z) Q u := by
    intro z hz
    unfold sX12_ask_p173
    refine bnd_i (bnd_i ?_)
    have kz : Kp SRa (tL u 198 116 (lI z)) (tI (tL u 198 116 (lI z)) 198 117 1) := kp_I (kp_r _) (by unfold SRa; omega)
    have hM0 : mPl (tL u 198 116 (lI z)) P := mPl_tL hM (by omega)
    have hL0 : mLa (tL u 198 116 (lI z)) N := hL
    have hC0 : Cd (tL u 198 116 (lI z)) c := hC
    unfold sX12_ask_p183
    refine for_up (fun n i s => sX12_ask_p183n (nI kd) Q n i s) (pk P) (fun i s => Kp SRa (tL u 198 116 (lI z)) s ∧ s.1 198 117 = 1 ∧ StT s P N i ∧ ∀ k, k < i → IsWay P N k (wp P N k) (wm P N k)) ?_ 0 _ (by omega) ⟨kz, t_s _ _ _ _, fun k hk => absurd hk (by omega), fun k hk => absurd hk (by omega)⟩
    rintro n i s hi ⟨hK, e117, hSt, hW⟩ hnext
    show sX12_ask_p183b (nI kd) Q (sX12_ask_p183n (nI kd) Q n) (nI i) s
    unfold sX12_ask_p183b
    have hMs : mPl s P := mPl_K hM0 hK (fun x k h => by unfold SRa SW; omega)
    have hLs : mLa s N := mLa_K hL0 hK (fun k => by unfold SRa SW; omega)
    refine r_callerMany hMs ?_
    by_cases hie : i = pk P
    · rw [hie] at hSt hW ⊢
      refine i_pos (nI_le (Nat.le_refl _) (by omega)) (bnd_i ?_)
      have hm : ∀ k, k < pk P → wm P N k ≤ 36 := fun k hk => (w_cel hP h0 (hW k hk)).1
      have kb : Kp SRa (tL u 198 116 (lI z)) (tI s 198 57 2) := kp_I hK (by unfold SRa; omega)
      have e57 : (tI s 198 57 2).1 198 57 = nI 2 := t_s _ _ _ _
      have f117 : (tI s 198 57 2).1 198 117 = 1 := by rw [t_n _ _ (by omega)]; exact e117
      have fSt : StT (tI s 198 57 2) P N (pk P) := fun k hk f hf => by rw [t_n _ _ (by omega)]; exact hSt k hk f hf
      generalize tI s 198 57 2 = s1 at kb e57 f117 fSt
      unfold sX12_ask_p209
      refine for_up (fun n i s => sX12_ask_p209n (nI kd) Q n i s) (pf P) (fun i y => Kp SRa (tL u 198 116 (lI (ansQ P N c kd i))) y ∧ y.1 198 57 = nI 2 ∧ y.1 198 117 = (if i = 0 then 1 else 0) ∧ StT y P N (pk P)) ?_ 0 s1 (by omega) ⟨by rw [← hz]; exact kb, e57, by rw [f117, if_pos rfl], fSt⟩
      rintro n2 i2 y hi2 ⟨hKy, y57, y117, ySt⟩ hnext2
      show sX12_ask_p209b (nI kd) Q (sX12_ask_p209n (nI kd) Q n2) (nI i2) y
      unfold sX12_ask_p209b
      have hMy : mPl y P := mPl_K (mPl_tL (a := 198) (k := 116) (x := lI (ansQ P N c kd i2)) hM (by omega)) hKy (fun x k h => by unfold SRa SW; omega)
      have hLy : mLa y N := mLa_K (u := tL u 198 116 (lI (ansQ P N c kd i2))) hL hKy (fun k => by unfold SRa SW; omega)
      have hCy : Cd y c := cd_K (u := tL u 198 116 (lI (ansQ P N c kd i2))) hC hKy (by unfold SRa SW; omega) (fun k => by unfold SRa SW; omega)
      have e116 : y.2.1 198 116 = lI (ansQ P N c kd i2) := by rw [hKy.2.1 198 (by omega), tL_ss]
      refine r_farmMany hMy ?_
      by_cases hie2 : i2 = pf P
      · rw [hie2] at hKy e116 ⊢
        rw [e116]
        exact i_pos (nI_le (Nat.le_refl _) (by omega)) (hQ y hKy)
      refine i_neg (nI_ge (by omega) (by omega)) ?_
      refine r_qTold hP hN h0 (by omega) hMy hLy y57 ySt hW hCy hg hk hl (fun y2 k2 => ?_)
      have hvb := vq_ok hP hN (show i2 < pf P by omega) hm hg
      have hab := ansQ_b (P := P) (N := N) (c := c) (k := kd) (fun j hj => ⟨(vq_ok hP hN hj hm hg).1, (vq_ok hP hN hj hm hg).2.1⟩) h6 i2 hi2
      have hKy2 : Kp SRa (tL u 198 116 (lI (ansQ P N c kd i2))) y2 := kp_t hKy (kp_m k2 (fun a k h => by unfold SRa at h; omega))
      refine r_qTk (A := ansQ P N c kd i2) (A' := ansQ P N c kd (i2 + 1)) hkd (by omega) ⟨hvb.1, hvb.2.1⟩ (fun h => hvb.2.2 (decide_eq_true h)) ⟨hab.1, hab.2.1⟩ (by rw [k2.2.1 198 (by omega)]; exact e116) (by rw [k2.1 198 117 (by omega)]; exact y117) rfl ?_
      rw [nI_1]
      have hK3 : Kp SRa (tL u 198 116 (lI (ansQ P N c kd (i2 + 1)))) (tL y2 198 116 (lI (ansQ P N c kd (i2 + 1)))) := by
        have := kp_tL (a := 198) (k := 116) (x := lI (ansQ P N c kd (i2 + 1))) hKy2 (by omega)
        rw [tL_tL] at this
        exact this
      have kq : Kp (fun a k => ¬ (a = 198 ∧ k = 117)) (tL y2 198 116 (lI (ansQ P N c kd (i2 + 1)))) (tI (tL y2 198 116 (lI (ansQ P N c kd (i2 + 1)))) 198 117 0) := kp_I (kp_r _) (by omega)
      refine hnext2 (by omega) _ ⟨kp_I hK3 (by unfold SRa; omega), ?_, ?_, fun k hk f hf => ?_⟩
      · rw [kq.1 198 57 (by omega)]
        show y2.1 198 57 = _
        rw [k2.1 198 57 (by omega)]
        exact y57
      · rw [t_s]
        first | refine i_neg (by omega) ?_ | rw [if_neg (by omega)]
        try (with_reducible rfl)
      · rw [kq.1 244 _ (by omega)]
        show y2.1 244 _ = _
        rw [k2.1 244 _ (by omega)]
        exact ySt k hk f hf
    refine i_neg (nI_ge (by omega) (by omega)) ?_
    refine r_laysSteps hP hN (by omega) hMs hLs hSt (fun s2 k2 st2 w2 => ?_)
    rw [nI_1]
    refine hnext (by omega) s2 ⟨kp_t hK (kp_m k2 (fun a k h => ⟨h.1, h.2.1⟩)), ?_, st2, fun k hk => ?_⟩
    · rw [k2.1 198 117 (by unfold SW; omega)]
      exact e117
    · by_cases ek : k = i
      · rw [ek]
        exact w2
      · exact hW k (by omega)
  by_cases k2 : kd < 2
  · have c2 : ¬ nI 2 ≤ nI kd := nI_ge (by omega) (by omega)
    refine i_neg c2 ?_
    rw [l_m1]
    exact hgo (-1) (by unfold ansQ; rw [if_pos k2])
  · have c2 : nI 2 ≤ nI kd := nI_le (by omega) (by omega)
    refine i_pos c2 ?_
    rw [l_0]
    exact hgo 0 (by unfold ansQ; rw [if_neg k2])
