/-! ===== the reference reads a PLAIN whole ===== -/
def mClr (u : St) : Prop := (u.1 198 54 = 0 ∧ u.1 198 43 = 0) ∧ (∀ k, k < 2 → u.1 232 k = 0 ∧ u.1 238 k = -1) ∧ ∀ c, c < 36 → u.1 236 c = 0 ∧ u.1 237 c = 0
theorem mdr_0 {u u' : St} {c r : Nat} (h : mClr u) (hK : Kp (fun a k => SXr a k ∧ ¬ (a = 231 ∧ k < 2)) u u') (v0 : u'.1 231 0 = nI c) (v1 : u'.1 231 1 = nI r) : mDr u' (nwD c r) := by
  obtain ⟨⟨a1, a2⟩, b, d⟩ := h
  refine ⟨⟨v0, v1, ?_, ?_, ?_⟩, fun f hf => absurd hf (Nat.not_lt_zero _), fun f hf => absurd hf (Nat.not_lt_zero _), fun x hx => ?_, Or.inl ⟨?_, rfl⟩, Or.inl ⟨?_, rfl⟩, ?_⟩
  · rw [hK.1 _ _ (by unfold SXr; omega)]
    exact a2
  · rw [hK.1 _ _ (by unfold SXr; omega)]
    exact (b 0 (by omega)).1
  · rw [hK.1 _ _ (by unfold SXr; omega)]
    exact (b 1 (by omega)).1
  · rw [hK.1 236 _ (by unfold SXr; omega), hK.1 237 _ (by unfold SXr; omega)]
    exact d x hx
  · rw [hK.1 _ _ (by unfold SXr; omega)]
    exact (b 0 (by omega)).2
  · rw [hK.1 _ _ (by unfold SXr; omega)]
    exact (b 1 (by omega)).2
  · rw [hK.1 _ _ (by unfold SXr; omega)]
    exact a1
theorem r_sidesT {X : Tx} {u : St} {Q : St → Prop} (hm : Ma u X 0 false) (hc : mClr u) (hG : gWords u) (h1 : ∀ u' D p, sdR X = .ok (D, p) → Ma u' X p false → mDr u' D → gWords u' → Kr SRd u u' → Q u') (h0 : ∀ u' e, sdR X = .error e → Mf u' X e → Kr SRd u u' → Q u') : s_X12_plainTold Q u := by
  unfold s_X12_plainTold
  have hS : ∀ a k, SRd a k → SXr a k ∧ ¬ (a = 231 ∧ k < 2) := by
    intro a k h
    refine ⟨sxr_rd a k h, ?_⟩
    have := h.2.2
    unfold DRd at this
    omega
  have hW : ∀ s, Kp (fun a k => SXr a k ∧ ¬ (a = 231 ∧ k < 2)) u s → gWords s := fun s k => k_words hG k (fun a k h => by unfold DWords at h; unfold SXr; omega)
  rw [show ((0 : Int32)).toNatClampNeg = 0 by first | decide | (unfold vp_in; decide), show ((1 : Int32)).toNatClampNeg = 1 by first | decide | (unfold vp_in; decide)]
  refine r_asks (v := 201) (w := wPlain) (by omega) (wd_of (q := (201, wPlain)) hG (by first | decide | (unfold vp_in; decide))) hm (fun u1 k1 hi m1 => ?_) (fun u1 k1 hi f1 => ?_)
  · have hw1 : wR X 0 false wPlain = .ok () := if_pos hi
    refine r_number (least := 2) (most := 6) (by omega) (by omega) m1 (fun u2 c k2 hc2 m2 _ => ⟨vp_in_nI (n := 0) (by omega) (by omega), bnd_i ?_⟩) (fun u2 e rr k2 hc2 f2 => ⟨vp_in_nI (n := 0) (by omega) (by omega), bnd_i ?_⟩)
    · have k3 : Kp (fun a k => SXr a k ∧ ¬ (a = 231 ∧ k < 2)) u (tI u2 231 0 (nI c)) := kp_I (kp_t (kp_m k1 (fun a k h => h.1)) (kp_m k2 (fun a k h => h.1))) (by omega)
      have z3 : (tI u2 231 0 (nI c)).1 231 0 = nI c := t_s _ _ _ _
      have m3 : Ma (tI u2 231 0 (nI c)) X (lx X 2 0) true := ma_K m2 (kp_I (S := fun a _ => a ≠ 231) (kp_r u2) (by omega)) (fun a k h => by omega)
      generalize tI u2 231 0 (nI c) = u3 at k3 z3 m3
      refine r_asks (v := 202) (w := wBy) (by omega) (wd_of (q := (202, wBy)) (hW u3 k3) (by first | decide | (unfold vp_in; decide))) m3 (fun u4 k4 hi4 m4 => ?_) (fun u4 k4 hi4 f4 => ?_)
      · have hw4 : wR X (lx X 2 0) true wBy = .ok () := if_pos hi4
        refine r_number (least := 2) (most := 6) (by omega) (by omega) m4 (fun u5 r k5 hr5 m5 _ => ⟨vp_in_nI (n := 1) (by omega) (by omega), bnd_i ?_⟩) (fun u5 e rr k5 hr5 f5 => ⟨vp_in_nI (n := 1) (by omega) (by omega), bnd_i ?_⟩)
        · have k6 : Kp (fun a k => SXr a k ∧ ¬ (a = 231 ∧ k < 2)) u (tI u5 231 1 (nI r)) := kp_I (kp_t k3 (kp_t (kp_m k4 (fun a k h => h.1)) (kp_m k5 (fun a k h => h.1)))) (by omega)
          have z6 : (tI u5 231 1 (nI r)).1 231 1 = nI r := t_s _ _ _ _
          have y6 : (tI u5 231 1 (nI r)).1 231 0 = nI c := by rw [t_n _ _ (by omega), k5.1 _ _ (by unfold SXr; omega), k4.1 _ _ (by unfold SXr; omega)]; exact z3
          have m6 : Ma (tI u5 231 1 (nI r)) X (lx X 4 0) true := ma_K m5 (kp_I (S := fun a _ => a ≠ 231) (kp_r u5) (by omega)) (fun a k h => by omega)
          generalize tI u5 231 1 (nI r) = u6 at k6 z6 y6 m6
          have hR : sdR X = if isS X (lx X 4 0) true 59 then .ok (nwD c r, lx X 5 0) else .error (1, lst X (lx X 4 0)) := by
            unfold sdR
            rw [hw1]
            show (nuR X (lx X 1 0) true 2 6).bind _ = _
            rw [show nuR X (lx X 1 0) true 2 6 = .ok c from hc2]
            show (wR X (lx X 2 0) true wBy).bind _ = _
            rw [hw4]
            show (nuR X (lx X 3 0) true 2 6).bind _ = _
            rw [show nuR X (lx X 3 0) true 2 6 = .ok r from hr5]
            rfl
          refine r_asksSign (c := 59) ⟨by omega, by first | decide | (unfold vp_in; decide)⟩ m6 (fun u7 k7 hi7 m7 => ?_) (fun u7 k7 hi7 f7 => ?_)
          · have k7' : Kp (fun a k => SXr a k ∧ ¬ (a = 231 ∧ k < 2)) u u7 := kp_t k6 (kp_m k7 (fun a k h => h.1))
            exact h1 u7 _ _ (hR.trans (if_pos hi7)) m7 (mdr_0 hc k7' (by rw [k7.1 _ _ (by unfold SXr; omega)]; exact y6) (by rw [k7.1 _ _ (by unfold SXr; omega)]; exact z6)) (hW u7 k7') (kr_p (kp_m k7' hS))
          · exact h0 u7 _ (hR.trans (if_neg hi7)) f7 (kr_p (kp_m (kp_t k6 (kp_m k7 (fun a k h => h.1))) hS))
        · have k6 : Kp (fun a k => SXr a k ∧ ¬ (a = 231 ∧ k < 2)) u (tI u5 231 1 rr) := kp_I (kp_t k3 (kp_t (kp_m k4 (fun a k h => h.1)) (kp_m k5 (fun a k h => h.1)))) (by omega)
          have f6 : Mf (tI u5 231 1 rr) X e := mf_K f5 (kp_I (S := fun a _ => a ≠ 231) (kp_r u5) (by omega)) (fun a k h => by omega)
          refine r_asksSignF f6 (h0 _ e ?_ f6 (kr_p (kp_m k6 hS)))
          unfold sdR
          rw [hw1]
          show (nuR X (lx X 1 0) true 2 6).bind _ = _
          rw [show nuR X (lx X 1 0) true 2 6 = .ok c from hc2]
          show (wR X (lx X 2 0) true wBy).bind _ = _
          rw [hw4]
          show (nuR X (lx X 3 0) true 2 6).bind _ = _
          rw [show nuR X (lx X 3 0) true 2 6 = .error e from hr5]
          rfl
      · have k6 : Kp (fun a k => SXr a k ∧ ¬ (a = 231 ∧ k < 2)) u (tI u4 231 1 0) := kp_I (kp_t k3 (kp_m k4 (fun a k h => h.1))) (by omega)
        have f6 : Mf (tI u4 231 1 0) X (1, lst X (lx X 2 0)) := mf_K f4 (kp_I (S := fun a _ => a ≠ 231) (kp_r u4) (by omega)) (fun a k h => by omega)
        refine r_numberF f4 ⟨vp_in_nI (n := 1) (by omega) (by omega), bnd_i (r_asksSignF f6 (h0 _ _ ?_ f6 (kr_p (kp_m k6 hS))))⟩
        unfold sdR
        rw [hw1]
        show (nuR X (lx X 1 0) true 2 6).bind _ = _
        rw [show nuR X (lx X 1 0) true 2 6 = .ok c from hc2]
        show (wR X (lx X 2 0) true wBy).bind _ = _
        rw [show wR X (lx X 2 0) true wBy = .error (1, lst X (lx X 2 0)) from if_neg hi4]
        rfl
    · have k3 : Kp (fun a k => SXr a k ∧ ¬ (a = 231 ∧ k < 2)) u (tI u2 231 0 rr) := kp_I (kp_t (kp_m k1 (fun a k h => h.1)) (kp_m k2 (fun a k h => h.1))) (by omega)
      have f3 : Mf (tI u2 231 0 rr) X e := mf_K f2 (kp_I (S := fun a _ => a ≠ 231) (kp_r u2) (by omega)) (fun a k h => by omega)
      generalize tI u2 231 0 rr = u3 at k3 f3
      have k6 : Kp (fun a k => SXr a k ∧ ¬ (a = 231 ∧ k < 2)) u (tI u3 231 1 0) := kp_I k3 (by omega)
      have f6 : Mf (tI u3 231 1 0) X e := mf_K f3 (kp_I (S := fun a _ => a ≠ 231) (kp_r u3) (by omega)) (fun a k h => by omega)
      refine r_asksF f3 (r_numberF f3 ⟨vp_in_nI (n := 1) (by omega) (by omega), bnd_i (r_asksSignF f6 (h0 _ _ ?_ f6 (kr_p (kp_m k6 hS))))⟩)
      unfold sdR
      rw [hw1]
      show (nuR X (lx X 1 0) true 2 6).bind _ = _
      rw [show nuR X (lx X 1 0) true 2 6 = .error e from hc2]
      rfl
  · have k3 : Kp (fun a k => SXr a k ∧ ¬ (a = 231 ∧ k < 2)) u (tI u1 231 0 0) := kp_I (kp_m k1 (fun a k h => h.1)) (by omega)
    have f3 : Mf (tI u1 231 0 0) X (1, lst X 0) := mf_K f1 (kp_I (S := fun a _ => a ≠ 231) (kp_r u1) (by omega)) (fun a k h => by omega)
    refine r_numberF f1 ⟨vp_in_nI (n := 0) (by omega) (by omega), bnd_i ?_⟩
    generalize tI u1 231 0 0 = u3 at k3 f3
    have k6 : Kp (fun a k => SXr a k ∧ ¬ (a = 231 ∧ k < 2)) u (tI u3 231 1 0) := kp_I k3 (by omega)
    have f6 : Mf (tI u3 231 1 0) X (1, lst X 0) := mf_K f3 (kp_I (S := fun a _ => a ≠ 231) (kp_r u3) (by omega)) (fun a k h => by omega)
    refine r_asksF f3 (r_numberF f3 ⟨vp_in_nI (n := 1) (by omega) (by omega), bnd_i (r_asksSignF f6 (h0 _ _ ?_ f6 (kr_p (kp_m k6 hS))))⟩)
    unfold sdR
    rw [show wR X 0 false wPlain = .error (1, lst X 0) from if_neg hi]
    rfl
/-- the loop over statements -/
theorem r_loop {X : Tx} {n0 p0 : Nat} {D0 : Pl} {u : St} {r : Except E2 (Pl × Nat)} {Q : Int32 → St → Prop} (hD0 : VD D0 p0) (hm : Ma u X p0 false) (hM : mDr u D0) (hG : gWords u) (h55 : u.1 198 55 = nI 1) (hR : Rp X n0 1 D0 p0 r) (h1 : ∀ u' D cnt p, r = .ok (D, cnt) → cnt ≤ 80 → VD D p → p ≤ 1600 → mDr u' D → u'.1 198 5 = 0 → u'.1 198 6 = -1 → u'.1 198 55 = nI cnt → Kr SR5 u u' → sX12_plain_p129 Q u') (h0 : ∀ u' e, r = .error e → Mf u' X e → Kr SR5 u u' → sX12_plain_p129 Q u') : sX12_plain_p107 Q u := by
  unfold sX12_plain_p107
  refine lpx (fun n s => sX12_plain_p107n Q n s) (fun k s => (∃ cnt D p, 1 ≤ cnt ∧ cnt ≤ 80 ∧ VD D p ∧ Ma s X p false ∧ mDr s D ∧ gWords s ∧ s.1 198 55 = nI cnt ∧ Kr SR5 u s ∧ Rp X k cnt D p r) ∨ (k = 0 ∧ ∃ e, r = .error e ∧ Mf s X e ∧ Kr SR5 u s)) ?_ n0 u (Or.inl ⟨1, D0, p0, by omega, by omega, hD0, hm, hM, hG, h55, kr_p (kp_r u), hR⟩)
  intro n k s hI hK
  show sX12_plain_p107b Q (sX12_plain_p107n Q n) s
  unfold sX12_plain_p107b
  rcases hI with ⟨cnt, D, p, c1, c80, hD, hm, hM, hG, h55, kr, hR⟩ | ⟨hk, e, hre, hf, kr⟩
  · have hp := hm.2.1
    have h16 := hm.1.1
    have hl := lst_p hp
    rw [hm.2.2.2.2.2.1]
    refine i_pos rfl (r_look hm (fun s1 k1 b1 => ?_))
    have kr1 : Kr SR5 u s1 := kr_t kr (kr_p (kp_m k1 (fun a k h => sxr_rd a k h.1)))
    have hM1 : mDr s1 D := mdr_K hM hD (by omega) k1 drd_sxr
    have hG1 : gWords s1 := k_words hG k1 (fun a k h => by unfold DWords at h; unfold SXr; omega)
    have e55 : s1.1 198 55 = nI cnt := by rw [k1.1 198 55 (by unfold SXr; omega)]; exact h55
    have hlk : lkd X p false = 0 ↔ ¬ lst X p < X.2 := by
      rw [← lk0_0]
      unfold lkd
      first | refine i_neg (by simp) ?_ | rw [if_neg (by simp)]
      try (with_reducible rfl)
    cases k with
    | zero => exact absurd hR id
    | succ k =>
      rcases hR with ⟨hz, hre⟩ | ⟨hz, hc, hre⟩ | ⟨hz, hc, hst⟩
      · have : oI (lch X p) = -1 := by
          unfold lch
          first | refine i_neg (hlk.mp hz) ?_ | rw [if_neg (hlk.mp hz)]
          try (with_reducible rfl)
          rfl
        exact i_pos this (h1 s1 D cnt p hre c80 hD (by omega) hM1 b1.1.2.2.2.2.2.1 b1.1.2.2.2.2.2.2 e55 kr1)
      · have hlt : lst X p < X.2 := by
          by_cases e : lst X p < X.2
          · exact e
          · exact absurd (hlk.mpr e) hz
        have hne : ¬ oI (lch X p) = -1 := by
          unfold lch
          first | refine i_pos hlt ?_ | rw [if_pos hlt]
          try (with_reducible rfl)
          have := (hm.1.2.2 (lst X p) hlt).2
          show ¬ nI (X.1 (lst X p)) = -1
          rw [x_ne1 (by omega)]
          exact id
        refine i_neg hne ?_
        unfold s_X12_statementTold
        rw [e55, b1.2]
        refine i_pos (by rw [hc]; rfl) (r_fail (f := 5) b1.1 (by omega) (by omega) (fun s2 k2 f2 => ?_))
        exact hK 0 s2 (by omega) (Or.inr ⟨rfl, _, hre, f2, kr_t kr1 (kr_p (kp_m k2 (fun a k h => sxr_rd a k h.1)))⟩)
      · have hlt : lst X p < X.2 := by
          by_cases e : lst X p < X.2
          · exact e
          · exact absurd (hlk.mpr e) hz
        have hne : ¬ oI (lch X p) = -1 := by
          unfold lch
          first | refine i_pos hlt ?_ | rw [if_pos hlt]
          try (with_reducible rfl)
          have := (hm.1.2.2 (lst X p) hlt).2
          show ¬ nI (X.1 (lst X p)) = -1
          rw [x_ne1 (by omega)]
          exact id
        refine i_neg hne ?_
        rcases hst with ⟨e, hst, hre⟩ | ⟨D', p', hst, hv, hR'⟩
        · refine r_statement hD b1.1 hM1 hG1 b1.2 e55 (by omega) hst (fun s2 D2 p2 hq _ _ _ _ _ => absurd hq (by simp)) (fun s2 e2 hq f2 k2 => ?_)
          have := Except.error.inj hq
          subst this
          exact hK 0 s2 (by omega) (Or.inr ⟨rfl, _, hre, f2, kr_t kr1 k2⟩)
        · refine r_statement hD b1.1 hM1 hG1 b1.2 e55 (by omega) hst (fun s2 D2 p2 hq m2 M2 G2 k2 e2 => ?_) (fun s2 e2 hq f2 k2 => absurd hq (by simp))
          have hqq := Except.ok.inj hq
          have hq1 : D' = D2 := congrArg (fun y => y.1) hqq
          have hq2 : p' = p2 := congrArg (fun y => y.2) hqq
          clear hqq hq
          subst hq1
          subst hq2
          exact hK k s2 (by omega) (Or.inl ⟨cnt + 1, D', p', by omega, by omega, hv, m2, M2, G2, e2, kr_t kr1 k2, hR'⟩)
  · exact i_neg (mf_bad hf) (h0 s e hre hf kr)
