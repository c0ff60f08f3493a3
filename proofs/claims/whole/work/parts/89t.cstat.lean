/-! ===== the class reads a statement ===== -/
theorem c_high {X : Tx} {t p : Nat} {D : Pl} {u0 u : St} {Q : St → Prop} (hD : VD D p) (h : CdS X t D u0 u p true) (h1 : ∀ u' D' p' g', hiR X D p = .ok (D', p', g') → CdS X t D' u0 u' p' g' → VD D' p' → Q u') (h0 : ∀ u' e, hiR X D p = .error e → CdF X t u0 u' e → Q u') : s_X6_readHigh Q u := by
  unfold s_X6_readHigh
  have ht := h.2.2.2.2
  have h16 := h.1.1.1
  have hp := h.1.2.1
  have hx3 := lx_le hp 3
  have h2 : 2 ≤ pc D ∧ pc D ≤ 6 ∧ 2 ≤ pr D ∧ pr D ≤ 6 := by
    have := hD.1
    omega
  refine c_place h2 h (fun u1 c hc s1 _ hcel => ?_) (fun u1 e c hc s1 h36 => ?_)
  · rw [s1.2.2.2.1]
    have hpl := pl_lt hcel
    have ha : pc D * pr D ≤ 36 := by
      have := Nat.mul_le_mul h2.2.1 h2.2.2.2
      omega
    refine cs_num (a := 0) (b := 9) (by omega) (by omega) s1 (fun u2 v hv s2 => ⟨vp_in_nI (by omega) (by omega), bnd_i ?_⟩) (fun u2 e he s2 => ⟨vp_in_nI (by omega) (by omega), bnd_i ?_⟩)
    · rw [nI_clamp (by omega)]
      have hb := nu_ok hv
      have hK : Kp (fun a k => ¬ (a = t + 1 ∧ k = pl D c)) u2 (tI u2 (t + 1) (pl D c) (nI v)) := kp_I (kp_r u2) (by omega)
      have hr : hiR X D p = .ok (s0 D 5 c v, lx X 3 p, true) := by
        unfold hiR
        rw [hc]
        show (nuR X (lx X 2 p) true 0 9).bind _ = _
        rw [hv]
        rfl
      refine h1 _ _ _ _ hr ⟨tk_K s2.1 hK (fun a k h => by omega), cdr_h s2.2.1 hcel hK (t_s _ _ _ _), kq_t s2.2.2.1 (kq_p (kp_m hK (fun a k h => by unfold SCd at h; omega))), s2.2.2.2.1, ht⟩ (vd_le (vd_h hD (by omega)) hx3.1)
    · rw [nI_clamp (by omega)]
      have hr : hiR X D p = .error e := by
        unfold hiR
        rw [hc]
        show (nuR X (lx X 2 p) true 0 9).bind _ = _
        rw [he]
        rfl
      exact h0 _ e hr (cf_I (cf_of hD (by omega) s2) (by omega))
  · rw [s1.2.2.2.1]
    have hr : hiR X D p = .error e := by
      unfold hiR
      rw [hc]
      rfl
    refine q_takeNumberF s1.1 ⟨vp_in_nI (by omega) (by omega), bnd_i ?_⟩
    exact h0 _ e hr (cf_I (cf_of hD (by omega) s1) (by omega))
theorem c_stone {X : Tx} {t p : Nat} {D : Pl} {u0 u : St} {Q : St → Prop} (hD : VD D p) (h : CdS X t D u0 u p true) (h1 : ∀ u' D' p' g', stR X D p = .ok (D', p', g') → CdS X t D' u0 u' p' g' → VD D' p' → Q u') (h0 : ∀ u' e, stR X D p = .error e → CdF X t u0 u' e → Q u') : s_X6_readStone Q u := by
  unfold s_X6_readStone
  have ht := h.2.2.2.2
  have h16 := h.1.1.1
  have hp := h.1.2.1
  have hx2 := lx_le hp 2
  have hx1 := lx_le hp 1
  have hl1 := lst_p (X := X) (p := lnx X p) hx1.2
  have h2 : 2 ≤ pc D ∧ pc D ≤ 6 ∧ 2 ≤ pr D ∧ pr D ≤ 6 := by
    have := hD.1
    omega
  refine c_place h2 h (fun u1 c hc s1 e3 hcel => ?_) (fun u1 e c hc s1 h36 => ?_)
  · have hpl := pl_lt hcel
    have ha : pc D * pr D ≤ 36 := by
      have := Nat.mul_le_mul h2.2.1 h2.2.2.2
      omega
    have hb := hD.2.2.2.2.1 c
    refine ⟨vp_in_nI (by omega) (by omega), ?_⟩
    rw [s1.2.2.2.1, nI_clamp (by omega), (s1.2.1.2.1 c hcel).2.1]
    by_cases c1 : D.1 6 c = 1
    · refine i_pos (by rw [c1]; rfl) ?_
      rw [e3]
      refine q_fail (f := 2) s1.1 (by omega) (by omega) (fun u2 k2 t2 => ?_)
      have s2 := ce_K s1.2.1 s1.2.2.1 s1.2.2.2.1 ht k2 t2 (dft_SX ht) (fun a k h => h.1)
      unfold sX6_readStone_p30
      refine ⟨vp_in_nI (by omega) (by omega), bnd_i ?_⟩
      rw [s2.2.2.2.1]
      refine h0 _ _ ?_ (cf_I (cf_of hD (by omega) s2) (by omega))
      unfold stR
      rw [hc]
      show (if D.1 6 c = 1 then _ else _) = _
      exact if_pos c1
    · refine i_neg (x_ne (k := 1) (by omega) (by omega) c1) ?_
      unfold sX6_readStone_p30
      refine ⟨vp_in_nI (by omega) (by omega), bnd_i ?_⟩
      rw [s1.2.2.2.1, nI_clamp (by omega)]
      have hK : Kp (fun a k => ¬ (a = t + 2 ∧ k = pl D c)) u1 (tI u1 (t + 2) (pl D c) 1) := kp_I (kp_r u1) (by omega)
      have hr : stR X D p = .ok (s0 D 6 c 1, lx X 2 p, true) := by
        unfold stR
        rw [hc]
        show (if D.1 6 c = 1 then _ else _) = _
        exact if_neg c1
      exact h1 _ _ _ _ hr ⟨tk_K s1.1 hK (fun a k h => by omega), cdr_s s1.2.1 hcel hK (t_s _ _ _ _), kq_t s1.2.2.1 (kq_p (kp_m hK (fun a k h => by unfold SCd at h; omega))), s1.2.2.2.1, ht⟩ (vd_le (vd_s hD hcel) hx2.1)
  · have hr : stR X D p = .error e := by
      unfold stR
      rw [hc]
      rfl
    have hfin : sX6_readStone_p30 (nI c) Q u1 := by
      unfold sX6_readStone_p30
      refine ⟨vp_in_nI (by omega) (by omega), bnd_i ?_⟩
      rw [s1.2.2.2.1]
      exact h0 _ _ hr (cf_I (cf_of hD (by omega) s1) (by omega))
    refine ⟨vp_in_nI (by omega) (by omega), ?_⟩
    by_cases c1 : u1.1 (u1.2.2.2.2.2 + 2) (nI c).toNatClampNeg = (1 : Int32)
    · exact i_pos c1 (q_failF s1.1 hfin)
    · exact i_neg c1 hfin
theorem c_source {X : Tx} {t p : Nat} {D : Pl} {u0 u : St} {Q : St → Prop} (hD : VD D p) (h : CdS X t D u0 u p true) (h1 : ∀ u' D' p' g', soR X D p = .ok (D', p', g') → CdS X t D' u0 u' p' g' → VD D' p' → Q u') (h0 : ∀ u' e, soR X D p = .error e → CdF X t u0 u' e → Q u') : s_X9_takeNumber (0 : Int32) ((u.1 u.2.2.2.2.2 0) - (1 : Int32)) (fun r15 u16 => bnd (tI u16 u.2.2.2.2.2 2 r15) (fun u17 => Q u17)) u := by
  have ht := h.2.2.2.2
  have h16 := h.1.1.1
  have hp := h.1.2.1
  have hx1 := lx_le hp 1
  have h2 := hD.1
  rw [h.2.2.2.1, h.2.1.1.1, show nI (pc D) - 1 = nI (pc D - 1) from pk_sub (b := 1) (by omega)]
  refine cs_num (a := 0) (by omega) (by omega) h (fun u2 v hv s2 => bnd_i ?_) (fun u2 e he s2 => bnd_i ?_)
  · have hb := nu_ok hv
    have hK : Kp (fun a k => ¬ (a = t ∧ k = 2)) u2 (tI u2 t 2 (nI v)) := kp_I (kp_r u2) (by omega)
    have hr : soR X D p = .ok (s0 D 0 2 v, lnx X p, true) := by
      unfold soR
      rw [hv]
      rfl
    exact h1 _ _ _ _ hr ⟨tk_K s2.1 hK (fun a k h => by omega), cdr_so s2.2.1 hK (t_s _ _ _ _), kq_t s2.2.2.1 (kq_p (kp_m hK (fun a k h => by unfold SCd at h; omega))), s2.2.2.2.1, ht⟩ (vd_le (vd_so hD (by omega)) hx1.1)
  · have hr : soR X D p = .error e := by
      unfold soR
      rw [he]
      rfl
    exact h0 _ e hr (cf_I (cf_of hD (by omega) s2) (by omega))
/-- behind a fault: the rest of a farm's reading -/
theorem c_farmF {X : Tx} {t p f c : Nat} {e : E2} {D : Pl} {u0 u : St} {Q : St → Prop} (hD : VD D p) (hp : p ≤ 1600) (hf : f < 6) (hc : c < 36) (h : CdE X t D u0 u e) (h0 : ∀ u', CdF X t u0 u' e → Q u') : sX6_readFarm_p60 (nI f) (nI c) Q u := by
  have ht := h.2.2.2.2
  unfold sX6_readFarm_p60
  have w0 := cf_of hD hp h
  have v6 : vp_in (nI f) 6 := vp_in_nI (by omega) (by omega)
  rw [nI_clamp (by omega), nI_clamp (by omega)]
  refine q_takeWordF w0.1 (q_takeNumberF w0.1 ⟨v6, bnd_i ?_⟩)
  rw [w0.2.2.2.2.1]
  have w1 := cf_I (x := t + 6) (j := f) (v := 1) w0 (by omega)
  generalize tI u (t + 6) f 1 = u1 at w1
  refine q_takeWordF w1.1 (q_takeNumberF w1.1 ⟨v6, bnd_i ⟨v6, bnd_i ⟨vp_in_nI (by omega) (by omega), bnd_i (bnd_i ?_)⟩⟩⟩)
  have e4 : u1.2.2.2.2.2 = t := w1.2.2.2.2.1
  show Q (tI (tI (tI (tI u1 (u1.2.2.2.2.2 + 7) f 0) (u1.2.2.2.2.2 + 5) f (nI c)) (u1.2.2.2.2.2 + 3) c (nI f)) u1.2.2.2.2.2 3 _)
  rw [e4]
  exact h0 _ (cf_I (cf_I (cf_I (cf_I w1 (by omega)) (by omega)) (by omega)) (by omega))
theorem wR_x {X : Tx} {p : Nat} {g : Bool} {w : List Nat} {r : Except E2 Unit} (h : wR X p g w = r) : wR X p g w = r := h
theorem c_farm {X : Tx} {t p : Nat} {D : Pl} {u0 u : St} {Q : St → Prop} (hD : VD D p) (h6 : pf D ≠ 6) (h : CdS X t D u0 u p true) (h1 : ∀ u' D' p' g', faR X D p = .ok (D', p', g') → CdS X t D' u0 u' p' g' → VD D' p' → Q u') (h0 : ∀ u' e, faR X D p = .error e → CdF X t u0 u' e → Q u') : s_X6_readFarm Q u := by
  unfold s_X6_readFarm
  have ht := h.2.2.2.2
  have h16 := h.1.1.1
  have hp := h.1.2.1
  have hx8 := lx_le hp 8
  have hx3 := lx_le hp 3
  have hl3 := lst_p hx3.2
  have hb := hD.1
  have h2 : 2 ≤ pc D ∧ pc D ≤ 6 ∧ 2 ≤ pr D ∧ pr D ≤ 6 := by omega
  have ha : pc D * pr D ≤ 36 := by
    have := Nat.mul_le_mul h2.2.1 h2.2.2.2
    omega
  have v6 : vp_in (nI (pf D)) 6 := vp_in_nI (by omega) (by omega)
  have hst : ∀ x, t + 4 ≤ x → x ≤ t + 7 → ¬ Dft t D x (pf D) ∧ ¬ SCd t x (pf D) ∧ x ≠ 1 ∧ x ≠ 2 := by
    intro x ha hb
    unfold Dft SCd
    omega
  rw [h.2.2.2.1, h.2.1.1.2.2.2.1, nI_clamp (by omega)]
  -- a fault before the place is read
  have hplF : ∀ (s : St) (e : E2), faR X D p = .error e → CdE X t D u0 s e → s_X6_readPlace (fun r10 u11 => vp_in r10 36 ∧ (if (u11.1 (u11.2.2.2.2.2 + 3) r10.toNatClampNeg) = (-1 : Int32) then (sX6_readFarm_p60 (nI (pf D)) r10 Q u11) else (s_X9_fail (2 : Int32) (u11.1 41 3) (fun u17 => sX6_readFarm_p60 (nI (pf D)) r10 Q u17) u11))) s := by
    intro s e hr hs
    unfold s_X6_readPlace
    refine q_takeNumberF hs.1 (bnd_i ?_)
    have s2 := ce_I (x := 41) (j := 3) (v := s.1 1 3) hs (by unfold Dft; omega) (by unfold SCd; omega) (by omega)
    generalize tI s 41 3 (s.1 1 3) = z at s2
    refine q_takeNumberF s2.1 ?_
    rw [s2.2.2.2.1, s2.2.1.1.1, show (0 : Int32) * nI (pc D) + 0 = nI (0 * pc D + 0) by rw [← nI_add, ← pk_mul]; rfl]
    refine ⟨vp_in_nI (by omega) (by omega), ?_⟩
    have hfin := c_farmF (f := pf D) (c := 0 * pc D + 0) (Q := Q) hD (by omega) (by omega) (by omega) s2 (fun u' w => h0 u' e hr w)
    rw [s2.2.2.2.1]
    by_cases c1 : z.1 (t + 3) (nI (0 * pc D + 0)).toNatClampNeg = (-1 : Int32)
    · exact i_pos c1 hfin
    · exact i_neg c1 (q_failF s2.1 hfin)
  refine c_newName hD h (fun u1 hn s1 hv => ⟨v6, bnd_i ?_⟩) (fun u1 e r hn s1 => ⟨v6, bnd_i ?_⟩)
  · obtain ⟨q1, q2, q3⟩ := hst (t + 4) (by omega) (by omega)
    have s2 := cs_I (v := nI (nmC (lln X p))) s1 q1 q2 q3
    have z4 : (tI u1 (t + 4) (pf D) (nI (nmC (lln X p)))).1 (t + 4) (pf D) = nI (nmC (lln X p)) := t_s _ _ _ _
    generalize tI u1 (t + 4) (pf D) (nI (nmC (lln X p))) = u2 at s2 z4
    refine q_takeWord (v := 4) (w := wAt) (by omega) rfl s2.1 (fun u3 hi k3 t3 => ?_) (fun u3 hi k3 t3 => ?_)
    · have hw1 : wR X (lx X 1 p) true wAt = .ok () := if_pos hi
      have s3 := cs_K s2 k3 t3 (dft_SX ht) (fun a k h => h.1)
      have z4' : u3.1 (t + 4) (pf D) = nI (nmC (lln X p)) := by rw [k3.1 _ _ (by unfold SX; omega)]; exact z4
      -- the place
      have hpl1 : ∀ u' c, plR X D (lx X 2 p) = .ok c → CdS X t D u0 u' (lx X 4 p) true → u'.1 41 3 = nI (lst X (lx X 3 p)) → cel D c → u'.1 (t + 4) (pf D) = nI (nmC (lln X p)) → vp_in (nI (pl D c)) 36 ∧ (if (u'.1 (u'.2.2.2.2.2 + 3) (nI (pl D c)).toNatClampNeg) = (-1 : Int32) then (sX6_readFarm_p60 (nI (pf D)) (nI (pl D c)) Q u') else (s_X9_fail (2 : Int32) (u'.1 41 3) (fun u17 => sX6_readFarm_p60 (nI (pf D)) (nI (pl D c)) Q u17) u')) := by
        intro u4 c hc s4 e3 hcel z4
        have hpl := pl_lt hcel
        refine ⟨vp_in_nI (by omega) (by omega), ?_⟩
        rw [s4.2.2.2.1, nI_clamp (by omega), (s4.2.1.2.1 c hcel).2.2]
        cases hfa : fAt D c with
        | some f =>
          have hfs := fAt_some hfa
          have hne : ¬ oI (some f) = (-1 : Int32) := by
            show ¬ nI f = -1
            rw [x_ne1 (by omega)]
            exact id
          refine i_neg hne ?_
          rw [e3]
          refine q_fail (f := 2) s4.1 (by omega) (by omega) (fun u5 k5 t5 => ?_)
          have s5 := ce_K s4.2.1 s4.2.2.1 s4.2.2.2.1 ht k5 t5 (dft_SX ht) (fun a k h => h.1)
          refine c_farmF (Q := Q) hD (by omega) (by omega) (by omega) s5 (fun u' w => h0 u' _ ?_ w)
          unfold faR
          rw [hn]
          show (wR X (lx X 1 p) true wAt).bind _ = _
          rw [hw1]
          show (plR X D (lx X 2 p)).bind _ = _
          rw [hc]
          show (if (fAt D c).isSome = true then _ else _) = _
          rw [hfa]
          rfl
        | none =>
          refine i_pos rfl ?_
          have hR1 : ∀ y, (wR X (lx X 4 p) true wDay).bind (fun _ => (nuR X (lx X 5 p) true 1 40).bind fun d => (wR X (lx X 6 p) true wPie).bind fun _ => (nuR X (lx X 7 p) true 0 9).bind fun i => .ok (nwF D (lln X p) c d i, lx X 8 p, true)) = y → faR X D p = y := by
            intro y hy
            rw [← hy]
            unfold faR
            rw [hn]
            show (wR X (lx X 1 p) true wAt).bind _ = _
            rw [hw1]
            show (plR X D (lx X 2 p)).bind _ = _
            rw [hc]
            show (if (fAt D c).isSome = true then _ else _) = _
            rw [hfa]
            rfl
          unfold sX6_readFarm_p60
          rw [nI_clamp (by omega), nI_clamp (by omega)]
          refine q_takeWord (v := 5) (w := wDay) (by omega) rfl s4.1 (fun u5 hi5 k5 t5 => ?_) (fun u5 hi5 k5 t5 => ?_)
          · have hw5 : wR X (lx X 4 p) true wDay = .ok () := if_pos hi5
            have s5 := cs_K s4 k5 t5 (dft_SX ht) (fun a k h => h.1)
            have z5 : u5.1 (t + 4) (pf D) = nI (nmC (lln X p)) := by rw [k5.1 _ _ (by unfold SX; omega)]; exact z4
            rw [s5.2.2.2.1]
            refine q_takeNumber (least := 1) (most := 40) (by omega) (by omega) s5.1 (fun u6 d hd k6 t6 => ⟨v6, bnd_i ?_⟩) (fun u6 e he k6 t6 => ⟨v6, bnd_i ?_⟩)
            · have s6 := cs_K s5 k6 t6 (dft_SX ht) (fun a k h => h.1)
              obtain ⟨q1, q2, q3⟩ := hst (t + 6) (by omega) (by omega)
              have s7 := cs_I (v := nI d) s6 q1 q2 q3
              have z7 : (tI u6 (t + 6) (pf D) (nI d)).1 (t + 4) (pf D) = nI (nmC (lln X p)) := by rw [t_n _ _ (by omega), k6.1 _ _ (by unfold SX; omega)]; exact z5
              have y7 : (tI u6 (t + 6) (pf D) (nI d)).1 (t + 6) (pf D) = nI d := t_s _ _ _ _
              generalize tI u6 (t + 6) (pf D) (nI d) = u7 at s7 z7 y7
              refine q_takeWord (v := 6) (w := wPie) (by omega) rfl s7.1 (fun u8 hi8 k8 t8 => ?_) (fun u8 hi8 k8 t8 => ?_)
              · have hw8 : wR X (lx X 6 p) true wPie = .ok () := if_pos hi8
                have s8 := cs_K s7 k8 t8 (dft_SX ht) (fun a k h => h.1)
                rw [s8.2.2.2.1]
                refine q_takeNumber (least := 0) (most := 9) (by omega) (by omega) s8.1 (fun u9 i hi9 k9 t9 => ⟨v6, bnd_i ⟨v6, bnd_i ⟨vp_in_nI (by omega) (by omega), bnd_i (bnd_i ?_)⟩⟩⟩) (fun u9 e he k9 t9 => ⟨v6, bnd_i ⟨v6, bnd_i ⟨vp_in_nI (by omega) (by omega), bnd_i (bnd_i ?_)⟩⟩⟩)
                · have s9 := cs_K s8 k9 t9 (dft_SX ht) (fun a k h => h.1)
                  have z9 : u9.1 (t + 4) (pf D) = nI (nmC (lln X p)) := by rw [k9.1 _ _ (by unfold SX; omega), k8.1 _ _ (by unfold SX; omega)]; exact z7
                  have y9 : u9.1 (t + 6) (pf D) = nI d := by rw [k9.1 _ _ (by unfold SX; omega), k8.1 _ _ (by unfold SX; omega)]; exact y7
                  have e9 : u9.2.2.2.2.2 = t := s9.2.2.2.1
                  show Q (tI (tI (tI (tI u9 (t + 7) (pf D) (nI i)) (u9.2.2.2.2.2 + 5) (pf D) (nI (pl D c))) (u9.2.2.2.2.2 + 3) (pl D c) (nI (pf D))) u9.2.2.2.2.2 3 ((tI (tI (tI u9 (t + 7) (pf D) (nI i)) (u9.2.2.2.2.2 + 5) (pf D) (nI (pl D c))) (u9.2.2.2.2.2 + 3) (pl D c) (nI (pf D))).1 u9.2.2.2.2.2 3 + 1))
                  rw [e9]
                  have ef : (tI (tI (tI u9 (t + 7) (pf D) (nI i)) (t + 5) (pf D) (nI (pl D c))) (t + 3) (pl D c) (nI (pf D))).1 t 3 = nI (pf D) := by
                    rw [t_n _ _ (by omega), t_n _ _ (by omega), t_n _ _ (by omega)]
                    exact s9.2.1.1.2.2.2.1
                  rw [ef, nI_1]
                  have hK : Kp (fun a k => ¬ (t + 4 ≤ a ∧ a ≤ t + 7 ∧ k = pf D) ∧ ¬ (a = t + 3 ∧ k = pl D c) ∧ ¬ (a = t ∧ k = 3)) u9 (tI (tI (tI (tI u9 (t + 7) (pf D) (nI i)) (t + 5) (pf D) (nI (pl D c))) (t + 3) (pl D c) (nI (pf D))) t 3 (nI (pf D + 1))) := kp_I (kp_I (kp_I (kp_I (kp_r u9) (by omega)) (by omega)) (by omega)) (by omega)
                  have hbd := nu_ok hd
                  have hbi := nu_ok hi9
                  have hr : faR X D p = .ok (nwF D (lln X p) c d i, lx X 8 p, true) := by
                    refine hR1 _ ?_
                    rw [hw5]
                    show (nuR X (lx X 5 p) true 1 40).bind _ = _
                    rw [show nuR X (lx X 5 p) true 1 40 = .ok d from hd]
                    show (wR X (lx X 6 p) true wPie).bind _ = _
                    rw [hw8]
                    show (nuR X (lx X 7 p) true 0 9).bind _ = _
                    rw [show nuR X (lx X 7 p) true 0 9 = .ok i from hi9]
                    rfl
                  refine h1 _ _ _ _ hr ⟨tk_K s9.1 hK (fun a k h => by omega), cdr_f s9.2.1 (by omega) (by omega) hcel hfa hK ?_ ?_ ?_ ?_ ?_ ?_ rfl, kq_t s9.2.2.1 (kq_p (kp_m hK (fun a k h => by unfold SCd at h; omega))), e9, ht⟩ (vd_le (vd_f hD h6 hv hcel hfa (by omega) (by omega) rfl) hx8.1)
                  · rw [t_n _ _ (by omega), t_n _ _ (by omega), t_n _ _ (by omega), t_n _ _ (by omega)]
                    exact z9
                  · rw [t_n _ _ (by omega), t_n _ _ (by omega), t_s]
                  · rw [t_n _ _ (by omega), t_n _ _ (by omega), t_n _ _ (by omega), t_n _ _ (by omega)]
                    exact y9
                  · rw [t_n _ _ (by omega), t_n _ _ (by omega), t_n _ _ (by omega), t_s]
                  · rw [t_n _ _ (by omega), t_s]
                  · rw [t_s]
                · have s9 := ce_K s8.2.1 s8.2.2.1 s8.2.2.2.1 ht k9 t9 (dft_SX ht) (fun a k h => h.1)
                  have e9 : u9.2.2.2.2.2 = t := s9.2.2.2.1
                  show Q (tI (tI (tI (tI u9 (t + 7) (pf D) (nI 0)) (u9.2.2.2.2.2 + 5) (pf D) (nI (pl D c))) (u9.2.2.2.2.2 + 3) (pl D c) (nI (pf D))) u9.2.2.2.2.2 3 _)
                  rw [e9]
                  refine h0 _ e ?_ (cf_I (cf_I (cf_I (cf_I (cf_of hD (by omega) s9) (by omega)) (by omega)) (by omega)) (by omega))
                  refine hR1 _ ?_
                  rw [hw5]
                  show (nuR X (lx X 5 p) true 1 40).bind _ = _
                  rw [show nuR X (lx X 5 p) true 1 40 = .ok d from hd]
                  show (wR X (lx X 6 p) true wPie).bind _ = _
                  rw [hw8]
                  show (nuR X (lx X 7 p) true 0 9).bind _ = _
                  rw [show nuR X (lx X 7 p) true 0 9 = .error e from he]
                  rfl
              · have s8 := ce_K s7.2.1 s7.2.2.1 s7.2.2.2.1 ht k8 t8 (dft_SX ht) (fun a k h => h.1)
                have e8 : u8.2.2.2.2.2 = t := s8.2.2.2.1
                refine q_takeNumberF s8.1 ⟨v6, bnd_i ⟨v6, bnd_i ⟨vp_in_nI (by omega) (by omega), bnd_i (bnd_i ?_)⟩⟩⟩
                show Q (tI (tI (tI (tI u8 (u8.2.2.2.2.2 + 7) (pf D) 0) (u8.2.2.2.2.2 + 5) (pf D) (nI (pl D c))) (u8.2.2.2.2.2 + 3) (pl D c) (nI (pf D))) u8.2.2.2.2.2 3 _)
                rw [e8]
                refine h0 _ _ ?_ (cf_I (cf_I (cf_I (cf_I (cf_of hD (by omega) s8) (by omega)) (by omega)) (by omega)) (by omega))
                refine hR1 _ ?_
                rw [hw5]
                show (nuR X (lx X 5 p) true 1 40).bind _ = _
                rw [show nuR X (lx X 5 p) true 1 40 = .ok d from hd]
                show (wR X (lx X 6 p) true wPie).bind _ = _
                rw [show wR X (lx X 6 p) true wPie = .error (1, lst X (lx X 6 p)) from if_neg hi8]
                rfl
            · have s6 := ce_K s5.2.1 s5.2.2.1 s5.2.2.2.1 ht k6 t6 (dft_SX ht) (fun a k h => h.1)
              obtain ⟨q1, q2, q3⟩ := hst (t + 6) (by omega) (by omega)
              have s7 := ce_I (v := nI 1) s6 q1 q2 q3
              generalize tI u6 (t + 6) (pf D) (nI 1) = u7 at s7
              have e7 : u7.2.2.2.2.2 = t := s7.2.2.2.1
              refine q_takeWordF s7.1 (q_takeNumberF s7.1 ⟨v6, bnd_i ⟨v6, bnd_i ⟨vp_in_nI (by omega) (by omega), bnd_i (bnd_i ?_)⟩⟩⟩)
              show Q (tI (tI (tI (tI u7 (u7.2.2.2.2.2 + 7) (pf D) 0) (u7.2.2.2.2.2 + 5) (pf D) (nI (pl D c))) (u7.2.2.2.2.2 + 3) (pl D c) (nI (pf D))) u7.2.2.2.2.2 3 _)
              rw [e7]
              refine h0 _ e ?_ (cf_I (cf_I (cf_I (cf_I (cf_of hD (by omega) s7) (by omega)) (by omega)) (by omega)) (by omega))
              refine hR1 _ ?_
              rw [hw5]
              show (nuR X (lx X 5 p) true 1 40).bind _ = _
              rw [show nuR X (lx X 5 p) true 1 40 = .error e from he]
              rfl
          · have s5 := ce_K s4.2.1 s4.2.2.1 s4.2.2.2.1 ht k5 t5 (dft_SX ht) (fun a k h => h.1)
            have hr : faR X D p = .error (1, lst X (lx X 4 p)) := by
              refine hR1 _ ?_
              rw [show wR X (lx X 4 p) true wDay = .error (1, lst X (lx X 4 p)) from if_neg hi5]
              rfl
            obtain ⟨q1, q2, q3⟩ := hst (t + 6) (by omega) (by omega)
            have s7 := ce_I (v := 1) s5 q1 q2 q3
            rw [s5.2.2.2.1]
            refine q_takeNumberF s5.1 ⟨v6, bnd_i ?_⟩
            generalize tI u5 (t + 6) (pf D) 1 = u7 at s7
            have e7 : u7.2.2.2.2.2 = t := s7.2.2.2.1
            refine q_takeWordF s7.1 (q_takeNumberF s7.1 ⟨v6, bnd_i ⟨v6, bnd_i ⟨vp_in_nI (by omega) (by omega), bnd_i (bnd_i ?_)⟩⟩⟩)
            show Q (tI (tI (tI (tI u7 (u7.2.2.2.2.2 + 7) (pf D) 0) (u7.2.2.2.2.2 + 5) (pf D) (nI (pl D c))) (u7.2.2.2.2.2 + 3) (pl D c) (nI (pf D))) u7.2.2.2.2.2 3 _)
            rw [e7]
            exact h0 _ _ hr (cf_I (cf_I (cf_I (cf_I (cf_of hD (by omega) s7) (by omega)) (by omega)) (by omega)) (by omega))
      -- the place is read from u3
      unfold s_X6_readPlace
      rw [s3.2.2.2.1, s3.2.1.1.1, show nI (pc D) - 1 = nI (pc D - 1) from pk_sub (b := 1) (by omega)]
      have n41 : ¬ Dft t D 41 3 := by
        unfold Dft
        omega
      have n41' : ¬ SCd t 41 3 := by
        unfold SCd
        omega
      refine q_takeNumber (least := 0) (by omega) (by omega) s3.1 (fun u4 x hx k4 t4 => bnd_i ?_) (fun u4 e he k4 t4 => bnd_i ?_)
      · have s4 := cs_K s3 k4 t4 (dft_SX ht) (fun a k h => h.1)
        have y3 : (tI u4 41 3 (u4.1 1 3)).1 41 3 = nI (lst X (lx X 3 p)) := by
          rw [t_s]
          exact t4.2.2.2.1
        have y4 : (tI u4 41 3 (u4.1 1 3)).1 (t + 4) (pf D) = nI (nmC (lln X p)) := by rw [t_n _ _ (by omega), k4.1 _ _ (by unfold SX; omega)]; exact z4'
        have s5 := cs_I (v := u4.1 1 3) s4 n41 n41' (by omega)
        generalize tI u4 41 3 (u4.1 1 3) = u5 at y3 y4 s5
        rw [s5.2.2.2.1, s5.2.1.1.2.1, show nI (pr D) - 1 = nI (pr D - 1) from pk_sub (b := 1) (by omega)]
        refine q_takeNumber (least := 0) (by omega) (by omega) s5.1 (fun u6 y hy k6 t6 => ?_) (fun u6 e he k6 t6 => ?_)
        · have s6 := cs_K s5 k6 t6 (dft_SX ht) (fun a k h => h.1)
          have hpl := pl_ok hx hy h2
          rw [s6.2.2.2.1, s6.2.1.1.1, pk_mul, nI_add, ← hpl.2.1]
          have hc : plR X D (lx X 2 p) = .ok (x + 6 * y) := by
            unfold plR
            rw [show nuR X (lx X 2 p) true 0 (pc D - 1) = .ok x from hx]
            show (nuR X (lnx X (lx X 2 p)) true 0 (pr D - 1)).bind _ = _
            rw [show nuR X (lnx X (lx X 2 p)) true 0 (pr D - 1) = .ok y from hy]
            rfl
          exact hpl1 u6 (x + 6 * y) hc s6 (by rw [k6.1 41 3 (by unfold SX; omega)]; exact y3) hpl.1 (by rw [k6.1 _ _ (by unfold SX; omega)]; exact y4)
        · have s6 := ce_K s5.2.1 s5.2.2.1 s5.2.2.2.1 ht k6 t6 (dft_SX ht) (fun a k h => h.1)
          have hb2 := nu_ok hx
          rw [s6.2.2.2.1, s6.2.1.1.1, pk_mul, nI_add]
          have hr : faR X D p = .error e := by
            unfold faR
            rw [hn]
            show (wR X (lx X 1 p) true wAt).bind _ = _
            rw [hw1]
            show (plR X D (lx X 2 p)).bind _ = _
            have hc : plR X D (lx X 2 p) = .error e := by
              unfold plR
              rw [show nuR X (lx X 2 p) true 0 (pc D - 1) = .ok x from hx]
              show (nuR X (lnx X (lx X 2 p)) true 0 (pr D - 1)).bind _ = _
              rw [show nuR X (lnx X (lx X 2 p)) true 0 (pr D - 1) = .error e from he]
              rfl
            rw [hc]
            rfl
          have hfin := c_farmF (f := pf D) (c := 0 * pc D + x) (Q := Q) hD (by omega) (by omega) (by omega) s6 (fun u' w => h0 u' e hr w)
          refine ⟨vp_in_nI (by omega) (by omega), ?_⟩
          by_cases c1 : u6.1 (u6.2.2.2.2.2 + 3) (nI (0 * pc D + x)).toNatClampNeg = (-1 : Int32)
          · exact i_pos c1 hfin
          · exact i_neg c1 (q_failF s6.1 hfin)
      · have s4 := ce_K s3.2.1 s3.2.2.1 s3.2.2.2.1 ht k4 t4 (dft_SX ht) (fun a k h => h.1)
        have hr : faR X D p = .error e := by
          unfold faR
          rw [hn]
          show (wR X (lx X 1 p) true wAt).bind _ = _
          rw [hw1]
          show (plR X D (lx X 2 p)).bind _ = _
          have hc : plR X D (lx X 2 p) = .error e := by
            unfold plR
            rw [show nuR X (lx X 2 p) true 0 (pc D - 1) = .error e from he]
            rfl
          rw [hc]
          rfl
        have s5 := ce_I (v := u4.1 1 3) s4 n41 n41' (by omega)
        generalize tI u4 41 3 (u4.1 1 3) = z at s5
        refine q_takeNumberF s5.1 ?_
        rw [s5.2.2.2.1, s5.2.1.1.1, show (0 : Int32) * nI (pc D) + nI 0 = nI (0 * pc D + 0) by rw [← nI_add, ← pk_mul]; rfl]
        have hfin := c_farmF (f := pf D) (c := 0 * pc D + 0) (Q := Q) hD (by omega) (by omega) (by omega) s5 (fun u' w => h0 u' e hr w)
        refine ⟨vp_in_nI (by omega) (by omega), ?_⟩
        by_cases c1 : z.1 (z.2.2.2.2.2 + 3) (nI (0 * pc D + 0)).toNatClampNeg = (-1 : Int32)
        · exact i_pos c1 hfin
        · exact i_neg c1 (q_failF s5.1 hfin)
    · have s3 := ce_K s2.2.1 s2.2.2.1 s2.2.2.2.1 ht k3 t3 (dft_SX ht) (fun a k h => h.1)
      refine hplF u3 _ ?_ s3
      unfold faR
      rw [hn]
      show (wR X (lx X 1 p) true wAt).bind _ = _
      rw [show wR X (lx X 1 p) true wAt = .error (1, lst X (lx X 1 p)) from if_neg hi]
      rfl
  · obtain ⟨q1, q2, q3⟩ := hst (t + 4) (by omega) (by omega)
    have s2 := ce_I (v := r) s1 q1 q2 q3
    generalize tI u1 (t + 4) (pf D) r = u2 at s2
    refine q_takeWordF s2.1 (hplF u2 e ?_ s2)
    unfold faR
    rw [hn]
    rfl
theorem c_caller {X : Tx} {t p : Nat} {D : Pl} {u0 u : St} {Q : St → Prop} (hD : VD D p) (h5 : pk D ≠ 5) (h : CdS X t D u0 u p true) (h1 : ∀ u' D' p' g', caR X D p = .ok (D', p', g') → CdS X t D' u0 u' p' g' → VD D' p' → Q u') (h0 : ∀ u' e, caR X D p = .error e → CdF X t u0 u' e → Q u') : s_X6_readCaller Q u := by
  unfold s_X6_readCaller
  have ht := h.2.2.2.2
  have h16 := h.1.1.1
  have hp := h.1.2.1
  have hx5 := lx_le hp 5
  have hb := hD.1
  have v5 : vp_in (nI (pk D)) 5 := vp_in_nI (by omega) (by omega)
  have hst : ∀ x, t + 8 ≤ x → x ≤ t + 10 → ¬ Dft t D x (pk D) ∧ ¬ SCd t x (pk D) ∧ x ≠ 1 ∧ x ≠ 2 := by
    intro x ha hb
    unfold Dft SCd
    omega
  rw [h.2.2.2.1, h.2.1.1.2.2.2.2, nI_clamp (by omega)]
  refine c_newName hD h (fun u1 hn s1 hv => ⟨v5, bnd_i ?_⟩) (fun u1 e r hn s1 => ⟨v5, bnd_i ?_⟩)
  · obtain ⟨q1, q2, q3⟩ := hst (t + 8) (by omega) (by omega)
    have s2 := cs_I (v := nI (nmC (lln X p))) s1 q1 q2 q3
    have z2 : (tI u1 (t + 8) (pk D) (nI (nmC (lln X p)))).1 (t + 8) (pk D) = nI (nmC (lln X p)) := t_s _ _ _ _
    generalize tI u1 (t + 8) (pk D) (nI (nmC (lln X p))) = u2 at s2 z2
    have hR1 : ∀ y, (wR X (lx X 1 p) true wBold).bind (fun _ => (nuR X (lx X 2 p) true 0 9).bind fun b => (wR X (lx X 3 p) true wKind).bind fun _ => (nuR X (lx X 4 p) true 0 9).bind fun k => .ok (nwK D (lln X p) b k, lx X 5 p, true)) = y → caR X D p = y := by
      intro y hy
      rw [← hy]
      unfold caR
      rw [hn]
      rfl
    refine q_takeWord (v := 7) (w := wBold) (by omega) rfl s2.1 (fun u3 hi k3 t3 => ?_) (fun u3 hi k3 t3 => ?_)
    · have hw1 : wR X (lx X 1 p) true wBold = .ok () := if_pos hi
      have s3 := cs_K s2 k3 t3 (dft_SX ht) (fun a k h => h.1)
      rw [s3.2.2.2.1]
      refine q_takeNumber (least := 0) (most := 9) (by omega) (by omega) s3.1 (fun u4 b hb4 k4 t4 => ⟨v5, bnd_i ?_⟩) (fun u4 e he k4 t4 => ⟨v5, bnd_i ?_⟩)
      · have s4 := cs_K s3 k4 t4 (dft_SX ht) (fun a k h => h.1)
        obtain ⟨q1, q2, q3⟩ := hst (t + 9) (by omega) (by omega)
        have s5 := cs_I (v := nI b) s4 q1 q2 q3
        have y5 : (tI u4 (t + 9) (pk D) (nI b)).1 (t + 9) (pk D) = nI b := t_s _ _ _ _
        have z5 : (tI u4 (t + 9) (pk D) (nI b)).1 (t + 8) (pk D) = nI (nmC (lln X p)) := by rw [t_n _ _ (by omega), k4.1 _ _ (by unfold SX; omega), k3.1 _ _ (by unfold SX; omega)]; exact z2
        generalize tI u4 (t + 9) (pk D) (nI b) = u5 at s5 y5 z5
        refine q_takeWord (v := 8) (w := wKind) (by omega) rfl s5.1 (fun u6 hi6 k6 t6 => ?_) (fun u6 hi6 k6 t6 => ?_)
        · have hw6 : wR X (lx X 3 p) true wKind = .ok () := if_pos hi6
          have s6 := cs_K s5 k6 t6 (dft_SX ht) (fun a k h => h.1)
          rw [s6.2.2.2.1]
          refine q_takeNumber (least := 0) (most := 9) (by omega) (by omega) s6.1 (fun u7 k hk7 k7 t7 => ⟨v5, bnd_i (bnd_i ?_)⟩) (fun u7 e he k7 t7 => ⟨v5, bnd_i (bnd_i ?_)⟩)
          · have s7 := cs_K s6 k7 t7 (dft_SX ht) (fun a k h => h.1)
            have e7 : u7.2.2.2.2.2 = t := s7.2.2.2.1
            have y7 : u7.1 (t + 9) (pk D) = nI b := by rw [k7.1 _ _ (by unfold SX; omega), k6.1 _ _ (by unfold SX; omega)]; exact y5
            have z7 : u7.1 (t + 8) (pk D) = nI (nmC (lln X p)) := by rw [k7.1 _ _ (by unfold SX; omega), k6.1 _ _ (by unfold SX; omega)]; exact z5
            show Q (tI (tI u7 (t + 10) (pk D) (nI k)) u7.2.2.2.2.2 4 ((tI u7 (t + 10) (pk D) (nI k)).1 u7.2.2.2.2.2 4 + 1))
            rw [e7]
            have ef : (tI u7 (t + 10) (pk D) (nI k)).1 t 4 = nI (pk D) := by
              rw [t_n _ _ (by omega)]
              exact s7.2.1.1.2.2.2.2
            rw [ef, nI_1]
            have hK : Kp (fun x j => ¬ (t + 8 ≤ x ∧ x ≤ t + 10 ∧ j = pk D) ∧ ¬ (x = t ∧ j = 4)) u7 (tI (tI u7 (t + 10) (pk D) (nI k)) t 4 (nI (pk D + 1))) := kp_I (kp_I (kp_r u7) (by omega)) (by omega)
            have hbd := nu_ok hb4
            have hbi := nu_ok hk7
            have hr : caR X D p = .ok (nwK D (lln X p) b k, lx X 5 p, true) := by
              refine hR1 _ ?_
              rw [hw1]
              show (nuR X (lx X 2 p) true 0 9).bind _ = _
              rw [show nuR X (lx X 2 p) true 0 9 = .ok b from hb4]
              show (wR X (lx X 3 p) true wKind).bind _ = _
              rw [hw6]
              show (nuR X (lx X 4 p) true 0 9).bind _ = _
              rw [show nuR X (lx X 4 p) true 0 9 = .ok k from hk7]
              rfl
            refine h1 _ _ _ _ hr ⟨tk_K s7.1 hK (fun a k h => by omega), cdr_k s7.2.1 (by omega) hK ?_ ?_ ?_ ?_ rfl, kq_t s7.2.2.1 (kq_p (kp_m hK (fun a k h => by unfold SCd at h; omega))), e7, ht⟩ (vd_le (vd_k hD h5 hv (by omega) (by omega) rfl) hx5.1)
            · rw [t_n _ _ (by omega), t_n _ _ (by omega)]
              exact z7
            · rw [t_n _ _ (by omega), t_n _ _ (by omega)]
              exact y7
            · rw [t_n _ _ (by omega), t_s]
            · rw [t_s]
          · have s7 := ce_K s6.2.1 s6.2.2.1 s6.2.2.2.1 ht k7 t7 (dft_SX ht) (fun a k h => h.1)
            have e7 : u7.2.2.2.2.2 = t := s7.2.2.2.1
            show Q (tI (tI u7 (t + 10) (pk D) (nI 0)) u7.2.2.2.2.2 4 _)
            rw [e7]
            refine h0 _ e ?_ (cf_I (cf_I (cf_of hD (by omega) s7) (by omega)) (by omega))
            refine hR1 _ ?_
            rw [hw1]
            show (nuR X (lx X 2 p) true 0 9).bind _ = _
            rw [show nuR X (lx X 2 p) true 0 9 = .ok b from hb4]
            show (wR X (lx X 3 p) true wKind).bind _ = _
            rw [hw6]
            show (nuR X (lx X 4 p) true 0 9).bind _ = _
            rw [show nuR X (lx X 4 p) true 0 9 = .error e from he]
            rfl
        · have s6 := ce_K s5.2.1 s5.2.2.1 s5.2.2.2.1 ht k6 t6 (dft_SX ht) (fun a k h => h.1)
          have e6 : u6.2.2.2.2.2 = t := s6.2.2.2.1
          refine q_takeNumberF s6.1 ⟨v5, bnd_i (bnd_i ?_)⟩
          show Q (tI (tI u6 (u6.2.2.2.2.2 + 10) (pk D) 0) u6.2.2.2.2.2 4 _)
          rw [e6]
          refine h0 _ _ ?_ (cf_I (cf_I (cf_of hD (by omega) s6) (by omega)) (by omega))
          refine hR1 _ ?_
          rw [hw1]
          show (nuR X (lx X 2 p) true 0 9).bind _ = _
          rw [show nuR X (lx X 2 p) true 0 9 = .ok b from hb4]
          show (wR X (lx X 3 p) true wKind).bind _ = _
          rw [show wR X (lx X 3 p) true wKind = .error (1, lst X (lx X 3 p)) from if_neg hi6]
          rfl
      · have s4 := ce_K s3.2.1 s3.2.2.1 s3.2.2.2.1 ht k4 t4 (dft_SX ht) (fun a k h => h.1)
        obtain ⟨q1, q2, q3⟩ := hst (t + 9) (by omega) (by omega)
        have s5 := ce_I (v := nI 0) s4 q1 q2 q3
        generalize tI u4 (t + 9) (pk D) (nI 0) = u5 at s5
        have e5 : u5.2.2.2.2.2 = t := s5.2.2.2.1
        refine q_takeWordF s5.1 (q_takeNumberF s5.1 ⟨v5, bnd_i (bnd_i ?_)⟩)
        show Q (tI (tI u5 (u5.2.2.2.2.2 + 10) (pk D) 0) u5.2.2.2.2.2 4 _)
        rw [e5]
        refine h0 _ e ?_ (cf_I (cf_I (cf_of hD (by omega) s5) (by omega)) (by omega))
        refine hR1 _ ?_
        rw [hw1]
        show (nuR X (lx X 2 p) true 0 9).bind _ = _
        rw [show nuR X (lx X 2 p) true 0 9 = .error e from he]
        rfl
    · have s3 := ce_K s2.2.1 s2.2.2.1 s2.2.2.2.1 ht k3 t3 (dft_SX ht) (fun a k h => h.1)
      have hr : caR X D p = .error (1, lst X (lx X 1 p)) := by
        refine hR1 _ ?_
        rw [show wR X (lx X 1 p) true wBold = .error (1, lst X (lx X 1 p)) from if_neg hi]
        rfl
      obtain ⟨q1, q2, q3⟩ := hst (t + 9) (by omega) (by omega)
      have s5 := ce_I (v := 0) s3 q1 q2 q3
      rw [s3.2.2.2.1]
      refine q_takeNumberF s3.1 ⟨v5, bnd_i ?_⟩
      generalize tI u3 (t + 9) (pk D) 0 = u5 at s5
      have e5 : u5.2.2.2.2.2 = t := s5.2.2.2.1
      refine q_takeWordF s5.1 (q_takeNumberF s5.1 ⟨v5, bnd_i (bnd_i ?_)⟩)
      show Q (tI (tI u5 (u5.2.2.2.2.2 + 10) (pk D) 0) u5.2.2.2.2.2 4 _)
      rw [e5]
      exact h0 _ _ hr (cf_I (cf_I (cf_of hD (by omega) s5) (by omega)) (by omega))
  · obtain ⟨q1, q2, q3⟩ := hst (t + 8) (by omega) (by omega)
    have s2 := ce_I (v := r) s1 q1 q2 q3
    generalize tI u1 (t + 8) (pk D) r = u2 at s2
    have hr : caR X D p = .error e := by
      unfold caR
      rw [hn]
      rfl
    obtain ⟨q1, q2, q3⟩ := hst (t + 9) (by omega) (by omega)
    have s5 := ce_I (v := 0) s2 q1 q2 q3
    refine q_takeWordF s2.1 (q_takeNumberF s2.1 ⟨v5, bnd_i ?_⟩)
    rw [s2.2.2.2.1]
    generalize tI u2 (t + 9) (pk D) 0 = u5 at s5
    have e5 : u5.2.2.2.2.2 = t := s5.2.2.2.1
    refine q_takeWordF s5.1 (q_takeNumberF s5.1 ⟨v5, bnd_i (bnd_i ?_)⟩)
    show Q (tI (tI u5 (u5.2.2.2.2.2 + 10) (pk D) 0) u5.2.2.2.2.2 4 _)
    rw [e5]
    exact h0 _ _ hr (cf_I (cf_I (cf_of hD (by omega) s5) (by omega)) (by omega))
theorem c_codes {X : Tx} {t p w : Nat} {D : Pl} {u0 u : St} {Q : St → Prop} (hD : VD D p) (hw : w = 0 ∨ w = 1) (h : CdS X t D u0 u p true) (h1 : ∀ u' D' p' g', CoR X D w p (.ok (D', p', g')) → CdS X t D' u0 u' p' g' → VD D' p' → Q u') (h0 : ∀ u' e, CoR X D w p (.error e) → CdF X t u0 u' e → Q u') : s_X8_readSumOf (nI (kb w)) (t + 11 + 3 * w) Q u := by
  have ht := h.2.2.2.2
  have h16 := h.1.1.1
  have hp := h.1.2.1
  have hl := hD.2.2.2.2.2.2.2
  have hTop : TopS [] := fun x hx => absurd hx (by simp)
  refine q_readSumOf (tk := w) ⟨Or.inr (by omega), by omega⟩ (by omega) h.1 (fun u1 p' g' c k1 t1 cc ho hn => ?_) (fun u1 e k1 t1 he hm => ?_)
  · have hq : Kq (SCd t) u u1 := ⟨_, kp_m k1 (fun a k h => by unfold SCd at h; exact ⟨⟨h.1, by omega, by omega⟩, h.2.2.1⟩)⟩
    obtain ⟨hbs, c1, U, hcU, hU, hrx⟩ := ho
    have hR : Rx X w 0 p true [] [] 0 (.ok (p', g', c)) := by
      refine hrx [] [] _ hTop ?_
      rw [hcU]
      have := rx_done (X := X) (tk := w) (p := p') (o := 0) (g := g') (U := U) (C := c1) (fun x hx => by have := hU x hx; omega) hn
      simp only [List.append_nil, List.nil_append]
      exact this
    refine h1 u1 (sC D w c) p' g' (Or.inr ⟨p', g', c, hR, hbs, rfl⟩) ⟨t1, cdr_c (u := tD3 u (t + 11 + 3 * w)) h.2.1 hw (kp_m k1 (fun a k h => by unfold SG SX; omega)) cc, kq_t h.2.2.1 hq, by rw [(kq_r hq).1]; exact h.2.2.2.1, ht⟩ (vd_c hD hw hbs)
  · have hq : Kq (SCd t) u u1 := ⟨_, kp_m k1 (fun a k h => by unfold SCd at h; exact ⟨⟨h.1, by omega, by omega⟩, h.2.2.1⟩)⟩
    obtain ⟨m, hm1, hm2⟩ := hm
    refine h0 u1 e (Or.inl ⟨e, he [] [] hTop, rfl⟩) ⟨t1, ?_, ?_, kq_t h.2.2.1 hq, by rw [(kq_r hq).1]; exact h.2.2.2.1, ht⟩
    · rcases hw with rfl | rfl
      · exact ⟨m, hm1, hm2⟩
      · refine ⟨D.2.1.length, by omega, ?_⟩
        rw [k1.1 (t + 11) 2 (by unfold SG SX; omega)]
        exact h.2.1.2.2.2.2.2.1.1
    · rcases hw with rfl | rfl
      · refine ⟨D.2.2.length, by omega, ?_⟩
        rw [k1.1 (t + 14) 2 (by unfold SG SX; omega)]
        exact h.2.1.2.2.2.2.2.2.1
      · exact ⟨m, hm1, hm2⟩
/-! a whole statement -/
theorem c_semi {X : Tx} {t p : Nat} {g : Bool} {D : Pl} {u0 u : St} {Q : St → Prop} (hD : VD D p) (h : CdS X t D u0 u p g) (h1 : ∀ u', isS X p g 59 → CdS X t D u0 u' (lnx X p) false → VD D (lnx X p) → Q u') (h0 : ∀ u', ¬ isS X p g 59 → CdF X t u0 u' (1, lst X p) → Q u') : sX6_readStatement_p199 Q u := by
  unfold sX6_readStatement_p199
  have ht := h.2.2.2.2
  have hp := h.1.2.1
  have h16 := h.1.1.1
  have hx := lx_le hp 1
  refine q_takeSign (c := 59) h.1 (by omega) (fun u' hi k t' => h1 u' hi (cs_K h k t' (dft_SX ht) (fun a k h => h.1)) (vd_le hD hx.1)) (fun u' hi k t' => h0 u' hi (cf_of hD (by omega) (ce_K h.2.1 h.2.2.1 h.2.2.2.1 ht k t' (dft_SX ht) (fun a k h => h.1))))
theorem c_semiF {X : Tx} {t : Nat} {e : E2} {u0 u : St} {Q : St → Prop} (h : CdF X t u0 u e) (h0 : Q u) : sX6_readStatement_p199 Q u := by
  unfold sX6_readStatement_p199
  exact q_takeSignF h.1 h0
theorem c_empty {u : St} {t : Nat} {c : List Nat} {Q : Int32 → St → Prop} (h : cCo u t c) (hl : c.length ≤ 1600) (h1 : c = [] → Q 1 u) (h0 : c ≠ [] → Q 0 u) : s_X0_isEmpty t Q u := by
  unfold s_X0_isEmpty
  rw [h.1]
  by_cases e : c = []
  · rw [e]
    exact i_pos rfl (h1 e)
  · have : 0 < c.length := List.length_pos_iff.mpr e
    exact i_neg (nI_ne0 (by omega) (by omega)) (h0 e)
theorem c_isFull {X : Tx} {t p : Nat} {g : Bool} {o : Option Nat} {D : Pl} {u0 u : St} {Q : Int32 → St → Prop} (hD : VD D p) (h : CdS X t D u0 u p g) (ho : ∀ k, o = some k → k < 7) (h1 : ∀ k, o = some k → ful D k → Q 1 u) (h0 : (∀ k, o = some k → ¬ ful D k) → Q 0 u) : s_X6_isFull (oI o) Q u := by
  unfold s_X6_isFull
  have hl := hD.2.2.2.2.2.2.2
  have hb := hD.1
  have hp := h.1.2.1
  have h16 := h.1.1.1
  rw [h.2.2.2.1]
  cases o with
  | none => exact i_neg (by first | decide | (unfold vp_in; decide)) (i_neg (by first | decide | (unfold vp_in; decide)) (i_neg (by first | decide | (unfold vp_in; decide)) (i_neg (by first | decide | (unfold vp_in; decide)) (h0 (fun k hk => absurd hk (by simp))))))
  | some k =>
    have hk := ho k rfl
    have hne : ∀ j, j < 10 → k ≠ j → ¬ oI (some k) = nI j := fun j hj hkj => x_ne (by omega) (by omega) hkj
    have hno : ¬ ful D k → ∀ j, some k = some j → ¬ ful D j := by
      intro hf j hj
      have := Option.some.inj hj
      rw [← this]
      exact hf
    by_cases c3 : k = 3
    · subst c3
      refine i_pos rfl ?_
      rw [h.2.1.1.2.2.2.1]
      by_cases c : pf D = 6
      · exact i_pos (by rw [c]; rfl) (h1 3 rfl (Or.inl ⟨rfl, c⟩))
      · exact i_neg (x_ne (k := 6) (by omega) (by omega) c) (h0 (hno (fun hf => by unfold ful at hf; omega)))
    refine i_neg (hne 3 (by omega) c3) ?_
    by_cases c4 : k = 4
    · subst c4
      refine i_pos rfl ?_
      rw [h.2.1.1.2.2.2.2]
      by_cases c : pk D = 5
      · exact i_pos (by rw [c]; rfl) (h1 4 rfl (Or.inr (Or.inl ⟨rfl, c⟩)))
      · exact i_neg (x_ne (k := 5) (by omega) (by omega) c) (h0 (hno (fun hf => by unfold ful at hf; omega)))
    refine i_neg (hne 4 (by omega) c4) ?_
    by_cases c5 : k = 5
    · subst c5
      refine i_pos rfl (c_empty h.2.1.2.2.2.2.2.1 (by omega) (fun e => i_neg (by first | decide | (unfold vp_in; decide)) (h0 (hno (fun hf => ?_)))) (fun e => i_pos rfl (h1 5 rfl (Or.inr (Or.inr (Or.inl ⟨rfl, e⟩))))))
      rcases hf with hf | hf | hf | hf
      · omega
      · omega
      · exact hf.2 e
      · omega
    refine i_neg (hne 5 (by omega) c5) ?_
    by_cases c6 : k = 6
    · subst c6
      refine i_pos rfl (c_empty h.2.1.2.2.2.2.2.2 (by omega) (fun e => i_neg (by first | decide | (unfold vp_in; decide)) (h0 (hno (fun hf => ?_)))) (fun e => i_pos rfl (h1 6 rfl (Or.inr (Or.inr (Or.inr ⟨rfl, e⟩))))))
      rcases hf with hf | hf | hf | hf
      · omega
      · omega
      · omega
      · exact hf.2 e
    exact i_neg (hne 6 (by omega) c6) (h0 (hno (fun hf => by unfold ful at hf; omega)))
theorem c_statement {X : Tx} {t p : Nat} {D : Pl} {u0 u : St} {Q : St → Prop} (hD : VD D p) (h : CdS X t D u0 u p false) (h1 : ∀ u' D' p', Stm X D p (.ok (D', p')) → CdS X t D' u0 u' p' false → VD D' p' → Q u') (h0 : ∀ u' e, Stm X D p (.error e) → CdF X t u0 u' e → Q u') : s_X6_readStatement Q u := by
  unfold s_X6_readStatement
  have ht := h.2.2.2.2
  have hp := h.1.2.1
  have h16 := h.1.1.1
  have hl := lst_p hp
  have hx := lx_le hp 1
  refine q_wordIn (v := 2) (by omega) h.1 ?_
  have ho : ∀ k, wIn X p false (wds 2) = some k → k < 7 := fun k hk => wIn_b hk
  refine c_isFull hD h ho (fun k hk hf => i_neg (by first | decide | (unfold vp_in; decide)) ?_) (fun hnf => i_pos rfl ?_)
  · rw [h.1.2.2.2.1]
    exact q_fail (f := 5) h.1 (by omega) (by omega) (fun u1 k1 t1 => h0 u1 _ (Or.inr ⟨k, hk, Or.inl ⟨hf, rfl⟩⟩) (cf_of hD (by omega) (ce_K h.2.1 h.2.2.1 h.2.2.2.1 ht k1 t1 (dft_SX ht) (fun a k h => h.1))))
  cases hk : wIn X p false (wds 2) with
  | none =>
    refine i_pos rfl ?_
    rw [h.1.2.2.2.1]
    exact q_fail (f := 1) h.1 (by omega) (by omega) (fun u1 k1 t1 => h0 u1 _ (Or.inl ⟨hk, rfl⟩) (cf_of hD (by omega) (ce_K h.2.1 h.2.2.1 h.2.2.2.1 ht k1 t1 (dft_SX ht) (fun a k h => h.1))))
  | some k =>
    have hk7 := ho k hk
    have hnf' := hnf k hk
    refine i_neg (by show ¬ nI k = -1; rw [x_ne1 (by omega)]; exact id) ?_
    have hk1 : lkd X p false = 1 := by
      have e := hk
      unfold wIn at e
      by_cases e1 : lkd X p false = 1
      · exact e1
      · rw [if_neg e1] at e
        exact absurd e (by simp)
    refine q_advance h.1 (Or.inl hk1) (fun u1 k1 t1 => ?_)
    rw [hk1] at t1
    have s1 : CdS X t D u0 u1 (lnx X p) true := cs_K h k1 t1 (dft_SX ht) (fun a k h => h.1)
    have hD1 : VD D (lnx X p) := vd_le hD hx.1
    have hne : ∀ j, j < 10 → k ≠ j → ¬ oI (some k) = nI j := fun j hj hkj => x_ne (by omega) (by omega) hkj
    -- behind a statement's body
    have hok : ∀ u' D' p' g', Bdy X D (lnx X p) k (.ok (D', p', g')) → CdS X t D' u0 u' p' g' → VD D' p' → sX6_readStatement_p199 Q u' := by
      intro u' D' p' g' hB hs hv
      refine c_semi hv hs (fun u2 hi s2 v2 => h1 u2 D' (lnx X p') ?_ s2 v2) (fun u2 hi s2 => h0 u2 _ ?_ s2)
      · refine Or.inr ⟨k, hk, Or.inr ⟨hnf', _, hB, ?_⟩⟩
        show _ = (if isS X p' g' 59 then _ else _)
        exact (if_pos hi).symm
      · refine Or.inr ⟨k, hk, Or.inr ⟨hnf', _, hB, ?_⟩⟩
        show _ = (if isS X p' g' 59 then _ else _)
        exact (if_neg hi).symm
    have her : ∀ u' e, Bdy X D (lnx X p) k (.error e) → CdF X t u0 u' e → sX6_readStatement_p199 Q u' := by
      intro u' e hB hs
      exact c_semiF hs (h0 u' e (Or.inr ⟨k, hk, Or.inr ⟨hnf', _, hB, rfl⟩⟩) hs)
    by_cases c0 : k = 0
    · subst c0
      exact i_pos rfl (c_high hD1 s1 (fun u' D' p' g' hr s v => hok u' D' p' g' (Or.inl ⟨rfl, hr.symm⟩) s v) (fun u' e hr s => her u' e (Or.inl ⟨rfl, hr.symm⟩) s))
    refine i_neg (hne 0 (by omega) c0) ?_
    by_cases c1 : k = 1
    · subst c1
      exact i_pos rfl (c_stone hD1 s1 (fun u' D' p' g' hr s v => hok u' D' p' g' (Or.inr (Or.inl ⟨rfl, hr.symm⟩)) s v) (fun u' e hr s => her u' e (Or.inr (Or.inl ⟨rfl, hr.symm⟩)) s))
    refine i_neg (hne 1 (by omega) c1) ?_
    by_cases c2 : k = 2
    · subst c2
      exact i_pos rfl (c_source hD1 s1 (fun u' D' p' g' hr s v => hok u' D' p' g' (Or.inr (Or.inr (Or.inl ⟨rfl, hr.symm⟩))) s v) (fun u' e hr s => her u' e (Or.inr (Or.inr (Or.inl ⟨rfl, hr.symm⟩))) s))
    refine i_neg (hne 2 (by omega) c2) ?_
    by_cases c3 : k = 3
    · subst c3
      exact i_pos rfl (c_farm hD1 (fun e => hnf' (Or.inl ⟨rfl, e⟩)) s1 (fun u' D' p' g' hr s v => hok u' D' p' g' (Or.inr (Or.inr (Or.inr (Or.inl ⟨rfl, hr.symm⟩)))) s v) (fun u' e hr s => her u' e (Or.inr (Or.inr (Or.inr (Or.inl ⟨rfl, hr.symm⟩)))) s))
    refine i_neg (hne 3 (by omega) c3) ?_
    by_cases c4 : k = 4
    · subst c4
      exact i_pos rfl (c_caller hD1 (fun e => hnf' (Or.inr (Or.inl ⟨rfl, e⟩))) s1 (fun u' D' p' g' hr s v => hok u' D' p' g' (Or.inr (Or.inr (Or.inr (Or.inr (Or.inl ⟨rfl, hr.symm⟩))))) s v) (fun u' e hr s => her u' e (Or.inr (Or.inr (Or.inr (Or.inr (Or.inl ⟨rfl, hr.symm⟩))))) s))
    refine i_neg (hne 4 (by omega) c4) ?_
    by_cases c5 : k = 5
    · subst c5
      refine i_pos rfl ?_
      rw [s1.2.2.2.1]
      exact c_codes (w := 0) hD1 (Or.inl rfl) s1 (fun u' D' p' g' hr s v => hok u' D' p' g' (Or.inr (Or.inr (Or.inr (Or.inr (Or.inr (Or.inl ⟨rfl, hr⟩)))))) s v) (fun u' e hr s => her u' e (Or.inr (Or.inr (Or.inr (Or.inr (Or.inr (Or.inl ⟨rfl, hr⟩)))))) s)
    refine i_neg (hne 5 (by omega) c5) ?_
    have c6 : k = 6 := by omega
    subst c6
    refine i_pos rfl ?_
    rw [s1.2.2.2.1]
    exact c_codes (w := 1) hD1 (Or.inr rfl) s1 (fun u' D' p' g' hr s v => hok u' D' p' g' (Or.inr (Or.inr (Or.inr (Or.inr (Or.inr (Or.inr ⟨rfl, hr⟩)))))) s v) (fun u' e hr s => her u' e (Or.inr (Or.inr (Or.inr (Or.inr (Or.inr (Or.inr ⟨rfl, hr⟩)))))) s)
