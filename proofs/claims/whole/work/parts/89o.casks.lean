/-! ===== the class answers a QUESTION ===== -/
noncomputable def wtF (P : Pl) (N : Nat → Nat) (i k : Nat) : Int := if k < pk P ∧ (ww P N k).testBit i = true then 1 else 0
noncomputable def stF (P : Pl) (N : Nat → Nat) (i k : Nat) : Int := if k < pk P then (match stp (wp P N k) (wm P N k) (fce P i) with | none => -1 | some s => (s : Int)) else -1
noncomputable def Fq (P : Pl) (N : Nat → Nat) (i : Nat) : Nat → Int := fun j =>
  if j = 0 then (N 0 : Int) else if j = 1 then (N (109 + i) : Int) else if j = 2 then (N (3 + 3 * fce P i) : Int) else if j = 5 then (N (1 + 3 * fce P i) : Int) else if j = 9 then (i : Int) else if j = 10 then ((fce P i % 6 : Nat) : Int) else if j = 11 then ((fce P i / 6 : Nat) : Int) else if j = 12 then (fda P i : Int) else if 13 ≤ j ∧ j < 18 then wtF P N i (j - 13) else if 18 ≤ j ∧ j < 23 then stF P N i (j - 18) else 0
theorem stF_b {P : Pl} {N : Nat → Nat} {i k : Nat} (hm : k < pk P → wm P N k ≤ 36) : -1 ≤ stF P N i k ∧ stF P N i k ≤ 36 := by
  unfold stF
  by_cases h : k < pk P
  · first | refine i_pos h ?_ | rw [if_pos h]
    try (with_reducible rfl)
    cases e : stp (wp P N k) (wm P N k) (fce P i) with
    | none =>
      show (-1 : Int) ≤ -1 ∧ (-1 : Int) ≤ 36
      omega
    | some s =>
      have := (stp_some e).1
      have := hm h
      show (-1 : Int) ≤ (s : Int) ∧ (s : Int) ≤ 36
      omega
  · first | refine i_neg h ?_ | rw [if_neg h]
    try (with_reducible rfl)
    omega
theorem wtF_b {P : Pl} {N : Nat → Nat} {i k : Nat} : wtF P N i k = 0 ∨ wtF P N i k = 1 := by
  unfold wtF
  by_cases h : k < pk P ∧ (ww P N k).testBit i = true
  · first | refine i_pos h ?_ | rw [if_pos h]
    try (with_reducible rfl)
    exact Or.inr rfl
  · first | refine i_neg h ?_ | rw [if_neg h]
    try (with_reducible rfl)
    exact Or.inl rfl
theorem Fq_ok {P : Pl} {N : Nat → Nat} {i : Nat} (hP : VP P) (hN : VN P N) (hi : i < pf P) (hm : ∀ k, k < pk P → wm P N k ≤ 36) : GF (Fq P N i) := by
  intro j hj
  have hf := hP.2.2.2.2.2.2.1 i hi
  have h36 := cel_lt hP hf.1
  have h6 := hP.2.2.2.2.1
  have h1 := hN.1
  have h2 := hN.2.2.2.1 i hi
  have h3 := hN.2.1 _ hf.1
  have h4 := stF_b (i := i) (k := j - 18) (hm (j - 18))
  have h5 := wtF_b (P := P) (N := N) (i := i) (k := j - 13)
  unfold Fq
  repeat' split
  all_goals omega
theorem q_wayAny {P : Pl} {N : Nat → Nat} {k : Nat} {Q : Nat → St → Prop} {u : St} (hk : k < 5) (hP : VP P) (hN : VN P N) (ht : 7 ≤ u.2.2.1 ∧ u.2.2.1 + 16 ≤ 40) (hT : cPl u u.2.2.1 P) (hL : cLa u 42 P N) (hG : gWays u P N)
    (h1 : k < pk P → ∀ u', gWays u' P N → WayC u' (178 + 4 * k) P N k → Kp (fun a _ => ¬ (178 + 4 * k ≤ a ∧ a ≤ 178 + 4 * k + 3) ∧ a ≠ u.2.2.1 + 13) u u' → Q (178 + 4 * k) u') (h2 : ¬ k < pk P → Q 169 u) : s_X11_wayOf (nI k) Q u := by
  have hk5 := hP.2.2.2.2.2.1
  by_cases h : k < pk P
  · exact q_wayOfK hP hN h ht hT hL hG (h1 h)
  · unfold s_X11_wayOf
    refine q_isCaller hP hT (fun j hj e => ?_) (fun _ => i_pos rfl (h2 h))
    rw [nI_e (by omega) (by omega)] at e
    omega
def SAq (t a k : Nat) : Prop := a ≠ 173 ∧ a ≠ t + 13 ∧ ¬ (178 ≤ a ∧ a ≤ 197)
theorem q_gather {P : Pl} {N : Nat → Nat} {i : Nat} {Q : St → Prop} {u : St} (hP : VP P) (hN : VN P N) (h0 : pc P ≠ 0) (hi : i < pf P) (ht : 7 ≤ u.2.2.1 ∧ u.2.2.1 + 16 ≤ 40) (hT : cPl u u.2.2.1 P) (hL : cLa u 42 P N) (hG : gWays u P N) (hB : FB u 173) (hNo : gNo u) (hQ : ∀ u', Kp (SAq u.2.2.1) u u' → gWays u' P N → FB u' 173 → (∀ j, (j = 0 ∨ j = 1 ∨ j = 2 ∨ j = 5 ∨ (9 ≤ j ∧ j < 23)) → u'.1 173 j = iI (Fq P N i j)) → (∀ k, k < pk P → IsWay P N k (wp P N k) (wm P N k)) → Q u') : s_X11_gatherFacts (nI i) Q u := by
  have h6 := hP.2.2.2.2.1
  have hk5 := hP.2.2.2.2.2.1
  have hf := hP.2.2.2.2.2.2.1 i hi
  have h36 := cel_lt hP hf.1
  have hpl := pl_36 hP hf.1
  have hc6 := hP.1
  have hr6 := hP.2.1
  have hpi := hN.2.2.2.1 i hi
  have hce := hN.2.1 _ hf.1
  have hn0 := hN.1
  have e5 : u.1 (u.2.2.1 + 5) i = nI (pl P (fce P i)) := (hT.2.2.1 i hi).2.1
  have e6 : u.1 (u.2.2.1 + 6) i = nI (fda P i) := (hT.2.2.1 i hi).2.2
  have c9 : ((9 : Int32)).toNatClampNeg = 9 := by first | decide | (unfold vp_in; decide)
  have c10 : ((10 : Int32)).toNatClampNeg = 10 := by first | decide | (unfold vp_in; decide)
  have c11 : ((11 : Int32)).toNatClampNeg = 11 := by first | decide | (unfold vp_in; decide)
  have c12 : ((12 : Int32)).toNatClampNeg = 12 := by first | decide | (unfold vp_in; decide)
  have c1 : ((1 : Int32)).toNatClampNeg = 1 := by first | decide | (unfold vp_in; decide)
  have c2 : ((2 : Int32)).toNatClampNeg = 2 := by first | decide | (unfold vp_in; decide)
  have c0 : ((0 : Int32)).toNatClampNeg = 0 := by first | decide | (unfold vp_in; decide)
  have c5 : ((5 : Int32)).toNatClampNeg = 5 := by first | decide | (unfold vp_in; decide)
  unfold s_X11_gatherFacts
  rw [nI_clamp (by omega), e5]
  refine ⟨vp_in_nI (by omega) (by omega), by first | decide | (unfold vp_in; decide), bnd_i ?_⟩
  rw [c9]
  have e0 : ∀ (s : St), Kp (fun a _ => a ≠ 173) u s → s.1 u.2.2.1 0 = nI (pc P) := fun s k => by
    rw [k.1 _ _ (by omega)]
    exact hT.1.1
  have kA : Kp (fun a _ => a ≠ 173) u (tI u 173 9 (nI i)) := kp_I (kp_r u) (by omega)
  refine q_columnOf (e0 _ kA) h0 (by omega) (by omega) ⟨by first | decide | (unfold vp_in; decide), bnd_i ?_⟩
  rw [c10]
  have kB : Kp (fun a _ => a ≠ 173) u (tI (tI u 173 9 (nI i)) 173 10 (nI (pl P (fce P i) % pc P))) := kp_I kA (by omega)
  show s_X5_rowOf u.2.2.1 _ _ _
  refine q_rowOf (e0 _ kB) h0 (by omega) (by omega) ⟨by first | decide | (unfold vp_in; decide), bnd_i ?_⟩
  rw [c11, pl_mod hf.1, pl_div hf.1]
  refine ⟨vp_in_nI (by omega) (by omega), by first | decide | (unfold vp_in; decide), bnd_i ?_⟩
  rw [c12]
  show vp_in (nI i) 6 ∧ _
  rw [show (tI (tI (tI u 173 9 (nI i)) 173 10 (nI (fce P i % 6))) 173 11 (nI (fce P i / 6))).1 ((tI (tI (tI u 173 9 (nI i)) 173 10 (nI (fce P i % 6))) 173 11 (nI (fce P i / 6))).2.2.1 + 6) i = nI (fda P i) by
    rw [t_n _ _ (by show u.2.2.1 + 6 ≠ 173 ∨ _; omega), t_n _ _ (by show u.2.2.1 + 6 ≠ 173 ∨ _; omega), t_n _ _ (by show u.2.2.1 + 6 ≠ 173 ∨ _; omega)]
    exact e6]
  refine ⟨vp_in_nI (by omega) (by omega), by first | decide | (unfold vp_in; decide), bnd_i ?_⟩
  rw [c1, t_n (a' := 46) _ _ (by omega), t_n (a' := 46) _ _ (by omega), t_n (a' := 46) _ _ (by omega), t_n (a' := 46) _ _ (by omega), show u.1 46 i = nI (N (109 + i)) from hL.2.2.1 i (by omega), nI_clamp (by omega)]
  refine ⟨vp_in_nI (by omega) (by omega), by first | decide | (unfold vp_in; decide), bnd_i ?_⟩
  rw [c2, t_n (a' := 45) _ _ (by omega), t_n (a' := 45) _ _ (by omega), t_n (a' := 45) _ _ (by omega), t_n (a' := 45) _ _ (by omega), t_n (a' := 45) _ _ (by omega), show u.1 45 (pl P (fce P i)) = nI (N (3 + 3 * fce P i)) from (hL.2.1 _ hf.1).2.2]
  have hs0 : ∀ (S1 : St), S1 = (tI (tI (tI (tI (tI (tI u 173 9 (nI i)) 173 10 (nI (fce P i % 6))) 173 11 (nI (fce P i / 6))) 173 12 (nI (fda P i))) 173 1 (nI (N (109 + i)))) 173 2 (nI (N (3 + 3 * fce P i)))) → Kp (fun a _ => a ≠ 173) u S1 ∧ FB S1 173 ∧ (∀ j, (j = 1 ∨ j = 2 ∨ (9 ≤ j ∧ j < 13)) → S1.1 173 j = iI (Fq P N i j)) := by
    rintro S1 rfl
    refine ⟨kp_I (kp_I (kp_I (kp_I (kp_I (kp_I (kp_r u) (by omega)) (by omega)) (by omega)) (by omega)) (by omega)) (by omega), fb_n (fb_n (fb_n (fb_n (fb_n (fb_n hB (by omega)) (by omega)) (by omega)) (by omega)) (by omega)) (by omega), fun j hj => ?_⟩
    have : j = 1 ∨ j = 2 ∨ j = 9 ∨ j = 10 ∨ j = 11 ∨ j = 12 := by omega
    rcases this with rfl | rfl | rfl | rfl | rfl | rfl
    · rw [t_n _ _ (by omega), t_s, nI_iI (by omega)]
      rfl
    · rw [t_s, nI_iI (by omega)]
      rfl
    · rw [t_n _ _ (by omega), t_n _ _ (by omega), t_n _ _ (by omega), t_n _ _ (by omega), t_n _ _ (by omega), t_s, nI_iI (by omega)]
      rfl
    · rw [t_n _ _ (by omega), t_n _ _ (by omega), t_n _ _ (by omega), t_n _ _ (by omega), t_s, nI_iI (by omega)]
      rfl
    · rw [t_n _ _ (by omega), t_n _ _ (by omega), t_n _ _ (by omega), t_s, nI_iI (by omega)]
      rfl
    · rw [t_n _ _ (by omega), t_n _ _ (by omega), t_s, nI_iI (by omega)]
      rfl
  obtain ⟨K0, B0, F0⟩ := hs0 _ rfl
  generalize (tI (tI (tI (tI (tI (tI u 173 9 (nI i)) 173 10 (nI (fce P i % 6))) 173 11 (nI (fce P i / 6))) 173 12 (nI (fda P i))) 173 1 (nI (N (109 + i)))) 173 2 (nI (N (3 + 3 * fce P i)))) = s0 at K0 B0 F0
  have G0 : gWays s0 P N := k_ways hG K0 (fun a k h => by omega)
  unfold sX11_gatherFacts_p96
  refine for_up (fun n j s => sX11_gatherFacts_p96n (nI i) (nI (pl P (fce P i))) Q n j s) 5 (fun m s => Kp (SAq u.2.2.1) u s ∧ gWays s P N ∧ FB s 173 ∧ (∀ j, (j = 1 ∨ j = 2 ∨ (9 ≤ j ∧ j < 13 + m) ∧ (j < 18 ∨ True) ∧ j < 18 ∨ (18 ≤ j ∧ j < 18 + m)) → s.1 173 j = iI (Fq P N i j)) ∧ ∀ k, k < m → k < pk P → IsWay P N k (wp P N k) (wm P N k)) ?_ 0 s0 (by omega) ⟨kp_m K0 (fun a k h => h.1), G0, B0, fun j hj => F0 j (by omega), fun k hk => absurd hk (by omega)⟩
  rintro n m s hm ⟨hK, hGs, hBs, hFs, hW⟩ hnext
  show sX11_gatherFacts_p96b (nI i) (nI (pl P (fce P i))) Q (sX11_gatherFacts_p96n (nI i) (nI (pl P (fce P i))) Q n) (nI m) s
  unfold sX11_gatherFacts_p96b
  have et : s.2.2.1 = u.2.2.1 := by rw [hK.2.2]
  have hTs : cPl s u.2.2.1 P := cPl_K hT hK (fun x k a b c d => by unfold SAq; omega)
  have hLs : cLa s 42 P N := cLa_K hL hK (fun x k a b c => by unfold SAq; omega)
  by_cases hm5 : m = 5
  · subst hm5
    refine i_pos (by first | decide | (unfold vp_in; decide)) ⟨by first | decide | (unfold vp_in; decide), bnd_i ?_⟩
    rw [c0, nI_clamp (by omega), show s.1 42 0 = nI (N 0) from hLs.1]
    refine ⟨vp_in_nI (by omega) (by omega), by first | decide | (unfold vp_in; decide), bnd_i ?_⟩
    rw [c5, t_n (a' := 43) _ _ (by omega), show s.1 43 (pl P (fce P i)) = nI (N (1 + 3 * fce P i)) from (hLs.2.1 _ hf.1).1]
    have kx : Kp (fun a _ => a ≠ 173) s (tI (tI s 173 0 (nI (N 0))) 173 5 (nI (N (1 + 3 * fce P i)))) := kp_I (kp_I (kp_r s) (by omega)) (by omega)
    refine hQ _ (kp_t hK (kp_m kx (fun a k h => h.1))) (k_ways hGs kx (fun a k h => by omega)) (fb_n (fb_n hBs (by omega)) (by omega)) (fun j hj => ?_) (fun k hk => hW k (by omega) hk)
    by_cases j5 : j = 5
    · rw [j5, t_s, nI_iI (by omega)]
      rfl
    · rw [t_n _ _ (by omega)]
      by_cases j0 : j = 0
      · rw [j0, t_s, nI_iI (by omega)]
        rfl
      · rw [t_n _ _ (by omega)]
        exact hFs j (by omega)
  have hm5' : ¬ nI 5 ≤ nI m := nI_ge (by omega) (by omega)
  refine i_neg hm5' ?_
  have h130 : ∀ (s1 : St) (a b : Nat) (v : Int32), Kp (SAq u.2.2.1) u s1 → (∀ j, s1.1 173 j = s.1 173 j) → gWays s1 P N → s1.1 (a + 2) (pl P (fce P i)) = v → a + 2 ≠ 173 → v = iI (stF P N i m) → (b : Int) = wtF P N i m → (m < pk P → IsWay P N m (wp P N m) (wm P N m)) → sX11_gatherFacts_p130 (nI i) (nI (pl P (fce P i))) (nI m) a (nI b) ((13 : Int32) + nI m) Q (sX11_gatherFacts_p96n (nI i) (nI (pl P (fce P i))) Q n) s1 := by
    intro s1 a b v k1 e1 g1 ev ha hv hb hw
    have hb1 := wtF_b (P := P) (N := N) (i := i) (k := m)
    unfold sX11_gatherFacts_p130
    rw [show (13 : Int32) + nI m = nI (13 + m) from nI_add 13 m, show (18 : Int32) + nI m = nI (18 + m) from nI_add 18 m, nI_clamp (by omega), nI_clamp (by omega), nI_clamp (by omega), nI_1]
    refine ⟨vp_in_nI (by omega) (by omega), bnd_i ⟨vp_in_nI (by omega) (by omega), vp_in_nI (by omega) (by omega), bnd_i ?_⟩⟩
    rw [t_n (a' := a + 2) _ _ (by omega), ev]
    have kx : Kp (fun a _ => a ≠ 173) s1 (tI (tI s1 173 (13 + m) (nI b)) 173 (18 + m) v) := kp_I (kp_I (kp_r s1) (by omega)) (by omega)
    have hB1 : FB s1 173 := fun j hj => by rw [e1]; exact hBs j hj
    have hsb : -1 ≤ stF P N i m ∧ stF P N i m ≤ 36 := stF_b (fun hh => (w_cel hP h0 (hw hh)).1)
    have hvT : v.toInt = stF P N i m := by rw [hv, iI_T (by omega) (by omega)]
    refine hnext (by omega) _ ⟨kp_t k1 (kp_m kx (fun a k h => h.1)), k_ways g1 kx (fun a k h => by omega), fb_I (fb_n hB1 (by omega)) (by omega) (by omega), fun j hj => ?_, fun k hk hkp => ?_⟩
    · by_cases j18 : j = 18 + m
      · rw [j18, t_s, hv]
        congr 1
        unfold Fq
        first | refine i_neg (by omega) ?_ | rw [if_neg (by omega)]
        first | refine i_neg (by omega) ?_ | rw [if_neg (by omega)]
        first | refine i_neg (by omega) ?_ | rw [if_neg (by omega)]
        first | refine i_neg (by omega) ?_ | rw [if_neg (by omega)]
        first | refine i_neg (by omega) ?_ | rw [if_neg (by omega)]
        first | refine i_neg (by omega) ?_ | rw [if_neg (by omega)]
        first | refine i_neg (by omega) ?_ | rw [if_neg (by omega)]
        first | refine i_neg (by omega) ?_ | rw [if_neg (by omega)]
        first | refine i_neg (by omega) ?_ | rw [if_neg (by omega)]
        first | refine i_pos (by omega) ?_ | rw [if_pos (by omega)]
        rw [show 18 + m - 18 = m by omega]
      · rw [t_n _ _ (by omega)]
        by_cases j13 : j = 13 + m
        · rw [j13, t_s, nI_iI (by omega), hb]
          congr 1
          unfold Fq
          first | refine i_neg (by omega) ?_ | rw [if_neg (by omega)]
          first | refine i_neg (by omega) ?_ | rw [if_neg (by omega)]
          first | refine i_neg (by omega) ?_ | rw [if_neg (by omega)]
          first | refine i_neg (by omega) ?_ | rw [if_neg (by omega)]
          first | refine i_neg (by omega) ?_ | rw [if_neg (by omega)]
          first | refine i_neg (by omega) ?_ | rw [if_neg (by omega)]
          first | refine i_neg (by omega) ?_ | rw [if_neg (by omega)]
          first | refine i_neg (by omega) ?_ | rw [if_neg (by omega)]
          first | refine i_pos (by omega) ?_ | rw [if_pos (by omega)]
          rw [show 13 + m - 13 = m by omega]
        · rw [t_n _ _ (by omega), e1]
          exact hFs j (by omega)
    · by_cases ek : k = m
      · rw [ek] at hkp ⊢
        exact hw hkp
      · exact hW k (by omega) hkp
  refine q_wayAny (k := m) (by omega) hP hN (by rw [et]; exact ht) (by rw [et]; exact hTs) hLs hGs (fun hmk s1 g1 w1 k1 => ?_) (fun hmk => ?_)
  · rw [et] at k1
    have hk1 : Kp (SAq u.2.2.1) u s1 := kp_t hK (kp_m k1 (fun a k h => by unfold SAq at h; omega))
    have e1 : ∀ j, s1.1 173 j = s.1 173 j := fun j => k1.1 173 j (by omega)
    have hst := w1.2.2.2.1 _ hf.1
    have hwm := (w_cel hP h0 w1.1).1
    have hv : s1.1 (178 + 4 * m + 2) (pl P (fce P i)) = iI (stF P N i m) := by
      rw [hst]
      unfold stF
      first | refine i_pos hmk ?_ | rw [if_pos hmk]
      try (with_reducible rfl)
      cases e : stp (wp P N m) (wm P N m) (fce P i) with
      | none => exact m1_iI
      | some x =>
        have := (stp_some e).1
        exact nI_iI (by omega)
    refine q_waters (w := ww P N m) w1.2.2.2.2.2.1 (ww_lt hP N m) (by omega) (fun hb => i_neg (by first | decide | (unfold vp_in; decide)) ?_) (fun hb => i_pos rfl ?_)
    · refine h130 s1 _ 1 _ hk1 e1 g1 hv (by omega) rfl ?_ (fun _ => w1.1)
      unfold wtF
      first | refine i_pos ⟨hmk, hb⟩ ?_ | rw [if_pos ⟨hmk, hb⟩]
      try (with_reducible rfl)
      rfl
    · refine h130 s1 _ 0 _ hk1 e1 g1 hv (by omega) rfl ?_ (fun _ => w1.1)
      unfold wtF
      first | refine i_neg (fun h => hb h.2) ?_ | rw [if_neg (fun h => hb h.2)]
      try (with_reducible rfl)
      rfl
  · have hNs : gNo s := k_no hNo hK (fun a k h => by unfold DNo at h; unfold SAq; omega)
    have hv : s.1 (169 + 2) (pl P (fce P i)) = iI (stF P N i m) := by
      rw [show s.1 (169 + 2) (pl P (fce P i)) = -1 from hNs.2.2 _ hpl]
      unfold stF
      first | refine i_neg hmk ?_ | rw [if_neg hmk]
      try (with_reducible rfl)
      exact m1_iI
    refine q_waters (w := 0) hNs.2.1 (by omega) (by omega) (fun hb => absurd hb (by simp)) (fun hb => i_pos rfl ?_)
    refine h130 s _ 0 _ hK (fun _ => rfl) hGs hv (by omega) rfl ?_ (fun h => absurd h hmk)
    unfold wtF
    first | refine i_neg (fun h => hmk h.1) ?_ | rw [if_neg (fun h => hmk h.1)]
    try (with_reducible rfl)
    rfl
/-- the worth hangs on those facts alone that a QUESTION may name -/
theorem ru_congr2 {F F' : Nat → Int} (hS : ∀ j, (j = 0 ∨ j = 1 ∨ j = 2 ∨ j = 5 ∨ (9 ≤ j ∧ j < 23)) → F j = F' j) : ∀ (c : List Nat), OkK 2 c → ∀ st, ruM F c st = ruM F' c st
  | [], _, _ => rfl
  | t :: c, h, st => by
    have e : evM F t st = evM F' t st := by
      unfold evM
      rcases h t (by simp) with h1 | h1 | h1 | h1
      · first | refine i_pos h1 ?_ | rw [if_pos h1]
        first | refine i_pos h1 ?_ | rw [if_pos h1]
        try (with_reducible rfl)
      · have a1 : ¬ 1000 ≤ t := by omega
        have a2 : ¬ 60 ≤ t := by omega
        have ha : t - 40 < 3 ∨ t - 40 = 5 ∨ 8 < t - 40 := of_decide_eq_true h1.2.2
        first | refine i_neg a1 ?_ | rw [if_neg a1]
        first | refine i_neg a2 ?_ | rw [if_neg a2]
        first | refine i_pos h1.1 ?_ | rw [if_pos h1.1]
        first | refine i_neg a1 ?_ | rw [if_neg a1]
        first | refine i_neg a2 ?_ | rw [if_neg a2]
        first | refine i_pos h1.1 ?_ | rw [if_pos h1.1]
        rw [hS (t - 40) (by omega)]
      · have a1 : ¬ 1000 ≤ t := by omega
        have a2 : ¬ 60 ≤ t := by omega
        have a3 : ¬ 40 ≤ t := by omega
        simp only [a1, a2, a3, if_false]
      · by_cases h60 : t = 60 ∨ t = 61
        · first | refine i_neg (by omega) ?_ | rw [if_neg (by omega)]
          first | refine i_pos (by omega) ?_ | rw [if_pos (by omega)]
          first | refine i_neg (by omega) ?_ | rw [if_neg (by omega)]
          first | refine i_pos (by omega) ?_ | rw [if_pos (by omega)]
          try (with_reducible rfl)
          cases st with
          | nil => rfl
          | cons a r =>
            show ofc F (t - 60) a :: r = ofc F' (t - 60) a :: r
            have : ofc F (t - 60) a = ofc F' (t - 60) a := by
              unfold ofc
              by_cases ha : 0 ≤ a ∧ a < 5
              · first | refine i_pos ha ?_ | rw [if_pos ha]
                first | refine i_pos ha ?_ | rw [if_pos ha]
                try (with_reducible rfl)
                refine hS _ ?_
                by_cases hz : t - 60 = 0
                · first | refine i_pos hz ?_ | rw [if_pos hz]
                  try (with_reducible rfl)
                  omega
                · first | refine i_neg hz ?_ | rw [if_neg hz]
                  try (with_reducible rfl)
                  omega
              · first | refine i_neg ha ?_ | rw [if_neg ha]
                first | refine i_neg ha ?_ | rw [if_neg ha]
                try (with_reducible rfl)
            rw [this]
        · have a1 : ¬ 1000 ≤ t := by omega
          have a2 : ¬ 60 ≤ t := by omega
          have a3 : ¬ 40 ≤ t := by omega
          simp only [a1, a2, a3, if_false]
    show ruM F c (evM F t st) = ruM F' c (evM F' t st)
    rw [e]
    exact ru_congr2 hS c (fun x hx => h x (by simp [hx])) _
noncomputable def vq (P : Pl) (N : Nat → Nat) (c : List Nat) (i : Nat) : Int := valM (Fq P N i) c
/-- the answer when so many farms are asked -/
noncomputable def ansQ (P : Pl) (N : Nat → Nat) (c : List Nat) (k : Nat) : Nat → Int
  | 0 => if k < 2 then -1 else 0
  | i + 1 => if k = 0 then (if vq P N c i = 1 ∧ ansQ P N c k i = -1 then (i : Int) else ansQ P N c k i) else if k = 1 then (if vq P N c i = 1 then (i : Int) else ansQ P N c k i) else if k < 4 then ansQ P N c k i + vq P N c i else if i = 0 then vq P N c i else if k = 4 then (if ansQ P N c k i < vq P N c i then vq P N c i else ansQ P N c k i) else (if vq P N c i < ansQ P N c k i then vq P N c i else ansQ P N c k i)
theorem vq_ok {P : Pl} {N : Nat → Nat} {c : List Nat} {i : Nat} {t : Bool} (hP : VP P) (hN : VN P N) (hi : i < pf P) (hm : ∀ k, k < pk P → wm P N k ≤ 36) (hg : Good t 64 c) : -1000000 ≤ vq P N c i ∧ vq P N c i ≤ 1000000 ∧ (t = true → vq P N c i = 0 ∨ vq P N c i = 1) := by
  have h := good_val (Fq_ok hP hN hi hm) (Nat.le_refl 64) hg
  exact ⟨h.2.2.1, h.2.2.2.1, h.2.2.2.2⟩
theorem ansQ_b {P : Pl} {N : Nat → Nat} {c : List Nat} {k : Nat} (hv : ∀ i, i < pf P → -1000000 ≤ vq P N c i ∧ vq P N c i ≤ 1000000) (hp : pf P ≤ 6) : ∀ i, i ≤ pf P → -10000000 ≤ ansQ P N c k i ∧ ansQ P N c k i ≤ 10000000 ∧ -1000001 * ((i : Int) + 1) ≤ ansQ P N c k i ∧ ansQ P N c k i ≤ 1000001 * ((i : Int) + 1)
  | 0, _ => by
    unfold ansQ
    by_cases h : k < 2
    · first | refine i_pos h ?_ | rw [if_pos h]
      try (with_reducible rfl)
      omega
    · first | refine i_neg h ?_ | rw [if_neg h]
      try (with_reducible rfl)
      omega
  | i + 1, hi => by
    have ih := ansQ_b (k := k) hv hp i (by omega)
    have hvi := hv i (by omega)
    unfold ansQ
    repeat' split
    all_goals omega
def SAn (t a k : Nat) : Prop := a ≠ 173 ∧ a ≠ 5 ∧ a ≠ t + 13 ∧ ¬ (178 ≤ a ∧ a ≤ 197)
theorem q_answer {P : Pl} {N : Nat → Nat} {c : List Nat} {kd : Nat} {Q : Int64 → St → Prop} {u : St} (hP : VP P) (hN : VN P N) (h0 : pc P ≠ 0) (hkd : kd < 6) (ht : 7 ≤ u.2.2.1 ∧ u.2.2.1 + 16 ≤ 40) (hT : cPl u u.2.2.1 P) (hL : cLa u 42 P N) (hG : gWays u P N) (hB : FB u 173) (hNo : gNo u) (hc : cCo u 3 c) (hg : Good (decide (kd < 3)) 64 c) (hk : OkK 2 c) (hl : c.length ≤ 1600)
    (hQ : ∀ u', Kp (SAn u.2.2.1) u u' → gWays u' P N → FB u' 173 → (0 < pf P → ∀ k, k < pk P → IsWay P N k (wp P N k) (wm P N k)) → Q (lI (ansQ P N c kd (pf P))) u') : s_X11_answerTo (nI kd) Q u := by
  have h6 := hP.2.2.2.2.1
  have hgo : ∀ z : Int, z = ansQ P N c kd 0 → sX11_answerTo_p16 (nI kd) (lI z) Q u := by
    intro z hz
    unfold sX11_answerTo_p16 sX11_answerTo_p20
    have key := for_up (fun n i (s : Int64 × St) => sX11_answerTo_p20n (nI kd) Q n s.1 i s.2) (pf P) (fun i s => s.1 = lI (ansQ P N c kd i) ∧ Kp (SAn u.2.2.1) u s.2 ∧ gWays s.2 P N ∧ FB s.2 173 ∧ (0 < i → ∀ k, k < pk P → IsWay P N k (wp P N k) (wm P N k))) ?_ 0 (lI z, u) (by omega) ⟨by rw [hz], kp_r u, hG, hB, fun h => absurd h (by omega)⟩
    · exact key
    rintro n i ⟨v2, s⟩ hi ⟨e2, hK, hGs, hBs, hW⟩ hnext
    simp only at e2 hK hGs hBs
    subst e2
    show sX11_answerTo_p20b (nI kd) Q (sX11_answerTo_p20n (nI kd) Q n) (lI (ansQ P N c kd i)) (nI i) s
    unfold sX11_answerTo_p20b
    have et : s.2.2.1 = u.2.2.1 := by rw [hK.2.2]
    have hTs : cPl s u.2.2.1 P := cPl_K hT hK (fun x k a b c d => by unfold SAn; omega)
    have hLs : cLa s 42 P N := cLa_K hL hK (fun x k a b c => by unfold SAn; omega)
    rw [et, hTs.1.2.2.2.1]
    by_cases hie : i = pf P
    · rw [hie] at hW ⊢
      exact i_pos (nI_le (Nat.le_refl _) (by omega)) (hQ s hK hGs hBs hW)
    refine i_neg (nI_ge (by omega) (by omega)) ?_
    have hNs : gNo s := k_no hNo hK (fun a k h => by unfold DNo at h; unfold SAn; omega)
    refine q_gather hP hN h0 (by omega) (by rw [et]; exact ht) (by rw [et]; exact hTs) hLs hGs hBs hNs (fun s1 k1 g1 b1 f1 w1 => ?_)
    rw [et] at k1
    have hm : ∀ k, k < pk P → wm P N k ≤ 36 := fun k hk => (w_cel hP h0 (w1 k hk)).1
    have hK1 : Kp (SAn u.2.2.1) u s1 := kp_t hK (kp_m k1 (fun a k h => by unfold SAn at h; unfold SAq; omega))
    have hc1 : cCo s1 3 c := cco_K hc hK1 (fun a k h => by unfold SAn; omega)
    have hGF : GF (fun j => (s1.1 173 j).toInt) := b1
    have hqb : GF (Fq P N i) := Fq_ok hP hN (by omega) hm
    have ev : valM (fun j => (s1.1 173 j).toInt) c = vq P N c i := by
      unfold vq valM
      rw [ru_congr2 (F' := Fq P N i) (fun j hj => ?_) c hk]
      show (s1.1 173 j).toInt = _
      have hbj := hqb j (by omega)
      rw [f1 j hj, iI_T (by omega) (by omega)]
    have hr := (good_val hGF (Nat.le_refl 64) hg).2.1
    rw [ev] at hr
    have hvb := vq_ok hP hN (show i < pf P by omega) hm hg
    have hgd : ∀ i, i < c.length → (c.map kap).getD i 0 = kap (c.getD i 0) := by
      intro i hi
      simp [List.getD_eq_getElem?_getD, hi]
    have hlen : (c.map kap).length = c.length := by simp
    refine q_worth (g := 3) (c := c.map kap) (F := fun j => (s1.1 173 j).toInt) (by omega) (by rw [hlen]; exact hc1.1) (by rw [hlen]; exact hl) (fun j hj => ?_) (fun j hj => ?_) rfl (fun j hj => iI_of rfl) hGF hr (fun s2 k2 => ?_)
    · rw [hlen] at hj
      rw [hgd j hj]
      exact hc1.2 j hj
    · rw [hlen] at hj
      rw [hgd j hj]
      have h2 : c.getD j 0 ≤ 10999 := good_rng hg _ (getD_mem hj)
      unfold kap
      repeat' split
      all_goals omega
    have hK2 : Kp (SAn u.2.2.1) u s2 := kp_t hK1 (kp_m k2 (fun a k h => by unfold SAn at h; omega))
    have g2 : gWays s2 P N := k_ways g1 k2 (fun a k h => by omega)
    have b2 : FB s2 173 := fb_K b1 k2 (fun j => by omega)
    unfold sX11_answerTo_p112 sX11_answerTo_p113 sX11_answerTo_p130 sX11_answerTo_p161 sX11_answerTo_p183 sX11_answerTo_p187
    rw [nI_1]
    have hfin : ∀ z : Int, z = ansQ P N c kd (i + 1) → sX11_answerTo_p20n (nI kd) Q n (lI z) (nI (i + 1)) s2 := fun z hz => hnext (by omega) (lI z, s2) ⟨by rw [hz], hK2, g2, b2, fun _ => w1⟩
    have hi64 : (nI i).toInt64 = lI (i : Int) := by rw [nI_l (by omega), lN_lI (by omega)]
    have hv64 : (iI (vq P N c i)).toInt64 = lI (vq P N c i) := iI_l (by omega) (by omega)
    rw [hi64, hv64]
    have hone : (iI (vq P N c i) = (1 : Int32)) = (vq P N c i = 1) := iI_inj (b := 1) (by omega) (by omega) (by omega) (by omega)
    have hbd : -10000000 ≤ ansQ P N c kd i ∧ ansQ P N c kd i ≤ 10000000 := by
      have := ansQ_b (P := P) (N := N) (c := c) (k := kd) (fun j hj => ⟨(vq_ok hP hN hj hm hg).1, (vq_ok hP hN hj hm hg).2.1⟩) h6 i hi
      omega
    have hs : ansQ P N c kd (i + 1) = if kd = 0 then (if vq P N c i = 1 ∧ ansQ P N c kd i = -1 then (i : Int) else ansQ P N c kd i) else if kd = 1 then (if vq P N c i = 1 then (i : Int) else ansQ P N c kd i) else if kd < 4 then ansQ P N c kd i + vq P N c i else if i = 0 then vq P N c i else if kd = 4 then (if ansQ P N c kd i < vq P N c i then vq P N c i else ansQ P N c kd i) else (if vq P N c i < ansQ P N c kd i then vq P N c i else ansQ P N c kd i) := rfl
    rw [hs] at hfin
    have hcase : kd = 0 ∨ kd = 1 ∨ kd = 2 ∨ kd = 3 ∨ kd = 4 ∨ kd = 5 := by omega
    rcases hcase with rfl | rfl | rfl | rfl | rfl | rfl
    · refine i_pos rfl ?_
      by_cases c1 : vq P N c i = 1
      · refine i_pos (hone.mpr c1) ?_
        simp only [lg_cmp_eq]
        rw [l_m1]
        have he : (lI (ansQ P N c 0 i) = lI (-1)) = (ansQ P N c 0 i = -1) := lI_eq (by omega) (by omega) (by omega) (by omega)
        by_cases c2 : ansQ P N c 0 i = -1
        · exact i_pos (he.mpr c2) (hfin _ (by rw [if_pos rfl, if_pos ⟨c1, c2⟩]))
        · exact i_neg (fun h => c2 (he.mp h)) (hfin _ (by rw [if_pos rfl, if_neg (fun h => c2 h.2)]))
      · exact i_neg (fun h => c1 (hone.mp h)) (hfin _ (by rw [if_pos rfl, if_neg (fun h => c1 h.1)]))
    · refine i_neg (by first | decide | (unfold vp_in; decide)) (i_pos rfl ?_)
      by_cases c1 : vq P N c i = 1
      · exact i_pos (hone.mpr c1) (hfin _ (by rw [if_neg (by omega), if_pos rfl, if_pos c1]))
      · exact i_neg (fun h => c1 (hone.mp h)) (hfin _ (by rw [if_neg (by omega), if_pos rfl, if_neg c1]))
    · refine i_neg (by first | decide | (unfold vp_in; decide)) (i_neg (by first | decide | (unfold vp_in; decide)) (i_pos rfl ?_))
      rw [lI_add]
      exact hfin _ (by rw [if_neg (by omega), if_neg (by omega), if_pos (by omega)])
    · refine i_neg (by first | decide | (unfold vp_in; decide)) (i_neg (by first | decide | (unfold vp_in; decide)) (i_neg (by first | decide | (unfold vp_in; decide)) (i_pos rfl ?_)))
      rw [lI_add]
      exact hfin _ (by rw [if_neg (by omega), if_neg (by omega), if_pos (by omega)])
    · refine i_neg (by first | decide | (unfold vp_in; decide)) (i_neg (by first | decide | (unfold vp_in; decide)) (i_neg (by first | decide | (unfold vp_in; decide)) (i_neg (by first | decide | (unfold vp_in; decide)) (i_pos rfl ?_))))
      by_cases ci : i = 0
      · exact i_pos (by rw [ci]; rfl) (hfin _ (by rw [if_neg (by omega), if_neg (by omega), if_neg (by omega), if_pos ci]))
      · refine i_neg (nI_ne0 (by omega) (by omega)) ?_
        unfold s_J9_max_f86c9
        simp only [lg_cmp_lt]
        have he : (lI (ansQ P N c 4 i) < lI (vq P N c i)) = (ansQ P N c 4 i < vq P N c i) := lI_lt (by omega) (by omega) (by omega) (by omega)
        by_cases c2 : ansQ P N c 4 i < vq P N c i
        · exact i_pos (he.mpr c2) (hfin _ (by rw [if_neg (by omega), if_neg (by omega), if_neg (by omega), if_neg ci, if_pos rfl, if_pos c2]))
        · exact i_neg (fun h => c2 (he.mp h)) (hfin _ (by rw [if_neg (by omega), if_neg (by omega), if_neg (by omega), if_neg ci, if_pos rfl, if_neg c2]))
    · refine i_neg (by first | decide | (unfold vp_in; decide)) (i_neg (by first | decide | (unfold vp_in; decide)) (i_neg (by first | decide | (unfold vp_in; decide)) (i_neg (by first | decide | (unfold vp_in; decide)) (i_neg (by first | decide | (unfold vp_in; decide)) (i_pos rfl ?_)))))
      by_cases ci : i = 0
      · exact i_pos (by rw [ci]; rfl) (hfin _ (by rw [if_neg (by omega), if_neg (by omega), if_neg (by omega), if_pos ci]))
      · refine i_neg (nI_ne0 (by omega) (by omega)) ?_
        unfold s_J9_min_f86c9
        simp only [lg_cmp_gt]
        have he : (lI (vq P N c i) < lI (ansQ P N c 5 i)) = (vq P N c i < ansQ P N c 5 i) := lI_lt (by omega) (by omega) (by omega) (by omega)
        by_cases c2 : vq P N c i < ansQ P N c 5 i
        · exact i_pos (he.mpr c2) (hfin _ (by rw [if_neg (by omega), if_neg (by omega), if_neg (by omega), if_neg ci, if_neg (by omega), if_pos c2]))
        · exact i_neg (fun h => c2 (he.mp h)) (hfin _ (by rw [if_neg (by omega), if_neg (by omega), if_neg (by omega), if_neg ci, if_neg (by omega), if_neg c2]))
  unfold s_X11_answerTo sX11_answerTo_p9
  by_cases k0 : kd = 0
  · exact i_pos (by rw [k0]; rfl) (by rw [l_m1]; exact hgo (-1) (by unfold ansQ; rw [if_pos (by omega)]))
  refine i_neg (nI_ne0 (by omega) (by omega)) ?_
  by_cases k1 : kd = 1
  · exact i_pos (by rw [k1]; rfl) (by rw [l_m1]; exact hgo (-1) (by unfold ansQ; rw [if_pos (by omega)]))
  · exact i_neg (x_ne (k := 1) (by omega) (by omega) k1) (by rw [l_0]; exact hgo 0 (by unfold ansQ; rw [if_neg (by omega)]))
