/-! ===== the reference reads a NAME ===== -/
theorem fnd_wIn {X : Tx} {p : Nat} {g : Bool} (h : lkd X p g = 1) (l : List (List Nat)) : wIn X p g l = fnd (lw X p) l := if_pos h
theorem r_name {X : Tx} {p : Nat} {g : Bool} {Q : Int64 → St → Prop} {u : St} (hG : gWords u) (h : Ma u X p g) (h1 : ∀ u', Kp SXr u u' → naR X p g = .ok () → NmV (lln X p) → Ma u' X (lnx X p) true → u'.1 198 41 = nI (lst X p) → Q (lN (nmL (lln X p) (nmK (lln X p) 6))) u') (h0 : ∀ u' e r, Kp SXr u u' → naR X p g = .error e → Mf u' X e → Q r u') : s_X12_name Q u := by
  unfold s_X12_name
  rw [h.2.2.2.2.2.1]
  have hp := h.2.1
  have h16 := h.1.1
  have hn := lnx_p hp
  have hl := lst_p hp
  refine i_pos rfl (r_look h (fun u1 k1 b1 => ?_))
  have hbad : ∀ s, Kp SXr u s → Mb s X p g → ¬ (lkd X p g = 1 ∧ fnd (lw X p) (wds 3) = none) → sX12_name_p37 Q s := by
    intro s ks bs hb
    unfold sX12_name_p37
    exact r_failB bs (fun u2 k2 f2 => h0 u2 _ _ (kp_t ks k2) (if_neg hb) f2)
  refine r_lookL b1 (fun e1 => i_neg (by first | decide | (unfold vp_in; decide)) ?_) (fun e1 => i_pos rfl (hbad u1 k1 b1 (fun hh => e1 (lkd_k hh.1 (by omega)).1)))
  by_cases hg : g = true ∧ lst X p = p
  · refine i_pos ((r_glue b1).mpr hg) (hbad u1 k1 b1 (fun hh => ?_))
    have := lkd_g (X := X) (Or.inl e1) hg
    omega
  refine i_neg (fun hh => hg ((r_glue b1).mp hh)) ?_
  have hkd := lkd_u e1 hg
  have hG1 : gWords u1 := k_words hG k1 (fun a k h => by unfold DWords at h; unfold SXr; omega)
  refine r_own hG1 b1.1 (fun u2 k2 b2 ho => i_neg (by first | decide | (unfold vp_in; decide)) (hbad u2 (kp_t k1 k2) b2 (fun hh => ho (by rw [fnd_wIn hkd]; exact hh.2)))) (fun u2 k2 b2 ho => i_pos rfl (bnd_i ?_))
  rw [fnd_wIn hkd] at ho
  have hin := lnx_in hp e1 (Or.inl rfl)
  have hlt : lst X p < X.2 := by
    by_cases hlt : lst X p < X.2
    · exact hlt
    · have := lk0_0.mpr hlt
      omega
  have hn2 := hn.2.2 hlt
  have hlet : ∀ j, j < lnx X p - lst X p → 97 ≤ X.1 (lst X p + j) ∧ X.1 (lst X p + j) ≤ 122 := fun j hj => clx_1.mp (hin.1 (lst X p + j) (by omega) (by omega))
  have hna : naR X p g = if lnx X p - lst X p ≤ 6 then .ok () else .error (1, lst X p + 6) := by
    unfold naR
    first | refine i_pos ⟨hkd, ho⟩ ?_ | rw [if_pos ⟨hkd, ho⟩]
    try (with_reducible rfl)
  rw [b2.2]
  have kz : Kp SXr u2 (tI u2 198 41 (nI (lst X p))) := kp_I (kp_r u2) (by unfold SXr; omega)
  have mz : Mb (tI u2 198 41 (nI (lst X p))) X p g := mb_K b2 (kp_I (S := fun a k => ¬ (a = 198 ∧ k = 41)) (kp_r u2) (by omega)) (fun a k h => by omega)
  have z41 : (tI u2 198 41 (nI (lst X p))).1 198 41 = nI (lst X p) := t_s _ _ _ _
  generalize tI u2 198 41 (nI (lst X p)) = z at kz mz z41
  have kuz : Kp SXr u z := kp_t k1 (kp_t k2 kz)
  unfold sX12_name_p58
  refine lpx (σ := Int64 × St) (fun n s => sX12_name_p58n Q n s.1 s.2) (fun k s => ∃ i, i ≤ 6 ∧ i ≤ lnx X p - lst X p ∧ k = 7 - i ∧ s.1 = lN (nmL (lln X p) i) ∧ s.2.1 198 2 = nI (lst X p + i) ∧ Kp (fun x j => ¬ (x = 198 ∧ j = 2)) z s.2) ?_ 7 (0, z) ⟨0, by omega, by omega, rfl, rfl, mz.2, kp_r z⟩
  rintro n k ⟨v4, s⟩ ⟨i, hi4, hi, hk, ev, s2, hK⟩ hnext
  simp only at ev s2 hK
  subst ev
  show sX12_name_p58b Q (sX12_name_p58n Q n) (lN (nmL (lln X p) i)) s
  unfold sX12_name_p58b
  have ts : Mtx s X := mt_K mz.1.1 hK (by omega) (fun k => by omega)
  have hKr : Kp SXr u s := kp_t kuz (kp_m hK (fun x j h => by unfold SXr at h; omega))
  have s41 : s.1 198 41 = nI (lst X p) := by rw [hK.1 198 41 (by omega)]; exact z41
  have hend : i = lnx X p - lst X p → sX12_name_p145 (lN (nmL (lln X p) i)) Q s := by
    intro ei
    have hlen : lnx X p - lst X p ≤ 6 := by omega
    have hok : naR X p g = .ok () := hna.trans (if_pos hlen)
    have hv := (na_ok hp hok).1
    have hkl := nmK_lln hv hlen (fun j hj => (hlet j hj).1)
    unfold sX12_name_p145
    rw [s2]
    refine bnd_i ?_
    have hn3 := lst_p hn.2.1
    have hm : Ma (tI s 198 4 (nI (lst X p + i))) X (lnx X p) true := by
      refine ⟨⟨h16, by rw [t_n _ _ (by omega)]; exact ts.2.1, fun k hk => by rw [t_n _ _ (by omega)]; exact ts.2.2 k hk⟩, hn.2.1, ⟨lst X p + i, by rw [t_n _ _ (by omega)]; exact s2, by omega, by omega⟩, fun _ => ?_, fun hh => absurd hh (by simp), ?_, ?_⟩
      · rw [t_s]
        congr 1
        omega
      · rw [t_n _ _ (by omega), hK.1 198 5 (by omega)]
        exact mz.1.2.2.2.2.2.1
      · rw [t_n _ _ (by omega), hK.1 198 6 (by omega)]
        exact mz.1.2.2.2.2.2.2
    have e2 : nmL (lln X p) i = nmL (lln X p) (nmK (lln X p) 6) := by rw [hkl, ei]
    rw [e2]
    exact h1 _ (kp_I hKr (by unfold SXr; omega)) hok hv hm (by rw [t_n _ _ (by omega)]; exact s41)
  rw [s2, ts.2.1]
  by_cases hie : lst X p + i = X.2
  · exact i_pos (nI_le (by omega) (by omega)) (hend (by omega))
  refine i_neg (nI_ge (by omega) (by omega)) ?_
  have hb := ts.2.2 (lst X p + i) (by omega)
  rw [nI_clamp (by omega), hb.1]
  refine ⟨vp_in_nI (by omega) (by omega), ?_⟩
  refine r_isLetter hb.2 (fun hc => i_neg (by first | decide | (unfold vp_in; decide)) ?_) (fun hc => i_pos rfl (hend ?_))
  · have hmore : i < lnx X p - lst X p := by
      by_cases hie2 : i = lnx X p - lst X p
      · rcases hin.2 with h2 | h2
        · omega
        · rw [show lnx X p = lst X p + i by omega] at h2
          exact absurd hc h2
      · omega
    rw [s2, s41, pk_sub (by omega), show lst X p + i - lst X p = i by omega]
    by_cases h6 : i = 6
    · have hlen : ¬ lnx X p - lst X p ≤ 6 := by omega
      refine i_pos (by rw [h6]; rfl) ?_
      have s5 : s.1 198 5 = 0 := by rw [hK.1 198 5 (by omega)]; exact mz.1.2.2.2.2.2.1
      unfold s_X12_fail
      rw [s5]
      refine i_pos rfl (bnd_i (bnd_i ?_))
      rw [show lst X p + i = lst X p + 6 by omega]
      have hK2 : Kp SXr s (tI (tI s 198 5 (1 : Int32)) 198 6 (nI (lst X p + 6))) := kp_I (kp_I (kp_r s) (by unfold SXr; omega)) (by unfold SXr; omega)
      refine h0 _ _ _ (kp_t hKr hK2) (hna.trans (if_neg hlen)) ⟨mt_K ts hK2 (by unfold SXr; omega) (fun k => by unfold SXr; omega), ?_, ⟨by omega, by omega⟩, t_s _ _ _ _, by omega⟩
      rw [t_n _ _ (by omega), t_s]
      rfl
    · refine i_neg (x_ne (k := 6) (by omega) (by omega) h6) ?_
      have hdg := hlet i hmore
      have ev : (((27 : Int64) * lN (nmL (lln X p) i)) + (nI (X.1 (lst X p + i))).toInt64) - (97 : Int64) + (1 : Int64) = lN (nmL (lln X p) (i + 1)) := by
        rw [nI_l (by omega), show (27 : Int64) * lN (nmL (lln X p) i) = lN (27 * nmL (lln X p) i) from lN_mul 27 _, lN_add, show lN (27 * nmL (lln X p) i + X.1 (lst X p + i)) - (97 : Int64) = lN (27 * nmL (lln X p) i + X.1 (lst X p + i) - 97) from lN_sub (b := 97) (by omega), lN_1]
        congr 1
        show _ = 27 * nmL (lln X p) i + lln X p i
        unfold lln
        first | refine i_pos hmore ?_ | rw [if_pos hmore]
        try (with_reducible rfl)
        omega
      rw [nI_1, nI_clamp (by omega), hb.1, ev]
      refine ⟨vp_in_nI (by omega) (by omega), bnd_i ?_⟩
      exact hnext (7 - (i + 1)) (lN (nmL (lln X p) (i + 1)), _) (by omega) ⟨i + 1, by omega, by omega, rfl, rfl, t_s _ _ _ _, kp_I hK (by omega)⟩
  · by_cases hie2 : i = lnx X p - lst X p
    · exact hie2
    · exact absurd (hin.1 (lst X p + i) (by omega) (by omega)) hc
theorem r_nameF {X : Tx} {e : E2} {Q : Int64 → St → Prop} {u : St} (h : Mf u X e) (hQ : Q 0 u) : s_X12_name Q u := by
  unfold s_X12_name
  exact i_neg (mf_bad h) hQ
/-- both loops over the names that are there -/
theorem r_nnl {v1 : Int64} {Q : Int64 → St → Prop} {D : Pl} (h6 : pf D ≤ 6) (h5 : pk D ≤ 5) (I : Nat → Nat → St → Prop) (hend : ∀ s, I 2 0 s → Q v1 s) (hrow : ∀ i s, i < 2 → I i (if i = 0 then pf D else pk D) s → I (i + 1) 0 s) (hcnt : ∀ i j s, i < 2 → I i j s → s.1 232 i = nI (if i = 0 then pf D else pk D)) (hst : ∀ i j s (K : St → Prop), i < 2 → j < (if i = 0 then pf D else pk D) → I i j s → (∀ s', I i (j + 1) s' → K s') → (if (s.1 198 5) = 0 then (if (lg_cmp (s.2.1 233 (8 * i + j)) v1) = 0 then (s_X12_fail (3 : Int32) (s.1 198 41) K s) else K s) else K s)) {u : St} (hu : I 0 0 u) : sX12_newName_p7 v1 Q (0 : Int32) u := by
  unfold sX12_newName_p7
  refine for_up (sX12_newName_p7n v1 Q) 2 (fun i s => I i 0 s) (fun n i s hi hI hK => ?_) 0 u (by omega) hu
  show sX12_newName_p7b v1 Q (sX12_newName_p7n v1 Q n) (nI i) s
  unfold sX12_newName_p7b
  by_cases c : i = 2
  · subst c
    have h2 : nI 2 ≤ nI 2 := nI_le (by omega) (by omega)
    exact i_pos h2 (hend s hI)
  · have h2 : ¬ nI 2 ≤ nI i := nI_ge (by omega) (by omega)
    refine i_neg h2 ?_
    unfold sX12_newName_p15
    have hN : (if i = 0 then pf D else pk D) ≤ 6 := by
      by_cases c0 : i = 0
      · first | refine i_pos c0 ?_ | rw [if_pos c0]
        try (with_reducible rfl)
        exact h6
      · first | refine i_neg c0 ?_ | rw [if_neg c0]
        try (with_reducible rfl)
        omega
    refine for_up (sX12_newName_p15n v1 (nI i) Q (sX12_newName_p7n v1 Q n)) (if i = 0 then pf D else pk D) (fun j s => I i j s) (fun m j s' hj hI2 hK2 => ?_) 0 s (by omega) hI
    show sX12_newName_p15b v1 (nI i) Q (sX12_newName_p7n v1 Q n) (sX12_newName_p15n v1 (nI i) Q (sX12_newName_p7n v1 Q n) m) (nI j) s'
    unfold sX12_newName_p15b
    refine ⟨vp_in_nI (by omega) (by omega), ?_⟩
    rw [nI_clamp (by omega), hcnt i j s' (by omega) hI2]
    by_cases c2 : j = (if i = 0 then pf D else pk D)
    · refine i_pos (nI_le (by omega) (by omega)) ?_
      rw [nI_1]
      exact hK (by omega) s' (hrow i s' (by omega) (by rw [← c2]; exact hI2))
    · refine i_neg (nI_ge (by omega) (by omega)) ?_
      have hlt : j < (if i = 0 then pf D else pk D) := by omega
      have hgo : ∀ s'', I i (j + 1) s'' → sX12_newName_p59 v1 (nI i) (nI j) Q (sX12_newName_p7n v1 Q n) (sX12_newName_p15n v1 (nI i) Q (sX12_newName_p7n v1 Q n) m) s'' := by
        intro s'' hs
        unfold sX12_newName_p59
        rw [nI_1]
        exact hK2 hlt s'' hs
      have e8 : (8 : Int32) * nI i + nI j = nI (8 * i + j) := by
        rw [show (8 : Int32) * nI i = nI (8 * i) from pk_mul 8 i, nI_add]
      rw [e8, nI_clamp (by omega)]
      have hb := hst i j s' (fun s'' => sX12_newName_p59 v1 (nI i) (nI j) Q (sX12_newName_p7n v1 Q n) (sX12_newName_p15n v1 (nI i) Q (sX12_newName_p7n v1 Q n) m) s'') (by omega) hlt hI2 hgo
      by_cases c5 : s'.1 198 5 = 0
      · rw [if_pos c5] at hb
        exact i_pos c5 ⟨vp_in_nI (by omega) (by omega), hb⟩
      · rw [if_neg c5] at hb
        exact i_neg c5 hb
theorem lg_eq {a b : Nat} (ha : a < 2147483648) (hb : b < 2147483648) : (lg_cmp (lN a) (lN b) = 0) ↔ a = b := by
  simp only [lg_cmp_eq]
  exact lN_eq ha hb
theorem r_newName {X : Tx} {p q : Nat} {D : Pl} {Q : Int64 → St → Prop} {u : St} (hD : VD D q) (hq : q ≤ 1600) (hG : gWords u) (hM : mDr u D) (h : Ma u X p true) (h1 : ∀ u', Kp SXr u u' → nnR X D p = .ok () → NmV (lln X p) → Ma u' X (lx X 1 p) true → Q (lN (nmL (lln X p) (nmK (lln X p) 6))) u') (h0 : ∀ u' e r, Kp SXr u u' → nnR X D p = .error e → Mf u' X e → Q r u') : s_X12_newName Q u := by
  unfold s_X12_newName
  have hb := hD.1
  have h16 := h.1.1
  have hl := lst_p h.2.1
  have hcn : ∀ i s, i < 2 → Kp SXr u s → s.1 232 i = nI (if i = 0 then pf D else pk D) := by
    intro i s hi hk
    rw [hk.1 232 i (by unfold SXr; omega)]
    by_cases c : i = 0
    · first | refine i_pos c ?_ | rw [if_pos c]
      rw [c]
      exact hM.1.2.2.2.1
    · first | refine i_neg c ?_ | rw [if_neg c]
      rw [show i = 1 by omega]
      exact hM.1.2.2.2.2
  refine r_name hG h (fun u1 k1 hn hv m1 e41 => ?_) (fun u1 e r k1 hn f1 => ?_)
  · have hnn : nnR X D p = if nmd D (lln X p) = true then .error (3, lst X p) else .ok () := by
      unfold nnR
      rw [hn]
      rfl
    -- the name at a place
    have hnm : ∀ i j, i < 2 → j < (if i = 0 then pf D else pk D) → ∃ l, NmV l ∧ u1.2.1 233 (8 * i + j) = lN (nmL l (nmK l 6)) ∧ (nmC l = nmC (lln X p) → nmd D (lln X p) = true) ∧ l = (if i = 0 then fnm D j else cnm D j) := by
      intro i j hi hj
      by_cases c : i = 0
      · rw [if_pos c] at hj
        refine ⟨fnm D j, (hD.2.1 j hj).2.2.2, ?_, fun he => ?_, by rw [if_pos c]⟩
        · rw [k1.2.1 233 (by omega), c, Nat.mul_zero, Nat.zero_add]
          exact (hM.2.1 j hj).2.2.2
        · unfold nmd
          rw [fAtN_y (g := fun f => nmC (fnm D f)) hj he, Bool.true_or]
      · rw [if_neg c] at hj
        have c1 : i = 1 := by omega
        refine ⟨cnm D j, (hD.2.2.2.1 j hj).2.2, ?_, fun he => ?_, by rw [if_neg c]⟩
        · rw [k1.2.1 233 (by omega), c1]
          exact (hM.2.2.1 j hj).2.2
        · unfold nmd
          rw [fAtN_y (g := fun c => nmC (cnm D c)) hj he, Bool.or_true]
    refine r_nnl (D := D) (by omega) (by omega) (fun i j s => (s = u1 ∧ (∀ f, f < pf D → (0 < i ∨ f < j) → nmC (fnm D f) ≠ nmC (lln X p)) ∧ (∀ c, c < pk D → (1 < i ∨ (i = 1 ∧ c < j)) → nmC (cnm D c) ≠ nmC (lln X p))) ∨ (Kp SXr u s ∧ Mf s X (3, lst X p) ∧ nmd D (lln X p) = true)) (fun s hs => ?_) (fun i s hi hs => ?_) (fun i j s hi hs => ?_) (fun i j s K hi hj hs hK => ?_) (Or.inl ⟨rfl, fun f hf hh => absurd hh (by omega), fun c hc hh => absurd hh (by omega)⟩)
    · rcases hs with ⟨rfl, n1, n2⟩ | ⟨ks, fs, hd⟩
      · refine h1 s k1 (hnn.trans (if_neg ?_)) hv m1
        unfold nmd
        rw [fAtN_n (fun f hf => n1 f hf (by omega)), fAtN_n (fun f hf => n2 f hf (by omega))]
        simp
      · exact h0 s _ _ ks (hnn.trans (if_pos hd)) fs
    · rcases hs with ⟨rfl, n1, n2⟩ | hs
      · refine Or.inl ⟨rfl, fun f hf hh => n1 f hf ?_, fun c hc hh => n2 c hc ?_⟩
        · by_cases c : i = 0
          · first | refine i_pos c ?_ | rw [if_pos c]
            try (with_reducible rfl)
            omega
          · omega
        · by_cases c0 : i = 0
          · omega
          · first | refine i_neg c0 ?_ | rw [if_neg c0]
            try (with_reducible rfl)
            omega
      · exact Or.inr hs
    · rcases hs with ⟨rfl, n1, n2⟩ | hs
      · exact hcn i s hi k1
      · exact hcn i s hi hs.1
    · rcases hs with ⟨rfl, n1, n2⟩ | ⟨ks, fs, hd⟩
      · refine i_pos m1.2.2.2.2.2.1 ?_
        obtain ⟨l, hlv, hlong, hld, hle⟩ := hnm i j hi hj
        rw [hlong]
        have hiff := lg_eq (a := nmL l (nmK l 6)) (b := nmL (lln X p) (nmK (lln X p) 6)) (by have := nmL_b hlv; omega) (by have := nmL_b hv; omega)
        have hn2 := nm_iff hlv hv
        by_cases c : nmL l (nmK l 6) = nmL (lln X p) (nmK (lln X p) 6)
        · refine i_pos (hiff.mpr c) ?_
          rw [e41]
          exact r_fail (f := 3) m1 (by omega) (by omega) (fun u2 k2 f2 => hK u2 (Or.inr ⟨kp_t k1 k2, f2, hld (hn2.mpr c)⟩))
        · refine i_neg (fun hh => c (hiff.mp hh)) (hK s (Or.inl ⟨rfl, fun f hf hh => ?_, fun c' hc hh => ?_⟩))
          · by_cases e : i = 0 ∧ f = j
            · rw [if_pos e.1, ← e.2] at hle
              rw [← hle]
              exact fun he => c (hn2.mp he)
            · exact n1 f hf (by omega)
          · by_cases e : i = 1 ∧ c' = j
            · rw [if_neg (by omega), ← e.2] at hle
              rw [← hle]
              exact fun he => c (hn2.mp he)
            · exact n2 c' hc (by omega)
      · exact i_neg (mf_bad fs) (hK s (Or.inr ⟨ks, fs, hd⟩))
  · have hnn : nnR X D p = .error e := by
      unfold nnR
      rw [hn]
      rfl
    refine r_nnl (D := D) (by omega) (by omega) (fun i j s => s = u1) (fun s hs => ?_) (fun i s hi hs => hs) (fun i j s hi hs => ?_) (fun i j s K hi hj hs hK => ?_) rfl
    · rw [hs]
      exact h0 u1 e r k1 hnn f1
    · rw [hs]
      exact hcn i u1 hi k1
    · rw [hs]
      exact i_neg (mf_bad f1) (hK u1 rfl)
theorem r_cell {X : Tx} {p : Nat} {D : Pl} {Q : Int32 → St → Prop} {u : St} (h2 : 2 ≤ pc D ∧ pc D ≤ 6 ∧ 2 ≤ pr D ∧ pr D ≤ 6) (hM : u.1 231 0 = nI (pc D) ∧ u.1 231 1 = nI (pr D)) (h : Ma u X p true) (h1 : ∀ u' c, Kp SXr u u' → plR X D p = .ok c → cel D c → c < 36 → Ma u' X (lx X 2 p) true → u'.1 198 10 = nI (lst X (lnx X p)) → Q (nI c) u') (h0 : ∀ u' e, Kp SXr u u' → plR X D p = .error e → Mf u' X e → Q 0 u') : s_X12_cellTold Q u := by
  unfold s_X12_cellTold
  refine ⟨vp_in_nI (n := 0) (by omega) (by omega), ?_⟩
  rw [show ((0 : Int32)).toNatClampNeg = 0 by first | decide | (unfold vp_in; decide), show ((1 : Int32)).toNatClampNeg = 1 by first | decide | (unfold vp_in; decide), hM.1, show nI (pc D) - 1 = nI (pc D - 1) from pk_sub (b := 1) (by omega)]
  refine r_number (least := 0) (by omega) (by omega) h (fun u1 x k1 hx m1 _ => ⟨vp_in_nI (n := 1) (by omega) (by omega), ?_⟩) (fun u1 e r k1 hx f1 => ⟨vp_in_nI (n := 1) (by omega) (by omega), ?_⟩)
  · rw [k1.1 231 1 (by unfold SXr; omega), hM.2, show nI (pr D) - 1 = nI (pr D - 1) from pk_sub (b := 1) (by omega)]
    refine r_number (least := 0) (by omega) (by omega) m1 (fun u2 y k2 hy m2 e10 => ?_) (fun u2 e r k2 hy f2 => ?_)
    · rw [m2.2.2.2.2.2.1]
      refine i_pos rfl ?_
      have hpl := pl_ok hx hy h2
      rw [show (6 : Int32) * nI y = nI (6 * y) from pk_mul 6 y, nI_add]
      refine h1 u2 (x + 6 * y) (kp_t k1 k2) ?_ hpl.1 (by omega) m2 e10
      unfold plR
      rw [hx]
      show (nuR X (lnx X p) true 0 (pr D - 1)).bind _ = _
      rw [hy]
      rfl
    · refine i_neg (mf_bad f2) (h0 u2 e (kp_t k1 k2) ?_ f2)
      unfold plR
      rw [hx]
      show (nuR X (lnx X p) true 0 (pr D - 1)).bind _ = _
      rw [hy]
      rfl
  · refine r_numberF f1 (i_neg (mf_bad f1) (h0 u1 e k1 ?_ f1))
    unfold plR
    rw [hx]
    rfl
theorem r_cellF {X : Tx} {e : E2} {Q : Int32 → St → Prop} {u : St} (h : Mf u X e) (hQ : Q 0 u) : s_X12_cellTold Q u := by
  unfold s_X12_cellTold
  exact ⟨vp_in_nI (n := 0) (by omega) (by omega), r_numberF h ⟨vp_in_nI (n := 1) (by omega) (by omega), r_numberF h (i_neg (mf_bad h) hQ)⟩⟩
