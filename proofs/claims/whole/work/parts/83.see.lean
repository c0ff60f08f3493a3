/-! ===== see ===== -/
theorem for_g {σ : Type} (g : Nat → Int32) (W : Nat → Int32 → σ → Prop) (N : Nat) (I : Nat → σ → Prop) (hs : ∀ n i s, i ≤ N → I i s → (i < N → ∀ s', I (i + 1) s' → W n (g (i + 1)) s') → W (n + 1) (g i) s) : ∀ i s, i ≤ N → I i s → ∃ n, W n (g i) s := by
  have key : ∀ d i s, i ≤ N → N - i = d → I i s → W (d + 1) (g i) s := by
    intro d
    induction d with
    | zero => exact fun i s hi hd h => hs 0 i s hi h (fun h2 => absurd h2 (by omega))
    | succ d ih => exact fun i s hi hd h => hs (d + 1) i s hi h (fun h2 s' h3 => ih (i + 1) s' (by omega) (by omega) h3)
  exact fun i s hi h => ⟨_, key (N - i) i s hi rfl h⟩
/-- a change of the tape and of some more groups -/
theorem inv_gen {S : Nat → Nat → Prop} {u u' : St} {P : Pl} {N N' : Nat → Nat} (hC : Ctx u P N) (hK : Kp S u u') (h1 : gTape u') (h2 : gFault u') (h3 : gRef u') (h5 : gPic u') (h8 : gSight u' P) (h9 : gLand u' P N') (h10 : gPast u' P N') (h12 : gWays u' P N') (h13 : gFacts u') (hS : ∀ a k, DWords a k ∨ DTold u.2.2.1 a k ∨ DPlan a k ∨ DNo a k → S a k) : Inv u' :=
  ⟨P, N', ⟨h1, h2, h3, k_seed hC.1.2.2.2.1 hK, h5, k_words hC.1.2.2.2.2.2.1 hK (fun a k h => hS a k (Or.inl h)), k_plain hC.1.2.2.2.2.2.2.1 hK (fun a k h => hS a k (Or.inr (Or.inl h))) (fun a k h => hS a k (Or.inr (Or.inr (Or.inl h)))), h8, h9, h10, k_no hC.1.2.2.2.2.2.2.2.2.2.2 hK (fun a k h => hS a k (Or.inr (Or.inr (Or.inr h))))⟩, h12, h13⟩
def Sg (P : Pl) (n : Nat) (B : Nat → Nat) : Prop := ∃ r, n = 3 * r ∧ 1 ≤ r ∧ r ≤ 16 ∧ ∀ j, j < r → B (3 * j) ≤ 40 ∧ B (3 * j + 1) < pc P ∧ B (3 * j + 2) < pr P
theorem q_isSight {P : Pl} {t n : Nat} {B : Nat → Nat} {Q : Int32 → St → Prop} {u : St} (hP : VP P) (hT : cPl u t P) (hn : n ≤ 1600) (h1 : u.1 1 1 = nI n) (hB : ∀ k, k < n → u.1 2 k = nI (B k) ∧ B k < 256) (q1 : ∀ r, n = 3 * r → 1 ≤ r → r ≤ 16 → (∀ j, j < r → B (3 * j) ≤ 40 ∧ B (3 * j + 1) < pc P ∧ B (3 * j + 2) < pr P) → Q 1 u) (q0 : ¬ Sg P n B → Q 0 u) : s_X7_isSight t Q u := by
  have h6 := hP.1
  have h7 := hP.2.1
  unfold s_X7_isSight
  rw [h1, show nI n - nI n / 3 * 3 = nI (n % 3) from pk_rem (d := 3) (by omega) (by omega) (by omega), show nI n / 3 = nI (n / 3) from pk_div (d := 3) (by omega) (by omega) (by omega)]
  by_cases c1 : n / 3 < 1
  · first | refine i_pos (nI_lt (b := 1) c1 (by omega)) ?_ | rw [if_pos (nI_lt (b := 1) c1 (by omega))]
    try (with_reducible rfl)
    refine q0 ?_
    rintro ⟨r, a, b, c, _⟩
    omega
  first | refine i_neg (nI_nlt (b := 1) (by omega) (by omega)) ?_ | rw [if_neg (nI_nlt (b := 1) (by omega) (by omega))]
  try (with_reducible rfl)
  by_cases c2 : 16 < n / 3
  · first | refine i_pos (nI_lt (a := 16) c2 (by omega)) ?_ | rw [if_pos (nI_lt (a := 16) c2 (by omega))]
    try (with_reducible rfl)
    refine q0 ?_
    rintro ⟨r, a, b, c, _⟩
    omega
  first | refine i_neg (nI_nlt (a := 16) (by omega) (by omega)) ?_ | rw [if_neg (nI_nlt (a := 16) (by omega) (by omega))]
  try (with_reducible rfl)
  by_cases c3 : n % 3 = 0
  · rw [c3]
    first | refine i_pos (by rfl) ?_ | rw [if_pos (by rfl)]
    try (with_reducible rfl)
    obtain ⟨r, hr⟩ : ∃ r, n = 3 * r := ⟨n / 3, by omega⟩
    unfold sX7_isSight_p31
    refine for_g (fun i => nI (3 * i)) (fun m i s => sX7_isSight_p31n t Q m i s) r (fun j s => s = u ∧ ∀ k, k < j → B (3 * k) ≤ 40 ∧ B (3 * k + 1) < pc P ∧ B (3 * k + 2) < pr P) ?_ 0 u (by omega) ⟨rfl, fun k hk => absurd hk (by omega)⟩
    rintro m j s hj ⟨rfl, hf⟩ hnext
    show sX7_isSight_p31b t Q (sX7_isSight_p31n t Q m) (nI (3 * j)) s
    unfold sX7_isSight_p31b
    rw [h1]
    by_cases hje : j = r
    · first | refine i_pos (by rw [hje, hr]; exact nI_le (Nat.le_refl _) (by omega)) ?_ | rw [if_pos (by rw [hje, hr]; exact nI_le (Nat.le_refl _) (by omega))]
      try (with_reducible rfl)
      rw [hje] at hf
      exact q1 r hr (by omega) (by omega) hf
    have e2 : nI (3 * j) + 2 = nI (3 * j + 2) := nI_add _ 2
    first | refine i_neg (nI_ge (by omega) (by omega)) ?_ | rw [if_neg (nI_ge (by omega) (by omega))]
    rw [nI_1, e2, nI_clamp (by omega), nI_clamp (by omega), (hB (3 * j + 1) (by omega)).1, (hB (3 * j + 2) (by omega)).1]
    have hb0 := hB (3 * j) (by omega)
    have hb1 := (hB (3 * j + 1) (by omega)).2
    have hb2 := (hB (3 * j + 2) (by omega)).2
    refine ⟨vp_in_nI (by omega) (by omega), vp_in_nI (by omega) (by omega), ?_⟩
    have hno : ¬ (B (3 * j) ≤ 40 ∧ B (3 * j + 1) < pc P ∧ B (3 * j + 2) < pr P) → Q 0 s := by
      intro h
      refine q0 ?_
      rintro ⟨r', a, b, c, d⟩
      exact h (d j (by omega))
    have h68 : ∀ s0 : Int32, (s0 = 0 ∧ ¬ (B (3 * j + 1) < pc P ∧ B (3 * j + 2) < pr P)) ∨ (s0 = 1 ∧ B (3 * j + 1) < pc P ∧ B (3 * j + 2) < pr P) → sX7_isSight_p68 t (nI (3 * j)) s0 Q (sX7_isSight_p31n t Q m) s := by
      intro s0 hs0
      unfold sX7_isSight_p68
      rw [nI_clamp (by omega), hb0.1]
      refine ⟨vp_in_nI (by omega) (by omega), ?_⟩
      by_cases hl : 40 < B (3 * j)
      · first | refine i_pos (nI_lt (a := 40) hl (by omega)) ?_ | rw [if_pos (nI_lt (a := 40) hl (by omega))]
        try (with_reducible rfl)
        exact hno (by omega)
      first | refine i_neg (nI_nlt (a := 40) (by omega) (by omega)) ?_ | rw [if_neg (nI_nlt (a := 40) (by omega) (by omega))]
      try (with_reducible rfl)
      rcases hs0 with ⟨rfl, h⟩ | ⟨rfl, h⟩
      · first | refine i_pos rfl ?_ | rw [if_pos rfl]
        try (with_reducible rfl)
        exact hno (fun x => h x.2)
      · first | refine i_neg (by first | decide | (unfold vp_in; decide)) ?_ | rw [if_neg (by first | decide | (unfold vp_in; decide))]
        rw [show nI (3 * j) + 3 = nI (3 * (j + 1)) from nI_add (3 * j) 3]
        refine hnext (by omega) s ⟨rfl, fun k hk => ?_⟩
        by_cases ek : k = j
        · rw [ek]
          exact ⟨by omega, h⟩
        · exact hf k (by omega)
    refine q_placeOf hT.1.1 hT.1.2.1 (by omega) (by omega) (fun x y hx hy ex ey => ?_) (fun hn2 => ?_)
    · rw [nI_eq (by omega) (by omega)] at ex ey
      obtain ⟨hc, hpl⟩ := pl_of (P := P) hx hy h6
      have h36 := pl_36 hP hc
      first | refine i_neg (by rw [x_ne1 (by omega)]; exact id) ?_ | rw [if_neg (by rw [x_ne1 (by omega)]; exact id)]
      try (with_reducible rfl)
      exact h68 1 (Or.inr ⟨rfl, by omega, by omega⟩)
    · first | refine i_pos rfl ?_ | rw [if_pos rfl]
      try (with_reducible rfl)
      refine h68 0 (Or.inl ⟨rfl, ?_⟩)
      rintro ⟨a, b⟩
      rcases hn2 with h | h
      · exact h ⟨_, a, rfl⟩
      · exact h ⟨_, b, rfl⟩
  · first | refine i_neg (nI_ne0 (by omega) (by omega)) ?_ | rw [if_neg (nI_ne0 (by omega) (by omega))]
    try (with_reducible rfl)
    refine q0 ?_
    rintro ⟨r, a, b, c, _⟩
    omega
theorem call_see : Call (s_X11_see) (s_X12_see) := by
  rintro u ⟨P, N, hC⟩
  have hC : Ctx u P N := hC
  have hP := ctx_vp hC
  have hT := ctx_c hC
  have hM := ctx_m hC
  have h6 := hP.1
  have h7 := hP.2.1
  have ht := ctx_t hC
  obtain ⟨n, B, b1, b2, b3, b4⟩ := hC.1.1
  have hrf := hC.1.2.2.1
  -- the reference: it is a sight, or not
  have hbad : ∀ z : St, Kp (fun a k => ¬ (a = 1 ∧ k = 1) ∧ ¬ (a = 177)) u z → z.1 1 1 = 0 → (∀ k, k < 6 → z.1 177 k = if k = 1 then u.1 177 1 + 1 else u.1 177 k) → ¬ Sg P n B → s_X12_see (fun r2 u2 => (-1 : Int32) = r2 ∧ Inv u2) z := by
    intro z hK z1 z177 hns
    have z2 : z.1 198 1 = nI n := by rw [hK.1 198 1 (by omega)]; exact b3
    have hfin : ∀ y : St, Kp (fun a k => ¬ (a = 198 ∧ k = 1)) z y → y.1 198 1 = 0 → s_X12_refuses 1 (fun r9 u10 => (-1 : Int32) = r9 ∧ Inv u10) y := by
      intro y hy y1
      unfold s_X12_refuses
      simp only [bnd]
      rw [show ((1 : Int32)).toNatClampNeg = 1 by first | decide | (unfold vp_in; decide)]
      refine ⟨by first | decide | (unfold vp_in; decide), by first | rfl | trivial, ?_⟩
      have kz : Kp (fun a k => a ≠ 200) y (tI y 200 1 (y.1 200 1 + 1)) := kp_I (kp_r y) (by omega)
      have kall : Kp (fun a k => ¬ (a = 1 ∧ k = 1) ∧ a ≠ 177 ∧ ¬ (a = 198 ∧ k = 1) ∧ a ≠ 200) u (tI y 200 1 (y.1 200 1 + 1)) := kp_t (kp_m hK (fun a k h => by omega)) (kp_t (kp_m hy (fun a k h => by omega)) (kp_m kz (fun a k h => by omega)))
      have hc := hC.1
      refine inv_gen (N' := N) hC kall ⟨0, B, by omega, ?_, ?_, fun k hk => absurd hk (by omega)⟩ (k_fault hc.2.1 kall (fun a k h => by unfold DFault at h; omega)) (fun k hk => ?_) (k_pic hc.2.2.2.2.1 kall (fun a k h => by unfold DPic at h; omega)) (k_sight hc.2.2.2.2.2.2.2.1 kall (fun a k h => by unfold DSight at h; omega)) (k_land hc.2.2.2.2.2.2.2.2.1 kall (fun a k h => by unfold DLand at h; omega)) (k_past hc.2.2.2.2.2.2.2.2.2.1 kall (by omega) (fun a k h => by unfold DPast at h; omega)) (k_ways hC.2.1 kall (fun a k h => by omega)) (k_facts hC.2.2 kall (fun a k h => by omega)) (fun a k h => ?_)
      · rw [t_n _ _ (by omega), hy.1 1 1 (by omega)]
        exact z1
      · rw [t_n _ _ (by omega)]
        exact y1
      · by_cases e : k = 1
        · rw [e, t_s, t_n _ _ (by omega), hy.1 177 1 (by omega), hy.1 200 1 (by omega), z177 1 (by omega)]
          first | refine i_pos rfl ?_ | rw [if_pos rfl]
          rw [hK.1 200 1 (by omega), hrf 1 (by omega)]
        · rw [t_n _ _ (by omega), t_n _ _ (by omega), hy.1 177 k (by omega), hy.1 200 k (by omega), z177 k hk]
          first | refine i_neg e ?_ | rw [if_neg e]
          rw [hK.1 200 k (by omega), hrf k hk]
      · unfold DWords DTold DPlan DNo at h
        omega
    unfold s_X12_see
    simp only [bnd]
    rw [t_n _ _ (by omega), hK.1 198 56 (by omega), hM.1.1, z2]
    have ky : Kp (fun a k => ¬ (a = 198 ∧ k = 1)) z (tI z 198 1 0) := kp_I (kp_r z) (by omega)
    have h99 : ∀ s : St, s = tI z 198 1 0 → sX12_see_p99 (nI n) 0 (fun r2 u2 => (-1 : Int32) = r2 ∧ Inv u2) s := by
      rintro s rfl
      unfold sX12_see_p99
      first | refine i_pos rfl ?_ | rw [if_pos rfl]
      try (with_reducible rfl)
      exact hfin _ ky (t_s _ _ _ _)
    have h39 : sX12_see_p39 (nI n) (fun r2 u2 => (-1 : Int32) = r2 ∧ Inv u2) (tI z 198 1 0) := by
      unfold sX12_see_p39 sX12_see_p40 sX12_see_p43
      refine ⟨1, ?_⟩
      show sX12_see_p43b (nI n) (fun r2 u2 => (-1 : Int32) = r2 ∧ Inv u2) (sX12_see_p43n (nI n) (fun r2 u2 => (-1 : Int32) = r2 ∧ Inv u2) 0) 0 0 (tI z 198 1 0)
      unfold sX12_see_p43b
      by_cases hn0 : nI n ≤ 0
      · first | refine i_pos hn0 ?_ | rw [if_pos hn0]
        try (with_reducible rfl)
        exact h99 _ rfl
      · first | refine i_neg hn0 ?_ | rw [if_neg hn0]
        first | refine i_pos rfl ?_ | rw [if_pos rfl]
        try (with_reducible rfl)
        exact h99 _ rfl
    by_cases h0 : pc P = 0
    · have e1 : (if pc P = 0 then (0 : Int32) else 1) = 0 := if_pos h0
      rw [e1]
      first | refine i_pos rfl ?_ | rw [if_pos rfl]
      try (with_reducible rfl)
      exact h39
    have e1 : (if pc P = 0 then (0 : Int32) else 1) = 1 := if_neg h0
    rw [e1]
    first | refine i_neg (by first | decide | (unfold vp_in; decide)) ?_ | rw [if_neg (by first | decide | (unfold vp_in; decide))]
    try (with_reducible rfl)
    by_cases c1 : n = 0
    · rw [c1]
      first | refine i_pos (by rfl) ?_ | rw [if_pos (by rfl)]
      rw [← c1]
      exact h39
    first | refine i_neg (nI_nle (by omega) (by omega)) ?_ | rw [if_neg (nI_nle (by omega) (by omega))]
    rw [show nI n - nI n / 3 * 3 = nI (n % 3) from pk_rem (d := 3) (by omega) (by omega) (by omega), show nI n / 3 = nI (n / 3) from pk_div (d := 3) (by omega) (by omega) (by omega)]
    by_cases c3 : n % 3 = 0
    · rw [c3]
      first | refine i_pos (by rfl) ?_ | rw [if_pos (by rfl)]
      try (with_reducible rfl)
      by_cases c2 : 16 < n / 3
      · first | refine i_pos (nI_lt (a := 16) c2 (by omega)) ?_ | rw [if_pos (nI_lt (a := 16) c2 (by omega))]
        try (with_reducible rfl)
        exact h39
      first | refine i_neg (nI_nlt (a := 16) (by omega) (by omega)) ?_ | rw [if_neg (nI_nlt (a := 16) (by omega) (by omega))]
      try (with_reducible rfl)
      obtain ⟨r, hr⟩ : ∃ r, n = 3 * r := ⟨n / 3, by omega⟩
      unfold sX12_see_p40 sX12_see_p43
      have key := for_g (fun i => nI (3 * i)) (fun m i (s : Int32 × St) => sX12_see_p43n (nI n) (fun r2 u2 => (-1 : Int32) = r2 ∧ Inv u2) m s.1 i s.2) (r + 1) (fun j s => s.2 = tI z 198 1 0 ∧ (s.1 = 0 ∨ (s.1 = 1 ∧ j ≤ r ∧ ∀ k, k < j → B (3 * k) ≤ 40 ∧ B (3 * k + 1) < pc P ∧ B (3 * k + 2) < pr P))) ?_ 0 (1, tI z 198 1 0) (by omega) ⟨rfl, Or.inr ⟨rfl, by omega, fun k hk => absurd hk (by omega)⟩⟩
      · exact key
      rintro m j ⟨a, s⟩ hj ⟨rfl, hor⟩ hnext
      simp only at hor
      show sX12_see_p43b (nI n) (fun r2 u2 => (-1 : Int32) = r2 ∧ Inv u2) (sX12_see_p43n (nI n) (fun r2 u2 => (-1 : Int32) = r2 ∧ Inv u2) m) a (nI (3 * j)) (tI z 198 1 0)
      unfold sX12_see_p43b
      rcases hor with rfl | ⟨rfl, hjr, hf⟩
      · by_cases hn0 : nI n ≤ nI (3 * j)
        · first | refine i_pos hn0 ?_ | rw [if_pos hn0]
          try (with_reducible rfl)
          exact h99 _ rfl
        · first | refine i_neg hn0 ?_ | rw [if_neg hn0]
          first | refine i_pos rfl ?_ | rw [if_pos rfl]
          try (with_reducible rfl)
          exact h99 _ rfl
      · by_cases hje : j = r
        · rw [hje] at hf
          exact absurd ⟨r, hr, by omega, by omega, hf⟩ hns
        first | refine i_neg (nI_ge (by omega) (by omega)) ?_ | rw [if_neg (nI_ge (by omega) (by omega))]
        first | refine i_neg (by first | decide | (unfold vp_in; decide)) ?_ | rw [if_neg (by first | decide | (unfold vp_in; decide))]
        rw [nI_clamp (by omega), t_n _ _ (by omega), hK.1 199 _ (by omega), (b4 (3 * j) (by omega)).2.1]
        have hb0 := (b4 (3 * j) (by omega)).2.2
        have hb1 := b4 (3 * j + 1) (by omega)
        have hb2 := b4 (3 * j + 2) (by omega)
        refine ⟨vp_in_nI (by omega) (by omega), ?_⟩
        have hno : sX12_see_p91 (nI n) (nI (3 * j)) (fun r2 u2 => (-1 : Int32) = r2 ∧ Inv u2) (sX12_see_p43n (nI n) (fun r2 u2 => (-1 : Int32) = r2 ∧ Inv u2) m) (tI z 198 1 0) := by
          show sX12_see_p43n (nI n) (fun r2 u2 => (-1 : Int32) = r2 ∧ Inv u2) m 0 (nI (3 * j) + 3) (tI z 198 1 0)
          rw [show nI (3 * j) + 3 = nI (3 * (j + 1)) from nI_add (3 * j) 3]
          exact hnext (by omega) (0, tI z 198 1 0) ⟨rfl, Or.inl rfl⟩
        by_cases hl : 40 < B (3 * j)
        · first | refine i_pos (nI_lt (a := 40) hl (by omega)) ?_ | rw [if_pos (nI_lt (a := 40) hl (by omega))]
          try (with_reducible rfl)
          exact hno
        have e2 : nI (3 * j) + 2 = nI (3 * j + 2) := nI_add _ 2
        first | refine i_neg (nI_nlt (a := 40) (by omega) (by omega)) ?_ | rw [if_neg (nI_nlt (a := 40) (by omega) (by omega))]
        rw [nI_1, e2, nI_clamp (by omega), nI_clamp (by omega), t_n _ _ (by omega), t_n _ _ (by omega), hK.1 199 _ (by omega), hK.1 199 _ (by omega), hb1.2.1, hb2.2.1]
        refine ⟨vp_in_nI (by omega) (by omega), vp_in_nI (by omega) (by omega), ?_⟩
        have hMz : mPl (tI z 198 1 0) P := mPl_K (mPl_K hM hK (fun a k h => by omega)) ky (fun a k h => by omega)
        refine r_cellAt hP hMz (fun x y hx hy ex ey => ?_) (fun hn2 => ?_)
        · rw [nI_eq (by omega) (by omega)] at ex ey
          first | refine i_neg (by rw [x_ne1 (by omega)]; exact id) ?_ | rw [if_neg (by rw [x_ne1 (by omega)]; exact id)]
          try (with_reducible rfl)
          show sX12_see_p43n (nI n) (fun r2 u2 => (-1 : Int32) = r2 ∧ Inv u2) m 1 (nI (3 * j) + 3) (tI z 198 1 0)
          rw [show nI (3 * j) + 3 = nI (3 * (j + 1)) from nI_add (3 * j) 3]
          refine hnext (by omega) (1, tI z 198 1 0) ⟨rfl, Or.inr ⟨rfl, by omega, fun k hk => ?_⟩⟩
          by_cases ek : k = j
          · rw [ek]
            exact ⟨by omega, by omega, by omega⟩
          · exact hf k (by omega)
        · first | refine i_pos rfl ?_ | rw [if_pos rfl]
          try (with_reducible rfl)
          exact hno
    · first | refine i_neg (nI_ne0 (by omega) (by omega)) ?_ | rw [if_neg (nI_ne0 (by omega) (by omega))]
      try (with_reducible rfl)
      exact h39
  sorry
