/-! ===== see ===== -/
theorem for_g {σ : Type} (g : Nat → Int32) (W : Nat → Int32 → σ → Prop) (N : Nat) (I : Nat → σ → Prop) (hs : ∀ n i s, i ≤ N → I i s → (i < N → ∀ s', I (i + 1) s' → W n (g (i + 1)) s') → W (n + 1) (g i) s) : ∀ i s, i ≤ N → I i s → ∃ n, W n (g i) s := by
  have key : ∀ d i s, i ≤ N → N - i = d → I i s → W (d + 1) (g i) s := by
    intro d
    induction d with
    | zero => exact fun i s hi hd h => hs 0 i s hi h (fun h2 => absurd h2 (by omega))
    | succ d ih => exact fun i s hi hd h => hs (d + 1) i s hi h (fun h2 s' h3 => ih (i + 1) s' (by omega) (by omega) h3)
  exact fun i s hi h => ⟨_, key (N - i) i s hi rfl h⟩
/-- a change of the tape and of some more groups -/
theorem inv_gen {S : Nat → Nat → Prop} {u u' : St} {P : Pl} {N N' : Nat → Nat} (hC : Ctx u P N) (hK : Kp S u u') (h1 : gTape u') (h2 : gFault u') (h3 : gRef u') (h5 : gPic u') (h8 : gSight u' P) (h9 : gLand u' P N') (h10 : gPast u' P N') (h12 : gWays u' P N') (h13 : gFacts u') (hS : ∀ a k, DWords a k ∨ DTold u.2.2.1 a k ∨ DPlan a k ∨ DNo a k → S a k) : Inv u' :=
  ⟨P, N', ⟨h1, h2, h3, k_seed hC.1.2.2.2.1 hK, h5, k_words hC.1.2.2.2.2.2.1 hK (fun a k h => hS a k (Or.inl h)), k_plain hC.1.2.2.2.2.2.2.1 hK (fun a k h => hS a k (Or.inr (Or.inl h))) (fun a k h => hS a k (Or.inr (Or.inr (Or.inl h)))), h8, h9, h10, k_no hC.1.2.2.2.2.2.2.2.2.2.2 hK (fun a k h => hS a k (Or.inr (Or.inr (Or.inr h))))⟩, h12, h13⟩
def Sg (P : Pl) (n : Nat) (B : Nat → Nat) : Prop := ∃ r, n = 3 * r ∧ 1 ≤ r ∧ r ≤ 16 ∧ ∀ j, j < r → B (3 * j) ≤ 40 ∧ B (3 * j + 1) < pc P ∧ B (3 * j + 2) < pr P
theorem q_isSight {P : Pl} {t n : Nat} {B : Nat → Nat} {Q : Int32 → St → Prop} {u : St} (hP : VP P) (hT : cPl u t P) (hn : n ≤ 1600) (h1 : u.1 1 1 = nI n) (hB : ∀ k, k < n → u.1 2 k = nI (B k) ∧ B k < 256) (q1 : ∀ r, n = 3 * r → 1 ≤ r → r ≤ 16 → (∀ j, j < r → B (3 * j) ≤ 40 ∧ B (3 * j + 1) < pc P ∧ B (3 * j + 2) < pr P) → Q 1 u) (q0 : ¬ Sg P n B → Q 0 u) : s_X7_isSight t Q u := by
  have h6 := hP.1
  have h7 := hP.2.1
  unfold s_X7_isSight
  rw [h1, show nI n - nI n / 3 * 3 = nI (n % 3) from pk_rem (d := 3) (by omega) (by omega) (by omega), show nI n / 3 = nI (n / 3) from pk_div (d := 3) (by omega) (by omega) (by omega)]
  by_cases c1 : n / 3 < 1
  · first | refine i_pos (nI_lt (b := 1) c1 (by omega)) ?_ | rw [if_pos (nI_lt (b := 1) c1 (by omega))]
    try (with_reducible rfl)
    refine q0 ?_
    rintro ⟨r, a, b, c, _⟩
    omega
  first | refine i_neg (nI_nlt (b := 1) (by omega) (by omega)) ?_ | rw [if_neg (nI_nlt (b := 1) (by omega) (by omega))]
  try (with_reducible rfl)
  by_cases c2 : 16 < n / 3
  · first | refine i_pos (nI_lt (a := 16) c2 (by omega)) ?_ | rw [if_pos (nI_lt (a := 16) c2 (by omega))]
    try (with_reducible rfl)
    refine q0 ?_
    rintro ⟨r, a, b, c, _⟩
    omega
  first | refine i_neg (nI_nlt (a := 16) (by omega) (by omega)) ?_ | rw [if_neg (nI_nlt (a := 16) (by omega) (by omega))]
  try (with_reducible rfl)
  by_cases c3 : n % 3 = 0
  · rw [c3]
    first | refine i_pos (by rfl) ?_ | rw [if_pos (by rfl)]
    try (with_reducible rfl)
    obtain ⟨r, hr⟩ : ∃ r, n = 3 * r := ⟨n / 3, by omega⟩
    unfold sX7_isSight_p31
    refine for_g (fun i => nI (3 * i)) (fun m i s => sX7_isSight_p31n t Q m i s) r (fun j s => s = u ∧ ∀ k, k < j → B (3 * k) ≤ 40 ∧ B (3 * k + 1) < pc P ∧ B (3 * k + 2) < pr P) ?_ 0 u (by omega) ⟨rfl, fun k hk => absurd hk (by omega)⟩
    rintro m j s hj ⟨rfl, hf⟩ hnext
    show sX7_isSight_p31b t Q (sX7_isSight_p31n t Q m) (nI (3 * j)) s
    unfold sX7_isSight_p31b
    rw [h1]
    by_cases hje : j = r
    · first | refine i_pos (by rw [hje, hr]; exact nI_le (Nat.le_refl _) (by omega)) ?_ | rw [if_pos (by rw [hje, hr]; exact nI_le (Nat.le_refl _) (by omega))]
      try (with_reducible rfl)
      rw [hje] at hf
      exact q1 r hr (by omega) (by omega) hf
    have e2 : nI (3 * j) + 2 = nI (3 * j + 2) := nI_add _ 2
    first | refine i_neg (nI_ge (by omega) (by omega)) ?_ | rw [if_neg (nI_ge (by omega) (by omega))]
    rw [nI_1, e2, nI_clamp (by omega), nI_clamp (by omega), (hB (3 * j + 1) (by omega)).1, (hB (3 * j + 2) (by omega)).1]
    have hb0 := hB (3 * j) (by omega)
    have hb1 := (hB (3 * j + 1) (by omega)).2
    have hb2 := (hB (3 * j + 2) (by omega)).2
    refine ⟨vp_in_nI (by omega) (by omega), vp_in_nI (by omega) (by omega), ?_⟩
    have hno : ¬ (B (3 * j) ≤ 40 ∧ B (3 * j + 1) < pc P ∧ B (3 * j + 2) < pr P) → Q 0 s := by
      intro h
      refine q0 ?_
      rintro ⟨r', a, b, c, d⟩
      exact h (d j (by omega))
    have h68 : ∀ s0 : Int32, (s0 = 0 ∧ ¬ (B (3 * j + 1) < pc P ∧ B (3 * j + 2) < pr P)) ∨ (s0 = 1 ∧ B (3 * j + 1) < pc P ∧ B (3 * j + 2) < pr P) → sX7_isSight_p68 t (nI (3 * j)) s0 Q (sX7_isSight_p31n t Q m) s := by
      intro s0 hs0
      unfold sX7_isSight_p68
      rw [nI_clamp (by omega), hb0.1]
      refine ⟨vp_in_nI (by omega) (by omega), ?_⟩
      by_cases hl : 40 < B (3 * j)
      · first | refine i_pos (nI_lt (a := 40) hl (by omega)) ?_ | rw [if_pos (nI_lt (a := 40) hl (by omega))]
        try (with_reducible rfl)
        exact hno (by omega)
      first | refine i_neg (nI_nlt (a := 40) (by omega) (by omega)) ?_ | rw [if_neg (nI_nlt (a := 40) (by omega) (by omega))]
      try (with_reducible rfl)
      rcases hs0 with ⟨rfl, h⟩ | ⟨rfl, h⟩
      · first | refine i_pos rfl ?_ | rw [if_pos rfl]
        try (with_reducible rfl)
        exact hno (fun x => h x.2)
      · first | refine i_neg (by first | decide | (unfold vp_in; decide)) ?_ | rw [if_neg (by first | decide | (unfold vp_in; decide))]
        rw [show nI (3 * j) + 3 = nI (3 * (j + 1)) from nI_add (3 * j) 3]
        refine hnext (by omega) s ⟨rfl, fun k hk => ?_⟩
        by_cases ek : k = j
        · rw [ek]
          exact ⟨by omega, h⟩
        · exact hf k (by omega)
    refine q_placeOf hT.1.1 hT.1.2.1 (by omega) (by omega) (fun x y hx hy ex ey => ?_) (fun hn2 => ?_)
    · rw [nI_eq (by omega) (by omega)] at ex ey
      obtain ⟨hc, hpl⟩ := pl_of (P := P) hx hy h6
      have h36 := pl_36 hP hc
      first | refine i_neg (by rw [x_ne1 (by omega)]; exact id) ?_ | rw [if_neg (by rw [x_ne1 (by omega)]; exact id)]
      try (with_reducible rfl)
      exact h68 1 (Or.inr ⟨rfl, by omega, by omega⟩)
    · first | refine i_pos rfl ?_ | rw [if_pos rfl]
      try (with_reducible rfl)
      refine h68 0 (Or.inl ⟨rfl, ?_⟩)
      rintro ⟨a, b⟩
      rcases hn2 with h | h
      · exact h ⟨_, a, rfl⟩
      · exact h ⟨_, b, rfl⟩
  · first | refine i_neg (nI_ne0 (by omega) (by omega)) ?_ | rw [if_neg (nI_ne0 (by omega) (by omega))]
    try (with_reducible rfl)
    refine q0 ?_
    rintro ⟨r, a, b, c, _⟩
    omega
theorem call_see : Call (s_X11_see) (s_X12_see) := by
  rintro u ⟨P, N, hC⟩
  have hC : Ctx u P N := hC
  have hP := ctx_vp hC
  have hT := ctx_c hC
  have hM := ctx_m hC
  have h6 := hP.1
  have h7 := hP.2.1
  have ht := ctx_t hC
  obtain ⟨n, B, b1, b2, b3, b4⟩ := hC.1.1
  have hrf := hC.1.2.2.1
  -- the reference: it is a sight, or not
  have hbad : ∀ z : St, Kp (fun a k => ¬ (a = 1 ∧ k = 1) ∧ ¬ (a = 177)) u z → z.1 1 1 = 0 → (∀ k, k < 6 → z.1 177 k = if k = 1 then u.1 177 1 + 1 else u.1 177 k) → ¬ Sg P n B → s_X12_see (fun r2 u2 => (-1 : Int32) = r2 ∧ Inv u2) z := by
    intro z hK z1 z177 hns
    have z2 : z.1 198 1 = nI n := by rw [hK.1 198 1 (by omega)]; exact b3
    have hfin : ∀ y : St, Kp (fun a k => ¬ (a = 198 ∧ k = 1)) z y → y.1 198 1 = 0 → s_X12_refuses 1 (fun r9 u10 => (-1 : Int32) = r9 ∧ Inv u10) y := by
      intro y hy y1
      unfold s_X12_refuses
      simp only [bnd]
      rw [show ((1 : Int32)).toNatClampNeg = 1 by first | decide | (unfold vp_in; decide)]
      refine ⟨by first | decide | (unfold vp_in; decide), by first | rfl | trivial, ?_⟩
      have kz : Kp (fun a k => a ≠ 200) y (tI y 200 1 (y.1 200 1 + 1)) := kp_I (kp_r y) (by omega)
      have kall : Kp (fun a k => ¬ (a = 1 ∧ k = 1) ∧ a ≠ 177 ∧ ¬ (a = 198 ∧ k = 1) ∧ a ≠ 200) u (tI y 200 1 (y.1 200 1 + 1)) := kp_t (kp_m hK (fun a k h => by omega)) (kp_t (kp_m hy (fun a k h => by omega)) (kp_m kz (fun a k h => by omega)))
      have hc := hC.1
      refine inv_gen (N' := N) hC kall ⟨0, B, by omega, ?_, ?_, fun k hk => absurd hk (by omega)⟩ (k_fault hc.2.1 kall (fun a k h => by unfold DFault at h; omega)) (fun k hk => ?_) (k_pic hc.2.2.2.2.1 kall (fun a k h => by unfold DPic at h; omega)) (k_sight hc.2.2.2.2.2.2.2.1 kall (fun a k h => by unfold DSight at h; omega)) (k_land hc.2.2.2.2.2.2.2.2.1 kall (fun a k h => by unfold DLand at h; omega)) (k_past hc.2.2.2.2.2.2.2.2.2.1 kall (by omega) (fun a k h => by unfold DPast at h; omega)) (k_ways hC.2.1 kall (fun a k h => by omega)) (k_facts hC.2.2 kall (fun a k h => by omega)) (fun a k h => ?_)
      · rw [t_n _ _ (by omega), hy.1 1 1 (by omega)]
        exact z1
      · rw [t_n _ _ (by omega)]
        exact y1
      · by_cases e : k = 1
        · rw [e, t_s, t_n _ _ (by omega), hy.1 177 1 (by omega), hy.1 200 1 (by omega), z177 1 (by omega)]
          first | refine i_pos rfl ?_ | rw [if_pos rfl]
          rw [hK.1 200 1 (by omega), hrf 1 (by omega)]
        · rw [t_n _ _ (by omega), t_n _ _ (by omega), hy.1 177 k (by omega), hy.1 200 k (by omega), z177 k hk]
          first | refine i_neg e ?_ | rw [if_neg e]
          rw [hK.1 200 k (by omega), hrf k hk]
      · unfold DWords DTold DPlan DNo at h
        omega
    unfold s_X12_see
    simp only [bnd]
    rw [t_n _ _ (by omega), hK.1 198 56 (by omega), hM.1.1, z2]
    have ky : Kp (fun a k => ¬ (a = 198 ∧ k = 1)) z (tI z 198 1 0) := kp_I (kp_r z) (by omega)
    have h99 : ∀ s : St, s = tI z 198 1 0 → sX12_see_p99 (nI n) 0 (fun r2 u2 => (-1 : Int32) = r2 ∧ Inv u2) s := by
      rintro s rfl
      unfold sX12_see_p99
      first | refine i_pos rfl ?_ | rw [if_pos rfl]
      try (with_reducible rfl)
      exact hfin _ ky (t_s _ _ _ _)
    have h39 : sX12_see_p39 (nI n) (fun r2 u2 => (-1 : Int32) = r2 ∧ Inv u2) (tI z 198 1 0) := by
      unfold sX12_see_p39 sX12_see_p40 sX12_see_p43
      refine ⟨1, ?_⟩
      show sX12_see_p43b (nI n) (fun r2 u2 => (-1 : Int32) = r2 ∧ Inv u2) (sX12_see_p43n (nI n) (fun r2 u2 => (-1 : Int32) = r2 ∧ Inv u2) 0) 0 0 (tI z 198 1 0)
      unfold sX12_see_p43b
      by_cases hn0 : nI n ≤ 0
      · first | refine i_pos hn0 ?_ | rw [if_pos hn0]
        try (with_reducible rfl)
        exact h99 _ rfl
      · first | refine i_neg hn0 ?_ | rw [if_neg hn0]
        first | refine i_pos rfl ?_ | rw [if_pos rfl]
        try (with_reducible rfl)
        exact h99 _ rfl
    by_cases h0 : pc P = 0
    · have e1 : (if pc P = 0 then (0 : Int32) else 1) = 0 := if_pos h0
      rw [e1]
      first | refine i_pos rfl ?_ | rw [if_pos rfl]
      try (with_reducible rfl)
      exact h39
    have e1 : (if pc P = 0 then (0 : Int32) else 1) = 1 := if_neg h0
    rw [e1]
    first | refine i_neg (by first | decide | (unfold vp_in; decide)) ?_ | rw [if_neg (by first | decide | (unfold vp_in; decide))]
    try (with_reducible rfl)
    by_cases c1 : n = 0
    · rw [c1]
      first | refine i_pos (by rfl) ?_ | rw [if_pos (by rfl)]
      rw [← c1]
      exact h39
    first | refine i_neg (nI_nle (by omega) (by omega)) ?_ | rw [if_neg (nI_nle (by omega) (by omega))]
    rw [show nI n - nI n / 3 * 3 = nI (n % 3) from pk_rem (d := 3) (by omega) (by omega) (by omega), show nI n / 3 = nI (n / 3) from pk_div (d := 3) (by omega) (by omega) (by omega)]
    by_cases c3 : n % 3 = 0
    · rw [c3]
      first | refine i_pos (by rfl) ?_ | rw [if_pos (by rfl)]
      try (with_reducible rfl)
      by_cases c2 : 16 < n / 3
      · first | refine i_pos (nI_lt (a := 16) c2 (by omega)) ?_ | rw [if_pos (nI_lt (a := 16) c2 (by omega))]
        try (with_reducible rfl)
        exact h39
      first | refine i_neg (nI_nlt (a := 16) (by omega) (by omega)) ?_ | rw [if_neg (nI_nlt (a := 16) (by omega) (by omega))]
      try (with_reducible rfl)
      obtain ⟨r, hr⟩ : ∃ r, n = 3 * r := ⟨n / 3, by omega⟩
      unfold sX12_see_p40 sX12_see_p43
      have key := for_g (fun i => nI (3 * i)) (fun m i (s : Int32 × St) => sX12_see_p43n (nI n) (fun r2 u2 => (-1 : Int32) = r2 ∧ Inv u2) m s.1 i s.2) (r + 1) (fun j s => s.2 = tI z 198 1 0 ∧ (s.1 = 0 ∨ (s.1 = 1 ∧ j ≤ r ∧ ∀ k, k < j → B (3 * k) ≤ 40 ∧ B (3 * k + 1) < pc P ∧ B (3 * k + 2) < pr P))) ?_ 0 (1, tI z 198 1 0) (by omega) ⟨rfl, Or.inr ⟨rfl, by omega, fun k hk => absurd hk (by omega)⟩⟩
      · exact key
      rintro m j ⟨a, s⟩ hj ⟨rfl, hor⟩ hnext
      simp only at hor
      show sX12_see_p43b (nI n) (fun r2 u2 => (-1 : Int32) = r2 ∧ Inv u2) (sX12_see_p43n (nI n) (fun r2 u2 => (-1 : Int32) = r2 ∧ Inv u2) m) a (nI (3 * j)) (tI z 198 1 0)
      unfold sX12_see_p43b
      rcases hor with rfl | ⟨rfl, hjr, hf⟩
      · by_cases hn0 : nI n ≤ nI (3 * j)
        · first | refine i_pos hn0 ?_ | rw [if_pos hn0]
          try (with_reducible rfl)
          exact h99 _ rfl
        · first | refine i_neg hn0 ?_ | rw [if_neg hn0]
          first | refine i_pos rfl ?_ | rw [if_pos rfl]
          try (with_reducible rfl)
          exact h99 _ rfl
      · by_cases hje : j = r
        · rw [hje] at hf
          exact absurd ⟨r, hr, by omega, by omega, hf⟩ hns
        first | refine i_neg (nI_ge (by omega) (by omega)) ?_ | rw [if_neg (nI_ge (by omega) (by omega))]
        first | refine i_neg (by first | decide | (unfold vp_in; decide)) ?_ | rw [if_neg (by first | decide | (unfold vp_in; decide))]
        rw [nI_clamp (by omega), t_n _ _ (by omega), hK.1 199 _ (by omega), (b4 (3 * j) (by omega)).2.1]
        have hb0 := (b4 (3 * j) (by omega)).2.2
        have hb1 := b4 (3 * j + 1) (by omega)
        have hb2 := b4 (3 * j + 2) (by omega)
        refine ⟨vp_in_nI (by omega) (by omega), ?_⟩
        have hno : sX12_see_p91 (nI n) (nI (3 * j)) (fun r2 u2 => (-1 : Int32) = r2 ∧ Inv u2) (sX12_see_p43n (nI n) (fun r2 u2 => (-1 : Int32) = r2 ∧ Inv u2) m) (tI z 198 1 0) := by
          show sX12_see_p43n (nI n) (fun r2 u2 => (-1 : Int32) = r2 ∧ Inv u2) m 0 (nI (3 * j) + 3) (tI z 198 1 0)
          rw [show nI (3 * j) + 3 = nI (3 * (j + 1)) from nI_add (3 * j) 3]
          exact hnext (by omega) (0, tI z 198 1 0) ⟨rfl, Or.inl rfl⟩
        by_cases hl : 40 < B (3 * j)
        · first | refine i_pos (nI_lt (a := 40) hl (by omega)) ?_ | rw [if_pos (nI_lt (a := 40) hl (by omega))]
          try (with_reducible rfl)
          exact hno
        have e2 : nI (3 * j) + 2 = nI (3 * j + 2) := nI_add _ 2
        first | refine i_neg (nI_nlt (a := 40) (by omega) (by omega)) ?_ | rw [if_neg (nI_nlt (a := 40) (by omega) (by omega))]
        rw [nI_1, e2, nI_clamp (by omega), nI_clamp (by omega), t_n _ _ (by omega), t_n _ _ (by omega), hK.1 199 _ (by omega), hK.1 199 _ (by omega), hb1.2.1, hb2.2.1]
        refine ⟨vp_in_nI (by omega) (by omega), vp_in_nI (by omega) (by omega), ?_⟩
        have hMz : mPl (tI z 198 1 0) P := mPl_K (mPl_K hM hK (fun a k h => by omega)) ky (fun a k h => by omega)
        refine r_cellAt hP hMz (fun x y hx hy ex ey => ?_) (fun hn2 => ?_)
        · rw [nI_eq (by omega) (by omega)] at ex ey
          first | refine i_neg (by rw [x_ne1 (by omega)]; exact id) ?_ | rw [if_neg (by rw [x_ne1 (by omega)]; exact id)]
          try (with_reducible rfl)
          show sX12_see_p43n (nI n) (fun r2 u2 => (-1 : Int32) = r2 ∧ Inv u2) m 1 (nI (3 * j) + 3) (tI z 198 1 0)
          rw [show nI (3 * j) + 3 = nI (3 * (j + 1)) from nI_add (3 * j) 3]
          refine hnext (by omega) (1, tI z 198 1 0) ⟨rfl, Or.inr ⟨rfl, by omega, fun k hk => ?_⟩⟩
          by_cases ek : k = j
          · rw [ek]
            exact ⟨by omega, by omega, by omega⟩
          · exact hf k (by omega)
        · first | refine i_pos rfl ?_ | rw [if_pos rfl]
          try (with_reducible rfl)
          exact hno
    · first | refine i_neg (nI_ne0 (by omega) (by omega)) ?_ | rw [if_neg (nI_ne0 (by omega) (by omega))]
      try (with_reducible rfl)
      exact h39
  have hBb : ∀ k, k < n → u.1 2 k = nI (B k) ∧ B k < 256 := fun k hk => ⟨(b4 k hk).1, (b4 k hk).2.2⟩
  unfold s_X11_see s_X7_take
  refine q_isSight hP hT b1 b2 hBb (fun r hr r1 r16 hf => ?_) (fun hns => ?_)
  · have hcel : ∀ j, j < r → cel P (B (3 * j + 1) + 6 * B (3 * j + 2)) ∧ pl P (B (3 * j + 1) + 6 * B (3 * j + 2)) = B (3 * j + 2) * pc P + B (3 * j + 1) := fun j hj => pl_of (hf j hj).2.1 (hf j hj).2.2 h6
    first | refine i_neg (by first | decide | (unfold vp_in; decide)) ?_ | rw [if_neg (by first | decide | (unfold vp_in; decide))]
    try (with_reducible rfl)
    simp only [bnd]
    rw [b2, hr, show nI (3 * r) / 3 = nI (3 * r / 3) from pk_div (d := 3) (by omega) (by omega) (by omega), show 3 * r / 3 = r by omega]
    -- the reference writes its rows
    have href : ∀ z : St, Kp (fun a k => ¬ (a = 161 ∧ k = 0) ∧ a ≠ 162 ∧ a ≠ 163 ∧ ¬ (a = 1 ∧ k = 1)) u z → z.1 161 0 = nI r → (∀ j, j < r → z.1 162 j = nI (B (3 * j)) ∧ z.1 163 j = nI (pl P (B (3 * j + 1) + 6 * B (3 * j + 2)))) → z.1 1 1 = 0 → s_X12_see (fun r2 u2 => nI r = r2 ∧ Inv u2) z := by
      intro z hK z161 zr z1
      have h0 : pc P ≠ 0 := by
        have := (hf 0 (by omega)).2.1
        omega
      unfold s_X12_see
      simp only [bnd]
      have e1 : (if pc P = 0 then (0 : Int32) else 1) = 1 := if_neg h0
      rw [t_n _ _ (by omega), hK.1 198 56 (by omega), hM.1.1, e1]
      first | refine i_neg (by first | decide | (unfold vp_in; decide)) ?_ | rw [if_neg (by first | decide | (unfold vp_in; decide))]
      rw [hK.1 198 1 (by omega), b3, hr]
      first | refine i_neg (nI_nle (by omega) (by omega)) ?_ | rw [if_neg (nI_nle (by omega) (by omega))]
      rw [show nI (3 * r) - nI (3 * r) / 3 * 3 = nI (3 * r % 3) from pk_rem (d := 3) (by omega) (by omega) (by omega), show 3 * r % 3 = 0 by omega]
      first | refine i_pos (by rfl) ?_ | rw [if_pos (by rfl)]
      rw [show nI (3 * r) / 3 = nI (3 * r / 3) from pk_div (d := 3) (by omega) (by omega) (by omega), show 3 * r / 3 = r by omega]
      first | refine i_neg (nI_nlt (a := 16) (by omega) (by omega)) ?_ | rw [if_neg (nI_nlt (a := 16) (by omega) (by omega))]
      try (with_reducible rfl)
      have ky : Kp (fun a k => ¬ (a = 198 ∧ k = 1)) z (tI z 198 1 0) := kp_I (kp_r z) (by omega)
      have hMz : mPl (tI z 198 1 0) P := mPl_K (mPl_K hM hK (fun a k h => by omega)) ky (fun a k h => by omega)
      unfold sX12_see_p40 sX12_see_p43
      refine for_g (fun i => nI (3 * i)) (fun m i (s : St) => sX12_see_p43n (nI (3 * r)) (fun r2 u2 => nI r = r2 ∧ Inv u2) m 1 i s) r (fun j s => s = tI z 198 1 0) ?_ 0 (tI z 198 1 0) (by omega) rfl
      rintro m j s hj rfl hnext
      show sX12_see_p43b (nI (3 * r)) (fun r2 u2 => nI r = r2 ∧ Inv u2) (sX12_see_p43n (nI (3 * r)) (fun r2 u2 => nI r = r2 ∧ Inv u2) m) 1 (nI (3 * j)) (tI z 198 1 0)
      unfold sX12_see_p43b
      by_cases hje : j = r
      · first | refine i_pos (by rw [hje]; exact nI_le (Nat.le_refl _) (by omega)) ?_ | rw [if_pos (by rw [hje]; exact nI_le (Nat.le_refl _) (by omega))]
        try (with_reducible rfl)
        unfold sX12_see_p99
        first | refine i_neg (by first | decide | (unfold vp_in; decide)) ?_ | rw [if_neg (by first | decide | (unfold vp_in; decide))]
        rw [show nI (3 * r) / 3 = nI (3 * r / 3) from pk_div (d := 3) (by omega) (by omega) (by omega), show 3 * r / 3 = r by omega]
        simp only [bnd]
        have kw : Kp (fun a k => ¬ (a = 198 ∧ (k = 1 ∨ k = 74)) ∧ a ≠ 252) z (tI (tI z 198 1 0) 198 74 (nI r)) := kp_I (kp_I (kp_r z) (by omega)) (by omega)
        unfold sX12_see_p118
        refine for_up (fun m i s => sX12_see_p118n (fun r2 u2 => nI r = r2 ∧ Inv u2) m i s) r (fun i s => Kp (fun a k => ¬ (a = 198 ∧ (k = 1 ∨ k = 74)) ∧ a ≠ 252) z s ∧ s.1 198 74 = nI r ∧ s.1 198 1 = 0 ∧ ∀ j, j < i → s.1 252 (2 * j) = nI (B (3 * j)) ∧ s.1 252 (2 * j + 1) = nI (B (3 * j + 1) + 6 * B (3 * j + 2))) ?_ 0 _ (by omega) ⟨kw, t_s _ _ _ _, by rw [t_n _ _ (by omega), t_s], fun j hj => absurd hj (by omega)⟩
        rintro m i s hi ⟨hKs, s74, s1, srow⟩ hnext2
        show sX12_see_p118b (fun r2 u2 => nI r = r2 ∧ Inv u2) (sX12_see_p118n (fun r2 u2 => nI r = r2 ∧ Inv u2) m) (nI i) s
        unfold sX12_see_p118b
        rw [s74]
        by_cases hie : i = r
        · first | refine i_pos (by rw [hie]; exact nI_le (Nat.le_refl _) (by omega)) ?_ | rw [if_pos (by rw [hie]; exact nI_le (Nat.le_refl _) (by omega))]
          try (with_reducible rfl)
          refine ⟨by first | rfl | trivial, ?_⟩
          rw [hie] at srow
          have kall : Kp (fun a k => ¬ (a = 161 ∧ k = 0) ∧ a ≠ 162 ∧ a ≠ 163 ∧ ¬ (a = 1 ∧ k = 1) ∧ ¬ (a = 198 ∧ (k = 1 ∨ k = 74)) ∧ a ≠ 252) u s := kp_t (kp_m hK (fun a k h => by omega)) (kp_m hKs (fun a k h => by omega))
          have hc := hC.1
          refine inv_gen (N' := N) hC kall ⟨0, B, by omega, by rw [hKs.1 1 1 (by omega)]; exact z1, s1, fun k hk => absurd hk (by omega)⟩ (k_fault hc.2.1 kall (fun a k h => by unfold DFault at h; omega)) (k_ref hc.2.2.1 kall (fun a k h => by unfold DRef at h; omega)) (k_pic hc.2.2.2.2.1 kall (fun a k h => by unfold DPic at h; omega)) ⟨r, fun j => B (3 * j), fun j => B (3 * j + 1) + 6 * B (3 * j + 2), r16, by rw [hKs.1 161 0 (by omega)]; exact z161, s74, fun k hk => ⟨(hf k hk).1, (hcel k hk).1, by rw [hKs.1 162 k (by omega)]; exact (zr k hk).1, by rw [hKs.1 163 k (by omega)]; exact (zr k hk).2, (srow k hk).1, (srow k hk).2⟩⟩ (k_land hc.2.2.2.2.2.2.2.2.1 kall (fun a k h => by unfold DLand at h; omega)) (k_past hc.2.2.2.2.2.2.2.2.2.1 kall (by omega) (fun a k h => by unfold DPast at h; omega)) (k_ways hC.2.1 kall (fun a k h => by omega)) (k_facts hC.2.2 kall (fun a k h => by omega)) (fun a k h => ?_)
          unfold DWords DTold DPlan DNo at h
          omega
        · first | refine i_neg (nI_ge (by omega) (by omega)) ?_ | rw [if_neg (nI_ge (by omega) (by omega))]
          try (with_reducible rfl)
          have f0 := hf i (by omega)
          have g0 := b4 (3 * i) (by omega)
          have g1 := b4 (3 * i + 1) (by omega)
          have g2 := b4 (3 * i + 2) (by omega)
          have e3 : (3 : Int32) * nI i = nI (3 * i) := pk_mul 3 i
          have e2 : (2 : Int32) * nI i = nI (2 * i) := pk_mul 2 i
          have e32 : nI (3 * i) + 2 = nI (3 * i + 2) := nI_add _ 2
          simp only [bnd]
          rw [e3, e2, nI_1, nI_1, nI_1, e32, nI_clamp (by omega), nI_clamp (by omega), nI_clamp (by omega), nI_clamp (by omega), nI_clamp (by omega), t_n (a' := 199) _ _ (by omega), t_n (a' := 199) _ _ (by omega), hKs.1 199 _ (by omega), hKs.1 199 _ (by omega), hKs.1 199 _ (by omega), hK.1 199 _ (by omega), hK.1 199 _ (by omega), hK.1 199 _ (by omega), g0.2.1, g1.2.1, g2.2.1]
          refine ⟨vp_in_nI (by omega) (by omega), vp_in_nI (by omega) (by omega), vp_in_nI (by omega) (by omega), vp_in_nI (by omega) (by omega), ?_⟩
          have hMs : mPl (tI s 252 (2 * i) (nI (B (3 * i)))) P := mPl_K (mPl_K hM (kp_t (kp_m hK (fun a k h => by omega : ∀ a k, (¬ (a = 161 ∧ k = 0) ∧ a ≠ 162 ∧ a ≠ 163 ∧ ¬ (a = 1 ∧ k = 1) ∧ ¬ (a = 198 ∧ (k = 1 ∨ k = 74)) ∧ a ≠ 252) → _)) (kp_m hKs (fun a k h => by omega))) (fun a k h => by omega)) (kp_I (S := fun a _ => a ≠ 252) (kp_r s) (by omega)) (fun a k h => by omega)
          refine r_cellAt_v hP hMs f0.2.1 f0.2.2 ⟨vp_in_nI (by omega) (by omega), ?_⟩
          refine hnext2 (by omega) _ ⟨kp_I (kp_I hKs (by omega)) (by omega), by rw [t_n _ _ (by omega), t_n _ _ (by omega)]; exact s74, by rw [t_n _ _ (by omega), t_n _ _ (by omega)]; exact s1, fun j hj => ?_⟩
          by_cases ej : j = i
          · rw [ej, t_n _ _ (by omega), t_s, t_s]
            exact ⟨rfl, rfl⟩
          · rw [t_n _ _ (by omega), t_n _ _ (by omega), t_n _ _ (by omega), t_n _ _ (by omega)]
            exact srow j (by omega)
      · have f0 := hf j (by omega)
        have g0 := b4 (3 * j) (by omega)
        have g1 := b4 (3 * j + 1) (by omega)
        have g2 := b4 (3 * j + 2) (by omega)
        have e2 : nI (3 * j) + 2 = nI (3 * j + 2) := nI_add _ 2
        first | refine i_neg (nI_ge (by omega) (by omega)) ?_ | rw [if_neg (nI_ge (by omega) (by omega))]
        first | refine i_neg (by first | decide | (unfold vp_in; decide)) ?_ | rw [if_neg (by first | decide | (unfold vp_in; decide))]
        rw [nI_clamp (by omega), t_n _ _ (by omega), hK.1 199 _ (by omega), g0.2.1]
        refine ⟨vp_in_nI (by omega) (by omega), ?_⟩
        first | refine i_neg (nI_nlt (a := 40) (by omega) (by omega)) ?_ | rw [if_neg (nI_nlt (a := 40) (by omega) (by omega))]
        rw [nI_1, e2, nI_clamp (by omega), nI_clamp (by omega), t_n _ _ (by omega), t_n _ _ (by omega), hK.1 199 _ (by omega), hK.1 199 _ (by omega), g1.2.1, g2.2.1]
        refine ⟨vp_in_nI (by omega) (by omega), vp_in_nI (by omega) (by omega), ?_⟩
        refine r_cellAt_v hP hMz f0.2.1 f0.2.2 ?_
        first | refine i_neg (by rw [x_ne1 (by omega)]; exact id) ?_ | rw [if_neg (by rw [x_ne1 (by omega)]; exact id)]
        try (with_reducible rfl)
        show sX12_see_p43n (nI (3 * r)) (fun r2 u2 => nI r = r2 ∧ Inv u2) m 1 (nI (3 * j) + 3) (tI z 198 1 0)
        rw [show nI (3 * j) + 3 = nI (3 * (j + 1)) from nI_add (3 * j) 3]
        exact hnext (by omega) _ rfl
    unfold sX7_take_p22
    refine for_up (fun m i s => sX7_take_p22n u.2.2.1 (fun r4 u5 => if r4 = 0 then s_X11_refuse 1 (fun r8 u9 => s_X12_see (fun r2 u2 => r8 = r2 ∧ Inv u2) u9) (tI u5 1 1 0) else s_X12_see (fun r2 u2 => (tI u5 1 1 0).1 161 0 = r2 ∧ Inv u2) (tI u5 1 1 0)) m i s) r (fun i s => Kp (fun a k => ¬ (a = 161 ∧ k = 0) ∧ a ≠ 162 ∧ a ≠ 163) u s ∧ s.1 161 0 = nI r ∧ ∀ j, j < i → s.1 162 j = nI (B (3 * j)) ∧ s.1 163 j = nI (pl P (B (3 * j + 1) + 6 * B (3 * j + 2)))) ?_ 0 _ (by omega) ⟨kp_I (kp_r u) (by omega), t_s _ _ _ _, fun j hj => absurd hj (by omega)⟩
    rintro m i s hi ⟨hKs, s161, srow⟩ hnext
    show sX7_take_p22b u.2.2.1 _ (sX7_take_p22n u.2.2.1 _ m) (nI i) s
    unfold sX7_take_p22b
    rw [s161]
    by_cases hie : i = r
    · refine i_pos (by rw [hie]; exact nI_le (Nat.le_refl _) (by omega)) ?_
      rw [hie] at srow
      first | refine i_neg (by first | decide | (unfold vp_in; decide)) ?_ | rw [if_neg (by first | decide | (unfold vp_in; decide))]
      rw [t_n _ _ (by omega), s161]
      refine href _ (kp_I (kp_m hKs (fun a k h => by omega)) (by omega)) (by rw [t_n _ _ (by omega)]; exact s161) (fun j hj => ?_) (t_s _ _ _ _)
      rw [t_n _ _ (by omega), t_n _ _ (by omega)]
      exact srow j hj
    · refine i_neg (nI_ge (by omega) (by omega)) ?_
      have f0 := hf i (by omega)
      have g0 := b4 (3 * i) (by omega)
      have g1 := b4 (3 * i + 1) (by omega)
      have g2 := b4 (3 * i + 2) (by omega)
      have e3 : (3 : Int32) * nI i = nI (3 * i) := pk_mul 3 i
      have e32 : nI (3 * i) + 2 = nI (3 * i + 2) := nI_add _ 2
      simp only [bnd]
      rw [e3, nI_1, e32, nI_clamp (by omega), nI_clamp (by omega), nI_clamp (by omega), nI_clamp (by omega), t_n (a' := 2) _ _ (by omega), t_n (a' := 2) _ _ (by omega), hKs.1 2 _ (by omega), hKs.1 2 _ (by omega), hKs.1 2 _ (by omega), g0.1, g1.1, g2.1]
      refine ⟨vp_in_nI (by omega) (by omega), vp_in_nI (by omega) (by omega), vp_in_nI (by omega) (by omega), vp_in_nI (by omega) (by omega), ?_⟩
      have hTs : cPl (tI s 162 i (nI (B (3 * i)))) u.2.2.1 P := cPl_K hT (S := fun a k => ¬ (a = 161 ∧ k = 0) ∧ a ≠ 162 ∧ a ≠ 163) (kp_I hKs (by omega)) (fun a k h1 h2 h3 h4 => by omega)
      refine q_placeOf hTs.1.1 hTs.1.2.1 (by omega) (by omega) (fun x y hx hy ex ey => ?_) (fun hn2 => ?_)
      · rw [nI_eq (by omega) (by omega)] at ex ey
        refine ⟨vp_in_nI (by omega) (by omega), ?_⟩
        rw [nI_1]
        refine hnext (by omega) (tI (tI s 162 i (nI (B (3 * i)))) 163 i (nI (y * pc P + x))) ⟨kp_I (kp_I hKs (by omega)) (by omega), by rw [t_n _ _ (by omega), t_n _ _ (by omega)]; exact s161, fun j hj => ?_⟩
        by_cases ej : j = i
        · rw [ej, t_n _ _ (by omega), t_s, t_s, (hcel i (by omega)).2, ex, ey]
          exact ⟨rfl, rfl⟩
        · rw [t_n _ _ (by omega), t_n _ _ (by omega), t_n _ _ (by omega), t_n _ _ (by omega)]
          exact srow j (by omega)
      · rcases hn2 with h | h
        · exact absurd ⟨_, f0.2.1, rfl⟩ h
        · exact absurd ⟨_, f0.2.2, rfl⟩ h
  · first | refine i_pos rfl ?_ | rw [if_pos rfl]
    try (with_reducible rfl)
    simp only [bnd]
    refine i_pos (by first | rfl | trivial) ?_
    refine q_refuse (k := 1) (by omega) ?_
    refine hbad _ (kp_I (kp_I (kp_r u) (by omega)) (by omega)) (by rw [t_n _ _ (by omega), t_s]) (fun k hk => ?_) hns
    by_cases e : k = 1
    · rw [e, t_s, t_n _ _ (by omega)]
      first | refine i_pos rfl ?_ | rw [if_pos rfl]
      try (with_reducible rfl)
    · rw [t_n _ _ (by omega), t_n _ _ (by omega)]
      first | refine i_neg e ?_ | rw [if_neg e]
      try (with_reducible rfl)
