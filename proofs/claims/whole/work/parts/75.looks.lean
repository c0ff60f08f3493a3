/-! ===== cell, farm, caller, kept, has ===== -/
theorem r_cellAt_v {P : Pl} {x y : Nat} {Q : Int32 → St → Prop} {u : St} (hP : VP P) (hM : mPl u P) (hx : x < pc P) (hy : y < pr P) (hQ : Q (nI (x + 6 * y)) u) : s_X12_cellAt (nI x) (nI y) Q u := by
  have h6 := hP.1
  have h7 := hP.2.1
  refine r_cellAt hP hM (fun x' y' hx' hy' e1 e2 => ?_) (fun hn => ?_)
  · rw [nI_eq (by omega) (by omega)] at e1 e2
    rw [← e1, ← e2]
    exact hQ
  · rcases hn with hn | hn
    · exact absurd ⟨x, hx, rfl⟩ hn
    · exact absurd ⟨y, hy, rfl⟩ hn
theorem r_cellAt_n {P : Pl} {v1 v2 : Int32} {Q : Int32 → St → Prop} {u : St} (hP : VP P) (hM : mPl u P) (hn : (¬ ∃ x, x < pc P ∧ v1 = nI x) ∨ (¬ ∃ y, y < pr P ∧ v2 = nI y)) (hQ : Q (-1) u) : s_X12_cellAt v1 v2 Q u := by
  refine r_cellAt hP hM (fun x' y' hx' hy' e1 e2 => ?_) (fun _ => hQ)
  rcases hn with hn | hn
  · exact absurd ⟨x', hx', e1⟩ hn
  · exact absurd ⟨y', hy', e2⟩ hn
theorem r_three {v : Int32} {Q : Int32 → St → Prop} {u : St} (h1 : ∀ x, x < 3 → v = nI x → Q 1 u) (h2 : (¬ ∃ x, x < 3 ∧ v = nI x) → Q 0 u) : s_X12_isIn v.toInt64 (0 : Int64) (2 : Int64) Q u := r_below (v := v) (n := 3) (by omega) h1 h2
theorem call_cell (v1 v2 v3 : Int32) : Call (s_X11_cell v1 v2 v3) (s_X12_cell v1 v2 v3) := by
  rintro u ⟨P, N, hC⟩
  have hC : Ctx u P N := hC
  have hP := ctx_vp hC
  have h6 := hP.1
  have h7 := hP.2.1
  have hT := ctx_c hC
  have hM := ctx_m hC
  have hL := ctx_l hC
  have hI := inv_of hC
  unfold s_X11_cell
  refine q_placeOf hT.1.1 hT.1.2.1 (by omega) (by omega) (fun x y hx hy e1 e2 => ?_) (fun hn => ?_)
  · obtain ⟨hc, hpl⟩ := pl_of (P := P) hx hy h6
    have h36 := cel_lt hP hc
    have hp36 := pl_36 hP hc
    have hl := hL.2.1 _ hc
    rw [← hpl]
    first | refine i_neg (by rw [x_ne1 (by omega)]; exact id) ?_ | rw [if_neg (by rw [x_ne1 (by omega)]; exact id)]
    try (with_reducible rfl)
    have href : ∀ r : Int32, (∀ j, j < 3 → v3 = nI j → r = nI (N (1 + 3 * (x + 6 * y) + j))) → (v3 = 3 → r = oI (fAt P (x + 6 * y))) → ((¬ ∃ j, j < 4 ∧ v3 = nI j) → r = -1) → s_X12_cell v1 v2 v3 (fun r2 u2 => r = r2 ∧ Inv u2) u := by
      intro r h1 h2 h3
      unfold s_X12_cell
      rw [e1, e2]
      refine r_cellAt_v hP hM hx hy ?_
      first | refine i_neg (by rw [x_ne1 (by omega)]; exact id) ?_ | rw [if_neg (by rw [x_ne1 (by omega)]; exact id)]
      try (with_reducible rfl)
      refine r_three (fun j hj e => ?_) (fun hn => ?_)
      · first | refine i_neg (by first | decide | (unfold vp_in; decide)) ?_ | rw [if_neg (by first | decide | (unfold vp_in; decide))]
        rw [e, show (3 : Int32) * nI (x + 6 * y) = nI (3 * (x + 6 * y)) from pk_mul 3 _, show (1 : Int32) + nI (3 * (x + 6 * y)) = nI (1 + 3 * (x + 6 * y)) from nI_add 1 _, nI_add, nI_clamp (by omega), ctx_n hC _ (by omega)]
        exact ⟨vp_in_nI (by omega) (by omega), h1 j hj e, hI⟩
      · first | refine i_pos rfl ?_ | rw [if_pos rfl]
        try (with_reducible rfl)
        by_cases e3 : v3 = 3
        · first | refine i_pos e3 ?_ | rw [if_pos e3]
          try (with_reducible rfl)
          exact r_farmAt hP hM h36 ⟨h2 e3, hI⟩
        · first | refine i_neg e3 ?_ | rw [if_neg e3]
          try (with_reducible rfl)
          refine ⟨h3 ?_, hI⟩
          rintro ⟨j, hj, e⟩
          by_cases hj3 : j = 3
          · rw [hj3] at e
            exact e3 e
          · exact hn ⟨j, by omega, e⟩
    have hne : ∀ a b : Nat, a < 10 → b < 10 → v3 = nI a → v3 = nI b → a = b := by
      intro a b ha hb x1 x2
      rw [x1, nI_eq (by omega) (by omega)] at x2
      exact x2
    have fin : ∀ (a : Nat) (r : Int32), a < 3 → v3 = nI a → r = nI (N (1 + 3 * (x + 6 * y) + a)) → s_X12_cell v1 v2 v3 (fun r2 u2 => r = r2 ∧ Inv u2) u := by
      intro a r ha e hr
      refine href r (fun j hj ej => ?_) (fun e3 => ?_) (fun hn => absurd ⟨a, by omega, e⟩ hn)
      · rw [hne j a (by omega) (by omega) ej e]
        exact hr
      · have := hne a 3 (by omega) (by omega) e e3
        omega
    by_cases a0 : v3 = 0
    · first | refine i_pos a0 ?_ | rw [if_pos a0]
      rw [nI_clamp (by omega), hl.1]
      exact ⟨vp_in_nI hp36 (by omega), fin 0 _ (by omega) a0 rfl⟩
    first | refine i_neg a0 ?_ | rw [if_neg a0]
    try (with_reducible rfl)
    by_cases a1 : v3 = 1
    · first | refine i_pos a1 ?_ | rw [if_pos a1]
      rw [nI_clamp (by omega), hl.2.1]
      refine ⟨vp_in_nI hp36 (by omega), fin 1 _ (by omega) a1 ?_⟩
      rw [show 1 + 3 * (x + 6 * y) + 1 = 2 + 3 * (x + 6 * y) by omega]
    first | refine i_neg a1 ?_ | rw [if_neg a1]
    try (with_reducible rfl)
    by_cases a2 : v3 = 2
    · first | refine i_pos a2 ?_ | rw [if_pos a2]
      rw [nI_clamp (by omega), hl.2.2]
      refine ⟨vp_in_nI hp36 (by omega), fin 2 _ (by omega) a2 ?_⟩
      rw [show 1 + 3 * (x + 6 * y) + 2 = 3 + 3 * (x + 6 * y) by omega]
    first | refine i_neg a2 ?_ | rw [if_neg a2]
    try (with_reducible rfl)
    by_cases a3 : v3 = 3
    · first | refine i_pos a3 ?_ | rw [if_pos a3]
      rw [nI_clamp (by omega), hT.2.1 _ hc]
      refine ⟨vp_in_nI hp36 (by omega), href _ (fun j hj e => ?_) (fun _ => rfl) (fun hn => absurd ⟨3, by omega, a3⟩ hn)⟩
      have := hne j 3 (by omega) (by omega) e a3
      omega
    · first | refine i_neg a3 ?_ | rw [if_neg a3]
      try (with_reducible rfl)
      refine href _ (fun j hj e => ?_) (fun e => absurd e a3) (fun _ => rfl)
      have : j = 0 ∨ j = 1 ∨ j = 2 := by omega
      rcases this with rfl | rfl | rfl
      · exact absurd e a0
      · exact absurd e a1
      · exact absurd e a2
  · first | refine i_pos rfl ?_ | rw [if_pos rfl]
    try (with_reducible rfl)
    unfold s_X12_cell
    refine r_cellAt_n hP hM hn ?_
    first | refine i_pos rfl ?_ | rw [if_pos rfl]
    try (with_reducible rfl)
    exact ⟨by first | rfl | trivial, hI⟩
theorem call_farm (v1 v2 : Int32) : Call (s_X11_farm v1 v2) (s_X12_farm v1 v2) := by
  rintro u ⟨P, N, hC⟩
  have hC : Ctx u P N := hC
  have hP := ctx_vp hC
  have h6 := hP.1
  have hpf := hP.2.2.2.2.1
  have hT := ctx_c hC
  have hM := ctx_m hC
  have hL := ctx_l hC
  have hI := inv_of hC
  unfold s_X11_farm
  refine q_isFarm hP hT (fun f hf e => ?_) (fun hn => ?_)
  · have hfa := (hP.2.2.2.2.2.2.1 f hf).1
    have h36 := cel_lt hP hfa
    have hp36 := pl_36 hP hfa
    have h0 := cel_pc hfa
    first | refine i_neg (by first | decide | (unfold vp_in; decide)) ?_ | rw [if_neg (by first | decide | (unfold vp_in; decide))]
    rw [e, nI_clamp (by omega), (hT.2.2.1 f hf).2.1, (hT.2.2.1 f hf).2.2, show u.1 46 f = nI (N (109 + f)) from hL.2.2.1 f (by omega)]
    have href : ∀ (r : Int32) (F : St → Prop), F u → (∀ w, s_X12_farm v1 v2 (fun r2 u2 => r = r2 ∧ Inv u2) w = s_X12_isFarm v1 (fun r1 u2 => if r1 = 0 then r = -1 ∧ Inv u2 else F u2) w) → s_X12_farm v1 v2 (fun r2 u2 => r = r2 ∧ Inv u2) u := by
      intro r F hF hE
      rw [hE]
      refine r_isFarm hP hM (fun _ _ _ => ?_) (fun hn => absurd ⟨f, hf, e⟩ hn)
      first | refine i_neg (by first | decide | (unfold vp_in; decide)) ?_ | rw [if_neg (by first | decide | (unfold vp_in; decide))]
      try (with_reducible rfl)
      exact hF
    by_cases a0 : v2 = 0
    · first | refine i_pos a0 ?_ | rw [if_pos a0]
      try (with_reducible rfl)
      refine ⟨vp_in_nI (by omega) (by omega), ?_⟩
      refine q_columnOf (n := pc P) hT.1.1 (by omega) (by omega) (by omega) ?_
      rw [← e]
      refine href _ (fun u2 => s_X12_cellOf v1 (fun r3 u4 => nI (pl P (fce P f) % pc P) = r3 - r3 / 6 * 6 ∧ Inv u4) u2) ?_ (fun w => ?_)
      · rw [e]
        refine r_cellOf hP hM hf ⟨?_, hI⟩
        rw [pl_mod hfa]
        exact (pk_rem (d := 6) (by omega) (by omega) (by omega)).symm
      · unfold s_X12_farm
        simp only [a0, if_true]
    first | refine i_neg a0 ?_ | rw [if_neg a0]
    try (with_reducible rfl)
    by_cases a1 : v2 = 1
    · first | refine i_pos a1 ?_ | rw [if_pos a1]
      try (with_reducible rfl)
      refine ⟨vp_in_nI (by omega) (by omega), ?_⟩
      refine q_rowOf (n := pc P) hT.1.1 (by omega) (by omega) (by omega) ?_
      rw [← e]
      refine href _ (fun u2 => s_X12_cellOf v1 (fun r3 u4 => nI (pl P (fce P f) / pc P) = r3 / 6 ∧ Inv u4) u2) ?_ (fun w => ?_)
      · rw [e]
        refine r_cellOf hP hM hf ⟨?_, hI⟩
        rw [pl_div hfa]
        exact (pk_div (d := 6) (by omega) (by omega) (by omega)).symm
      · unfold s_X12_farm
        simp only [a1, if_true, if_false, show ¬ (1 : Int32) = 0 by first | decide | (unfold vp_in; decide)]
    first | refine i_neg a1 ?_ | rw [if_neg a1]
    try (with_reducible rfl)
    by_cases a2 : v2 = 2
    · first | refine i_pos a2 ?_ | rw [if_pos a2]
      try (with_reducible rfl)
      refine ⟨vp_in_nI (by omega) (by omega), ?_⟩
      rw [← e]
      refine href _ (fun u2 => s_X12_dayOf v1 (fun r3 u4 => nI (fda P f) = r3 ∧ Inv u4) u2) ?_ (fun w => ?_)
      · rw [e]
        exact r_dayOf hP hM hf ⟨by first | rfl | trivial, hI⟩
      · unfold s_X12_farm
        simp only [a2, if_true, if_false, show ¬ (2 : Int32) = 0 by first | decide | (unfold vp_in; decide), show ¬ (2 : Int32) = 1 by first | decide | (unfold vp_in; decide)]
    first | refine i_neg a2 ?_ | rw [if_neg a2]
    try (with_reducible rfl)
    by_cases a3 : v2 = 3
    · first | refine i_pos a3 ?_ | rw [if_pos a3]
      try (with_reducible rfl)
      refine ⟨vp_in_nI (by omega) (by omega), ?_⟩
      rw [← e]
      refine href _ (fun u2 => s_X12_pieOf v1 (fun r3 u4 => nI (N (109 + f)) = r3 ∧ Inv u4) u2) ?_ (fun w => ?_)
      · rw [e]
        exact r_pieOf (ctx_n hC) (by omega) ⟨by first | rfl | trivial, hI⟩
      · unfold s_X12_farm
        simp only [a3, if_true, if_false, show ¬ (3 : Int32) = 0 by first | decide | (unfold vp_in; decide), show ¬ (3 : Int32) = 1 by first | decide | (unfold vp_in; decide), show ¬ (3 : Int32) = 2 by first | decide | (unfold vp_in; decide)]
    · first | refine i_neg a3 ?_ | rw [if_neg a3]
      rw [← e]
      refine href _ (fun u2 => (-1 : Int32) = -1 ∧ Inv u2) ⟨by first | rfl | trivial, hI⟩ (fun w => ?_)
      unfold s_X12_farm
      simp only [a0, a1, a2, a3, if_false]
  · first | refine i_pos rfl ?_ | rw [if_pos rfl]
    try (with_reducible rfl)
    unfold s_X12_farm
    refine r_isFarm hP hM (fun k hk e => absurd ⟨k, hk, e⟩ hn) (fun _ => ?_)
    first | refine i_pos rfl ?_ | rw [if_pos rfl]
    try (with_reducible rfl)
    exact ⟨by first | rfl | trivial, hI⟩
theorem call_caller (v1 v2 : Int32) : Call (s_X11_caller v1 v2) (s_X12_caller v1 v2) := by
  rintro u ⟨P, N, hC⟩
  have hC : Ctx u P N := hC
  have hP := ctx_vp hC
  have hpk := hP.2.2.2.2.2.1
  have hT := ctx_c hC
  have hM := ctx_m hC
  have hI := inv_of hC
  unfold s_X11_caller s_X12_caller
  refine q_isCaller hP hT (fun k hk e => ?_) (fun hn => ?_)
  · have hcm := hM.2.2.1 k hk
    have hct := hT.2.2.2.1 k hk
    first | refine i_neg (by first | decide | (unfold vp_in; decide)) ?_ | rw [if_neg (by first | decide | (unfold vp_in; decide))]
    try (with_reducible rfl)
    have href : ∀ r : Int32, (v2 = 0 → r = nI (cbo P k)) → (v2 = 1 → r = nI (cki P k)) → (v2 ≠ 0 → v2 ≠ 1 → r = -1) → s_X12_isCaller v1.toInt64 (fun r1 u2 => if r1 = 0 then r = -1 ∧ Inv u2 else s_X12_isIn v2.toInt64 0 1 (fun r3 u4 => if r3 = 0 then r = -1 ∧ Inv u4 else vp_in (10 + 2 * v1 + v2) 20 ∧ r = u4.1 235 (10 + 2 * v1 + v2).toNatClampNeg ∧ Inv u4) u2) u := by
      intro r h0 h1 h2
      refine r_isCaller hP hM (fun _ _ _ => ?_) (fun hn => absurd ⟨k, hk, e⟩ hn)
      first | refine i_neg (by first | decide | (unfold vp_in; decide)) ?_ | rw [if_neg (by first | decide | (unfold vp_in; decide))]
      try (with_reducible rfl)
      have e1 : (10 : Int32) + 2 * v1 = nI (10 + 2 * k) := by
        rw [e, show (2 : Int32) * nI k = nI (2 * k) from pk_mul 2 k]
        exact nI_add 10 _
      refine r_two (fun h => ?_) (fun h => ?_) (fun a b => ?_)
      · first | refine i_neg (by first | decide | (unfold vp_in; decide)) ?_ | rw [if_neg (by first | decide | (unfold vp_in; decide))]
        rw [e1, h, show nI (10 + 2 * k) + 0 = nI (10 + 2 * k) from nI_add _ 0, nI_clamp (by omega), hcm.1]
        exact ⟨vp_in_nI (by omega) (by omega), h0 h, hI⟩
      · first | refine i_neg (by first | decide | (unfold vp_in; decide)) ?_ | rw [if_neg (by first | decide | (unfold vp_in; decide))]
        rw [e1, h, nI_1, nI_clamp (by omega), show 10 + 2 * k + 1 = 11 + 2 * k by omega, hcm.2.1]
        exact ⟨vp_in_nI (by omega) (by omega), h1 h, hI⟩
      · first | refine i_pos rfl ?_ | rw [if_pos rfl]
        try (with_reducible rfl)
        exact ⟨h2 a b, hI⟩
    by_cases a0 : v2 = 0
    · first | refine i_pos a0 ?_ | rw [if_pos a0]
      try (with_reducible rfl)
      refine ⟨by rw [e]; exact vp_in_nI (by omega) (by omega), ?_⟩
      refine href _ (fun _ => ?_) (fun h => by rw [a0] at h; exact absurd h (by first | decide | (unfold vp_in; decide))) (fun h => absurd a0 h)
      rw [e, nI_clamp (by omega), hct.2.1]
    first | refine i_neg a0 ?_ | rw [if_neg a0]
    try (with_reducible rfl)
    by_cases a1 : v2 = 1
    · first | refine i_pos a1 ?_ | rw [if_pos a1]
      try (with_reducible rfl)
      refine ⟨by rw [e]; exact vp_in_nI (by omega) (by omega), ?_⟩
      refine href _ (fun h => absurd h a0) (fun _ => ?_) (fun _ h => absurd a1 h)
      rw [e, nI_clamp (by omega), hct.2.2]
    · first | refine i_neg a1 ?_ | rw [if_neg a1]
      try (with_reducible rfl)
      exact href _ (fun h => absurd h a0) (fun h => absurd h a1) (fun _ _ => rfl)
  · first | refine i_pos rfl ?_ | rw [if_pos rfl]
    try (with_reducible rfl)
    refine r_isCaller hP hM (fun k hk e => absurd ⟨k, hk, e⟩ hn) (fun _ => ?_)
    first | refine i_pos rfl ?_ | rw [if_pos rfl]
    try (with_reducible rfl)
    exact ⟨by first | rfl | trivial, hI⟩
theorem q_min40 {Y : Nat} {Q : Int32 → St → Prop} {u : St} (hY : Y < 2000) (hQ : Q (nI (min Y 40)) u) : s_J9_min_7cf53 (nI Y) (40 : Int32) Q u := by
  unfold s_J9_min_7cf53
  by_cases h : 40 < Y
  · first | refine i_pos (nI_lt (a := 40) h (by omega)) ?_ | rw [if_pos (nI_lt (a := 40) h (by omega))]
    try (with_reducible rfl)
    rw [show min Y 40 = 40 by omega] at hQ
    exact hQ
  · first | refine i_neg (nI_nlt (a := 40) (b := Y) (by omega) (by omega)) ?_ | rw [if_neg (nI_nlt (a := 40) (b := Y) (by omega) (by omega))]
    try (with_reducible rfl)
    rw [show min Y 40 = Y by omega] at hQ
    exact hQ
theorem call_kept (v1 v2 : Int32) : Call (s_X11_kept v1 v2) (s_X12_kept v1 v2) := by
  rintro u ⟨P, N, hC⟩
  have hC : Ctx u P N := hC
  have hI := inv_of hC
  have hN := ctx_vn hC
  have hn0 := hN.1
  obtain ⟨Y, E, n, o, w, Sk, ys, h1, h2, h3, h4, hrest⟩ := hC.1.2.2.2.2.2.2.2.2.2.1
  have hL := ctx_n hC
  unfold s_X11_kept
  rw [h2]
  refine q_min40 (by omega) ?_
  have href : ∀ r : Int32, ((¬ ∃ x, x < min Y 40 ∧ v1 = nI x) → r = -1) → (∀ x j, x < min Y 40 → v1 = nI x → j < 3 → v2 = nI j → r = nI (N (116 + 3 * x + j))) → ((¬ ∃ j, j < 3 ∧ v2 = nI j) → r = -1) → s_X12_kept v1 v2 (fun r2 u2 => r = r2 ∧ Inv u2) u := by
    intro r q1 q2 q3
    unfold s_X12_kept
    refine ⟨by first | decide | (unfold vp_in; decide), ?_⟩
    rw [show ((115 : Int32)).toNatClampNeg = 115 by first | decide | (unfold vp_in; decide), hL 115 (by omega), h4.1]
    refine r_below (by omega) (fun x hx e => ?_) (fun hn => ?_)
    · first | refine i_neg (by first | decide | (unfold vp_in; decide)) ?_ | rw [if_neg (by first | decide | (unfold vp_in; decide))]
      try (with_reducible rfl)
      refine r_three (fun j hj ej => ?_) (fun hn => ?_)
      · first | refine i_neg (by first | decide | (unfold vp_in; decide)) ?_ | rw [if_neg (by first | decide | (unfold vp_in; decide))]
        rw [e, ej, show (3 : Int32) * nI x = nI (3 * x) from pk_mul 3 _, show (116 : Int32) + nI (3 * x) = nI (116 + 3 * x) from nI_add 116 _, nI_add, nI_clamp (by omega), hL _ (by omega)]
        exact ⟨vp_in_nI (by omega) (by omega), q2 x j hx e hj ej, hI⟩
      · first | refine i_pos rfl ?_ | rw [if_pos rfl]
        try (with_reducible rfl)
        exact ⟨q3 hn, hI⟩
    · first | refine i_pos rfl ?_ | rw [if_pos rfl]
      try (with_reducible rfl)
      exact ⟨q1 hn, hI⟩
  by_cases hv : v1 < 0
  · first | refine i_pos hv ?_ | rw [if_pos hv]
    try (with_reducible rfl)
    refine href _ (fun _ => rfl) (fun x j hx e => ?_) (fun _ => rfl)
    rw [e] at hv
    exact absurd hv (nI_pos (by omega))
  first | refine i_neg hv ?_ | rw [if_neg hv]
  try (with_reducible rfl)
  obtain ⟨x, hx, rfl⟩ := nI_of hv
  by_cases hxm : x < min Y 40
  · first | refine i_pos (nI_lt hxm (by omega)) ?_ | rw [if_pos (nI_lt hxm (by omega))]
    rw [h2, pk_sub (by omega), nI_add]
    have hlt : Y - min Y 40 + x < Y := by omega
    have hE := h3 _ hlt
    have hk := h4.2 x hxm
    have hxe : ∀ x', nI x = nI x' → x' < min Y 40 → x' = x := by
      intro x' e hx'
      rw [nI_eq hx (by omega)] at e
      exact e.symm
    unfold s_X3_tell
    first | refine i_neg (nI_pos (by omega)) ?_ | rw [if_neg (nI_pos (by omega))]
    first | refine i_pos (nI_lt (b := 999) (by omega) (by omega)) ?_ | rw [if_pos (nI_lt (b := 999) (by omega) (by omega))]
    rw [nI_clamp (by omega), hE.1, hE.2.1, hE.2.2]
    have fin : ∀ (r : Int32) (a : Nat), a < 3 → v2 = nI a → r = nI (N (116 + 3 * x + a)) → s_X12_kept (nI x) v2 (fun r2 u2 => r = r2 ∧ Inv u2) u := by
      intro r a ha e hr
      refine href r (fun hn => absurd ⟨x, hxm, rfl⟩ hn) (fun x' j hx' ex hj ej => ?_) (fun hn => absurd ⟨a, ha, e⟩ hn)
      rw [hxe x' ex hx']
      rw [e, nI_eq (by omega) (by omega)] at ej
      rw [← ej]
      exact hr
    by_cases a0 : v2 = 0
    · first | refine i_pos a0 ?_ | rw [if_pos a0]
      try (with_reducible rfl)
      exact ⟨vp_in_nI (by omega) (by omega), fin _ 0 (by omega) a0 (by rw [← hk.1]; rfl)⟩
    first | refine i_neg a0 ?_ | rw [if_neg a0]
    try (with_reducible rfl)
    by_cases a1 : v2 = 1
    · first | refine i_pos a1 ?_ | rw [if_pos a1]
      try (with_reducible rfl)
      exact ⟨vp_in_nI (by omega) (by omega), fin _ 1 (by omega) a1 (by rw [← hk.2.1, show 116 + 3 * x + 1 = 117 + 3 * x by omega])⟩
    first | refine i_neg a1 ?_ | rw [if_neg a1]
    try (with_reducible rfl)
    by_cases a2 : v2 = 2
    · first | refine i_pos a2 ?_ | rw [if_pos a2]
      try (with_reducible rfl)
      exact ⟨vp_in_nI (by omega) (by omega), fin _ 2 (by omega) a2 (by rw [← hk.2.2, show 116 + 3 * x + 2 = 118 + 3 * x by omega])⟩
    · first | refine i_neg a2 ?_ | rw [if_neg a2]
      try (with_reducible rfl)
      refine href _ (fun _ => rfl) (fun x' j hx' ex hj ej => ?_) (fun _ => rfl)
      have : j = 0 ∨ j = 1 ∨ j = 2 := by omega
      rcases this with rfl | rfl | rfl
      · exact absurd ej a0
      · exact absurd ej a1
      · exact absurd ej a2
  · first | refine i_neg (nI_nlt (by omega) (by omega)) ?_ | rw [if_neg (nI_nlt (by omega) (by omega))]
    try (with_reducible rfl)
    refine href _ (fun _ => rfl) (fun x' j hx' ex => ?_) (fun _ => rfl)
    rw [nI_eq hx (by omega)] at ex
    omega
/-! sums -/
def sm (f : Nat → Nat) : Nat → Nat
  | 0 => 0
  | n + 1 => sm f n + f n
theorem sm_le {f : Nat → Nat} {b : Nat} : ∀ n, (∀ i, i < n → f i ≤ b) → sm f n ≤ b * n
  | 0, _ => by simp [sm]
  | n + 1, h => by
    have h1 := sm_le n (fun i hi => h i (by omega))
    have h2 := h n (by omega)
    have h3 : b * (n + 1) = b * n + b := Nat.mul_succ b n
    unfold sm
    omega
theorem sm_c {f g : Nat → Nat} : ∀ n, (∀ i, i < n → f i = g i) → sm f n = sm g n
  | 0, _ => rfl
  | n + 1, h => by
    unfold sm
    rw [sm_c n (fun i hi => h i (by omega)), h n (by omega)]
theorem sm_0 {f : Nat → Nat} {m : Nat} : ∀ n, m ≤ n → (∀ i, m ≤ i → i < n → f i = 0) → sm f n = sm f m
  | 0, h, _ => by rw [show m = 0 by omega]
  | n + 1, h, hz => by
    by_cases e : m = n + 1
    · rw [e]
    · show sm f n + f n = sm f m
      rw [hz n (by omega) (by omega), sm_0 n (by omega) (fun i h1 h2 => hz i h1 (by omega))]
      rfl
def ixc (P : Pl) (c : Nat) : Nat := if c / 6 < pr P then c / 6 * pc P + min (c % 6) (pc P) else pc P * pr P
theorem sm_ix {P : Pl} (hP : VP P) {h : Nat → Nat} (hz : ∀ c, c < 36 → ¬ cel P c → h c = 0) : ∀ c, c ≤ 36 → sm h c = sm (fun p => h (ce P p)) (ixc P c)
  | 0, _ => by
    have h6 := hP.1
    unfold ixc
    by_cases h0 : 0 / 6 < pr P
    · first | refine i_pos h0 ?_ | rw [if_pos h0]
      try (with_reducible rfl)
      simp [sm]
    · first | refine i_neg h0 ?_ | rw [if_neg h0]
      try (with_reducible rfl)
      have : pr P = 0 := by omega
      rw [this]
      simp [sm]
  | c + 1, hc => by
    have ih := sm_ix hP hz c (by omega)
    have h6 := hP.1
    have h7 := hP.2.1
    show sm h c + h c = _
    rw [ih]
    by_cases hcel : cel P c
    · have e1 : ixc P c = pl P c := by
        unfold ixc pl
        first | refine i_pos hcel.2 ?_ | rw [if_pos hcel.2]
        try (with_reducible rfl)
        have := hcel.1
        omega
      have e2 : ixc P (c + 1) = pl P c + 1 := by
        have hc1 := hcel.1
        have hc2 := hcel.2
        unfold ixc pl
        by_cases hm : c % 6 = 5
        · have d1 : (c + 1) / 6 = c / 6 + 1 := by omega
          have d2 : (c + 1) % 6 = 0 := by omega
          have d3 : pc P = 6 := by omega
          rw [d1, d2]
          by_cases hlt : c / 6 + 1 < pr P
          · first | refine i_pos hlt ?_ | rw [if_pos hlt]
            rw [d3]
            omega
          · first | refine i_neg hlt ?_ | rw [if_neg hlt]
            rw [d3]
            omega
        · have d1 : (c + 1) / 6 = c / 6 := by omega
          have d2 : (c + 1) % 6 = c % 6 + 1 := by omega
          rw [d1, d2]
          first | refine i_pos hc2 ?_ | rw [if_pos hc2]
          try (with_reducible rfl)
          omega
      rw [e1, e2]
      show _ = sm (fun p => h (ce P p)) (pl P c) + h (ce P (pl P c))
      rw [ce_pl hcel]
    · rw [hz c (by omega) hcel, Nat.add_zero]
      congr 1
      unfold cel at hcel
      unfold ixc
      by_cases hr : c / 6 < pr P
      · first | refine i_pos hr ?_ | rw [if_pos hr]
        try (with_reducible rfl)
        by_cases hm : c % 6 = 5
        · have d1 : (c + 1) / 6 = c / 6 + 1 := by omega
          have d2 : (c + 1) % 6 = 0 := by omega
          rw [d1, d2]
          have d4 : min (c % 6) (pc P) = pc P := by omega
          rw [d4]
          by_cases hlt : c / 6 + 1 < pr P
          · first | refine i_pos hlt ?_ | rw [if_pos hlt]
            rw [Nat.add_mul]
            omega
          · first | refine i_neg hlt ?_ | rw [if_neg hlt]
            try (with_reducible rfl)
            have d5 : pr P = c / 6 + 1 := by omega
            rw [d5, Nat.mul_add, Nat.mul_comm]
            omega
        · have d1 : (c + 1) / 6 = c / 6 := by omega
          have d2 : (c + 1) % 6 = c % 6 + 1 := by omega
          rw [d1, d2]
          first | refine i_pos hr ?_ | rw [if_pos hr]
          try (with_reducible rfl)
          omega
      · first | refine i_neg hr ?_ | rw [if_neg hr]
        first | refine i_neg (by omega) ?_ | rw [if_neg (by omega)]
        try (with_reducible rfl)
theorem stones_eq {P : Pl} {N : Nat → Nat} (hP : VP P) (hN : VN P N) {f : Nat → Nat} (h1 : ∀ c, cel P c → f (pl P c) = N (2 + 3 * c)) (h2 : ∀ p, p < 36 → pc P * pr P ≤ p → f p = 0) : sm f 36 = sm (fun c => N (2 + 3 * c)) 36 := by
  have har := area_le hP
  have e := sm_ix hP (h := fun c => N (2 + 3 * c)) hN.2.2.1 36 (by omega)
  rw [e]
  have e2 : ixc P 36 = pc P * pr P := by
    unfold ixc
    have := hP.2.1
    first | refine i_neg (by omega) ?_ | rw [if_neg (by omega)]
    try (with_reducible rfl)
  rw [e2, sm_0 36 har (fun i a b => h2 i b a)]
  apply sm_c
  intro p hp
  have hc := (ce_cel hP hp).1
  rw [← h1 _ hc, pl_ce hP hp]
theorem call_has (v : Int32) : Call (s_X11_has v) (s_X12_has v) := by
  rintro u ⟨P, N, hC⟩
  have hC : Ctx u P N := hC
  have hP := ctx_vp hC
  have hN := ctx_vn hC
  have hT := ctx_c hC
  have hM := ctx_m hC
  have hL := ctx_l hC
  have hl := ctx_n hC
  have hI := inv_of hC
  have h6 := hP.1
  have hpf := hP.2.2.2.2.1
  have n01 : ¬ (1 : Int32) = 0 := by first | decide | (unfold vp_in; decide)
  unfold s_X11_has
  by_cases a0 : v = 0
  · first | refine i_pos a0 ?_ | rw [if_pos a0]
    try (with_reducible rfl)
    unfold s_X12_has
    first | refine i_pos a0 ?_ | rw [if_pos a0]
    rw [a0]
    refine ⟨by first | decide | (unfold vp_in; decide), ?_, hI⟩
    rw [show ((2 : Int32) + 0).toNatClampNeg = 2 by first | decide | (unfold vp_in; decide), hT.1.1, hM.1.2.2.1]
  first | refine i_neg a0 ?_ | rw [if_neg a0]
  try (with_reducible rfl)
  by_cases a1 : v = 1
  · first | refine i_pos a1 ?_ | rw [if_pos a1]
    try (with_reducible rfl)
    unfold s_X12_has
    first | refine i_neg a0 ?_ | rw [if_neg a0]
    first | refine i_pos a1 ?_ | rw [if_pos a1]
    rw [a1]
    refine ⟨by first | decide | (unfold vp_in; decide), ?_, hI⟩
    rw [show ((2 : Int32) + 1).toNatClampNeg = 3 by first | decide | (unfold vp_in; decide), hT.1.2.1, hM.1.2.2.2.1]
  first | refine i_neg a1 ?_ | rw [if_neg a1]
  try (with_reducible rfl)
  by_cases a2 : v = 2
  · first | refine i_pos a2 ?_ | rw [if_pos a2]
    try (with_reducible rfl)
    unfold s_X12_has
    first | refine i_neg a0 ?_ | rw [if_neg a0]
    first | refine i_neg a1 ?_ | rw [if_neg a1]
    first | refine i_pos a2 ?_ | rw [if_pos a2]
    rw [a2]
    refine ⟨by first | decide | (unfold vp_in; decide), ?_, hI⟩
    rw [show ((2 : Int32)).toNatClampNeg = 2 by first | decide | (unfold vp_in; decide), hT.1.2.2.2.1, hM.1.2.2.2.2.1]
  first | refine i_neg a2 ?_ | rw [if_neg a2]
  try (with_reducible rfl)
  by_cases a3 : v = 3
  · first | refine i_pos a3 ?_ | rw [if_pos a3]
    try (with_reducible rfl)
    unfold s_X12_has
    first | refine i_neg a0 ?_ | rw [if_neg a0]
    first | refine i_neg a1 ?_ | rw [if_neg a1]
    first | refine i_neg a2 ?_ | rw [if_neg a2]
    first | refine i_pos a3 ?_ | rw [if_pos a3]
    rw [a3]
    refine ⟨by first | decide | (unfold vp_in; decide), ?_, hI⟩
    rw [show ((3 : Int32)).toNatClampNeg = 3 by first | decide | (unfold vp_in; decide), hT.1.2.2.2.2, hM.1.2.2.2.2.2]
  first | refine i_neg a3 ?_ | rw [if_neg a3]
  try (with_reducible rfl)
  by_cases a4 : v = 4
  · first | refine i_pos a4 ?_ | rw [if_pos a4]
    try (with_reducible rfl)
    unfold s_X12_has
    first | refine i_neg a0 ?_ | rw [if_neg a0]
    first | refine i_neg a1 ?_ | rw [if_neg a1]
    first | refine i_neg a2 ?_ | rw [if_neg a2]
    first | refine i_neg a3 ?_ | rw [if_neg a3]
    first | refine i_pos a4 ?_ | rw [if_pos a4]
    try (with_reducible rfl)
    refine ⟨by first | decide | (unfold vp_in; decide), ?_, hI⟩
    rw [show ((0 : Int32)).toNatClampNeg = 0 by first | decide | (unfold vp_in; decide), hL.1, hl 0 (by omega)]
  first | refine i_neg a4 ?_ | rw [if_neg a4]
  try (with_reducible rfl)
  by_cases a5 : v = 5
  · first | refine i_pos a5 ?_ | rw [if_pos a5]
    try (with_reducible rfl)
    obtain ⟨f, hf⟩ : ∃ f : Nat → Nat, ∀ p, p < 36 → u.1 44 p = nI (f p) ∧ (∀ c, cel P c → p = pl P c → f p = N (2 + 3 * c)) ∧ (pc P * pr P ≤ p → f p = 0) := by
      refine ⟨fun p => if p < pc P * pr P then N (2 + 3 * ce P p) else 0, fun p hp => ?_⟩
      by_cases hpa : p < pc P * pr P
      · have hc := (ce_cel hP hpa).1
        have h1 := (hL.2.1 _ hc).2.1
        rw [pl_ce hP hpa] at h1
        simp only [if_pos hpa]
        refine ⟨h1, fun c hcc e => ?_, fun h => absurd h (by omega)⟩
        rw [e, ce_pl hcc]
      · simp only [if_neg hpa]
        refine ⟨hL.2.2.2 p hp (by omega), fun c hcc e => ?_, by first | exact fun _ => rfl | exact fun _ => trivial⟩
        have := pl_lt hcc
        omega
    have hle : ∀ p, p < 36 → f p ≤ 1 := by
      intro p hp
      by_cases hpa : p < pc P * pr P
      · have hc := (ce_cel hP hpa).1
        rw [(hf p hp).2.1 _ hc (pl_ce hP hpa).symm]
        exact (hN.2.1 _ hc).2.1
      · rw [(hf p hp).2.2 (by omega)]
        omega
    have heq := stones_eq hP hN (f := f) (fun c hc => (hf _ (pl_36 hP hc)).2.1 c hc rfl) (fun p hp h => (hf p hp).2.2 h)
    unfold s_X1_stones sX1_stones_p13
    have key := for_up (fun n i (s : Int32 × St) => sX1_stones_p13n (42 + 2) (nI 36) (fun r7 u8 => s_X12_has v (fun r2 u2 => r7 = r2 ∧ Inv u2) u8) n s.1 i s.2) 36 (fun i s => s.2 = u ∧ s.1 = nI (sm f i)) ?_ 0 (0, u) (by omega) ⟨rfl, rfl⟩
    · exact key
    rintro n i ⟨x, s⟩ hi ⟨rfl, rfl⟩ hnext
    show sX1_stones_p13b (42 + 2) (nI 36) (fun r7 u8 => s_X12_has v (fun r2 u2 => r7 = r2 ∧ Inv u2) u8) (sX1_stones_p13n (42 + 2) (nI 36) (fun r7 u8 => s_X12_has v (fun r2 u2 => r7 = r2 ∧ Inv u2) u8) n) (nI (sm f i)) (nI i) s
    unfold sX1_stones_p13b
    by_cases hi36 : i = 36
    · subst hi36
      first | refine i_pos (nI_le (Nat.le_refl _) (by omega)) ?_ | rw [if_pos (nI_le (Nat.le_refl _) (by omega))]
      try (with_reducible rfl)
      unfold s_X12_has
      first | refine i_neg a0 ?_ | rw [if_neg a0]
      first | refine i_neg a1 ?_ | rw [if_neg a1]
      first | refine i_neg a2 ?_ | rw [if_neg a2]
      first | refine i_neg a3 ?_ | rw [if_neg a3]
      first | refine i_neg a4 ?_ | rw [if_neg a4]
      first | refine i_pos a5 ?_ | rw [if_pos a5]
      try (with_reducible rfl)
      unfold s_X12_stoneMany sX12_stoneMany_p4
      have key2 := for_up (fun n i (z : Int32 × St) => sX12_stoneMany_p4n (fun r11 u12 => nI (sm f 36) = r11 ∧ Inv u12) n z.1 i z.2) 36 (fun i z => z.2 = s ∧ z.1 = nI (sm (fun c => N (2 + 3 * c)) i)) ?_ 0 (0, s) (by omega) ⟨rfl, rfl⟩
      · exact key2
      rintro n2 j ⟨x, z⟩ hj ⟨rfl, rfl⟩ hnext2
      show sX12_stoneMany_p4b (fun r11 u12 => nI (sm f 36) = r11 ∧ Inv u12) (sX12_stoneMany_p4n (fun r11 u12 => nI (sm f 36) = r11 ∧ Inv u12) n2) (nI (sm (fun c => N (2 + 3 * c)) j)) (nI j) z
      unfold sX12_stoneMany_p4b
      by_cases hj36 : j = 36
      · subst hj36
        first | refine i_pos (nI_le (a := 36) (Nat.le_refl _) (by omega)) ?_ | rw [if_pos (nI_le (a := 36) (Nat.le_refl _) (by omega))]
        rw [heq]
        exact ⟨by first | rfl | trivial, hI⟩
      · first | refine i_neg (nI_ge (b := 36) (by omega) (by omega)) ?_ | rw [if_neg (nI_ge (b := 36) (by omega) (by omega))]
        try (with_reducible rfl)
        have hr := r_now (k := 2) (c := j) hl (by omega) (by omega)
        refine ⟨hr.2, ?_⟩
        have e2 : z.1 241 ((2 : Int32) + 3 * nI j).toNatClampNeg = nI (N (2 + 3 * j)) := hr.1
        rw [e2, nI_add, nI_1]
        exact hnext2 (by omega) (nI (sm (fun c => N (2 + 3 * c)) (j + 1)), z) ⟨rfl, rfl⟩
    · first | refine i_neg (nI_ge (by omega) (by omega)) ?_ | rw [if_neg (nI_ge (by omega) (by omega))]
      rw [nI_clamp (by omega), show s.1 (42 + 2) i = nI (f i) from (hf i (by omega)).1, nI_add, nI_1]
      exact ⟨vp_in_nI (by omega) (by omega), hnext (by omega) (nI (sm f (i + 1)), s) ⟨rfl, rfl⟩⟩
  first | refine i_neg a5 ?_ | rw [if_neg a5]
  try (with_reducible rfl)
  by_cases a6 : v = 6
  · first | refine i_pos a6 ?_ | rw [if_pos a6]
    rw [hT.1.1, hT.1.2.2.1]
    have hr : ∀ r : Int32, r = (if pc P = 0 then -1 else nI (ps P)) → s_X12_has v (fun r2 u2 => r = r2 ∧ Inv u2) u := by
      intro r e
      unfold s_X12_has
      first | refine i_neg a0 ?_ | rw [if_neg a0]
      first | refine i_neg a1 ?_ | rw [if_neg a1]
      first | refine i_neg a2 ?_ | rw [if_neg a2]
      first | refine i_neg a3 ?_ | rw [if_neg a3]
      first | refine i_neg a4 ?_ | rw [if_neg a4]
      first | refine i_neg a5 ?_ | rw [if_neg a5]
      first | refine i_pos a6 ?_ | rw [if_pos a6]
      rw [hM.1.1, hM.1.2.1]
      by_cases h0 : pc P = 0
      · have e1 : (if pc P = 0 then (0 : Int32) else 1) = 0 := if_pos h0
        rw [e1]
        first | refine i_pos rfl ?_ | rw [if_pos rfl]
        rw [e]
        exact ⟨if_pos h0, hI⟩
      · have e1 : (if pc P = 0 then (0 : Int32) else 1) = 1 := if_neg h0
        rw [e1]
        first | refine i_neg n01 ?_ | rw [if_neg n01]
        rw [e]
        exact ⟨if_neg h0, hI⟩
    by_cases h0 : pc P = 0
    · rw [h0]
      first | refine i_pos rfl ?_ | rw [if_pos rfl]
      try (with_reducible rfl)
      exact hr _ (if_pos h0).symm
    · first | refine i_neg (nI_ne0 (by omega) (by omega)) ?_ | rw [if_neg (nI_ne0 (by omega) (by omega))]
      try (with_reducible rfl)
      exact hr _ (if_neg h0).symm
  first | refine i_neg a6 ?_ | rw [if_neg a6]
  try (with_reducible rfl)
  by_cases a7 : v = 7
  · first | refine i_pos a7 ?_ | rw [if_pos a7]
    try (with_reducible rfl)
    have heq : sm (fun f => N (109 + f)) 6 = sm (fun f => N (109 + f)) (pf P) := sm_0 6 hpf (fun i h1 h2 => hN.2.2.2.2.1 i h1 h2)
    unfold s_X1_pies sX1_pies_p13
    have key := for_up (fun n i (s : Int32 × St) => sX1_pies_p13n (42 + 4) (nI 6) (fun r7 u8 => s_X12_has v (fun r2 u2 => r7 = r2 ∧ Inv u2) u8) n s.1 i s.2) 6 (fun i s => s.2 = u ∧ s.1 = nI (sm (fun f => N (109 + f)) i)) ?_ 0 (0, u) (by omega) ⟨rfl, rfl⟩
    · exact key
    rintro n i ⟨x, s⟩ hi ⟨rfl, rfl⟩ hnext
    show sX1_pies_p13b (42 + 4) (nI 6) (fun r7 u8 => s_X12_has v (fun r2 u2 => r7 = r2 ∧ Inv u2) u8) (sX1_pies_p13n (42 + 4) (nI 6) (fun r7 u8 => s_X12_has v (fun r2 u2 => r7 = r2 ∧ Inv u2) u8) n) (nI (sm (fun f => N (109 + f)) i)) (nI i) s
    unfold sX1_pies_p13b
    by_cases hi6 : i = 6
    · subst hi6
      first | refine i_pos (nI_le (Nat.le_refl _) (by omega)) ?_ | rw [if_pos (nI_le (Nat.le_refl _) (by omega))]
      try (with_reducible rfl)
      unfold s_X12_has
      first | refine i_neg a0 ?_ | rw [if_neg a0]
      first | refine i_neg a1 ?_ | rw [if_neg a1]
      first | refine i_neg a2 ?_ | rw [if_neg a2]
      first | refine i_neg a3 ?_ | rw [if_neg a3]
      first | refine i_neg a4 ?_ | rw [if_neg a4]
      first | refine i_neg a5 ?_ | rw [if_neg a5]
      first | refine i_neg a6 ?_ | rw [if_neg a6]
      first | refine i_pos a7 ?_ | rw [if_pos a7]
      try (with_reducible rfl)
      unfold s_X12_pieAll sX12_pieAll_p4
      have key2 := for_up (fun n i (z : Int32 × St) => sX12_pieAll_p4n (fun r11 u12 => nI (sm (fun f => N (109 + f)) 6) = r11 ∧ Inv u12) n z.1 i z.2) (pf P) (fun i z => z.2 = s ∧ z.1 = nI (sm (fun f => N (109 + f)) i)) ?_ 0 (0, s) (by omega) ⟨rfl, rfl⟩
      · exact key2
      rintro n2 j ⟨x, z⟩ hj ⟨rfl, rfl⟩ hnext2
      show sX12_pieAll_p4b (fun r11 u12 => nI (sm (fun f => N (109 + f)) 6) = r11 ∧ Inv u12) (sX12_pieAll_p4n (fun r11 u12 => nI (sm (fun f => N (109 + f)) 6) = r11 ∧ Inv u12) n2) (nI (sm (fun f => N (109 + f)) j)) (nI j) z
      unfold sX12_pieAll_p4b
      refine r_farmMany hM ?_
      by_cases hje : j = pf P
      · first | refine i_pos (by rw [hje]; exact nI_le (Nat.le_refl _) (by omega)) ?_ | rw [if_pos (by rw [hje]; exact nI_le (Nat.le_refl _) (by omega))]
        rw [heq, hje]
        exact ⟨by first | rfl | trivial, hI⟩
      · first | refine i_neg (nI_ge (by omega) (by omega)) ?_ | rw [if_neg (nI_ge (by omega) (by omega))]
        try (with_reducible rfl)
        refine r_pieOf hl (by omega) ?_
        rw [nI_add, nI_1]
        exact hnext2 (by omega) (nI (sm (fun f => N (109 + f)) (j + 1)), z) ⟨rfl, rfl⟩
    · first | refine i_neg (nI_ge (by omega) (by omega)) ?_ | rw [if_neg (nI_ge (by omega) (by omega))]
      rw [nI_clamp (by omega), show s.1 (42 + 4) i = nI (N (109 + i)) from hL.2.2.1 i (by omega), nI_add, nI_1]
      exact ⟨vp_in_nI (by omega) (by omega), hnext (by omega) (nI (sm (fun f => N (109 + f)) (i + 1)), s) ⟨rfl, rfl⟩⟩
  first | refine i_neg a7 ?_ | rw [if_neg a7]
  try (with_reducible rfl)
  by_cases a8 : v = 8
  · first | refine i_pos a8 ?_ | rw [if_pos a8]
    try (with_reducible rfl)
    obtain ⟨Y, E, n, o, w, Sk, ys, h1, h2, h3, h4, hrest⟩ := hC.1.2.2.2.2.2.2.2.2.2.1
    have hn0 := hN.1
    rw [h2]
    refine q_min40 (by omega) ?_
    unfold s_X12_has
    first | refine i_neg a0 ?_ | rw [if_neg a0]
    first | refine i_neg a1 ?_ | rw [if_neg a1]
    first | refine i_neg a2 ?_ | rw [if_neg a2]
    first | refine i_neg a3 ?_ | rw [if_neg a3]
    first | refine i_neg a4 ?_ | rw [if_neg a4]
    first | refine i_neg a5 ?_ | rw [if_neg a5]
    first | refine i_neg a6 ?_ | rw [if_neg a6]
    first | refine i_neg a7 ?_ | rw [if_neg a7]
    first | refine i_pos a8 ?_ | rw [if_pos a8]
    try (with_reducible rfl)
    refine ⟨by first | decide | (unfold vp_in; decide), ?_, hI⟩
    rw [show ((115 : Int32)).toNatClampNeg = 115 by first | decide | (unfold vp_in; decide), hl 115 (by omega), h4.1]
  first | refine i_neg a8 ?_ | rw [if_neg a8]
  try (with_reducible rfl)
  by_cases a9 : v = 9
  · first | refine i_pos a9 ?_ | rw [if_pos a9]
    try (with_reducible rfl)
    obtain ⟨n, R, C, h1, h2, h3, h4⟩ := hC.1.2.2.2.2.2.2.2.1
    unfold s_X12_has
    first | refine i_neg a0 ?_ | rw [if_neg a0]
    first | refine i_neg a1 ?_ | rw [if_neg a1]
    first | refine i_neg a2 ?_ | rw [if_neg a2]
    first | refine i_neg a3 ?_ | rw [if_neg a3]
    first | refine i_neg a4 ?_ | rw [if_neg a4]
    first | refine i_neg a5 ?_ | rw [if_neg a5]
    first | refine i_neg a6 ?_ | rw [if_neg a6]
    first | refine i_neg a7 ?_ | rw [if_neg a7]
    first | refine i_neg a8 ?_ | rw [if_neg a8]
    first | refine i_pos a9 ?_ | rw [if_pos a9]
    rw [h2, h3]
    exact ⟨by first | rfl | trivial, hI⟩
  first | refine i_neg a9 ?_ | rw [if_neg a9]
  try (with_reducible rfl)
  by_cases a10 : v = 10
  · first | refine i_pos a10 ?_ | rw [if_pos a10]
    try (with_reducible rfl)
    obtain ⟨Y, E, n, o, w, Sk, ys, h1, h2, h3, h4, h5, h6', h7, h8, h9, hrest⟩ := hC.1.2.2.2.2.2.2.2.2.2.1
    unfold s_X12_has
    first | refine i_neg a0 ?_ | rw [if_neg a0]
    first | refine i_neg a1 ?_ | rw [if_neg a1]
    first | refine i_neg a2 ?_ | rw [if_neg a2]
    first | refine i_neg a3 ?_ | rw [if_neg a3]
    first | refine i_neg a4 ?_ | rw [if_neg a4]
    first | refine i_neg a5 ?_ | rw [if_neg a5]
    first | refine i_neg a6 ?_ | rw [if_neg a6]
    first | refine i_neg a7 ?_ | rw [if_neg a7]
    first | refine i_neg a8 ?_ | rw [if_neg a8]
    first | refine i_neg a9 ?_ | rw [if_neg a9]
    first | refine i_pos a10 ?_ | rw [if_pos a10]
    rw [h8, h9]
    exact ⟨by first | rfl | trivial, hI⟩
  · first | refine i_neg a10 ?_ | rw [if_neg a10]
    try (with_reducible rfl)
    unfold s_X12_has
    first | refine i_neg a0 ?_ | rw [if_neg a0]
    first | refine i_neg a1 ?_ | rw [if_neg a1]
    first | refine i_neg a2 ?_ | rw [if_neg a2]
    first | refine i_neg a3 ?_ | rw [if_neg a3]
    first | refine i_neg a4 ?_ | rw [if_neg a4]
    first | refine i_neg a5 ?_ | rw [if_neg a5]
    first | refine i_neg a6 ?_ | rw [if_neg a6]
    first | refine i_neg a7 ?_ | rw [if_neg a7]
    first | refine i_neg a8 ?_ | rw [if_neg a8]
    first | refine i_neg a9 ?_ | rw [if_neg a9]
    first | refine i_neg a10 ?_ | rw [if_neg a10]
    try (with_reducible rfl)
    exact ⟨by first | rfl | trivial, hI⟩
