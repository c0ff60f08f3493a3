/-! ===== dig, stone, undo ===== -/
theorem act_go {u u1 : St} {P : Pl} {N : Nat → Nat} {a q j x Y n o' w : Nat} {E S : Nat → Nat → Nat} {ys : Nat → Nat} {Q : St → Prop} (hC : Ctx u P N) (hn : n ≤ 20) (ho' : o' < 20) (hw : w < 20) (g1 : Y ≤ N 0) (g2 : u.1 42 1 = nI Y) (g3 : ∀ k, k < Y → u.1 54 k = nI (E 0 k) ∧ u.1 55 k = nI (E 1 k) ∧ u.1 56 k = nI (E 2 k)) (g4 : KR E Y N) (g9 : mStk u n w S) (g10 : pStk P E Y n S ys)
    (k1 : Kp (fun a _ => a ≠ 52 ∧ ¬ (57 ≤ a ∧ a ≤ 156)) u u1) (s1 : cStk u1 P (pun n) o' (pus S N n) (pus ys Y n)) (ha : 43 ≤ a ∧ a ≤ 46) (hj : 0 < j ∧ j < 115) (hV : VN P (upN N j x)) (hl : ∀ z, cLa z 42 P N → cLa (tI z a q (nI x)) 42 P (upN N j x))
    (hQ : ∀ u3, mPl u3 P → mLa u3 N → u3.1 a q = nI x → (∀ K : St → Prop, (∀ u8, mLa u8 N → Inv (tI u8 241 j (nI x)) → mLa (tI u8 241 j (nI x)) (upN N j x) → K u8) → s_X12_keeps K u3) → Q u3) : s_X11_forgetWays Q (tI u1 a q (nI x)) := by
  refine q_forget (fun u3 k3 z3 => ?_)
  have k2 : Kp (fun b _ => b ≠ a) u1 (tI u1 a q (nI x)) := kp_I (kp_r u1) (by omega)
  have k123 : Kp (fun b k => b ≠ a ∧ b ≠ 52 ∧ ¬ (57 ≤ b ∧ b ≤ 156) ∧ ¬ (178 ≤ b ∧ b ≤ 194 ∧ (b - 178) % 4 = 0 ∧ k = 5)) u u3 := kp_t (kp_m k1 (fun b k h => by omega)) (kp_t (kp_m k2 (fun b k h => by omega)) (kp_m k3 (fun b k h => by omega)))
  have hM3 : mPl u3 P := mPl_K (ctx_m hC) k123 (fun b k h => by omega)
  have hL3 : mLa u3 N := mLa_K (ctx_n hC) k123 (fun k => by omega)
  have hS3 : mStk u3 n w S := mStk_K g9 k123 (fun b k h => by omega)
  refine hQ u3 hM3 hL3 ?_ (fun K hK => ?_)
  · rw [k3.1 a q (by omega), t_s]
  refine r_keeps hn hw hS3 hL3 (fun u4 k4 m4 => ?_)
  have k5 : Kp (fun b _ => b ≠ 241) u4 (tI u4 241 j (nI x)) := kp_I (kp_r u4) (by omega)
  have hl4 : mLa u4 N := mLa_K hL3 k4 (fun k => by omega)
  have kall : Kp (fun a k => ¬ (42 ≤ a ∧ a ≤ 46 ∧ ¬ (a = 42 ∧ k = 1)) ∧ a ≠ 52 ∧ ¬ (57 ≤ a ∧ a ≤ 156) ∧ ¬ (178 ≤ a ∧ a ≤ 194 ∧ (a - 178) % 4 = 0 ∧ k = 5) ∧ ¬ (a = 198 ∧ (k = 78 ∨ k = 79)) ∧ a ≠ 254 ∧ a ≠ 241) u (tI u4 241 j (nI x)) := kp_t (kp_m k123 (fun a k h => by omega)) (kp_t (kp_m k4 (fun a k h => by omega)) (kp_m k5 (fun a k h => by omega)))
  have k35 : Kp (fun a k => ¬ (a = 198 ∧ (k = 78 ∨ k = 79)) ∧ a ≠ 254 ∧ a ≠ 241) u3 (tI u4 241 j (nI x)) := kp_t (kp_m k4 (fun a k h => by omega)) (kp_m k5 (fun a k h => by omega))
  have k25 : Kp (fun a k => ¬ (178 ≤ a ∧ a ≤ 194 ∧ (a - 178) % 4 = 0 ∧ k = 5) ∧ ¬ (a = 198 ∧ (k = 78 ∨ k = 79)) ∧ a ≠ 254 ∧ a ≠ 241) (tI u1 a q (nI x)) (tI u4 241 j (nI x)) := kp_t (kp_m k3 (fun a k h => by omega)) (kp_m k35 (fun a k h => by omega))
  refine hK u4 hl4 ?_ (mLa_up hl4)
  refine act_fin (N' := upN N j x) hC hn ho' hw g1 g2 g3 g4 g10 kall ?_ (mStk_K m4 k5 (fun a k h => by omega)) (fun k hk => ?_) hV ?_ (mLa_up hl4) (upN_n _ (by omega)) (fun k c d => upN_n _ (by omega))
  · exact cStk_K (cStk_K s1 k2 (fun a k h => by omega)) k25 (fun a k h => by omega)
  · rw [k35.1 _ _ (by omega)]
    exact z3 k hk
  · exact cLa_K (hl u1 (cLa_K (ctx_l hC) k1 (fun a k h1 h2 h3 => by omega))) k25 (fun a k h1 h2 h3 => by omega)
theorem vn_cell {P : Pl} {N : Nat → Nat} {c i x : Nat} (hP : VP P) (hN : VN P N) (hc : cel P c) (hi : i < 2) (hx : x ≤ (if i = 0 then 9 else 1)) : VN P (upN N (1 + i + 3 * c) x) := by
  have h36 := cel_lt hP hc
  have hpf := hP.2.2.2.2.1
  refine ⟨by rw [upN_n _ (by omega)]; exact hN.1, fun d hd => ?_, fun d hd h => ?_, fun g hg => ?_, fun g hg hg6 => ?_, by rw [upN_n _ (by omega)]; exact hN.2.2.2.2.2.1, fun k hk => by rw [upN_n _ (by omega)]; exact hN.2.2.2.2.2.2 k hk⟩
  · have hn := hN.2.1 d hd
    have hd36 := cel_lt hP hd
    refine ⟨?_, ?_, ?_⟩
    · by_cases e : 1 + 3 * d = 1 + i + 3 * c
      · have e0 : i = 0 := by omega
        rw [e, upN_s]
        rw [if_pos e0] at hx
        exact hx
      · rw [upN_n _ e]
        exact hn.1
    · by_cases e : 2 + 3 * d = 1 + i + 3 * c
      · rw [e, upN_s]
        rw [if_neg (by omega)] at hx
        exact hx
      · rw [upN_n _ e]
        exact hn.2.1
    · rw [upN_n _ (by omega)]
      exact hn.2.2
  · have : d ≠ c := fun e => h (by rw [e]; exact hc)
    rw [upN_n _ (by omega)]
    exact hN.2.2.1 d hd h
  · rw [upN_n _ (by omega)]
    exact hN.2.2.2.1 g hg
  · rw [upN_n _ (by omega)]
    exact hN.2.2.2.2.1 g hg hg6
theorem cla_cell {P : Pl} {N : Nat → Nat} {c i x : Nat} (hP : VP P) (hc : cel P c) (hi : i < 2) : ∀ z : St, cLa z 42 P N → cLa (tI z (43 + i) (pl P c) (nI x)) 42 P (upN N (1 + i + 3 * c) x) := by
  intro z hz
  have h36 := cel_lt hP hc
  have hp := pl_lt hc
  refine ⟨by rw [t_n _ _ (by omega), upN_n _ (by omega)]; exact hz.1, fun d hd => ?_, fun g hg => ?_, fun p hp1 hp2 => ?_⟩
  · have h := hz.2.1 d hd
    have hd36 := cel_lt hP hd
    have hne : d ≠ c → pl P d ≠ pl P c := fun e e2 => e (pl_inj hd hc e2)
    refine ⟨?_, ?_, ?_⟩
    · by_cases e : d = c ∧ i = 0
      · obtain ⟨rfl, rfl⟩ := e
        rw [show 1 + 3 * d = 1 + 0 + 3 * d by omega, upN_s]
        exact t_s _ _ _ _
      · rw [upN_n _ (by omega), t_n _ _ (by
          by_cases e2 : d = c
          · exact Or.inl (by omega)
          · exact Or.inr (hne e2))]
        exact h.1
    · by_cases e : d = c ∧ i = 1
      · obtain ⟨rfl, rfl⟩ := e
        rw [show 2 + 3 * d = 1 + 1 + 3 * d by omega, upN_s]
        exact t_s _ _ _ _
      · rw [upN_n _ (by omega), t_n _ _ (by
          by_cases e2 : d = c
          · exact Or.inl (by omega)
          · exact Or.inr (hne e2))]
        exact h.2.1
    · rw [upN_n _ (by omega), t_n _ _ (by omega)]
      exact h.2.2
  · rw [t_n _ _ (by omega), upN_n _ (by omega)]
    exact hz.2.2.1 g hg
  · rw [t_n _ _ (by omega)]
    exact hz.2.2.2 p hp1 hp2
theorem call_dig (v1 v2 : Int32) : Call (s_X11_dig v1 v2) (s_X12_dig v1 v2) := by
  rintro u ⟨P, N, hC⟩
  have hC : Ctx u P N := hC
  have hP := ctx_vp hC
  have hN := ctx_vn hC
  have hT := ctx_c hC
  have hM := ctx_m hC
  have hL := ctx_l hC
  have hI := inv_of hC
  have h6 := hP.1
  have h7 := hP.2.1
  have c177 := ctx_177 (k := 3) (x := u.1 177 3 + 1) hC
  have hb : sX12_dig_p28 (fun r2 u2 => (-1 : Int32) = r2 ∧ Inv u2) (tI u 177 3 (u.1 177 3 + 1)) := by
    unfold sX12_dig_p28
    exact inv_ref3 hI (k := 3) (by omega) (fun u' h => ⟨rfl, h⟩)
  unfold s_X11_dig
  refine q_placeOf hT.1.1 hT.1.2.1 (by omega) (by omega) (fun x y hx hy e1 e2 => ?_) (fun hn => ?_)
  · obtain ⟨hc, hpl⟩ := pl_of (P := P) hx hy h6
    have h36 := cel_lt hP hc
    have hp36 := pl_36 hP hc
    have hl := hL.2.1 _ hc
    have hn := hN.2.1 _ hc
    rw [← hpl]
    first | refine i_neg (by rw [x_ne1 (by omega)]; exact id) ?_ | rw [if_neg (by rw [x_ne1 (by omega)]; exact id)]
    rw [nI_clamp (by omega), show u.1 44 (pl P (x + 6 * y)) = nI (N (2 + 3 * (x + 6 * y))) from hl.2.1, show u.1 43 (pl P (x + 6 * y)) = nI (N (1 + 3 * (x + 6 * y))) from hl.1]
    refine ⟨vp_in_nI hp36 (by omega), ?_⟩
    have hrf : (N (2 + 3 * (x + 6 * y)) = 1 ∨ N (1 + 3 * (x + 6 * y)) = 0) → sX11_dig_p40 (fun r u1 => s_X12_dig v1 v2 (fun r2 u2 => r = r2 ∧ Inv u2) u1) u := by
      intro hor
      unfold sX11_dig_p40
      refine q_refuse (k := 3) (by omega) ?_
      unfold s_X12_dig
      rw [e1, e2]
      refine r_cellAt_v hP c177.2.2.1 hx hy ?_
      first | refine i_neg (by rw [x_ne1 (by omega)]; exact id) ?_ | rw [if_neg (by rw [x_ne1 (by omega)]; exact id)]
      try (with_reducible rfl)
      refine r_isStone hP hN c177.2.2.2 hc (fun _ => ?_) (fun hs => ?_)
      · first | refine i_neg (by first | decide | (unfold vp_in; decide)) ?_ | rw [if_neg (by first | decide | (unfold vp_in; decide))]
        try (with_reducible rfl)
        exact hb
      · first | refine i_pos rfl ?_ | rw [if_pos rfl]
        try (with_reducible rfl)
        refine r_heightOf c177.2.2.2 h36 ?_
        rcases hor with h | h
        · exact absurd h hs
        · rw [h]
          first | refine i_pos (by rfl) ?_ | rw [if_pos (by rfl)]
          try (with_reducible rfl)
          exact hb
    by_cases hs : N (2 + 3 * (x + 6 * y)) = 1
    · rw [hs]
      first | refine i_pos (by rfl) ?_ | rw [if_pos (by rfl)]
      try (with_reducible rfl)
      exact hrf (Or.inl hs)
    first | refine i_neg (x_ne (k := 1) (by omega) (by omega) hs) ?_ | rw [if_neg (x_ne (k := 1) (by omega) (by omega) hs)]
    try (with_reducible rfl)
    refine ⟨vp_in_nI hp36 (by omega), ?_⟩
    by_cases hh : N (1 + 3 * (x + 6 * y)) = 0
    · rw [hh]
      first | refine i_pos (by rfl) ?_ | rw [if_pos (by rfl)]
      try (with_reducible rfl)
      exact hrf (Or.inr hh)
    first | refine i_neg (nI_ne0 (by omega) (by omega)) ?_ | rw [if_neg (nI_ne0 (by omega) (by omega))]
    try (with_reducible rfl)
    obtain ⟨Y, E, n, o, w, S, ys, g1, g2, g3, g4, g5, g6, g7, g8, g9, g10⟩ := past_of hC.1.2.2.2.2.2.2.2.2.2.1
    refine q_remember hP g5 g6 g8 hL g2 (fun u1 o' ho' k1 s1 => ?_)
    refine ⟨vp_in_nI hp36 (by omega), ?_⟩
    show s_X11_forgetWays _ (tI u1 43 (pl P (x + 6 * y)) (u1.1 43 (pl P (x + 6 * y)) - 1))
    rw [k1.1 43 _ (by omega), show u.1 43 (pl P (x + 6 * y)) = nI (N (1 + 3 * (x + 6 * y))) from hl.1, show nI (N (1 + 3 * (x + 6 * y))) - 1 = nI (N (1 + 3 * (x + 6 * y)) - 1) from pk_sub (b := 1) (by omega)]
    refine act_go (a := 43) (j := 1 + 3 * (x + 6 * y)) hC g5 ho' g7 g1 g2 g3 g4 g9 g10 k1 s1 (by omega) (by omega) ?_ ?_ (fun u3 hM3 hL3 hq hkeep => ?_)
    · have := vn_cell (i := 0) (x := N (1 + 3 * (x + 6 * y)) - 1) hP hN hc (by omega) (by rw [if_pos rfl]; omega)
      rw [show 1 + 0 + 3 * (x + 6 * y) = 1 + 3 * (x + 6 * y) by omega] at this
      exact this
    · have := cla_cell (N := N) (i := 0) (x := N (1 + 3 * (x + 6 * y)) - 1) hP hc (by omega)
      rw [show 1 + 0 + 3 * (x + 6 * y) = 1 + 3 * (x + 6 * y) by omega] at this
      exact this
    rw [hq]
    refine ⟨vp_in_nI hp36 (by omega), ?_⟩
    unfold s_X12_dig
    rw [e1, e2]
    refine r_cellAt_v hP hM3 hx hy ?_
    first | refine i_neg (by rw [x_ne1 (by omega)]; exact id) ?_ | rw [if_neg (by rw [x_ne1 (by omega)]; exact id)]
    try (with_reducible rfl)
    refine r_isStone hP hN hL3 hc (fun h => absurd h hs) (fun _ => ?_)
    first | refine i_pos rfl ?_ | rw [if_pos rfl]
    try (with_reducible rfl)
    refine r_heightOf hL3 h36 ?_
    first | refine i_neg (nI_ne0 (by omega) (by omega)) ?_ | rw [if_neg (nI_ne0 (by omega) (by omega))]
    try (with_reducible rfl)
    refine hkeep _ (fun u8 hl8 hi8 hm8 => ?_)
    have hr := r_now (k := 1) (c := x + 6 * y) hl8 (by omega) (by omega)
    refine ⟨hr.2, ?_⟩
    have ej : ((1 : Int32) + 3 * nI (x + 6 * y)).toNatClampNeg = 1 + 3 * (x + 6 * y) := by
      rw [show (3 : Int32) * nI (x + 6 * y) = nI (3 * (x + 6 * y)) from pk_mul 3 _, show (1 : Int32) + nI (3 * (x + 6 * y)) = nI (1 + 3 * (x + 6 * y)) from nI_add 1 _, nI_clamp (by omega)]
    simp only [bnd]
    rw [ej, hl8 _ (by omega), show nI (N (1 + 3 * (x + 6 * y))) - 1 = nI (N (1 + 3 * (x + 6 * y)) - 1) from pk_sub (b := 1) (by omega)]
    refine r_heightOf hm8 h36 ⟨?_, hi8⟩
    rw [upN_s]
  · first | refine i_pos rfl ?_ | rw [if_pos rfl]
    try (with_reducible rfl)
    unfold sX11_dig_p40
    refine q_refuse (k := 3) (by omega) ?_
    unfold s_X12_dig
    refine r_cellAt_n hP c177.2.2.1 hn ?_
    first | refine i_pos rfl ?_ | rw [if_pos rfl]
    try (with_reducible rfl)
    exact hb
theorem call_stone (v1 v2 v3 : Int32) : Call (s_X11_stone v1 v2 v3) (s_X12_stone v1 v2 v3) := by
  rintro u ⟨P, N, hC⟩
  have hC : Ctx u P N := hC
  have hP := ctx_vp hC
  have hN := ctx_vn hC
  have hT := ctx_c hC
  have hM := ctx_m hC
  have hL := ctx_l hC
  have hI := inv_of hC
  have h6 := hP.1
  have h7 := hP.2.1
  have c177 := ctx_177 (k := 3) (x := u.1 177 3 + 1) hC
  have hb : sX12_stone_p39 (fun r2 u2 => (0 : Int32) = r2 ∧ Inv u2) (tI u 177 3 (u.1 177 3 + 1)) := by
    unfold sX12_stone_p39
    exact inv_ref3b hI (fun u' h => ⟨Or.inl rfl, rfl, h⟩)
  unfold s_X11_stone
  refine q_placeOf hT.1.1 hT.1.2.1 (by omega) (by omega) (fun x y hx hy e1 e2 => ?_) (fun hn => ?_)
  · obtain ⟨hc, hpl⟩ := pl_of (P := P) hx hy h6
    have h36 := cel_lt hP hc
    have hp36 := pl_36 hP hc
    have hl := hL.2.1 _ hc
    have hn := hN.2.1 _ hc
    rw [← hpl]
    first | refine i_neg (by rw [x_ne1 (by omega)]; exact id) ?_ | rw [if_neg (by rw [x_ne1 (by omega)]; exact id)]
    rw [nI_clamp (by omega), show u.1 44 (pl P (x + 6 * y)) = nI (N (2 + 3 * (x + 6 * y))) from hl.2.1]
    have hj : ∀ z : St, mLa z N → z.1 241 ((2 : Int32) + 3 * nI (x + 6 * y)).toNatClampNeg = nI (N (2 + 3 * (x + 6 * y))) ∧ vp_in ((2 : Int32) + 3 * nI (x + 6 * y)) 236 := fun z hz => r_now (k := 2) (c := x + 6 * y) hz (by omega) (by omega)
    have hrf : ((¬ ∃ b, b < 2 ∧ v3 = nI b) ∨ v3 = nI (N (2 + 3 * (x + 6 * y)))) → sX11_stone_p40 (fun r u1 => s_X12_stone v1 v2 v3 (fun r2 u2 => r = r2 ∧ Inv u2) u1) u := by
      intro hor
      unfold sX11_stone_p40
      refine q_refuse (k := 3) (by omega) ?_
      unfold s_X12_stone
      rw [e1, e2]
      refine r_cellAt_v hP c177.2.2.1 hx hy ?_
      first | refine i_neg (by rw [x_ne1 (by omega)]; exact id) ?_ | rw [if_neg (by rw [x_ne1 (by omega)]; exact id)]
      try (with_reducible rfl)
      refine r_below (v := v3) (n := 2) (by omega) (fun b hb2 eb => ?_) (fun _ => ?_)
      · first | refine i_neg (by first | decide | (unfold vp_in; decide)) ?_ | rw [if_neg (by first | decide | (unfold vp_in; decide))]
        rw [(hj _ c177.2.2.2).1]
        refine ⟨(hj _ c177.2.2.2).2, ?_⟩
        rcases hor with h | h
        · exact absurd ⟨b, hb2, eb⟩ h
        · first | refine i_pos h.symm ?_ | rw [if_pos h.symm]
          try (with_reducible rfl)
          exact hb
      · first | refine i_pos rfl ?_ | rw [if_pos rfl]
        try (with_reducible rfl)
        exact hb
    by_cases hv : v3 < 0
    · first | refine i_pos hv ?_ | rw [if_pos hv]
      try (with_reducible rfl)
      refine hrf (Or.inl ?_)
      rintro ⟨b, hb2, rfl⟩
      exact nI_pos (by omega) hv
    first | refine i_neg hv ?_ | rw [if_neg hv]
    try (with_reducible rfl)
    obtain ⟨b, hb31, rfl⟩ := nI_of hv
    by_cases hb1 : 1 < b
    · first | refine i_pos (nI_lt (a := 1) hb1 (by omega)) ?_ | rw [if_pos (nI_lt (a := 1) hb1 (by omega))]
      try (with_reducible rfl)
      refine hrf (Or.inl ?_)
      rintro ⟨b', hb2, eb⟩
      rw [nI_eq (by omega) (by omega)] at eb
      omega
    first | refine i_neg (nI_nlt (a := 1) (by omega) (by omega)) ?_ | rw [if_neg (nI_nlt (a := 1) (by omega) (by omega))]
    first | rw [ite_c (nI_eq (by omega) (by omega))] | rw [nI_eq (by omega) (by omega)]
    try (with_reducible rfl)
    refine ⟨vp_in_nI hp36 (by omega), ?_⟩
    by_cases hs : N (2 + 3 * (x + 6 * y)) = b
    · first | refine i_pos hs ?_ | rw [if_pos hs]
      try (with_reducible rfl)
      exact hrf (Or.inr (by rw [hs]))
    first | refine i_neg hs ?_ | rw [if_neg hs]
    try (with_reducible rfl)
    obtain ⟨Y, E, n, o, w, S, ys, g1, g2, g3, g4, g5, g6, g7, g8, g9, g10⟩ := past_of hC.1.2.2.2.2.2.2.2.2.2.1
    refine q_remember hP g5 g6 g8 hL g2 (fun u1 o' ho' k1 s1 => ?_)
    refine ⟨vp_in_nI hp36 (by omega), ?_⟩
    show s_X11_forgetWays _ (tI u1 44 (pl P (x + 6 * y)) (nI b))
    refine act_go (a := 44) (j := 2 + 3 * (x + 6 * y)) hC g5 ho' g7 g1 g2 g3 g4 g9 g10 k1 s1 (by omega) (by omega) ?_ ?_ (fun u3 hM3 hL3 hq hkeep => ?_)
    · have := vn_cell (i := 1) (x := b) hP hN hc (by omega) (by rw [if_neg (by omega)]; omega)
      rw [show 1 + 1 + 3 * (x + 6 * y) = 2 + 3 * (x + 6 * y) by omega] at this
      exact this
    · have := cla_cell (N := N) (i := 1) (x := b) hP hc (by omega)
      rw [show 1 + 1 + 3 * (x + 6 * y) = 2 + 3 * (x + 6 * y) by omega] at this
      exact this
    unfold s_X12_stone
    rw [e1, e2]
    refine r_cellAt_v hP hM3 hx hy ?_
    first | refine i_neg (by rw [x_ne1 (by omega)]; exact id) ?_ | rw [if_neg (by rw [x_ne1 (by omega)]; exact id)]
    try (with_reducible rfl)
    refine r_below (v := nI b) (n := 2) (by omega) (fun _ _ _ => ?_) (fun hnn => absurd ⟨b, by omega, rfl⟩ hnn)
    first | refine i_neg (by first | decide | (unfold vp_in; decide)) ?_ | rw [if_neg (by first | decide | (unfold vp_in; decide))]
    rw [(hj _ hL3).1]
    first | rw [ite_c (nI_eq (by omega) (by omega))] | rw [nI_eq (by omega) (by omega)]
    try (with_reducible rfl)
    refine ⟨(hj _ hL3).2, ?_⟩
    first | refine i_neg hs ?_ | rw [if_neg hs]
    try (with_reducible rfl)
    refine hkeep _ (fun u8 hl8 hi8 hm8 => ?_)
    refine ⟨(hj _ hl8).2, ?_⟩
    have ej : ((2 : Int32) + 3 * nI (x + 6 * y)).toNatClampNeg = 2 + 3 * (x + 6 * y) := by
      rw [show (3 : Int32) * nI (x + 6 * y) = nI (3 * (x + 6 * y)) from pk_mul 3 _, show (2 : Int32) + nI (3 * (x + 6 * y)) = nI (2 + 3 * (x + 6 * y)) from nI_add 2 _, nI_clamp (by omega)]
    show (1 : Int32) = 1 ∧ Inv (tI u8 241 ((2 : Int32) + 3 * nI (x + 6 * y)).toNatClampNeg (nI b))
    rw [ej]
    exact ⟨rfl, hi8⟩
  · first | refine i_pos rfl ?_ | rw [if_pos rfl]
    try (with_reducible rfl)
    unfold sX11_stone_p40
    refine q_refuse (k := 3) (by omega) ?_
    unfold s_X12_stone
    refine r_cellAt_n hP c177.2.2.1 hn ?_
    first | refine i_pos rfl ?_ | rw [if_pos rfl]
    try (with_reducible rfl)
    exact hb
theorem call_undo : Call (s_X11_undo) (s_X12_undo) := by
  rintro u ⟨P, N, hC⟩
  have hC : Ctx u P N := hC
  have hP := ctx_vp hC
  have hL := ctx_l hC
  have hI := inv_of hC
  have ht := ctx_t hC
  obtain ⟨Y, E, n, o, w, S, ys, g1, g2, g3, g4, g5, g6, g7, g8, g9, g10⟩ := past_of hC.1.2.2.2.2.2.2.2.2.2.1
  unfold s_X11_undo s_X3_restore
  rw [g8.1]
  by_cases h0 : n = 0
  · rw [h0]
    first | refine i_pos (by rfl) ?_ | rw [if_pos (by rfl)]
    first | refine i_pos rfl ?_ | rw [if_pos rfl]
    try (with_reducible rfl)
    refine q_refuse (k := 4) (by omega) ?_
    unfold s_X12_undo
    dsimp only
    rw [t_n _ _ (by omega), g9.1, h0]
    first | refine i_pos (by rfl) ?_ | rw [if_pos (by rfl)]
    try (with_reducible rfl)
    simp only [bnd]
    rw [show ((4 : Int32)).toNatClampNeg = 4 by first | decide | (unfold vp_in; decide), t_n _ _ (by omega)]
    exact ⟨by first | decide | (unfold vp_in; decide), by first | rfl | trivial, inv_ref hI (by omega) rfl⟩
  first | refine i_neg (nI_ne0 (by omega) (by omega)) ?_ | rw [if_neg (nI_ne0 (by omega) (by omega))]
  try (with_reducible rfl)
  simp only [bnd]
  rw [show nI n - 1 = nI (n - 1) from pk_sub (b := 1) (by omega), t_s, t_n _ _ (by omega), g8.2.1, nI_add, show nI (o + (n - 1)) - nI (o + (n - 1)) / 20 * 20 = nI ((o + (n - 1)) % 20) from pk_rem (d := 20) (by omega) (by omega) (by omega), nI_clamp (by omega)]
  refine ⟨vp_in_nI (by omega) (by omega), ?_⟩
  have hr := ol_rng o (n - 1)
  obtain ⟨b1, b2⟩ := g8.2.2 (n - 1) (by omega)
  have k0 : Kp (fun a _ => a ≠ 52) u (tI u 52 0 (nI (n - 1))) := kp_I (kp_r u) (by omega)
  have hst := g10 (n - 1) (by omega)
  refine q_copy (P := P) (N := S (n - 1)) (a := 42) (b := ol o (n - 1)) (Y := ys (n - 1)) hP lsh_42 (lsh_ol _ _) (by omega) (cLa_K b1 k0 (fun a k h1 h2 h3 => by omega)) (by rw [k0.1 _ _ (by omega)]; exact b2) (fun u1 k1 l1 y1 => ?_)
  first | refine i_neg (by first | decide | (unfold vp_in; decide)) ?_ | rw [if_neg (by first | decide | (unfold vp_in; decide))]
  try (with_reducible rfl)
  refine q_forget (fun u2 k2 z2 => ?_)
  have k02 : Kp (fun a k => ¬ (42 ≤ a ∧ a ≤ 46) ∧ a ≠ 52 ∧ ¬ (178 ≤ a ∧ a ≤ 194 ∧ (a - 178) % 4 = 0 ∧ k = 5)) u u2 := kp_t (kp_m k0 (fun a k h => by omega)) (kp_t (kp_m k1 (fun a k h => by omega)) (kp_m k2 (fun a k h => by omega)))
  have hS2 : mStk u2 n w S := mStk_K g9 k02 (fun a k h => by omega)
  unfold s_X12_undo
  rw [hS2.1]
  first | refine i_neg (nI_ne0 (by omega) (by omega)) ?_ | rw [if_neg (nI_ne0 (by omega) (by omega))]
  try (with_reducible rfl)
  unfold sX12_undo_p21
  refine for_up (fun m i s => sX12_undo_p21n (fun r2 u2 => (1 : Int32) = r2 ∧ Inv u2) m i s) 236 (fun i s => Kp (fun a _ => a ≠ 241) u2 s ∧ ∀ k, k < i → s.1 241 k = nI (S (n - 1) k)) ?_ 0 u2 (by omega) ⟨kp_r u2, fun k hk => absurd hk (by omega)⟩
  rintro m i s hi ⟨hK, hs⟩ hnext
  show sX12_undo_p21b (fun r2 u2 => (1 : Int32) = r2 ∧ Inv u2) (sX12_undo_p21n (fun r2 u2 => (1 : Int32) = r2 ∧ Inv u2) m) (nI i) s
  unfold sX12_undo_p21b
  have s79 : s.1 198 79 = nI w := by rw [hK.1 198 79 (by omega)]; exact hS2.2.1
  have s78 : s.1 198 78 = nI n := by rw [hK.1 198 78 (by omega)]; exact hS2.1
  by_cases h236 : i = 236
  · subst h236
    first | refine i_pos (nI_le (a := 236) (Nat.le_refl _) (by omega)) ?_ | rw [if_pos (nI_le (a := 236) (Nat.le_refl _) (by omega))]
    try (with_reducible rfl)
    simp only [bnd]
    rw [t_n _ _ (by omega), s78, s79, show nI w + 20 = nI (w + 20) from nI_add w 20, show nI (w + 20) - 1 = nI (w + 19) from pk_sub (a := w + 20) (b := 1) (by omega), show nI (w + 19) - nI (w + 19) / 20 * 20 = nI ((w + 19) % 20) from pk_rem (d := 20) (by omega) (by omega) (by omega), show nI n - 1 = nI (n - 1) from pk_sub (b := 1) (by omega)]
    refine ⟨by first | rfl | trivial, ?_⟩
    have k3 : Kp (fun a k => ¬ (a = 198 ∧ (k = 78 ∨ k = 79))) s (tI (tI s 198 79 (nI ((w + 19) % 20))) 198 78 (nI (n - 1))) := kp_I (kp_I (kp_r s) (by omega)) (by omega)
    have e78 : (tI (tI s 198 79 (nI ((w + 19) % 20))) 198 78 (nI (n - 1))).1 198 78 = nI (n - 1) := t_s _ _ _ _
    have e79 : (tI (tI s 198 79 (nI ((w + 19) % 20))) 198 78 (nI (n - 1))).1 198 79 = nI ((w + 19) % 20) := by rw [t_n _ _ (by omega), t_s]
    generalize (tI (tI s 198 79 (nI ((w + 19) % 20))) 198 78 (nI (n - 1))) = z at k3 e78 e79
    have k23 : Kp (fun a k => a ≠ 241 ∧ ¬ (a = 198 ∧ (k = 78 ∨ k = 79))) u2 z := kp_t (kp_m hK (fun a k h => by omega)) (kp_m k3 (fun a k h => by omega))
    have kall : Kp (fun a k => ¬ (42 ≤ a ∧ a ≤ 46) ∧ a ≠ 52 ∧ ¬ (178 ≤ a ∧ a ≤ 194 ∧ (a - 178) % 4 = 0 ∧ k = 5) ∧ a ≠ 241 ∧ ¬ (a = 198 ∧ (k = 78 ∨ k = 79))) u z := kp_t (kp_m k02 (fun a k h => by omega)) (kp_m k23 (fun a k h => by omega))
    have k13 : Kp (fun a k => ¬ (178 ≤ a ∧ a ≤ 194 ∧ (a - 178) % 4 = 0 ∧ k = 5) ∧ a ≠ 241 ∧ ¬ (a = 198 ∧ (k = 78 ∨ k = 79))) u1 z := kp_t (kp_m k2 (fun a k h => by omega)) (kp_m k23 (fun a k h => by omega))
    refine inv_act (N' := S (n - 1)) hC kall (fun a k hs h1 h2 => ?_) ⟨hst.2.2.2.2, cLa_K l1 k13 (fun a k h1 h2 h3 => by omega), fun k hk => ?_⟩ ?_ (fun k hk => ⟨?_, fb_K (hC.2.1 k hk).2 kall (fun j => by omega)⟩) (k_facts hC.2.2 kall (fun a k h => by omega))
    · have hsc := sp_SC ht hs
      unfold DLand at h1
      unfold DPast at h2
      unfold SC at hsc
      omega
    · rw [k3.1 241 k (by omega)]
      exact hs k hk
    · refine past_to (Y := ys (n - 1)) (E := E) (n := n - 1) (o := o) (w := (w + 19) % 20) (S := S) (ys := ys) hst.2.2.1 ?_ (fun k hk => ?_) hst.2.2.2.1 (by omega) g6 (by omega) ⟨?_, ?_, fun i hi => ?_⟩ ⟨e78, e79, fun i hi k hk => ?_⟩ (fun i hi => ?_)
      · rw [k13.1 42 1 (by omega)]
        exact y1
      · rw [kall.1 54 k (by omega), kall.1 55 k (by omega), kall.1 56 k (by omega)]
        exact g3 k (by have := hst.1; omega)
      · rw [k13.1 52 0 (by omega), k1.1 52 0 (by omega), t_s]
      · rw [k13.1 52 1 (by omega), k1.1 52 1 (by omega), t_n _ _ (by omega)]
        exact g8.2.1
      · have hri := ol_rng o i
        obtain ⟨c1, c2⟩ := g8.2.2 i (by omega)
        refine ⟨cLa_K c1 kall (fun a k h1 h2 h3 => by omega), ?_⟩
        rw [kall.1 _ _ (by omega)]
        exact c2
      · rw [kall.1 254 _ (by omega), show ((w + 19) % 20 + 20 - (n - 1 - 1 - i)) % 20 = (w + 20 - (n - 1 - i)) % 20 by omega]
        exact g9.2.2 i (by omega) k hk
      · obtain ⟨c1, c2, c3, c4, c5⟩ := g10 i (by omega)
        exact ⟨c2 (n - 1) (by omega) (by omega), fun j hij hj => c2 j hij (by omega), c3, c4, c5⟩
    · rw [k23.1 _ _ (by omega)]
      exact z2 k hk
  · first | refine i_neg (nI_ge (b := 236) (by omega) (by omega)) ?_ | rw [if_neg (nI_ge (b := 236) (by omega) (by omega))]
    rw [s79, show (236 : Int32) * nI w = nI (236 * w) from pk_mul 236 w, nI_add, nI_clamp (by omega), nI_clamp (by omega)]
    refine ⟨vp_in_nI (by omega) (by omega), vp_in_nI (by omega) (by omega), ?_⟩
    show sX12_undo_p21n (fun r2 u2 => (1 : Int32) = r2 ∧ Inv u2) m (nI i + 1) (tI s 241 i (s.1 254 (236 * w + i)))
    have e := hS2.2.2 (n - 1) (by omega) i (by omega)
    rw [show (w + 20 - (n - 1 - (n - 1))) % 20 = w by omega] at e
    rw [nI_1, hK.1 254 _ (by omega), e]
    refine hnext (by omega) _ ⟨kp_I hK (by omega), fun k hk => ?_⟩
    by_cases ek : k = i
    · rw [ek, t_s]
    · rw [t_n _ _ (by omega)]
      exact hs k (by omega)
