/-! a year: what is kept of it; a year as a whole -/
def keepN (N : Nat → Nat) (k b : Nat) : Nat → Nat := fun j =>
  if N 115 = 40 then (if 116 ≤ j ∧ j < 233 then N (j + 3) else if j = 233 then N 0 else if j = 234 then k else if j = 235 then b else N j)
  else (if j = 115 then N 115 + 1 else if j = 116 + 3 * N 115 then N 0 else if j = 117 + 3 * N 115 then k else if j = 118 + 3 * N 115 then b else N j)
theorem keepN_lo {N : Nat → Nat} {k b j : Nat} (h : j < 115) : keepN N k b j = N j := by
  unfold keepN
  by_cases e : N 115 = 40
  · first | refine i_pos e ?_ | rw [if_pos e]
    first | refine i_neg (by omega) ?_ | rw [if_neg (by omega)]
    first | refine i_neg (by omega) ?_ | rw [if_neg (by omega)]
    first | refine i_neg (by omega) ?_ | rw [if_neg (by omega)]
    first | refine i_neg (by omega) ?_ | rw [if_neg (by omega)]
    try (with_reducible rfl)
  · first | refine i_neg e ?_ | rw [if_neg e]
    first | refine i_neg (by omega) ?_ | rw [if_neg (by omega)]
    first | refine i_neg (by omega) ?_ | rw [if_neg (by omega)]
    first | refine i_neg (by omega) ?_ | rw [if_neg (by omega)]
    first | refine i_neg (by omega) ?_ | rw [if_neg (by omega)]
    try (with_reducible rfl)
theorem keepN_vn {P : Pl} {N : Nat → Nat} {k b : Nat} (hP : VP P) (hN : VN P N) (hk : k ≤ 999) (hb : b ≤ 999) : VN P (keepN N k b) := by
  refine ⟨by rw [keepN_lo (by omega)]; exact hN.1, fun c hc => ?_, fun c hc h => ?_, fun g hg => ?_, fun g hg hg6 => ?_, ?_, fun j hj => ?_⟩
  · have h36 := cel_lt hP hc
    rw [keepN_lo (by omega), keepN_lo (by omega), keepN_lo (by omega)]
    exact hN.2.1 c hc
  · rw [keepN_lo (by omega)]
    exact hN.2.2.1 c hc h
  · have := hP.2.2.2.2.1
    rw [keepN_lo (by omega)]
    exact hN.2.2.2.1 g hg
  · rw [keepN_lo (by omega)]
    exact hN.2.2.2.2.1 g hg hg6
  · have := hN.2.2.2.2.2.1
    unfold keepN
    by_cases e : N 115 = 40
    · first | refine i_pos e ?_ | rw [if_pos e]
      first | refine i_neg (by omega) ?_ | rw [if_neg (by omega)]
      first | refine i_neg (by omega) ?_ | rw [if_neg (by omega)]
      first | refine i_neg (by omega) ?_ | rw [if_neg (by omega)]
      first | refine i_neg (by omega) ?_ | rw [if_neg (by omega)]
      try (with_reducible rfl)
      exact this
    · first | refine i_neg e ?_ | rw [if_neg e]
      first | refine i_pos rfl ?_ | rw [if_pos rfl]
      try (with_reducible rfl)
      omega
  · have h0 := hN.1
    have h1 := hN.2.2.2.2.2.2 j hj
    unfold keepN
    by_cases e : N 115 = 40
    · first | refine i_pos e ?_ | rw [if_pos e]
      try (with_reducible rfl)
      by_cases c1 : 116 ≤ 116 + j ∧ 116 + j < 233
      · first | refine i_pos c1 ?_ | rw [if_pos c1]
        try (with_reducible rfl)
        have := hN.2.2.2.2.2.2 (j + 3) (by omega)
        rw [show 116 + j + 3 = 116 + (j + 3) by omega]
        exact this
      · first | refine i_neg c1 ?_ | rw [if_neg c1]
        try (with_reducible rfl)
        repeat' split
        all_goals omega
    · first | refine i_neg e ?_ | rw [if_neg e]
      try (with_reducible rfl)
      repeat' split
      all_goals omega
def yE (E : Nat → Nat → Nat) (Y x k b : Nat) : Nat → Nat → Nat := fun j y => if y = Y then (if j = 0 then x else if j = 1 then k else b) else E j y
theorem yE_n {E : Nat → Nat → Nat} {Y x k b j y : Nat} (h : y ≠ Y) : yE E Y x k b j y = E j y := by
  unfold yE
  first | refine i_neg h ?_ | rw [if_neg h]
  try (with_reducible rfl)
theorem yE_0 {E : Nat → Nat → Nat} {Y x k b : Nat} : yE E Y x k b 0 Y = x := by
  unfold yE
  first | refine i_pos rfl ?_ | rw [if_pos rfl]
  first | refine i_pos rfl ?_ | rw [if_pos rfl]
  try (with_reducible rfl)
theorem yE_1 {E : Nat → Nat → Nat} {Y x k b : Nat} : yE E Y x k b 1 Y = k := by
  unfold yE
  first | refine i_pos rfl ?_ | rw [if_pos rfl]
  first | refine i_neg (by omega) ?_ | rw [if_neg (by omega)]
  first | refine i_pos rfl ?_ | rw [if_pos rfl]
  try (with_reducible rfl)
theorem yE_2 {E : Nat → Nat → Nat} {Y x k b : Nat} : yE E Y x k b 2 Y = b := by
  unfold yE
  first | refine i_pos rfl ?_ | rw [if_pos rfl]
  first | refine i_neg (by omega) ?_ | rw [if_neg (by omega)]
  first | refine i_neg (by omega) ?_ | rw [if_neg (by omega)]
  try (with_reducible rfl)
theorem keepN_115 {N : Nat → Nat} {k b : Nat} (h : N 115 ≠ 40) : keepN N k b 115 = N 115 + 1 := by
  unfold keepN
  first | refine i_neg h ?_ | rw [if_neg h]
  first | refine i_pos rfl ?_ | rw [if_pos rfl]
  try (with_reducible rfl)
theorem keepN_a {N : Nat → Nat} {k b : Nat} (h : N 115 ≠ 40) : keepN N k b (116 + 3 * N 115) = N 0 := by
  unfold keepN
  first | refine i_neg h ?_ | rw [if_neg h]
  first | refine i_neg (by omega) ?_ | rw [if_neg (by omega)]
  first | refine i_pos rfl ?_ | rw [if_pos rfl]
  try (with_reducible rfl)
theorem keepN_b {N : Nat → Nat} {k b : Nat} (h : N 115 ≠ 40) : keepN N k b (117 + 3 * N 115) = k := by
  unfold keepN
  first | refine i_neg h ?_ | rw [if_neg h]
  first | refine i_neg (by omega) ?_ | rw [if_neg (by omega)]
  first | refine i_neg (by omega) ?_ | rw [if_neg (by omega)]
  first | refine i_pos rfl ?_ | rw [if_pos rfl]
  try (with_reducible rfl)
theorem keepN_c {N : Nat → Nat} {k b : Nat} (h : N 115 ≠ 40) : keepN N k b (118 + 3 * N 115) = b := by
  unfold keepN
  first | refine i_neg h ?_ | rw [if_neg h]
  first | refine i_neg (by omega) ?_ | rw [if_neg (by omega)]
  first | refine i_neg (by omega) ?_ | rw [if_neg (by omega)]
  first | refine i_neg (by omega) ?_ | rw [if_neg (by omega)]
  first | refine i_pos rfl ?_ | rw [if_pos rfl]
  try (with_reducible rfl)
theorem keepN_o {N : Nat → Nat} {k b j : Nat} (h : N 115 ≠ 40) (h1 : j ≠ 115) (h2 : j ≠ 116 + 3 * N 115) (h3 : j ≠ 117 + 3 * N 115) (h4 : j ≠ 118 + 3 * N 115) : keepN N k b j = N j := by
  unfold keepN
  first | refine i_neg h ?_ | rw [if_neg h]
  first | refine i_neg h1 ?_ | rw [if_neg h1]
  first | refine i_neg h2 ?_ | rw [if_neg h2]
  first | refine i_neg h3 ?_ | rw [if_neg h3]
  first | refine i_neg h4 ?_ | rw [if_neg h4]
  try (with_reducible rfl)
theorem kr_keep {E : Nat → Nat → Nat} {Y k b : Nat} {N : Nat → Nat} (h : KR E Y N) : KR (yE E Y (N 0) k b) (Y + 1) (keepN N k b) := by
  by_cases hY : 40 ≤ Y
  · have e : N 115 = 40 := by rw [h.1]; omega
    have em : min Y 40 = 40 := by omega
    have em2 : min (Y + 1) 40 = 40 := by omega
    have h2 := h.2
    unfold KR
    rw [em] at h2
    rw [em2]
    refine ⟨?_, fun j hj => ?_⟩
    · unfold keepN
      first | refine i_pos e ?_ | rw [if_pos e]
      first | refine i_neg (by omega) ?_ | rw [if_neg (by omega)]
      first | refine i_neg (by omega) ?_ | rw [if_neg (by omega)]
      first | refine i_neg (by omega) ?_ | rw [if_neg (by omega)]
      first | refine i_neg (by omega) ?_ | rw [if_neg (by omega)]
      try (with_reducible rfl)
      exact e
    · by_cases hj9 : j = 39
      · subst hj9
        have eY : Y + 1 - 40 + 39 = Y := by omega
        rw [eY, yE_0, yE_1, yE_2]
        unfold keepN
        first | refine i_pos e ?_ | rw [if_pos e]
        first | refine i_pos e ?_ | rw [if_pos e]
        first | refine i_pos e ?_ | rw [if_pos e]
        try (with_reducible rfl)
        refine ⟨?_, ?_, ?_⟩
        · first | refine i_neg (by omega) ?_ | rw [if_neg (by omega)]
          first | refine i_pos (by omega) ?_ | rw [if_pos (by omega)]
          try (with_reducible rfl)
        · first | refine i_neg (by omega) ?_ | rw [if_neg (by omega)]
          first | refine i_neg (by omega) ?_ | rw [if_neg (by omega)]
          first | refine i_pos (by omega) ?_ | rw [if_pos (by omega)]
          try (with_reducible rfl)
        · first | refine i_neg (by omega) ?_ | rw [if_neg (by omega)]
          first | refine i_neg (by omega) ?_ | rw [if_neg (by omega)]
          first | refine i_neg (by omega) ?_ | rw [if_neg (by omega)]
          first | refine i_pos (by omega) ?_ | rw [if_pos (by omega)]
          try (with_reducible rfl)
      · rw [yE_n (by omega), yE_n (by omega), yE_n (by omega)]
        have := h2 (j + 1) (by omega)
        rw [show Y + 1 - 40 + j = Y - 40 + (j + 1) by omega]
        unfold keepN
        first | refine i_pos e ?_ | rw [if_pos e]
        first | refine i_pos e ?_ | rw [if_pos e]
        first | refine i_pos e ?_ | rw [if_pos e]
        first | refine i_pos (by omega) ?_ | rw [if_pos (by omega)]
        first | refine i_pos (by omega) ?_ | rw [if_pos (by omega)]
        first | refine i_pos (by omega) ?_ | rw [if_pos (by omega)]
        rw [show 116 + 3 * j + 3 = 116 + 3 * (j + 1) by omega, show 117 + 3 * j + 3 = 117 + 3 * (j + 1) by omega, show 118 + 3 * j + 3 = 118 + 3 * (j + 1) by omega]
        exact this
  · have em : min Y 40 = Y := by omega
    have em2 : min (Y + 1) 40 = Y + 1 := by omega
    have h2 := h.2
    have e : N 115 = Y := by rw [h.1]; omega
    unfold KR
    rw [em] at h2
    rw [em2]
    refine ⟨?_, fun j hj => ?_⟩
    · rw [keepN_115 (by omega), e]
    · by_cases hjY : j = Y
      · rw [hjY, show Y + 1 - (Y + 1) + Y = Y by omega, yE_0, yE_1, yE_2, ← e, keepN_a (by omega), keepN_b (by omega), keepN_c (by omega)]
        exact ⟨rfl, rfl, rfl⟩
      · have := h2 j (by omega)
        rw [show Y + 1 - (Y + 1) + j = Y - Y + j by omega, yE_n (by omega), yE_n (by omega), yE_n (by omega), keepN_o (by omega) (by omega) (by omega) (by omega) (by omega), keepN_o (by omega) (by omega) (by omega) (by omega) (by omega), keepN_o (by omega) (by omega) (by omega) (by omega) (by omega)]
        exact this
theorem mLa_eq {u : St} {M M' : Nat → Nat} (h : mLa u M) (he : ∀ k, k < 236 → M k = M' k) : mLa u M' := by
  intro k hk
  rw [← he k hk]
  exact h k hk
theorem r_k56 {M : Nat → Nat} {c k b : Nat} {Q : St → Prop} {u : St} (hL : mLa u M) (hc : M 115 = c) (h1 : 1 ≤ c) (h2 : c ≤ 40) (hQ : ∀ u', Kp (fun a _ => a ≠ 241) u u' → mLa u' (upN (upN (upN M (113 + 3 * c) (M 0)) (114 + 3 * c) k) (115 + 3 * c) b) → Q u') : sX12_isKept_p56 (nI k) (nI b) Q u := by
  unfold sX12_isKept_p56
  have e0 : ((0 : Int32)).toNatClampNeg = 0 := by first | decide | (unfold vp_in; decide)
  have e115 : ((115 : Int32)).toNatClampNeg = 115 := by first | decide | (unfold vp_in; decide)
  have ei : ((116 : Int32) + ((3 : Int32) * nI c)) - (3 : Int32) = nI (113 + 3 * c) := by
    rw [show (3 : Int32) * nI c = nI (3 * c) from pk_mul 3 _, show (116 : Int32) + nI (3 * c) = nI (116 + 3 * c) from nI_add 116 _, show nI (116 + 3 * c) - 3 = nI (116 + 3 * c - 3) from pk_sub (b := 3) (by omega), show 116 + 3 * c - 3 = 113 + 3 * c by omega]
  rw [e0, e115, hL 115 (by omega), hL 0 (by omega), hc, ei, nI_1, show nI (113 + 3 * c) + 2 = nI (113 + 3 * c + 2) from nI_add _ 2, nI_clamp (by omega), nI_clamp (by omega), nI_clamp (by omega), show 113 + 3 * c + 1 = 114 + 3 * c by omega, show 113 + 3 * c + 2 = 115 + 3 * c by omega]
  refine ⟨by first | decide | (unfold vp_in; decide), by first | decide | (unfold vp_in; decide), vp_in_nI (by omega) (by omega), bnd_i ⟨vp_in_nI (by omega) (by omega), bnd_i ⟨vp_in_nI (by omega) (by omega), bnd_i ?_⟩⟩⟩
  exact hQ _ (kp_I (kp_I (kp_I (kp_r u) (by omega)) (by omega)) (by omega)) (mLa_up (mLa_up (mLa_up hL)))
theorem r_isKept {N : Nat → Nat} {k b : Nat} {Q : St → Prop} {u : St} (hL : mLa u N) (h40 : N 115 ≤ 40) (hQ : ∀ u', Kp (fun a _ => a ≠ 241) u u' → mLa u' (keepN N k b) → Q u') : s_X12_isKept (nI k) (nI b) Q u := by
  have e115 : ((115 : Int32)).toNatClampNeg = 115 := by first | decide | (unfold vp_in; decide)
  unfold s_X12_isKept
  rw [e115, hL 115 (by omega)]
  refine ⟨by first | decide | (unfold vp_in; decide), ?_⟩
  by_cases e : N 115 = 40
  · rw [e]
    refine i_pos rfl ?_
    unfold sX12_isKept_p15
    refine for_g (fun i => nI (116 + i)) (fun n i s => sX12_isKept_p15n (nI k) (nI b) Q n i s) 117 (fun i s => Kp (fun a _ => a ≠ 241) u s ∧ mLa s (fun j => if 116 ≤ j ∧ j < 116 + i then N (j + 3) else N j)) ?_ 0 u (by omega) ⟨kp_r u, mLa_eq hL (fun j hj => by rw [if_neg (by omega)])⟩
    rintro n i s hi ⟨hK, hLs⟩ hnext
    show sX12_isKept_p15b (nI k) (nI b) Q (sX12_isKept_p15n (nI k) (nI b) Q n) (nI (116 + i)) s
    unfold sX12_isKept_p15b
    by_cases hie : i = 117
    · subst hie
      refine i_pos (by first | decide | (unfold vp_in; decide)) ?_
      refine r_k56 (c := 40) hLs (by rw [if_neg (by omega)]; exact e) (by omega) (by omega) (fun s2 k2 l2 => hQ s2 (kp_t hK k2) (mLa_eq l2 (fun j hj => ?_)))
      unfold keepN
      first | refine i_pos e ?_ | rw [if_pos e]
      try (with_reducible rfl)
      by_cases j3 : j = 235
      · rw [j3, upN_s]
        first | refine i_neg (by omega) ?_ | rw [if_neg (by omega)]
        first | refine i_neg (by omega) ?_ | rw [if_neg (by omega)]
        first | refine i_neg (by omega) ?_ | rw [if_neg (by omega)]
        first | refine i_pos rfl ?_ | rw [if_pos rfl]
        try (with_reducible rfl)
      · rw [upN_n _ (by omega)]
        by_cases j2 : j = 234
        · rw [j2, upN_s]
          first | refine i_neg (by omega) ?_ | rw [if_neg (by omega)]
          first | refine i_neg (by omega) ?_ | rw [if_neg (by omega)]
          first | refine i_pos rfl ?_ | rw [if_pos rfl]
          try (with_reducible rfl)
        · rw [upN_n _ (by omega)]
          by_cases j1 : j = 233
          · rw [j1, upN_s]
            first | refine i_neg (by omega) ?_ | rw [if_neg (by omega)]
            first | refine i_neg (by omega) ?_ | rw [if_neg (by omega)]
            first | refine i_pos rfl ?_ | rw [if_pos rfl]
            try (with_reducible rfl)
          · rw [upN_n _ (by omega)]
            first | refine i_neg j1 ?_ | rw [if_neg j1]
            first | refine i_neg j2 ?_ | rw [if_neg j2]
            first | refine i_neg j3 ?_ | rw [if_neg j3]
            try (with_reducible rfl)
    · have hge : ¬ nI 233 ≤ nI (116 + i) := nI_ge (by omega) (by omega)
      refine i_neg hge ?_
      rw [show nI (116 + i) + 3 = nI (116 + i + 3) from nI_add _ 3, nI_clamp (by omega), nI_clamp (by omega), hLs _ (by omega), show (fun j => if 116 ≤ j ∧ j < 116 + i then N (j + 3) else N j) (116 + i + 3) = N (116 + i + 3) from if_neg (by omega), nI_1]
      refine ⟨vp_in_nI (by omega) (by omega), vp_in_nI (by omega) (by omega), bnd_i ?_⟩
      refine hnext (by omega) _ ⟨kp_I hK (by omega), mLa_eq (mLa_up hLs) (fun j hj => ?_)⟩
      by_cases ej : j = 116 + i
      · rw [ej, upN_s]
        first | refine i_pos (by omega) ?_ | rw [if_pos (by omega)]
        try (with_reducible rfl)
      · rw [upN_n _ ej]
        by_cases hj2 : 116 ≤ j ∧ j < 116 + i
        · first | refine i_pos hj2 ?_ | rw [if_pos hj2]
          first | refine i_pos (by omega) ?_ | rw [if_pos (by omega)]
          try (with_reducible rfl)
        · first | refine i_neg hj2 ?_ | rw [if_neg hj2]
          first | refine i_neg (by omega) ?_ | rw [if_neg (by omega)]
          try (with_reducible rfl)
  · refine i_neg (x_ne (k := 40) (by omega) (by omega) e) (bnd_i ?_)
    rw [nI_1]
    refine r_k56 (c := N 115 + 1) (mLa_up hL) (upN_s _ _ _) (by omega) (by omega) (fun s2 k2 l2 => hQ s2 (kp_t (kp_I (kp_r u) (by omega)) k2) (mLa_eq l2 (fun j hj => ?_)))
    unfold keepN
    first | refine i_neg e ?_ | rw [if_neg e]
    try (with_reducible rfl)
    by_cases j3 : j = 118 + 3 * N 115
    · rw [show 115 + 3 * (N 115 + 1) = j by omega, upN_s]
      first | refine i_neg (by omega) ?_ | rw [if_neg (by omega)]
      first | refine i_neg (by omega) ?_ | rw [if_neg (by omega)]
      first | refine i_neg (by omega) ?_ | rw [if_neg (by omega)]
      first | refine i_pos j3 ?_ | rw [if_pos j3]
      try (with_reducible rfl)
    · rw [upN_n _ (by omega)]
      by_cases j2 : j = 117 + 3 * N 115
      · rw [show 114 + 3 * (N 115 + 1) = j by omega, upN_s]
        first | refine i_neg (by omega) ?_ | rw [if_neg (by omega)]
        first | refine i_neg (by omega) ?_ | rw [if_neg (by omega)]
        first | refine i_pos j2 ?_ | rw [if_pos j2]
        try (with_reducible rfl)
      · rw [upN_n _ (by omega)]
        by_cases j1 : j = 116 + 3 * N 115
        · rw [show 113 + 3 * (N 115 + 1) = j by omega, upN_s]
          first | refine i_neg (by omega) ?_ | rw [if_neg (by omega)]
          first | refine i_pos j1 ?_ | rw [if_pos j1]
          rw [upN_n _ (by omega)]
        · rw [upN_n _ (by omega)]
          first | refine i_neg j1 ?_ | rw [if_neg j1]
          first | refine i_neg j2 ?_ | rw [if_neg j2]
          first | refine i_neg j3 ?_ | rw [if_neg j3]
          try (with_reducible rfl)
          by_cases j0 : j = 115
          · rw [j0, upN_s]
            first | refine i_pos rfl ?_ | rw [if_pos rfl]
            try (with_reducible rfl)
          · rw [upN_n _ j0]
            first | refine i_neg j0 ?_ | rw [if_neg j0]
            try (with_reducible rfl)
/-- the land when the cells are wet and the pies are set -/
noncomputable def midN (P : Pl) (N : Nat → Nat) (k : Nat) : Nat → Nat := pieN P (wetN N (wp P N k) (wm P N k)) (ww P N k) (pf P)
/-- the land after a year -/
noncomputable def yrN (P : Pl) (N : Nat → Nat) (k : Nat) : Nat → Nat := upN (keepN (midN P N k) k (pop (ww P N k))) 0 (N 0 + 1)
theorem mid_n {P : Pl} {N : Nat → Nat} {k x : Nat} (hP : VP P) (hc : ∀ i, i < wm P N k → cel P (wp P N k i)) (hx : x = 0 ∨ 115 ≤ x ∨ x % 3 ≠ 0 ∧ x < 109) : midN P N k x = N x := by
  have h6 := hP.2.2.2.2.1
  unfold midN
  rw [pie_n _ (by omega), wet_n _ (fun i hi => ?_)]
  have := cel_lt hP (hc i hi)
  omega
theorem mid_vn {P : Pl} {N : Nat → Nat} {k : Nat} (hP : VP P) (hN : VN P N) (hc : ∀ i, i < wm P N k → cel P (wp P N k i)) : VN P (midN P N k) := pie_vn hP (wet_vn hP hN _ hc) _ (Nat.le_refl _)
theorem yr_0 {P : Pl} {N : Nat → Nat} {k : Nat} : yrN P N k 0 = N 0 + 1 := upN_s _ _ _
theorem yr_st {P : Pl} {N : Nat → Nat} {k c : Nat} (hP : VP P) (hc : ∀ i, i < wm P N k → cel P (wp P N k i)) (h36 : c < 36) : yrN P N k (2 + 3 * c) = N (2 + 3 * c) := by
  unfold yrN
  rw [upN_n _ (by omega), keepN_lo (by omega), mid_n hP hc (by omega)]
theorem yr_vn {P : Pl} {N : Nat → Nat} {k : Nat} (hP : VP P) (hN : VN P N) (hk : k < pk P) (hc : ∀ i, i < wm P N k → cel P (wp P N k i)) (h9 : N 0 < 999) : VN P (yrN P N k) := by
  have hk5 := hP.2.2.2.2.2.1
  have hpo := pop_le (ww P N k)
  have h := keepN_vn (k := k) (b := pop (ww P N k)) hP (mid_vn hP hN hc) (by omega) (by omega)
  unfold yrN
  refine ⟨by rw [upN_s]; omega, fun c hc => ?_, fun c hc h2 => ?_, fun g hg => ?_, fun g hg hg6 => ?_, ?_, fun j hj => ?_⟩
  · rw [upN_n _ (by omega), upN_n _ (by omega), upN_n _ (by omega)]
    exact h.2.1 c hc
  · rw [upN_n _ (by omega)]
    exact h.2.2.1 c hc h2
  · rw [upN_n _ (by omega)]
    exact h.2.2.2.1 g hg
  · rw [upN_n _ (by omega)]
    exact h.2.2.2.2.1 g hg hg6
  · rw [upN_n _ (by omega)]
    exact h.2.2.2.2.2.1
  · rw [upN_n _ (by omega)]
    exact h.2.2.2.2.2.2 j hj
theorem kr_yr {P : Pl} {E : Nat → Nat → Nat} {Y k : Nat} {N : Nat → Nat} (hP : VP P) (hc : ∀ i, i < wm P N k → cel P (wp P N k i)) (h : KR E Y N) : KR (yE E Y (N 0) k (pop (ww P N k))) (Y + 1) (yrN P N k) := by
  have h1 : KR E Y (midN P N k) := kr_c h (fun _ _ _ => rfl) (fun j h1 h2 => mid_n hP hc (by omega))
  have h2 := kr_keep (k := k) (b := pop (ww P N k)) h1
  rw [mid_n hP hc (Or.inl rfl)] at h2
  exact kr_c h2 (fun _ _ _ => rfl) (fun j h1 h2 => upN_n _ (by omega))
theorem q_wayOfK {P : Pl} {N : Nat → Nat} {k : Nat} {Q : Nat → St → Prop} {u : St} (hP : VP P) (hN : VN P N) (hk : k < pk P) (ht : 7 ≤ u.2.2.1 ∧ u.2.2.1 + 16 ≤ 40) (hT : cPl u u.2.2.1 P) (hL : cLa u 42 P N) (hG : gWays u P N)
    (h1 : ∀ u', gWays u' P N → WayC u' (178 + 4 * k) P N k → Kp (fun a _ => ¬ (178 + 4 * k ≤ a ∧ a ≤ 178 + 4 * k + 3) ∧ a ≠ u.2.2.1 + 13) u u' → Q (178 + 4 * k) u') : s_X11_wayOf (nI k) Q u := by
  have hk5 := hP.2.2.2.2.2.1
  unfold s_X11_wayOf
  refine q_isCaller hP hT (fun _ _ _ => ?_) (fun hn => absurd ⟨k, hk, rfl⟩ hn)
  refine i_neg (by first | decide | (unfold vp_in; decide)) ?_
  rw [nI_clamp (by omega)]
  refine ⟨vp_in_nI (by omega) (by omega), ?_⟩
  have hw := hG k (by omega)
  rcases hw.1 with e | ⟨e, hR⟩
  · rw [e]
    refine i_pos rfl ?_
    have hs := sh_way2 k (by omega)
    refine q_lead (P := P) (N := N) hP hN (pk_pc hP hk) hk ht ⟨by omega, by omega⟩ (by omega) hs.1 hs.2 hT hL hw.2 (fun u' hK hR hB => ?_)
    have hK2 : Kp (fun a _ => ¬ (178 + 4 * k ≤ a ∧ a ≤ 178 + 4 * k + 3) ∧ a ≠ u.2.2.1 + 13) u u' := hK
    refine h1 u' (fun j hj => ?_) (wayC_of hR) hK2
    by_cases hjk : j = k
    · subst hjk
      obtain ⟨p, m, r1, r2⟩ := hR
      exact ⟨Or.inr ⟨r2.2.2.2.2.2, fun _ => ⟨p, m, r1, r2⟩⟩, hB⟩
    · have hwj := hG j hj
      refine ⟨?_, fb_K hwj.2 hK2 (fun x => by omega)⟩
      rw [hK2.1 (178 + 4 * j) 5 (by omega)]
      rcases hwj.1 with e2 | ⟨e2, hR2⟩
      · exact Or.inl e2
      · exact Or.inr ⟨e2, fun hp => wayR_K (hR2 hp) hK2 (fun x y a b => by omega)⟩
  · rw [e]
    exact i_neg (by first | decide | (unfold vp_in; decide)) (h1 u hG (wayC_of (hR hk)) (kp_r u))
def YSc (t a k : Nat) : Prop := ¬ (42 ≤ a ∧ a ≤ 46) ∧ ¬ (54 ≤ a ∧ a ≤ 56) ∧ a ≠ 173 ∧ a ≠ t + 13 ∧ a ≠ t + 16 ∧ ¬ (178 ≤ a ∧ a ≤ 197)
theorem q_yEnd {P : Pl} {N : Nat → Nat} {a k w Y : Nat} {E : Nat → Nat → Nat} {Q : Int32 → St → Prop} {u : St} (hP : VP P) (ha : u.1 a 4 = nI w) (hw : w < 64) (hY : u.1 42 1 = nI Y) (hYN : Y ≤ N 0) (h9 : N 0 < 999) (hL : cLa u 42 P N) (hE : ∀ y, y < Y → u.1 54 y = nI (E 0 y) ∧ u.1 55 y = nI (E 1 y) ∧ u.1 56 y = nI (E 2 y))
    (hQ : ∀ u', Kp (fun a k => ¬ (a = 42 ∧ (k = 0 ∨ k = 1)) ∧ ¬ (54 ≤ a ∧ a ≤ 56) ∧ ¬ (178 ≤ a ∧ a ≤ 194 ∧ (a - 178) % 4 = 0 ∧ k = 5)) u u' → cLa u' 42 P (upN (keepN N k (pop w)) 0 (N 0 + 1)) → u'.1 42 1 = nI (Y + 1) → (∀ j, j < 5 → u'.1 (178 + 4 * j) 5 = 0) → (∀ y, y < Y + 1 → u'.1 54 y = nI (yE E Y (N 0) k (pop w) 0 y) ∧ u'.1 55 y = nI (yE E Y (N 0) k (pop w) 1 y) ∧ u'.1 56 y = nI (yE E Y (N 0) k (pop w) 2 y)) → Q (nI (pop w)) u') : yEnd (nI k) a Q u := by
  unfold yEnd
  rw [ha]
  refine q_bits hw ?_
  rw [hY, hL.1]
  unfold s_X3_keep
  have h999 : nI Y < nI 999 := nI_lt (by omega) (by omega)
  refine i_neg (nI_pos (by omega)) (i_pos h999 ⟨vp_in_nI (by omega) (by omega), bnd_i ⟨vp_in_nI (by omega) (by omega), bnd_i ⟨vp_in_nI (by omega) (by omega), bnd_i (bnd_i ?_)⟩⟩⟩)
  rw [nI_clamp (by omega), nI_1]
  have k4 : Kp (fun a k => ¬ (a = 42 ∧ (k = 0 ∨ k = 1)) ∧ ¬ (54 ≤ a ∧ a ≤ 56)) u (tI (tI (tI (tI u 54 Y (nI (N 0))) 55 Y (nI k)) 56 Y (nI (pop w))) 42 1 (nI (Y + 1))) := kp_I (kp_I (kp_I (kp_I (kp_r u) (by omega)) (by omega)) (by omega)) (by omega)
  have r0 : (tI (tI (tI (tI u 54 Y (nI (N 0))) 55 Y (nI k)) 56 Y (nI (pop w))) 42 1 (nI (Y + 1))).1 42 0 = nI (N 0) := by
    rw [t_n _ _ (by omega), t_n _ _ (by omega), t_n _ _ (by omega), t_n _ _ (by omega)]
    exact hL.1
  have r1 : (tI (tI (tI (tI u 54 Y (nI (N 0))) 55 Y (nI k)) 56 Y (nI (pop w))) 42 1 (nI (Y + 1))).1 42 1 = nI (Y + 1) := t_s _ _ _ _
  have rE : ∀ y, y < Y + 1 → (tI (tI (tI (tI u 54 Y (nI (N 0))) 55 Y (nI k)) 56 Y (nI (pop w))) 42 1 (nI (Y + 1))).1 54 y = nI (yE E Y (N 0) k (pop w) 0 y) ∧ (tI (tI (tI (tI u 54 Y (nI (N 0))) 55 Y (nI k)) 56 Y (nI (pop w))) 42 1 (nI (Y + 1))).1 55 y = nI (yE E Y (N 0) k (pop w) 1 y) ∧ (tI (tI (tI (tI u 54 Y (nI (N 0))) 55 Y (nI k)) 56 Y (nI (pop w))) 42 1 (nI (Y + 1))).1 56 y = nI (yE E Y (N 0) k (pop w) 2 y) := by
    intro y hy
    by_cases e : y = Y
    · subst e
      rw [yE_0, yE_1, yE_2]
      refine ⟨?_, ?_, ?_⟩
      · rw [t_n _ _ (by omega), t_n _ _ (by omega), t_n _ _ (by omega), t_s]
      · rw [t_n _ _ (by omega), t_n _ _ (by omega), t_s]
      · rw [t_n _ _ (by omega), t_s]
    · rw [yE_n e, yE_n e, yE_n e]
      have := hE y (by omega)
      refine ⟨?_, ?_, ?_⟩
      · rw [t_n _ _ (by omega), t_n _ _ (by omega), t_n _ _ (by omega), t_n _ _ (by omega)]
        exact this.1
      · rw [t_n _ _ (by omega), t_n _ _ (by omega), t_n _ _ (by omega), t_n _ _ (by omega)]
        exact this.2.1
      · rw [t_n _ _ (by omega), t_n _ _ (by omega), t_n _ _ (by omega), t_n _ _ (by omega)]
        exact this.2.2
  generalize (tI (tI (tI (tI u 54 Y (nI (N 0))) 55 Y (nI k)) 56 Y (nI (pop w))) 42 1 (nI (Y + 1))) = s at k4 r0 r1 rE
  rw [r0, nI_1]
  refine min_nI (b := 999) (by omega) (by omega) (bnd_i ?_)
  rw [show min (N 0 + 1) 999 = N 0 + 1 by omega]
  refine q_forget (fun s2 k2 z2 => ?_)
  have k3 : Kp (fun a k => ¬ (a = 42 ∧ k = 0) ∧ ¬ (178 ≤ a ∧ a ≤ 194 ∧ (a - 178) % 4 = 0 ∧ k = 5)) s s2 := kp_t (kp_I (kp_r s) (by omega)) (kp_m k2 (fun a k h => by omega))
  have kA : Kp (fun a k => ¬ (a = 42 ∧ (k = 0 ∨ k = 1)) ∧ ¬ (54 ≤ a ∧ a ≤ 56) ∧ ¬ (178 ≤ a ∧ a ≤ 194 ∧ (a - 178) % 4 = 0 ∧ k = 5)) u s2 := kp_t (kp_m k4 (fun a k h => by omega)) (kp_m k3 (fun a k h => by omega))
  refine hQ s2 kA ⟨?_, fun c hc => ?_, fun f hf => ?_, fun q hq hqa => ?_⟩ ?_ z2 (fun y hy => ?_)
  · rw [k2.1 42 0 (by omega), t_s, upN_s]
  · have h := hL.2.1 c hc
    rw [kA.1 (42 + 1) _ (by omega), kA.1 (42 + 2) _ (by omega), kA.1 (42 + 3) _ (by omega)]
    have h36 := cel_lt hP hc
    rw [upN_n _ (by omega), upN_n _ (by omega), upN_n _ (by omega), keepN_lo (by omega), keepN_lo (by omega), keepN_lo (by omega)]
    exact h
  · rw [kA.1 _ _ (by omega), upN_n _ (by omega), keepN_lo (by omega)]
    exact hL.2.2.1 f hf
  · rw [kA.1 _ _ (by omega)]
    exact hL.2.2.2 q hq hqa
  · rw [k3.1 42 1 (by omega)]
    exact r1
  · rw [k3.1 54 y (by omega), k3.1 55 y (by omega), k3.1 56 y (by omega)]
    exact rE y hy
theorem q_year {P : Pl} {N : Nat → Nat} {k Y : Nat} {E : Nat → Nat → Nat} {Q : Int32 → St → Prop} {u : St} (hP : VP P) (hN : VN P N) (hk : k < pk P) (ht : 7 ≤ u.2.2.1 ∧ u.2.2.1 + 16 ≤ 40) (hT : cPl u u.2.2.1 P) (hL : cLa u 42 P N) (hG : gWays u P N) (hB : FB u 173) (hs : N (2 + 3 * ps P) ≠ 1) (hY : u.1 42 1 = nI Y) (hYN : Y ≤ N 0) (h9 : N 0 < 999) (hE : ∀ y, y < Y → u.1 54 y = nI (E 0 y) ∧ u.1 55 y = nI (E 1 y) ∧ u.1 56 y = nI (E 2 y))
    (hQ : ∀ u', Kp (YSc u.2.2.1) u u' → IsWay P N k (wp P N k) (wm P N k) → cLa u' 42 P (yrN P N k) → gWays u' P (yrN P N k) → FB u' 173 → u'.1 42 1 = nI (Y + 1) → (∀ y, y < Y + 1 → u'.1 54 y = nI (yE E Y (N 0) k (pop (ww P N k)) 0 y) ∧ u'.1 55 y = nI (yE E Y (N 0) k (pop (ww P N k)) 1 y) ∧ u'.1 56 y = nI (yE E Y (N 0) k (pop (ww P N k)) 2 y)) → (∀ j, j < 5 → u'.1 (178 + 4 * j) 5 = 0 ∧ FB u' (178 + 4 * j + 3)) → Q (nI (pop (ww P N k))) u') : s_X11_passYear (nI k) Q u := by
  have h0 := pk_pc hP hk
  have hk5 := hP.2.2.2.2.2.1
  have hw64 : ww P N k < 64 := ww_lt hP N k
  unfold s_X11_passYear
  refine q_wayOfK hP hN hk ht hT hL hG (fun u1 hG1 hW1 k1 => ?_)
  have hc := (w_cel hP h0 hW1.1).2.1
  have h36 := (w_cel hP h0 hW1.1).1
  have hm : wm P N k ≠ 0 := fun e => hs ((w_zero hW1.1).mp e)
  have h12 : u1.1 (178 + 4 * k) 2 = nI (wm P N k - 1) := by
    have := hW1.2.1
    rw [this]
    first | refine i_neg hm ?_ | rw [if_neg hm]
    try (with_reducible rfl)
  refine q_wet hP hN (by omega) ⟨by omega, h36⟩ hc h12 hW1.2.2.1 (cLa_K hL k1 (fun x j a b c => by omega)) (fun u2 k2 l2 => ?_)
  have k12 : Kp (fun a _ => ¬ (178 + 4 * k ≤ a ∧ a ≤ 178 + 4 * k + 3) ∧ a ≠ u.2.2.1 + 13 ∧ a ≠ 45) u u2 := kp_t (kp_m k1 (fun a k h => by omega)) (kp_m k2 (fun a k h => by omega))
  have e2 : u2.2.2.1 = u.2.2.1 := by rw [k12.2.2]
  have h24 : u2.1 (178 + 4 * k) 4 = nI (ww P N k) := by
    rw [k2.1 _ _ (by omega)]
    exact hW1.2.2.2.2.2.1
  refine q_pies (t := u.2.2.1) hP (wet_vn hP hN _ hc) h0 ht e2 (by omega) h24 hw64 (cPl_K hT k12 (fun x j a b c d => by omega)) l2 (fb_K hB k12 (fun j => by omega)) (fun u3 k3 l3 b3 => ?_)
  have k13 : Kp (fun a _ => ¬ (178 + 4 * k ≤ a ∧ a ≤ 178 + 4 * k + 3) ∧ a ≠ u.2.2.1 + 13 ∧ a ≠ 45 ∧ a ≠ 46 ∧ a ≠ 173 ∧ a ≠ u.2.2.1 + 16) u u3 := kp_t (kp_m k12 (fun a k h => by omega)) (kp_m k3 (fun a k h => by omega))
  have em : midN P N k 0 = N 0 := mid_n hP hc (Or.inl rfl)
  have l3 : cLa u3 42 P (midN P N k) := l3
  refine q_yEnd (Y := Y) (E := E) (N := midN P N k) hP (by rw [k3.1 _ _ (by omega)]; exact h24) hw64 (by rw [k13.1 42 1 (by omega)]; exact hY) (by rw [em]; exact hYN) (by rw [em]; exact h9) l3 (fun y hy => ?_) (fun u4 k4 l4 y4 z4 e4 => ?_)
  · rw [k13.1 54 y (by omega), k13.1 55 y (by omega), k13.1 56 y (by omega)]
    exact hE y hy
  · rw [em] at l4 e4
    have k34 : Kp (fun a k => ¬ (42 ≤ a ∧ a ≤ 46) ∧ ¬ (54 ≤ a ∧ a ≤ 56) ∧ a ≠ 173 ∧ a ≠ u.2.2.1 + 16 ∧ ¬ (178 ≤ a ∧ a ≤ 194 ∧ (a - 178) % 4 = 0 ∧ k = 5)) u2 u4 := kp_t (kp_m k3 (fun a k h => by omega)) (kp_m k4 (fun a k h => by omega))
    have k24 : Kp (fun a k => ¬ (42 ≤ a ∧ a ≤ 46) ∧ ¬ (54 ≤ a ∧ a ≤ 56) ∧ a ≠ 173 ∧ a ≠ u.2.2.1 + 16 ∧ ¬ (178 ≤ a ∧ a ≤ 194 ∧ (a - 178) % 4 = 0 ∧ k = 5)) u1 u4 := kp_t (kp_m k2 (fun a k h => by omega)) k34
    have hfb : ∀ j, j < 5 → u4.1 (178 + 4 * j) 5 = 0 ∧ FB u4 (178 + 4 * j + 3) := fun j hj => ⟨z4 j hj, fb_K (hG1 j hj).2 k24 (fun x => by omega)⟩
    refine hQ u4 (kp_t (kp_m k13 (fun a j h => by unfold YSc at h; omega)) (kp_m k4 (fun a j h => by unfold YSc at h; omega))) hW1.1 l4 (fun j hj => ⟨Or.inl (hfb j hj).1, (hfb j hj).2⟩) (fb_K b3 k4 (fun j => by omega)) y4 e4 hfb
def SRy (a k : Nat) : Prop := a ≠ 241 ∧ a ≠ 242 ∧ a ≠ 243 ∧ ¬ (a = 198 ∧ (k = 57 ∨ k = 59 ∨ k = 60 ∨ k = 61 ∨ k = 62 ∨ k = 64 ∨ k = 115))
theorem r_year {P : Pl} {N : Nat → Nat} {k : Nat} {Q : Int32 → St → Prop} {u : St} (hP : VP P) (hN : VN P N) (hk : k < pk P) (hM : mPl u P) (hL : mLa u N) (h9 : N 0 < 999)
    (hQ : ∀ u', Kp SRy u u' → mLa u' (yrN P N k) → Q (nI (pop (ww P N k))) u') : s_X12_yearGoes (nI k) Q u := by
  have h0 := pk_pc hP hk
  have hk5 := hP.2.2.2.2.2.1
  have hw64 : ww P N k < 64 := ww_lt hP N k
  unfold s_X12_yearGoes
  refine r_laysWay hP hN h0 hk hM hL (fun u1 p m h1 h2 k1 => ?_)
  obtain ⟨a1, a2, a3⟩ := w_spec h1
  have hw : WayN u1 (wp P N k) (wm P N k) := by
    refine ⟨by rw [a2]; exact h2.1, fun i hi => ?_, fun c hc => ?_⟩
    · rw [h2.2.1 i (by omega), a3 i (by omega)]
    · rw [h2.2.2 c hc, a2, stp_c a3]
  have hc := w_cel hP h0 a1
  have hM1 : mPl u1 P := mPl_K hM k1 (fun x j h => by unfold SW; omega)
  refine r_wet hP hN hc.1 hc.2.1 hw (mLa_K hL k1 (fun j => by unfold SW; omega)) (fun u2 k2 l2 => ?_)
  have hM2 : mPl u2 P := mPl_K hM1 k2 (fun x j h => by omega)
  have hw2 : WayN u2 (wp P N k) (wm P N k) := wayN_K hw k2 (by omega) (fun a j h => by omega)
  refine r_wset hP hM2 hw2 hc.1 hc.2.2 (r_bits hw64 ?_)
  refine r_pies hP (wet_vn hP hN _ hc.2.1) h0 hM2 l2 hw2 hc.1 hc.2.2 (fun u3 k3 l3 => ?_)
  have l3 : mLa u3 (midN P N k) := l3
  have hV := mid_vn hP hN hc.2.1
  have em : midN P N k 0 = N 0 := mid_n hP hc.2.1 (Or.inl rfl)
  unfold rEnd
  refine r_isKept l3 hV.2.2.2.2.2.1 (fun u4 k4 l4 => ⟨by first | decide | (unfold vp_in; decide), bnd_i ?_⟩)
  rw [show ((0 : Int32)).toNatClampNeg = 0 by first | decide | (unfold vp_in; decide), l4 0 (by omega), keepN_lo (by omega), em, nI_1]
  have k14 : Kp SRy u u4 := kp_t (kp_m k1 (fun a j h => by unfold SRy at h; unfold SW; omega)) (kp_t (kp_m k2 (fun a j h => by unfold SRy at h; omega)) (kp_t (kp_m k3 (fun a j h => by unfold SRy at h; unfold SYr; omega)) (kp_m k4 (fun a j h => by unfold SRy at h; omega))))
  exact hQ _ (kp_I k14 (by unfold SRy; omega)) (mLa_up l4)
