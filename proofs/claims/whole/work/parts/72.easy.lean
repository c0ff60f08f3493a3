/-! ===== feed, end, fault, status, seed, octet ===== -/
def byt (v : Int32) (j : Nat) : Int32 := (v >>> (nI (8 * (3 - j)) &&& 31)) &&& 255
theorem byt_n (v : Int32) (j : Nat) : ∃ b : Nat, b < 256 ∧ byt v j = nI b := pk_andE _ 8 (by first | decide | (unfold vp_in; decide))
theorem ap_step {v : Int32} {Q : St → Prop} {n s k : Nat} {u : St} (h : u.1 1 1 = nI k) (hk : k < 1600) (hs : s < 32) (hn : sX9_append_p3n v Q n (nI s + (-8)) (tI (tI u 2 k ((v >>> (nI s &&& 31)) &&& 255)) 1 1 (nI (k + 1)))) : sX9_append_p3n v Q (n + 1) (nI s) u := by
  show sX9_append_p3b v Q (sX9_append_p3n v Q n) (nI s) u
  unfold sX9_append_p3b
  simp only [bnd]
  first | refine i_neg (nI_pos (by omega)) ?_ | rw [if_neg (nI_pos (by omega))]
  rw [h]
  first | refine i_neg (nI_ge (b := 1600) hk (by omega)) ?_ | rw [if_neg (nI_ge (b := 1600) hk (by omega))]
  try (with_reducible rfl)
  refine ⟨vp_in_nI hk (by omega), ?_⟩
  rw [nI_clamp (by omega), t_n _ _ (by omega), h, nI_1]
  exact hn
theorem ap_end {v : Int32} {Q : St → Prop} {n : Nat} {x : Int32} {u : St} (hx : x < 0) (hQ : Q u) : sX9_append_p3n v Q (n + 1) x u := by
  show sX9_append_p3b v Q (sX9_append_p3n v Q n) x u
  unfold sX9_append_p3b
  first | refine i_pos hx ?_ | rw [if_pos hx]
  try (with_reducible rfl)
  exact hQ
theorem q_append {v : Int32} {n : Nat} {Q : St → Prop} {u : St} (h : u.1 1 1 = nI n) (hn : n + 4 ≤ 1600) (hQ : ∀ u', Kp (fun a k => ¬ (a = 1 ∧ k = 1) ∧ a ≠ 2) u u' → u'.1 1 1 = nI (n + 4) → (∀ j, j < n → u'.1 2 j = u.1 2 j) → (∀ j, j < 4 → u'.1 2 (n + j) = byt v j) → Q u') : s_X9_append v Q u := by
  unfold s_X9_append sX9_append_p3
  refine ⟨5, ?_⟩
  have e1 : nI 24 + (-8) = nI 16 := by first | decide | (unfold vp_in; decide)
  have e2 : nI 16 + (-8) = nI 8 := by first | decide | (unfold vp_in; decide)
  have e3 : nI 8 + (-8) = nI 0 := by first | decide | (unfold vp_in; decide)
  have e4 : nI 0 + (-8) < (0 : Int32) := by first | decide | (unfold vp_in; decide)
  refine ap_step (s := 24) h (by omega) (by omega) ?_
  rw [e1]
  refine ap_step (t_s _ _ _ _) (by omega) (by omega) ?_
  rw [e2]
  refine ap_step (t_s _ _ _ _) (by omega) (by omega) ?_
  rw [e3]
  refine ap_step (t_s _ _ _ _) (by omega) (by omega) ?_
  refine ap_end e4 ?_
  refine hQ _ (kp_I (kp_I (kp_I (kp_I (kp_I (kp_I (kp_I (kp_I (kp_r u) (by omega)) (by omega)) (by omega)) (by omega)) (by omega)) (by omega)) (by omega)) (by omega)) (t_s _ _ _ _) (fun j hj => ?_) (fun j hj => ?_)
  · rw [t_n _ _ (by omega), t_n _ _ (by omega), t_n _ _ (by omega), t_n _ _ (by omega), t_n _ _ (by omega), t_n _ _ (by omega), t_n _ _ (by omega), t_n _ _ (by omega)]
  · have : j = 0 ∨ j = 1 ∨ j = 2 ∨ j = 3 := by omega
    rcases this with rfl | rfl | rfl | rfl
    · rw [t_n _ _ (by omega), t_n _ _ (by omega), t_n _ _ (by omega), t_n _ _ (by omega), t_n _ _ (by omega), t_n _ _ (by omega), t_n _ _ (by omega)]
      exact t_s _ _ _ _
    · rw [t_n _ _ (by omega), t_n _ _ (by omega), t_n _ _ (by omega), t_n _ _ (by omega), t_n _ _ (by omega)]
      exact t_s _ _ _ _
    · rw [t_n _ _ (by omega), t_n _ _ (by omega), t_n _ _ (by omega)]
      exact t_s _ _ _ _
    · rw [t_n _ _ (by omega)]
      exact t_s _ _ _ _
def fa5 (a b c d e : Int32) (j : Nat) : Int32 := if j < 4 then a else if j < 8 then b else if j < 12 then c else if j < 16 then d else e
theorem q_feed {a b c d e : Int32} {n : Nat} {Q : Int32 → St → Prop} {u : St} (h : u.1 1 1 = nI n) (hn : n + 20 ≤ 1600) (hQ : ∀ u', Kp (fun a k => ¬ (a = 1 ∧ k = 1) ∧ a ≠ 2) u u' → u'.1 1 1 = nI (n + 20) → (∀ j, j < n → u'.1 2 j = u.1 2 j) → (∀ j, j < 20 → u'.1 2 (n + j) = byt (fa5 a b c d e j) (j % 4)) → Q (nI (n + 20)) u') : s_X11_feed a b c d e Q u := by
  unfold s_X11_feed
  rw [h, show nI n + 20 = nI (n + 20) from nI_add n 20]
  first | refine i_pos (nI_le (b := 1600) hn (by omega)) ?_ | rw [if_pos (nI_le (b := 1600) hn (by omega))]
  try (with_reducible rfl)
  refine q_append h (by omega) (fun u1 k1 a1 b1 c1 => ?_)
  refine q_append a1 (by omega) (fun u2 k2 a2 b2 c2 => ?_)
  refine q_append a2 (by omega) (fun u3 k3 a3 b3 c3 => ?_)
  refine q_append a3 (by omega) (fun u4 k4 a4 b4 c4 => ?_)
  refine q_append a4 (by omega) (fun u5 k5 a5 b5 c5 => ?_)
  have e5 : u5.1 1 1 = nI (n + 20) := a5
  rw [e5]
  refine hQ u5 (kp_t k1 (kp_t k2 (kp_t k3 (kp_t k4 k5)))) e5 (fun j hj => ?_) (fun j hj => ?_)
  · rw [b5 j (by omega), b4 j (by omega), b3 j (by omega), b2 j (by omega), b1 j hj]
  · unfold fa5
    by_cases h1 : j < 4
    · first | refine i_pos h1 ?_ | rw [if_pos h1]
      rw [b5 _ (by omega), b4 _ (by omega), b3 _ (by omega), b2 _ (by omega), c1 j h1, Nat.mod_eq_of_lt h1]
    first | refine i_neg h1 ?_ | rw [if_neg h1]
    try (with_reducible rfl)
    by_cases h2 : j < 8
    · first | refine i_pos h2 ?_ | rw [if_pos h2]
      rw [b5 _ (by omega), b4 _ (by omega), b3 _ (by omega), show n + j = n + 4 + (j - 4) by omega, c2 (j - 4) (by omega), show j % 4 = j - 4 by omega]
    first | refine i_neg h2 ?_ | rw [if_neg h2]
    try (with_reducible rfl)
    by_cases h3 : j < 12
    · first | refine i_pos h3 ?_ | rw [if_pos h3]
      rw [b5 _ (by omega), b4 _ (by omega), show n + j = n + 4 + 4 + (j - 8) by omega, c3 (j - 8) (by omega), show j % 4 = j - 8 by omega]
    first | refine i_neg h3 ?_ | rw [if_neg h3]
    try (with_reducible rfl)
    by_cases h4 : j < 16
    · first | refine i_pos h4 ?_ | rw [if_pos h4]
      rw [b5 _ (by omega), show n + j = n + 4 + 4 + 4 + (j - 12) by omega, c4 (j - 12) (by omega), show j % 4 = j - 12 by omega]
    · first | refine i_neg h4 ?_ | rw [if_neg h4]
      rw [show n + j = n + 4 + 4 + 4 + 4 + (j - 16) by omega, c5 (j - 16) (by omega), show j % 4 = j - 16 by omega]
theorem r_feed {a b c d e : Int32} {n : Nat} {Q : Int32 → St → Prop} {u : St} (h : u.1 198 1 = nI n) (hn : n + 20 ≤ 1600) (hQ : ∀ u', Kp (fun a k => ¬ (a = 198 ∧ k = 1) ∧ a ≠ 199) u u' → u'.1 198 1 = nI (n + 20) → (∀ j, j < n → u'.1 199 j = u.1 199 j) → (∀ j, j < 20 → u'.1 199 (n + j) = byt (fa5 a b c d e j) (j % 4)) → Q (nI (n + 20)) u') : s_X12_feed a b c d e Q u := by
  unfold s_X12_feed
  rw [h, show nI n + 20 = nI (n + 20) from nI_add n 20]
  first | refine i_pos (nI_le (b := 1600) hn (by omega)) ?_ | rw [if_pos (nI_le (b := 1600) hn (by omega))]
  try (with_reducible rfl)
  unfold sX12_feed_p28
  refine for_up (fun m i s => sX12_feed_p28n a b c d e Q m i s) 20 (fun i s => Kp (fun a k => ¬ (a = 198 ∧ k = 1) ∧ a ≠ 199) u s ∧ s.1 198 1 = nI (n + i) ∧ (∀ j, j < n → s.1 199 j = u.1 199 j) ∧ (∀ j, j < i → s.1 199 (n + j) = byt (fa5 a b c d e j) (j % 4))) ?_ 0 u (by omega) ⟨kp_r u, h, fun _ _ => rfl, fun j hj => absurd hj (by omega)⟩
  rintro m i s hi ⟨hK, h1, h2, h3⟩ hnext
  show sX12_feed_p28b a b c d e Q (sX12_feed_p28n a b c d e Q m) (nI i) s
  unfold sX12_feed_p28b
  by_cases hi20 : i = 20
  · subst hi20
    first | refine i_pos (nI_le (a := 20) (Nat.le_refl _) (by omega)) ?_ | rw [if_pos (nI_le (a := 20) (Nat.le_refl _) (by omega))]
    rw [h1]
    exact hQ s hK h1 h2 h3
  first | refine i_neg (nI_ge (b := 20) (by omega) (by omega)) ?_ | rw [if_neg (nI_ge (b := 20) (by omega) (by omega))]
  try (with_reducible rfl)
  have hgo : ∀ x : Int32, x = fa5 a b c d e i → sX12_feed_p81 a b c d e (nI i) x Q (sX12_feed_p28n a b c d e Q m) s := by
    rintro x rfl
    unfold sX12_feed_p81
    simp only [bnd]
    have e1 : nI i - nI i / 4 * 4 = nI (i % 4) := pk_rem (d := 4) (by omega) (by omega) (by omega)
    have e2 : (8 : Int32) * (3 - nI (i % 4)) = nI (8 * (3 - i % 4)) := by
      rw [show (3 : Int32) - nI (i % 4) = nI (3 - i % 4) from pk_sub (a := 3) (by omega)]
      exact pk_mul 8 _
    rw [h1, e1, e2, nI_clamp (by omega), t_n _ _ (by omega), h1, nI_1, nI_1]
    refine ⟨vp_in_nI (by omega) (by omega), ?_⟩
    refine hnext (by omega) _ ⟨kp_I (kp_I hK (by omega)) (by omega), t_s _ _ _ _, fun j hj => ?_, fun j hj => ?_⟩
    · rw [t_n _ _ (by omega), t_n _ _ (by omega)]
      exact h2 j hj
    · rw [t_n _ _ (by omega)]
      by_cases e : j = i
      · rw [e]
        exact t_s _ _ _ _
      · rw [t_n _ _ (by omega)]
        exact h3 j (by omega)
  by_cases g1 : i < 4
  · first | refine i_neg (nI_ge (b := 4) g1 (by omega)) ?_ | rw [if_neg (nI_ge (b := 4) g1 (by omega))]
    try (with_reducible rfl)
    exact hgo _ (by unfold fa5; rw [if_pos g1])
  first | refine i_pos (nI_le (a := 4) (by omega) (by omega)) ?_ | rw [if_pos (nI_le (a := 4) (by omega) (by omega))]
  try (with_reducible rfl)
  by_cases g2 : i < 8
  · first | refine i_neg (nI_ge (b := 8) g2 (by omega)) ?_ | rw [if_neg (nI_ge (b := 8) g2 (by omega))]
    try (with_reducible rfl)
    exact hgo _ (by unfold fa5; rw [if_neg g1, if_pos g2])
  first | refine i_pos (nI_le (a := 8) (by omega) (by omega)) ?_ | rw [if_pos (nI_le (a := 8) (by omega) (by omega))]
  try (with_reducible rfl)
  by_cases g3 : i < 12
  · first | refine i_neg (nI_ge (b := 12) g3 (by omega)) ?_ | rw [if_neg (nI_ge (b := 12) g3 (by omega))]
    try (with_reducible rfl)
    exact hgo _ (by unfold fa5; rw [if_neg g1, if_neg g2, if_pos g3])
  first | refine i_pos (nI_le (a := 12) (by omega) (by omega)) ?_ | rw [if_pos (nI_le (a := 12) (by omega) (by omega))]
  try (with_reducible rfl)
  by_cases g4 : i < 16
  · first | refine i_neg (nI_ge (b := 16) g4 (by omega)) ?_ | rw [if_neg (nI_ge (b := 16) g4 (by omega))]
    try (with_reducible rfl)
    exact hgo _ (by unfold fa5; rw [if_neg g1, if_neg g2, if_neg g3, if_pos g4])
  · first | refine i_pos (nI_le (a := 16) (by omega) (by omega)) ?_ | rw [if_pos (nI_le (a := 16) (by omega) (by omega))]
    try (with_reducible rfl)
    exact hgo _ (by unfold fa5; rw [if_neg g1, if_neg g2, if_neg g3, if_neg g4])
/-- all groups but the tape's -/
theorem inv_tape {u u' : St} {S : Nat → Nat → Prop} (h : Inv u) (hK : Kp S u u') (ht : gTape u') (hS : ∀ a k, ¬ DTape a k → S a k) : Inv u' := by
  obtain ⟨P, N, ⟨h1, h2, h3, h4, h5, h6, h7, h8, h9, h10, h11⟩, h12, h13⟩ := h
  have hto : 7 ≤ u.2.2.1 ∧ u.2.2.1 ≤ 24 := by
    rcases h7.1 with e | e <;> omega
  exact ⟨P, N, ⟨ht, k_fault h2 hK (fun a k h => hS _ _ (by unfold DFault at h; unfold DTape; omega)), k_ref h3 hK (fun a k h => hS _ _ (by unfold DRef at h; unfold DTape; omega)), k_seed h4 hK, k_pic h5 hK (fun a k h => hS _ _ (by unfold DPic at h; unfold DTape; omega)), k_words h6 hK (fun a k h => hS _ _ (by unfold DWords at h; unfold DTape; omega)), k_plain h7 hK (fun a k h => hS _ _ (by unfold DTold at h; unfold DTape; omega)) (fun a k h => hS _ _ (by unfold DPlan at h; unfold DTape; omega)), k_sight h8 hK (fun a k h => hS _ _ (by unfold DSight at h; unfold DTape; omega)), k_land h9 hK (fun a k h => hS _ _ (by unfold DLand at h; unfold DTape; omega)), k_past h10 hK (hS _ _ (by unfold DTape; omega)) (fun a k h => hS _ _ (by unfold DPast at h; unfold DTape; omega)), k_no h11 hK (fun a k h => hS _ _ (by unfold DNo at h; unfold DTape; omega))⟩, k_ways h12 hK (fun a k h => hS _ _ (by unfold DTape; omega)), k_facts h13 hK (fun a k h => hS _ _ (by unfold DTape; omega))⟩
theorem q_refuse {k : Nat} {Q : Int32 → St → Prop} {u : St} (hk : k < 6) (hQ : Q (-1) (tI u 177 k (u.1 177 k + 1))) : s_X11_refuse (nI k) Q u := by
  unfold s_X11_refuse
  simp only [bnd]
  rw [nI_clamp (by omega)]
  exact ⟨vp_in_nI hk (by omega), hQ⟩
theorem call_feed (a b c d e : Int32) : Call (s_X11_feed a b c d e) (s_X12_feed a b c d e) := by
  intro u h
  obtain ⟨n, B, h1, h2, h3, h4⟩ := h.choose_spec.choose_spec.1.1
  by_cases hn : n + 20 ≤ 1600
  · refine q_feed h2 hn (fun u1 k1 a1 b1 c1 => ?_)
    refine r_feed (n := n) (by rw [k1.1 198 1 (by omega)]; exact h3) hn (fun u2 k2 a2 b2 c2 => ⟨rfl, ?_⟩)
    have hK : Kp (fun a k => ¬ DTape a k) u u2 := kp_t (kp_m k1 (fun a k h => by unfold DTape at h; omega)) (kp_m k2 (fun a k h => by unfold DTape at h; omega))
    refine inv_tape h hK ?_ (fun a k h => h)
    have hb : ∀ j, ∃ x : Nat, x < 256 ∧ byt (fa5 a b c d e j) (j % 4) = nI x := fun j => byt_n _ _
    refine ⟨n + 20, fun k => if k < n then B k else (hb (k - n)).choose, hn, ?_, a2, fun k hk => ?_⟩
    · rw [k2.1 1 1 (by omega)]
      exact a1
    · rw [k2.1 2 k (by omega)]
      by_cases hkn : k < n
      · simp only [if_pos hkn]
        rw [b1 k hkn, b2 k hkn, k1.1 199 k (by omega)]
        exact h4 k hkn
      · simp only [if_neg hkn]
        have hx := (hb (k - n)).choose_spec
        have e1 := c1 (k - n) (by omega)
        have e2 := c2 (k - n) (by omega)
        rw [show n + (k - n) = k by omega] at e1 e2
        rw [e1, e2]
        exact ⟨hx.2, hx.2, hx.1⟩
  · have h200 := h.choose_spec.choose_spec.1.2.2.1 0 (by omega)
    unfold s_X11_feed
    rw [h2, show nI n + 20 = nI (n + 20) from nI_add n 20]
    first | refine i_neg (nI_ge (a := 1600) (by omega) (by omega)) ?_ | rw [if_neg (nI_ge (a := 1600) (by omega) (by omega))]
    try (with_reducible rfl)
    refine q_refuse (k := 0) (by omega) ?_
    unfold s_X12_feed
    simp only [bnd]
    rw [t_n _ _ (by omega), h3, show nI n + 20 = nI (n + 20) from nI_add n 20]
    first | refine i_neg (nI_ge (a := 1600) (by omega) (by omega)) ?_ | rw [if_neg (nI_ge (a := 1600) (by omega) (by omega))]
    try (with_reducible rfl)
    refine ⟨by first | decide | (unfold vp_in; decide), trivial, ?_⟩
    rw [show ((0 : Int32)).toNatClampNeg = 0 by first | decide | (unfold vp_in; decide), t_n _ _ (by omega)]
    exact inv_ref h (by omega) rfl
theorem call_end (v : Int32) : Call (s_X11_end v) (s_X12_end v) := by
  intro u h
  obtain ⟨n, B, h1, h2, h3, h4⟩ := h.choose_spec.choose_spec.1.1
  have hrf : ∀ Q : Int32 → St → Prop, Q 0 (tI u 177 0 (u.1 177 0 + 1)) → sX11_end_p15 Q u := by
    intro Q hq
    unfold sX11_end_p15
    exact q_refuse (k := 0) (by omega) hq
  have hno : sX12_end_p12 (fun r2 u2 => (0 : Int32) = r2 ∧ Inv u2) (tI u 177 0 (u.1 177 0 + 1)) := by
    unfold sX12_end_p12
    simp only [bnd]
    refine ⟨by first | decide | (unfold vp_in; decide), trivial, ?_⟩
    rw [show ((0 : Int32)).toNatClampNeg = 0 by first | decide | (unfold vp_in; decide), t_n _ _ (by omega)]
    exact inv_ref h (by omega) rfl
  unfold s_X11_end s_X12_end
  rw [h2]
  rcases pk_ix v (n := n + 1) (by omega) with a | a | ⟨x, hx, rfl⟩
  · first | refine i_pos a ?_ | rw [if_pos a]
    try (with_reducible rfl)
    refine hrf _ ?_
    first | refine i_pos a ?_ | rw [if_pos a]
    try (with_reducible rfl)
    exact hno
  · by_cases hb : v < 0
    · first | refine i_pos hb ?_ | rw [if_pos hb]
      try (with_reducible rfl)
      refine hrf _ ?_
      first | refine i_pos hb ?_ | rw [if_pos hb]
      try (with_reducible rfl)
      exact hno
    · have hnle : ¬ v ≤ nI n := by
        intro hle
        have := Int32.le_trans a hle
        exact nI_ge (a := n) (b := n + 1) (by omega) (by omega) this
      first | refine i_neg hb ?_ | rw [if_neg hb]
      first | refine i_neg hnle ?_ | rw [if_neg hnle]
      try (with_reducible rfl)
      refine hrf _ ?_
      first | refine i_neg hb ?_ | rw [if_neg hb]
      rw [t_n _ _ (by omega), h3]
      first | refine i_neg hnle ?_ | rw [if_neg hnle]
      try (with_reducible rfl)
      exact hno
  · first | refine i_neg (nI_pos (by omega)) ?_ | rw [if_neg (nI_pos (by omega))]
    first | refine i_pos (nI_le (by omega) (by omega)) ?_ | rw [if_pos (nI_le (by omega) (by omega))]
    try (with_reducible rfl)
    show (if nI x < 0 then _ else _)
    first | refine i_neg (nI_pos (by omega)) ?_ | rw [if_neg (nI_pos (by omega))]
    rw [t_n _ _ (by omega), h3]
    first | refine i_pos (nI_le (by omega) (by omega)) ?_ | rw [if_pos (nI_le (by omega) (by omega))]
    try (with_reducible rfl)
    refine ⟨rfl, ?_⟩
    refine inv_tape (u' := tI (tI u 1 1 (nI x)) 198 1 (nI x)) (S := fun a k => ¬ DTape a k) h (kp_I (kp_I (kp_r u) (by unfold DTape; omega)) (by unfold DTape; omega)) ⟨x, B, by omega, ?_, t_s _ _ _ _, fun k hk => ?_⟩ (fun a k h => h)
    · rw [t_n _ _ (by omega), t_s]
    · rw [t_n _ _ (by omega), t_n _ _ (by omega), t_n _ _ (by omega), t_n _ _ (by omega)]
      exact h4 k (by omega)
theorem call_fault (v : Int32) : Call (s_X11_fault v) (s_X12_fault v) := by
  intro u h
  have hf := h.choose_spec.choose_spec.1.2.1
  unfold s_X11_fault s_X12_fault
  by_cases h0 : v = 0
  · simp only [h0, if_true]
    exact ⟨hf.1.symm, h⟩
  · by_cases h1 : v = 1
    · simp only [h0, h1, if_true, if_false, show ¬ (1 : Int32) = 0 by first | decide | (unfold vp_in; decide)]
      exact ⟨hf.2.symm, h⟩
    · simp only [h0, h1, if_false]
      exact ⟨trivial, h⟩
theorem call_status (v : Int32) : Call (s_X11_status v) (s_X12_status v) := by
  intro u h
  have hf := h.choose_spec.choose_spec.1.2.2.1
  unfold s_X11_status s_X12_status
  have hno : (¬ ∃ x, x < 6 ∧ v = nI x) → s_X12_isIn v.toInt64 0 5 (fun r1 u2 => if r1 = 0 then (-1 : Int32) = -1 ∧ Inv u2 else vp_in v 6 ∧ (-1 : Int32) = u2.1 200 v.toNatClampNeg ∧ Inv u2) u := by
    intro hn
    refine r_below (v := v) (n := 6) (by omega) (fun x hx e => absurd ⟨x, hx, e⟩ hn) (fun _ => ?_)
    first | refine i_pos rfl ?_ | rw [if_pos rfl]
    try (with_reducible rfl)
    exact ⟨rfl, h⟩
  rcases pk_ix v (n := 6) (by omega) with a | a | ⟨x, hx, rfl⟩
  · first | refine i_pos a ?_ | rw [if_pos a]
    try (with_reducible rfl)
    refine hno ?_
    rintro ⟨x, hx, rfl⟩
    exact nI_pos (by omega) a
  · have hn : ¬ ∃ x, x < 6 ∧ v = nI x := by
      rintro ⟨x, hx, rfl⟩
      exact nI_ge hx (by omega) a
    by_cases hb : v < 0
    · first | refine i_pos hb ?_ | rw [if_pos hb]
      try (with_reducible rfl)
      exact hno hn
    · have hnl : ¬ v < 6 := by
        intro hl
        have a' : (6 : Int32) ≤ v := a
        rw [Int32.le_iff_toInt_le] at a'
        rw [Int32.lt_iff_toInt_lt] at hl
        omega
      first | refine i_neg hb ?_ | rw [if_neg hb]
      first | refine i_neg hnl ?_ | rw [if_neg hnl]
      try (with_reducible rfl)
      exact hno hn
  · first | refine i_neg (nI_pos (by omega)) ?_ | rw [if_neg (nI_pos (by omega))]
    first | refine i_pos (nI_lt (b := 6) hx (by omega)) ?_ | rw [if_pos (nI_lt (b := 6) hx (by omega))]
    try (with_reducible rfl)
    refine ⟨vp_in_nI hx (by omega), ?_⟩
    refine r_below (v := nI x) (n := 6) (by omega) (fun y hy e => ?_) (fun hn => absurd ⟨x, hx, rfl⟩ hn)
    first | refine i_neg (by first | decide | (unfold vp_in; decide)) ?_ | rw [if_neg (by first | decide | (unfold vp_in; decide))]
    try (with_reducible rfl)
    refine ⟨vp_in_nI hx (by omega), ?_, h⟩
    rw [nI_clamp (by omega)]
    exact (hf x hx).symm
theorem call_octet (v : Int32) : Call (s_X11_octet v) (s_X12_octet v) := by
  intro u h
  obtain ⟨n, h1, h2, h3, h4⟩ := h.choose_spec.choose_spec.1.2.2.2.2.1
  unfold s_X11_octet s_X12_octet
  rw [h2]
  rcases pk_ix v (n := n) (by omega) with a | a | ⟨x, hx, rfl⟩
  · first | refine i_pos a ?_ | rw [if_pos a]
    first | refine i_pos a ?_ | rw [if_pos a]
    try (with_reducible rfl)
    exact ⟨rfl, h⟩
  · by_cases hb : v < 0
    · first | refine i_pos hb ?_ | rw [if_pos hb]
      first | refine i_pos hb ?_ | rw [if_pos hb]
      try (with_reducible rfl)
      exact ⟨rfl, h⟩
    · have hnl : ¬ v < nI n := by
        intro hl
        rw [Int32.le_iff_toInt_le] at a
        rw [Int32.lt_iff_toInt_lt] at hl
        omega
      first | refine i_neg hb ?_ | rw [if_neg hb]
      first | refine i_neg hnl ?_ | rw [if_neg hnl]
      first | refine i_neg hb ?_ | rw [if_neg hb]
      rw [h3]
      first | refine i_pos a ?_ | rw [if_pos a]
      try (with_reducible rfl)
      exact ⟨rfl, h⟩
  · first | refine i_neg (nI_pos (by omega)) ?_ | rw [if_neg (nI_pos (by omega))]
    first | refine i_pos (nI_lt hx (by omega)) ?_ | rw [if_pos (nI_lt hx (by omega))]
    try (with_reducible rfl)
    refine ⟨vp_in_nI (by omega) (by omega), ?_⟩
    first | refine i_neg (nI_pos (by omega)) ?_ | rw [if_neg (nI_pos (by omega))]
    rw [h3]
    first | refine i_neg (nI_ge hx (by omega)) ?_ | rw [if_neg (nI_ge hx (by omega))]
    try (with_reducible rfl)
    refine ⟨vp_in_nI (by omega) (by omega), ?_, h⟩
    rw [nI_clamp (by omega)]
    exact (h4 x hx).symm
theorem call_seed (v : Int32) : Call (s_X11_seed v) (s_X12_seed v) := by
  intro u h
  unfold s_X11_seed s_X12_seed
  by_cases h0 : (0 : Int32) ≤ v
  · first | refine i_pos h0 ?_ | rw [if_pos h0]
    try (with_reducible rfl)
    show (if (0 : Int32) ≤ v then _ else _)
    first | refine i_pos h0 ?_ | rw [if_pos h0]
    try (with_reducible rfl)
    refine ⟨rfl, ?_⟩
    have hv := i32_b v
    have h0' : 0 ≤ v.toInt := by
      rw [Int32.le_iff_toInt_le] at h0
      exact h0
    obtain ⟨P, N, ⟨h1, h2, h3, h4, h5, h6, h7, h8, h9, h10, h11⟩, h12, h13⟩ := h
    have hn : ∀ f : Nat, (tL (tL u 0 18 v.toInt64) 198 80 v.toInt64).2.1 233 f = u.2.1 233 f := by
      intro f
      show (if 233 = 198 ∧ f = 80 then v.toInt64 else if 233 = 0 ∧ f = 18 then v.toInt64 else u.2.1 233 f) = _
      first | refine i_neg (by omega) ?_ | rw [if_neg (by omega)]
      first | refine i_neg (by omega) ?_ | rw [if_neg (by omega)]
      try (with_reducible rfl)
    have hs : gSeed (tL (tL u 0 18 v.toInt64) 198 80 v.toInt64) := by
      refine ⟨v.toInt.toNat, by omega, ?_, ?_⟩
      · show (if 0 = 198 ∧ 18 = 80 then v.toInt64 else if 0 = 0 ∧ 18 = 18 then v.toInt64 else u.2.1 0 18) = _
        first | refine i_neg (by omega) ?_ | rw [if_neg (by omega)]
        first | refine i_pos ⟨rfl, rfl⟩ ?_ | rw [if_pos ⟨rfl, rfl⟩]
        rw [lN_lI (by omega), i64]
        congr 1
        omega
      · show (if 198 = 198 ∧ 80 = 80 then v.toInt64 else if 198 = 0 ∧ 80 = 18 then v.toInt64 else u.2.1 198 80) = _
        first | refine i_pos ⟨rfl, rfl⟩ ?_ | rw [if_pos ⟨rfl, rfl⟩]
        rw [lN_lI (by omega), i64]
        congr 1
        omega
    have hm : mPl (tL (tL u 0 18 v.toInt64) 198 80 v.toInt64) P := ⟨h7.2.2.2.1, fun f hf => by rw [hn]; exact h7.2.2.2.2.1 f hf, fun c hc => by rw [hn]; exact h7.2.2.2.2.2.1 c hc, h7.2.2.2.2.2.2⟩
    exact ⟨P, N, ⟨h1, h2, h3, hs, h5, h6, ⟨h7.1, h7.2.1, h7.2.2.1, hm⟩, h8, h9, h10, h11⟩, h12, h13⟩
  · have h200 := h.choose_spec.choose_spec.1.2.2.1 5 (by omega)
    first | refine i_neg h0 ?_ | rw [if_neg h0]
    try (with_reducible rfl)
    refine q_refuse (k := 5) (by omega) ?_
    show (if (0 : Int32) ≤ v then _ else _)
    first | refine i_neg h0 ?_ | rw [if_neg h0]
    try (with_reducible rfl)
    simp only [bnd]
    refine ⟨by first | decide | (unfold vp_in; decide), trivial, ?_⟩
    rw [show ((5 : Int32)).toNatClampNeg = 5 by first | decide | (unfold vp_in; decide), t_n _ _ (by omega)]
    exact inv_ref h (by omega) rfl
