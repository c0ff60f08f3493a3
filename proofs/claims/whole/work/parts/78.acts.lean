/-! ===== bake, dig, stone, undo ===== -/
theorem inv_act {S : Nat → Nat → Prop} {u u' : St} {P : Pl} {N N' : Nat → Nat} (hC : Ctx u P N) (hK : Kp S u u') (hS : ∀ a k, SP u.2.2.1 a k → ¬ DLand a k → ¬ DPast a k → S a k) (hl : gLand u' P N') (hp : gPast u' P N') (hw : ∀ k, k < 5 → u'.1 (178 + 4 * k) 5 = 0 ∧ FB u' (178 + 4 * k + 3)) (hf : gFacts u') : Inv u' := by
  have ht := ctx_t hC
  obtain ⟨h1, h2, h3, h4, h5, h6, h7, h8, h9, h10, h11⟩ := hC.1
  refine ⟨P, N', ⟨k_tape h1 hK (fun a k h => hS a k (Or.inl h) ?_ ?_), k_fault h2 hK (fun a k h => hS a k (Or.inr (Or.inl h)) ?_ ?_), k_ref h3 hK (fun a k h => hS a k (Or.inr (Or.inr (Or.inl h))) ?_ ?_), k_seed h4 hK, k_pic h5 hK (fun a k h => hS a k (Or.inr (Or.inr (Or.inr (Or.inl h)))) ?_ ?_), k_words h6 hK (fun a k h => hS a k (Or.inr (Or.inr (Or.inr (Or.inr (Or.inl h))))) ?_ ?_), k_plain h7 hK (fun a k h => hS a k (Or.inr (Or.inr (Or.inr (Or.inr (Or.inr (Or.inl h)))))) ?_ ?_) (fun a k h => hS a k (Or.inr (Or.inr (Or.inr (Or.inr (Or.inr (Or.inr (Or.inl h))))))) ?_ ?_), k_sight h8 hK (fun a k h => hS a k (Or.inr (Or.inr (Or.inr (Or.inr (Or.inr (Or.inr (Or.inr (Or.inl h)))))))) ?_ ?_), hl, hp, k_no h11 hK (fun a k h => hS a k (Or.inr (Or.inr (Or.inr (Or.inr (Or.inr (Or.inr (Or.inr (Or.inr (Or.inr (Or.inr h)))))))))) ?_ ?_)⟩, fun k hk => ⟨Or.inl (hw k hk).1, (hw k hk).2⟩, hf⟩
  · unfold DTape at h; unfold DLand; omega
  · unfold DTape at h; unfold DPast; omega
  · unfold DFault at h; unfold DLand; omega
  · unfold DFault at h; unfold DPast; omega
  · unfold DRef at h; unfold DLand; omega
  · unfold DRef at h; unfold DPast; omega
  · unfold DPic at h; unfold DLand; omega
  · unfold DPic at h; unfold DPast; omega
  · unfold DWords at h; unfold DLand; omega
  · unfold DWords at h; unfold DPast; omega
  · unfold DTold at h; unfold DLand; omega
  · unfold DTold at h; unfold DPast; omega
  · unfold DPlan at h; unfold DLand; omega
  · unfold DPlan at h; unfold DPast; omega
  · unfold DSight at h; unfold DLand; omega
  · unfold DSight at h; unfold DPast; omega
  · unfold DNo at h; unfold DLand; omega
  · unfold DNo at h; unfold DPast; omega
theorem kr_c {E E' : Nat → Nat → Nat} {Y : Nat} {N N' : Nat → Nat} (h : KR E Y N) (hE : ∀ j k, k < Y → E' j k = E j k) (hN : ∀ k, 115 ≤ k → k < 236 → N' k = N k) : KR E' Y N' := by
  refine ⟨by rw [hN 115 (by omega) (by omega)]; exact h.1, fun k hk => ?_⟩
  rw [hN _ (by omega) (by omega), hN _ (by omega) (by omega), hN _ (by omega) (by omega), hE _ _ (by omega), hE _ _ (by omega), hE _ _ (by omega)]
  exact h.2 k hk
/-- the pure facts of what lies on the stack -/
def pStk (P : Pl) (E : Nat → Nat → Nat) (Y n : Nat) (S : Nat → Nat → Nat) (ys : Nat → Nat) : Prop := ∀ i, i < n → ys i ≤ Y ∧ (∀ j, i ≤ j → j < n → ys i ≤ ys j) ∧ ys i ≤ S i 0 ∧ KR E (ys i) (S i) ∧ VN P (S i)
theorem past_of {u : St} {P : Pl} {N : Nat → Nat} (h : gPast u P N) : ∃ (Y : Nat) (E : Nat → Nat → Nat) (n o w : Nat) (S : Nat → Nat → Nat) (ys : Nat → Nat), Y ≤ N 0 ∧ u.1 42 1 = nI Y ∧ (∀ k, k < Y → u.1 54 k = nI (E 0 k) ∧ u.1 55 k = nI (E 1 k) ∧ u.1 56 k = nI (E 2 k)) ∧ KR E Y N ∧ n ≤ 20 ∧ o < 20 ∧ w < 20 ∧ cStk u P n o S ys ∧ mStk u n w S ∧ pStk P E Y n S ys := by
  obtain ⟨Y, E, n, o, w, Sk, ys, h1, h2, h3, h4, h5, h6, h7, h8, h9, h10, h11, h12⟩ := h
  exact ⟨Y, E, n, o, w, Sk, ys, h1, h2, h3, h4, h5, h6, h7, ⟨h8, h10, fun i hi => ⟨(h12 i hi).1, (h12 i hi).2.1⟩⟩, ⟨h9, h11, fun i hi => (h12 i hi).2.2.2.2.2.2.2⟩, fun i hi => ⟨(h12 i hi).2.2.1, (h12 i hi).2.2.2.1, (h12 i hi).2.2.2.2.1, (h12 i hi).2.2.2.2.2.1, (h12 i hi).2.2.2.2.2.2.1⟩⟩
theorem past_to {u : St} {P : Pl} {N : Nat → Nat} {Y : Nat} {E : Nat → Nat → Nat} {n o w : Nat} {S : Nat → Nat → Nat} {ys : Nat → Nat} (h1 : Y ≤ N 0) (h2 : u.1 42 1 = nI Y) (h3 : ∀ k, k < Y → u.1 54 k = nI (E 0 k) ∧ u.1 55 k = nI (E 1 k) ∧ u.1 56 k = nI (E 2 k)) (h4 : KR E Y N) (h5 : n ≤ 20) (h6 : o < 20) (h7 : w < 20) (h8 : cStk u P n o S ys) (h9 : mStk u n w S) (h10 : pStk P E Y n S ys) : gPast u P N :=
  ⟨Y, E, n, o, w, S, ys, h1, h2, h3, h4, h5, h6, h7, h8.1, h9.1, h8.2.1, h9.2.1, fun i hi => ⟨(h8.2.2 i hi).1, (h8.2.2 i hi).2, (h10 i hi).1, (h10 i hi).2.1, (h10 i hi).2.2.1, (h10 i hi).2.2.2.1, (h10 i hi).2.2.2.2, h9.2.2 i hi⟩⟩
theorem pus_push {P : Pl} {E E' : Nat → Nat → Nat} {Y Y' n : Nat} {S : Nat → Nat → Nat} {ys : Nat → Nat} {N : Nat → Nat} (hn : n ≤ 20) (h : pStk P E Y n S ys) (hY : Y ≤ Y') (hYN : Y ≤ N 0) (hK : KR E Y N) (hN : VN P N) (hE : ∀ j k, k < Y → E' j k = E j k) : pStk P E' Y' (pun n) (pus S N n) (pus ys Y n) := by
  have top : ∀ i, i < n → ys i ≤ Y := fun i hi => (h i hi).1
  intro i hi
  unfold pun at hi
  unfold pun pus
  by_cases h20 : n = 20
  · simp only [if_pos h20] at hi ⊢
    by_cases hi19 : i < 19
    · simp only [if_pos hi19]
      obtain ⟨a1, a2, a3, a4, a5⟩ := h (i + 1) (by omega)
      refine ⟨by omega, fun j hij hj => ?_, a3, kr_c a4 (fun j k hk => hE j k (by omega)) (fun _ _ _ => rfl), a5⟩
      by_cases hj19 : j < 19
      · simp only [if_pos hj19]
        exact a2 (j + 1) (by omega) (by omega)
      · simp only [if_neg hj19]
        exact a1
    · simp only [if_neg hi19]
      refine ⟨hY, fun j hij hj => ?_, hYN, kr_c hK hE (fun _ _ _ => rfl), hN⟩
      simp only [if_neg (show ¬ j < 19 by omega)]
      exact Nat.le_refl _
  · simp only [if_neg h20] at hi ⊢
    by_cases hin : i < n
    · simp only [if_pos hin]
      obtain ⟨a1, a2, a3, a4, a5⟩ := h i hin
      refine ⟨by omega, fun j hij hj => ?_, a3, kr_c a4 (fun j k hk => hE j k (by omega)) (fun _ _ _ => rfl), a5⟩
      by_cases hjn : j < n
      · simp only [if_pos hjn]
        exact a2 j hij hjn
      · simp only [if_neg hjn]
        exact a1
    · simp only [if_neg hin]
      refine ⟨hY, fun j hij hj => ?_, hYN, kr_c hK hE (fun _ _ _ => rfl), hN⟩
      simp only [if_neg (show ¬ j < n by omega)]
      exact Nat.le_refl _
theorem cStk_K {S0 : Nat → Nat → Prop} {u u' : St} {P : Pl} {n o : Nat} {S : Nat → Nat → Nat} {ys : Nat → Nat} (h : cStk u P n o S ys) (hK : Kp S0 u u') (hS : ∀ a k, a = 52 ∨ (57 ≤ a ∧ a ≤ 156) → S0 a k) : cStk u' P n o S ys := by
  refine ⟨?_, ?_, fun i hi => ?_⟩
  · rw [hK.1 52 0 (hS _ _ (by omega))]
    exact h.1
  · rw [hK.1 52 1 (hS _ _ (by omega))]
    exact h.2.1
  · have hr := ol_rng o i
    obtain ⟨a1, a2⟩ := h.2.2 i hi
    refine ⟨cLa_K a1 hK (fun x k a b c => hS _ _ (by omega)), ?_⟩
    rw [hK.1 (ol o i) 1 (hS _ _ (by omega))]
    exact a2
theorem mStk_K {S0 : Nat → Nat → Prop} {u u' : St} {n w : Nat} {S : Nat → Nat → Nat} (h : mStk u n w S) (hK : Kp S0 u u') (hS : ∀ a k, (a = 198 ∧ (k = 78 ∨ k = 79)) ∨ a = 254 → S0 a k) : mStk u' n w S := by
  refine ⟨?_, ?_, fun i hi k hk => ?_⟩
  · rw [hK.1 198 78 (hS _ _ (by omega))]
    exact h.1
  · rw [hK.1 198 79 (hS _ _ (by omega))]
    exact h.2.1
  · rw [hK.1 254 _ (hS _ _ (by omega))]
    exact h.2.2 i hi k hk
def upN (N : Nat → Nat) (j x : Nat) : Nat → Nat := fun k => if k = j then x else N k
theorem upN_s (N : Nat → Nat) (j x : Nat) : upN N j x j = x := by
  show (if j = j then x else N j) = x
  first | refine i_pos rfl ?_ | rw [if_pos rfl]
  try (with_reducible rfl)
theorem upN_n (N : Nat → Nat) {j x k : Nat} (h : k ≠ j) : upN N j x k = N k := by
  show (if k = j then x else N k) = N k
  first | refine i_neg h ?_ | rw [if_neg h]
  try (with_reducible rfl)
theorem mLa_up {u : St} {N : Nat → Nat} {j x : Nat} (h : mLa u N) : mLa (tI u 241 j (nI x)) (upN N j x) := by
  intro k hk
  by_cases e : k = j
  · rw [e, t_s, upN_s]
  · rw [t_n _ _ (Or.inr e), upN_n _ e]
    exact h k hk
theorem act_fin {u u5 : St} {P : Pl} {N N' : Nat → Nat} {Y : Nat} {E : Nat → Nat → Nat} {n o' w : Nat} {S : Nat → Nat → Nat} {ys : Nat → Nat} (hC : Ctx u P N) (hn : n ≤ 20) (ho' : o' < 20) (hw : w < 20) (hYN : Y ≤ N 0) (hY : u.1 42 1 = nI Y) (hE : ∀ k, k < Y → u.1 54 k = nI (E 0 k) ∧ u.1 55 k = nI (E 1 k) ∧ u.1 56 k = nI (E 2 k)) (hKR : KR E Y N) (hp : pStk P E Y n S ys)
    (hK : Kp (fun a k => ¬ (42 ≤ a ∧ a ≤ 46 ∧ ¬ (a = 42 ∧ k = 1)) ∧ a ≠ 52 ∧ ¬ (57 ≤ a ∧ a ≤ 156) ∧ ¬ (178 ≤ a ∧ a ≤ 194 ∧ (a - 178) % 4 = 0 ∧ k = 5) ∧ ¬ (a = 198 ∧ (k = 78 ∨ k = 79)) ∧ a ≠ 254 ∧ a ≠ 241) u u5)
    (hc : cStk u5 P (pun n) o' (pus S N n) (pus ys Y n)) (hm : mStk u5 (pun n) ((w + 1) % 20) (pus S N n)) (hwy : ∀ k, k < 5 → u5.1 (178 + 4 * k) 5 = 0) (hV : VN P N') (hl : cLa u5 42 P N') (hml : mLa u5 N') (h0 : N' 0 = N 0) (h115 : ∀ k, 115 ≤ k → k < 236 → N' k = N k) : Inv u5 := by
  have ht := ctx_t hC
  have hpu := pun_le hn
  refine inv_act hC hK (fun a k hs h1 h2 => ?_) ⟨hV, hl, hml⟩ ?_ (fun k hk => ⟨hwy k hk, fb_K (hC.2.1 k hk).2 hK (fun j => by omega)⟩) (k_facts hC.2.2 hK (fun a k h => by omega))
  · have hsc := sp_SC ht hs
    unfold DLand at h1
    unfold DPast at h2
    unfold SC at hsc
    omega
  · refine past_to (Y := Y) (E := E) (by omega) ?_ (fun k hk => ?_) (kr_c hKR (fun _ _ _ => rfl) h115) hpu.2 ho' (by omega) hc hm (pus_push hn hp (Nat.le_refl _) hYN hKR (ctx_vn hC) (fun _ _ _ => rfl))
    · rw [hK.1 42 1 (by omega)]
      exact hY
    · rw [hK.1 54 k (by omega), hK.1 55 k (by omega), hK.1 56 k (by omega)]
      exact hE k hk
theorem inv_ref3 {u : St} (h : Inv u) {k : Nat} (hk : k < 6) {Q : Int32 → St → Prop} (hQ : ∀ u', Inv u' → Q (-1) u') : s_X12_refuses (nI k) Q (tI u 177 k (u.1 177 k + 1)) := by
  unfold s_X12_refuses
  simp only [bnd]
  rw [nI_clamp (by omega), t_n _ _ (by omega)]
  exact ⟨vp_in_nI hk (by omega), hQ _ (inv_ref h hk rfl)⟩
theorem inv_ref3b {u : St} (h : Inv u) {Q : Int32 → St → Prop} (hQ : ∀ u', Inv u' → Q 0 u') : s_X12_isRefused Q (tI u 177 3 (u.1 177 3 + 1)) := by
  unfold s_X12_isRefused
  simp only [bnd]
  rw [show ((3 : Int32)).toNatClampNeg = 3 by first | decide | (unfold vp_in; decide), t_n _ _ (by omega)]
  exact ⟨by first | decide | (unfold vp_in; decide), hQ _ (inv_ref h (by omega) rfl)⟩
theorem ctx_177 {u : St} {P : Pl} {N : Nat → Nat} (hC : Ctx u P N) {k : Nat} {x : Int32} : VP P ∧ VN P N ∧ mPl (tI u 177 k x) P ∧ mLa (tI u 177 k x) N := by
  have hK : Kp (fun a _ => a ≠ 177) u (tI u 177 k x) := kp_I (kp_r u) (by omega)
  exact ⟨ctx_vp hC, ctx_vn hC, mPl_K (ctx_m hC) hK (fun a k h => by omega), mLa_K (ctx_n hC) hK (fun k => by omega)⟩
theorem call_bake (v1 v2 : Int32) : Call (s_X11_bake v1 v2) (s_X12_bake v1 v2) := by
  rintro u ⟨P, N, hC⟩
  have hC : Ctx u P N := hC
  have hP := ctx_vp hC
  have hN := ctx_vn hC
  have hT := ctx_c hC
  have hM := ctx_m hC
  have hL := ctx_l hC
  have hI := inv_of hC
  have hpf := hP.2.2.2.2.1
  have hto := ctx_t hC
  have c177 := ctx_177 (k := 3) (x := u.1 177 3 + 1) hC
  have hrf : ((¬ ∃ f, f < pf P ∧ v1 = nI f) ∨ (¬ ∃ x, x < 10 ∧ v2 = nI x) ∨ (∃ f, f < pf P ∧ v1 = nI f ∧ v2 = nI (N (109 + f)))) → sX11_bake_p34 (fun r u1 => s_X12_bake v1 v2 (fun r2 u2 => r = r2 ∧ Inv u2) u1) u := by
    intro hor
    unfold sX11_bake_p34
    refine q_refuse (k := 3) (by omega) ?_
    have hb : sX12_bake_p29 (fun r2 u2 => (0 : Int32) = r2 ∧ Inv u2) (tI u 177 3 (u.1 177 3 + 1)) := by
      unfold sX12_bake_p29
      exact inv_ref3b hI (fun u' h => ⟨Or.inl rfl, rfl, h⟩)
    unfold s_X12_bake
    refine r_isFarm hP c177.2.2.1 (fun f hf e => ?_) (fun _ => ?_)
    · first | refine i_neg (by first | decide | (unfold vp_in; decide)) ?_ | rw [if_neg (by first | decide | (unfold vp_in; decide))]
      try (with_reducible rfl)
      refine r_below (v := v2) (n := 10) (by omega) (fun x hx ex => ?_) (fun _ => ?_)
      · first | refine i_neg (by first | decide | (unfold vp_in; decide)) ?_ | rw [if_neg (by first | decide | (unfold vp_in; decide))]
        rw [e]
        refine r_pieOf c177.2.2.2 (by omega) ?_
        have hpie := hN.2.2.2.1 f hf
        rcases hor with h | h | ⟨f', hf', e1, e2⟩
        · exact absurd ⟨f, hf, e⟩ h
        · exact absurd ⟨x, hx, ex⟩ h
        · rw [e, nI_eq (by omega) (by omega)] at e1
          first | refine i_pos (by rw [e1, e2]) ?_ | rw [if_pos (by rw [e1, e2])]
          try (with_reducible rfl)
          exact hb
      · first | refine i_pos rfl ?_ | rw [if_pos rfl]
        try (with_reducible rfl)
        exact hb
    · first | refine i_pos rfl ?_ | rw [if_pos rfl]
      try (with_reducible rfl)
      exact hb
  unfold s_X11_bake
  refine q_isFarm hP hT (fun f hf e => ?_) (fun hn => ?_)
  · first | refine i_neg (by first | decide | (unfold vp_in; decide)) ?_ | rw [if_neg (by first | decide | (unfold vp_in; decide))]
    try (with_reducible rfl)
    have hpie := hN.2.2.2.1 f hf
    by_cases hv : v2 < 0
    · first | refine i_pos hv ?_ | rw [if_pos hv]
      try (with_reducible rfl)
      refine hrf (Or.inr (Or.inl ?_))
      rintro ⟨x, hx, rfl⟩
      exact nI_pos (by omega) hv
    first | refine i_neg hv ?_ | rw [if_neg hv]
    try (with_reducible rfl)
    obtain ⟨x, hx31, rfl⟩ := nI_of hv
    by_cases hx9 : 9 < x
    · first | refine i_pos (nI_lt (a := 9) hx9 (by omega)) ?_ | rw [if_pos (nI_lt (a := 9) hx9 (by omega))]
      try (with_reducible rfl)
      refine hrf (Or.inr (Or.inl ?_))
      rintro ⟨y, hy, ey⟩
      rw [nI_eq (by omega) (by omega)] at ey
      omega
    first | refine i_neg (nI_nlt (a := 9) (by omega) (by omega)) ?_ | rw [if_neg (nI_nlt (a := 9) (by omega) (by omega))]
    rw [e, nI_clamp (by omega), show u.1 46 f = nI (N (109 + f)) from hL.2.2.1 f (by omega)]
    first | rw [ite_c (nI_eq (by omega) (by omega))] | rw [nI_eq (by omega) (by omega)]
    try (with_reducible rfl)
    refine ⟨vp_in_nI (by omega) (by omega), ?_⟩
    by_cases hsame : N (109 + f) = x
    · first | refine i_pos hsame ?_ | rw [if_pos hsame]
      rw [← e]
      exact hrf (Or.inr (Or.inr ⟨f, hf, e, by rw [hsame]⟩))
    first | refine i_neg hsame ?_ | rw [if_neg hsame]
    try (with_reducible rfl)
    obtain ⟨Y, E, n, o, w, S, ys, g1, g2, g3, g4, g5, g6, g7, g8, g9, g10⟩ := past_of hC.1.2.2.2.2.2.2.2.2.2.1
    refine q_remember hP g5 g6 g8 hL g2 (fun u1 o' ho' k1 s1 => ?_)
    refine ⟨vp_in_nI (by omega) (by omega), ?_⟩
    show s_X11_forgetWays _ (tI u1 46 f (nI x))
    refine q_forget (fun u3 k3 z3 => ?_)
    have k2 : Kp (fun a _ => a ≠ 46) u1 (tI u1 46 f (nI x)) := kp_I (kp_r u1) (by omega)
    have k123 : Kp (fun a k => ¬ (a = 46) ∧ a ≠ 52 ∧ ¬ (57 ≤ a ∧ a ≤ 156) ∧ ¬ (178 ≤ a ∧ a ≤ 194 ∧ (a - 178) % 4 = 0 ∧ k = 5)) u u3 := kp_t (kp_m k1 (fun a k h => by omega)) (kp_t (kp_m k2 (fun a k h => by omega)) (kp_m k3 (fun a k h => by omega)))
    have hM3 : mPl u3 P := mPl_K hM k123 (fun a k h => by omega)
    have hL3 : mLa u3 N := mLa_K (ctx_n hC) k123 (fun k => by omega)
    have hS3 : mStk u3 n w S := mStk_K g9 k123 (fun a k h => by omega)
    unfold s_X12_bake
    rw [← e]
    refine r_isFarm hP hM3 (fun _ _ _ => ?_) (fun hn => absurd ⟨f, hf, e⟩ hn)
    first | refine i_neg (by first | decide | (unfold vp_in; decide)) ?_ | rw [if_neg (by first | decide | (unfold vp_in; decide))]
    try (with_reducible rfl)
    refine r_below (v := nI x) (n := 10) (by omega) (fun _ _ _ => ?_) (fun hn => absurd ⟨x, by omega, rfl⟩ hn)
    first | refine i_neg (by first | decide | (unfold vp_in; decide)) ?_ | rw [if_neg (by first | decide | (unfold vp_in; decide))]
    rw [e]
    refine r_pieOf hL3 (by omega) ?_
    first | rw [ite_c (nI_eq (by omega) (by omega))] | rw [nI_eq (by omega) (by omega)]
    first | refine i_neg hsame ?_ | rw [if_neg hsame]
    try (with_reducible rfl)
    refine r_keeps g5 g7 hS3 hL3 (fun u4 k4 m4 => ?_)
    rw [show (109 : Int32) + nI f = nI (109 + f) from nI_add 109 f]
    refine ⟨vp_in_nI (by omega) (by omega), ?_⟩
    show (1 : Int32) = 1 ∧ Inv (tI u4 241 (nI (109 + f)).toNatClampNeg (nI x))
    rw [nI_clamp (by omega)]
    refine ⟨rfl, ?_⟩
    have k5 : Kp (fun a _ => a ≠ 241) u4 (tI u4 241 (109 + f) (nI x)) := kp_I (kp_r u4) (by omega)
    have kall : Kp (fun a k => ¬ (42 ≤ a ∧ a ≤ 46 ∧ ¬ (a = 42 ∧ k = 1)) ∧ a ≠ 52 ∧ ¬ (57 ≤ a ∧ a ≤ 156) ∧ ¬ (178 ≤ a ∧ a ≤ 194 ∧ (a - 178) % 4 = 0 ∧ k = 5) ∧ ¬ (a = 198 ∧ (k = 78 ∨ k = 79)) ∧ a ≠ 254 ∧ a ≠ 241) u (tI u4 241 (109 + f) (nI x)) := kp_t (kp_m k123 (fun a k h => by omega)) (kp_t (kp_m k4 (fun a k h => by omega)) (kp_m k5 (fun a k h => by omega)))
    have k35 : Kp (fun a k => ¬ (a = 198 ∧ (k = 78 ∨ k = 79)) ∧ a ≠ 254 ∧ a ≠ 241) u3 (tI u4 241 (109 + f) (nI x)) := kp_t (kp_m k4 (fun a k h => by omega)) (kp_m k5 (fun a k h => by omega))
    have k25 : Kp (fun a k => ¬ (178 ≤ a ∧ a ≤ 194 ∧ (a - 178) % 4 = 0 ∧ k = 5) ∧ ¬ (a = 198 ∧ (k = 78 ∨ k = 79)) ∧ a ≠ 254 ∧ a ≠ 241) (tI u1 46 f (nI x)) (tI u4 241 (109 + f) (nI x)) := kp_t (kp_m k3 (fun a k h => by omega)) (kp_m k35 (fun a k h => by omega))
    refine act_fin (N' := upN N (109 + f) x) hC g5 ho' g7 g1 g2 g3 g4 g10 kall ?_ (mStk_K m4 k5 (fun a k h => by omega)) (fun k hk => ?_) ?_ ?_ ?_ (upN_n _ (by omega)) (fun k a b => upN_n _ (by omega))
    · exact cStk_K (cStk_K s1 k2 (fun a k h => by omega)) k25 (fun a k h => by omega)
    · rw [k35.1 _ _ (by omega)]
      exact z3 k hk
    · refine ⟨by rw [upN_n _ (by omega)]; exact hN.1, fun c hc => ?_, fun c hc h => ?_, fun g hg => ?_, fun g hg hg6 => ?_, by rw [upN_n _ (by omega)]; exact hN.2.2.2.2.2.1, fun k hk => by rw [upN_n _ (by omega)]; exact hN.2.2.2.2.2.2 k hk⟩
      · have h36 := cel_lt hP hc
        rw [upN_n _ (by omega), upN_n _ (by omega), upN_n _ (by omega)]
        exact hN.2.1 c hc
      · rw [upN_n _ (by omega)]
        exact hN.2.2.1 c hc h
      · by_cases eg : g = f
        · rw [eg, upN_s]
          omega
        · rw [upN_n _ (by omega)]
          exact hN.2.2.2.1 g hg
      · rw [upN_n _ (by omega)]
        exact hN.2.2.2.2.1 g hg hg6
    · have hL1 : cLa (tI u1 46 f (nI x)) 42 P (upN N (109 + f) x) := by
        have hl1 : cLa u1 42 P N := cLa_K hL k1 (fun a k h1 h2 h3 => by omega)
        refine ⟨by rw [t_n _ _ (by omega), upN_n _ (by omega)]; exact hl1.1, fun c hc => ?_, fun g hg => ?_, fun p hp hpa => ?_⟩
        · have h36 := cel_lt hP hc
          rw [t_n _ _ (by omega), t_n _ _ (by omega), t_n _ _ (by omega), upN_n _ (by omega), upN_n _ (by omega), upN_n _ (by omega)]
          exact hl1.2.1 c hc
        · by_cases eg : g = f
          · rw [eg, t_s, upN_s]
          · rw [t_n _ _ (by omega), upN_n _ (by omega)]
            exact hl1.2.2.1 g hg
        · rw [t_n _ _ (by omega)]
          exact hl1.2.2.2 p hp hpa
      exact cLa_K hL1 k25 (fun a k h1 h2 h3 => by omega)
    · exact mLa_up (mLa_K hL3 k4 (fun k => by omega))
  · first | refine i_pos rfl ?_ | rw [if_pos rfl]
    try (with_reducible rfl)
    exact hrf (Or.inl hn)
