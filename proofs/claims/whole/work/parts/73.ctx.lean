/-! ===== what the calls about ways share ===== -/
noncomputable def wp (P : Pl) (N : Nat → Nat) (k : Nat) : Nat → Nat := Classical.epsilon (fun p => ∃ m, IsWay P N k p m)
noncomputable def wm (P : Pl) (N : Nat → Nat) (k : Nat) : Nat := Classical.epsilon (fun m => IsWay P N k (wp P N k) m)
theorem w_spec {P : Pl} {N : Nat → Nat} {k : Nat} {p : Nat → Nat} {m : Nat} (h : IsWay P N k p m) : IsWay P N k (wp P N k) (wm P N k) ∧ wm P N k = m ∧ ∀ i, i < m → wp P N k i = p i := by
  have h1 : ∃ m, IsWay P N k (wp P N k) m := Classical.epsilon_spec (p := fun p => ∃ m, IsWay P N k p m) ⟨p, m, h⟩
  have h2 : IsWay P N k (wp P N k) (wm P N k) := Classical.epsilon_spec h1
  have h3 := way_u h2 h
  exact ⟨h2, h3.1, fun i hi => h3.2 i (by omega)⟩
/-- the farms watered by a caller -/
noncomputable def ww (P : Pl) (N : Nat → Nat) (k : Nat) : Nat := wb P (wp P N k) (wm P N k)
def Ctx (u : St) (P : Pl) (N : Nat → Nat) : Prop := Inv0 u P N ∧ gWays u P N ∧ gFacts u
theorem ctx_vp {u : St} {P : Pl} {N : Nat → Nat} (h : Ctx u P N) : VP P := h.1.2.2.2.2.2.2.1.2.1
theorem ctx_vn {u : St} {P : Pl} {N : Nat → Nat} (h : Ctx u P N) : VN P N := h.1.2.2.2.2.2.2.2.2.1.1
theorem ctx_c {u : St} {P : Pl} {N : Nat → Nat} (h : Ctx u P N) : cPl u u.2.2.1 P := h.1.2.2.2.2.2.2.1.2.2.1
theorem ctx_m {u : St} {P : Pl} {N : Nat → Nat} (h : Ctx u P N) : mPl u P := h.1.2.2.2.2.2.2.1.2.2.2
theorem ctx_l {u : St} {P : Pl} {N : Nat → Nat} (h : Ctx u P N) : cLa u 42 P N := h.1.2.2.2.2.2.2.2.2.1.2.1
theorem ctx_n {u : St} {P : Pl} {N : Nat → Nat} (h : Ctx u P N) : mLa u N := h.1.2.2.2.2.2.2.2.2.1.2.2
theorem ctx_t {u : St} {P : Pl} {N : Nat → Nat} (h : Ctx u P N) : 7 ≤ u.2.2.1 ∧ u.2.2.1 + 16 ≤ 40 := by
  rcases h.1.2.2.2.2.2.2.1.1 with e | e <;> omega
theorem ctx_no {u : St} {P : Pl} {N : Nat → Nat} (h : Ctx u P N) : gNo u := h.1.2.2.2.2.2.2.2.2.2.2
theorem pk_pc {P : Pl} (hP : VP P) {k : Nat} (h : k < pk P) : pc P ≠ 0 := by
  intro e
  have := hP.2.2.1 e
  omega
theorem sp_c {t a k : Nat} {S : Nat → Nat → Prop} (h : SP t a k) (h1 : DTape a k → S a k) (h2 : DFault a k → S a k) (h3 : DRef a k → S a k) (h4 : DPic a k → S a k) (h5 : DWords a k → S a k) (h6 : DTold t a k → S a k) (h7 : DPlan a k → S a k) (h8 : DSight a k → S a k) (h9 : DLand a k → S a k) (h10 : DPast a k → S a k) (h11 : DNo a k → S a k) : S a k := by
  rcases h with h | h | h | h | h | h | h | h | h | h | h
  · exact h1 h
  · exact h2 h
  · exact h3 h
  · exact h4 h
  · exact h5 h
  · exact h6 h
  · exact h7 h
  · exact h8 h
  · exact h9 h
  · exact h10 h
  · exact h11 h
/-- scratch of the class that is no way's: the question's code, the trial's cells, led, tried, facts, sets; the piles of told's codes -/
def SC (t a k : Nat) : Prop := ¬ (178 ≤ a ∧ a ≤ 197) ∧ a ≠ t + 13 ∧ a ≠ t + 16 ∧ ¬ (47 ≤ a ∧ a ≤ 51) ∧ ¬ (157 ≤ a ∧ a ≤ 160) ∧ ¬ (165 ≤ a ∧ a ≤ 168) ∧ a ≠ 173 ∧ a ≠ 174
theorem sp_SC {t a k : Nat} (ht : 7 ≤ t ∧ t + 16 ≤ 40) (h : SP t a k) : SC t a k := by
  refine sp_c (S := fun a k => SC t a k) h ?_ ?_ ?_ ?_ ?_ ?_ ?_ ?_ ?_ ?_ ?_
  · intro h; unfold DTape at h; unfold SC; omega
  · intro h; unfold DFault at h; unfold SC; omega
  · intro h; unfold DRef at h; unfold SC; omega
  · intro h; unfold DPic at h; unfold SC; omega
  · intro h; unfold DWords at h; unfold SC; omega
  · intro h; unfold DTold at h; unfold SC; omega
  · intro h; unfold DPlan at h; unfold SC; omega
  · intro h; unfold DSight at h; unfold SC; omega
  · intro h; unfold DLand at h; unfold SC; omega
  · intro h; unfold DPast at h; unfold SC; omega
  · intro h; unfold DNo at h; unfold SC; omega
/-- scratch of the reference -/
def SM (a k : Nat) : Prop := ¬ (242 ≤ a ∧ a ≤ 251) ∧ a ≠ 253 ∧ a ≠ 282 ∧ a ≠ 283 ∧ ¬ (a = 198 ∧ (k = 57 ∨ k = 59 ∨ k = 60 ∨ k = 61 ∨ k = 62 ∨ k = 64 ∨ k = 109 ∨ k = 111 ∨ k = 112 ∨ k = 113 ∨ k = 115 ∨ k = 117))
theorem sp_SM {t a k : Nat} (ht : 7 ≤ t ∧ t + 16 ≤ 40) (h : SP t a k) : SM a k := by
  refine sp_c (S := fun a k => SM a k) h ?_ ?_ ?_ ?_ ?_ ?_ ?_ ?_ ?_ ?_ ?_
  · intro h; unfold DTape at h; unfold SM; omega
  · intro h; unfold DFault at h; unfold SM; omega
  · intro h; unfold DRef at h; unfold SM; omega
  · intro h; unfold DPic at h; unfold SM; omega
  · intro h; unfold DWords at h; unfold SM; omega
  · intro h; unfold DTold at h; unfold SM; omega
  · intro h; unfold DPlan at h; unfold SM; omega
  · intro h; unfold DSight at h; unfold SM; omega
  · intro h; unfold DLand at h; unfold SM; omega
  · intro h; unfold DPast at h; unfold SM; omega
  · intro h; unfold DNo at h; unfold SM; omega
theorem ctx_SM {u u' : St} {P : Pl} {N : Nat → Nat} (h : Ctx u P N) (hK : Kp SM u u') : Ctx u' P N := ⟨inv0_K h.1 hK (fun a k hs => sp_SM (ctx_t h) hs), k_ways h.2.1 hK (fun a k hs => by unfold SM; omega), k_facts h.2.2 hK (fun a k hs => by unfold SM; omega)⟩
theorem sw_SM {u u' : St} (hK : Kp SM u u') : Kp SM u u' := hK
theorem kp_SW {u u' : St} (hK : Kp SW u u') : Kp SM u u' := kp_m hK (fun a k h => by unfold SM at h; unfold SW; omega)
theorem r_lays {P : Pl} {N : Nat → Nat} {k : Nat} {Q : St → Prop} {u : St} (hC : Ctx u P N) (hk : k < pk P) (hQ : ∀ u', IsWay P N k (wp P N k) (wm P N k) → WayN u' (wp P N k) (wm P N k) → Ctx u' P N → Kp SW u u' → Q u') : s_X12_laysWay (nI k) Q u := by
  refine r_laysWay (ctx_vp hC) (ctx_vn hC) (pk_pc (ctx_vp hC) hk) hk (ctx_m hC) (ctx_n hC) (fun u' p m h1 h2 h3 => ?_)
  obtain ⟨a1, a2, a3⟩ := w_spec h1
  refine hQ u' a1 ⟨by rw [a2]; exact h2.1, fun i hi => ?_, fun c hc => ?_⟩ (ctx_SM hC (kp_SW h3)) h3
  · rw [h2.2.1 i (by omega), a3 i (by omega)]
  · rw [h2.2.2 c hc, a2, stp_c a3]
/-- the way of a caller in the class, at its object a -/
def WayC (u : St) (a : Nat) (P : Pl) (N : Nat → Nat) (k : Nat) : Prop := IsWay P N k (wp P N k) (wm P N k) ∧ WayM u a P (wp P N k) (wm P N k)
theorem wayC_of {u : St} {a k : Nat} {P : Pl} {N : Nat → Nat} (h : WayR u a P N k) : WayC u a P N k := by
  obtain ⟨p, m, h1, h2⟩ := h
  obtain ⟨a1, a2, a3⟩ := w_spec h1
  refine ⟨a1, ?_, fun i hi => ?_, fun c hc => ?_, ?_, ?_, h2.2.2.2.2.2⟩
  · rw [a2]
    exact h2.1
  · rw [h2.2.1 i (by omega), a3 i (by omega)]
  · rw [h2.2.2.1 c hc, a2, stp_c a3]
  · rw [h2.2.2.2.1, a2]
    by_cases h0 : m = 0
    · first | refine i_neg (by omega) ?_ | rw [if_neg (by omega)]
      first | refine i_neg (by omega) ?_ | rw [if_neg (by omega)]
      try (with_reducible rfl)
    · rw [a3 (m - 1) (by omega)]
  · rw [h2.2.2.2.2.1, a2, wb_c a3]
theorem sh_way2 : ∀ k, k < 5 → SH[178 + 4 * k + 2]? = some (100, 36) ∧ SH[178 + 4 * k + 3]? = some (100, 23) := by
  intro k hk
  have : k = 0 ∨ k = 1 ∨ k = 2 ∨ k = 3 ∨ k = 4 := by omega
  rcases this with rfl | rfl | rfl | rfl | rfl <;> exact ⟨rfl, rfl⟩
theorem q_wayOf {P : Pl} {N : Nat → Nat} {v : Int32} {Q : Nat → St → Prop} {u : St} (hC : Ctx u P N) (h1 : ∀ k u', k < pk P → v = nI k → Ctx u' P N → WayC u' (178 + 4 * k) P N k → Kp (fun a _ => ¬ (178 + 4 * k ≤ a ∧ a ≤ 178 + 4 * k + 3) ∧ a ≠ u.2.2.1 + 13) u u' → Q (178 + 4 * k) u') (h2 : (¬ ∃ k, k < pk P ∧ v = nI k) → Q 169 u) : s_X11_wayOf v Q u := by
  have hP := ctx_vp hC
  have hk5 := hP.2.2.2.2.2.1
  have ht := ctx_t hC
  have hT := ctx_c hC
  unfold s_X11_wayOf s_X5_isCaller
  rw [hT.1.2.2.2.2]
  rcases pk_ix v (n := pk P) (by omega) with a | a | ⟨k, hk, rfl⟩
  · first | refine i_pos a ?_ | rw [if_pos a]
    first | refine i_pos rfl ?_ | rw [if_pos rfl]
    try (with_reducible rfl)
    refine h2 ?_
    rintro ⟨x, hx, rfl⟩
    exact nI_pos (by omega) a
  · have hn : ¬ ∃ k, k < pk P ∧ v = nI k := by
      rintro ⟨x, hx, rfl⟩
      exact nI_ge hx (by omega) a
    by_cases hb : v < 0
    · first | refine i_pos hb ?_ | rw [if_pos hb]
      first | refine i_pos rfl ?_ | rw [if_pos rfl]
      try (with_reducible rfl)
      exact h2 hn
    · first | refine i_neg hb ?_ | rw [if_neg hb]
      first | refine i_pos a ?_ | rw [if_pos a]
      first | refine i_pos rfl ?_ | rw [if_pos rfl]
      try (with_reducible rfl)
      exact h2 hn
  · first | refine i_neg (nI_pos (by omega)) ?_ | rw [if_neg (nI_pos (by omega))]
    first | refine i_neg (nI_ge hk (by omega)) ?_ | rw [if_neg (nI_ge hk (by omega))]
    first | refine i_neg (by first | decide | (unfold vp_in; decide)) ?_ | rw [if_neg (by first | decide | (unfold vp_in; decide))]
    rw [nI_clamp (by omega)]
    refine ⟨vp_in_nI (by omega) (by omega), ?_⟩
    have hw := hC.2.1 k (by omega)
    rcases hw.1 with e | ⟨e, hR⟩
    · rw [e]
      first | refine i_pos rfl ?_ | rw [if_pos rfl]
      try (with_reducible rfl)
      have hs := sh_way2 k (by omega)
      refine q_lead (P := P) (N := N) hP (ctx_vn hC) (pk_pc hP hk) hk ht ⟨by omega, by omega⟩ (by omega) hs.1 hs.2 hT (ctx_l hC) hw.2 (fun u' hK hR hB => ?_)
      have hK2 : Kp (fun a _ => ¬ (178 + 4 * k ≤ a ∧ a ≤ 178 + 4 * k + 3) ∧ a ≠ u.2.2.1 + 13) u u' := hK
      have hc : Ctx u' P N := by
        refine ⟨inv0_K hC.1 hK2 (fun a k hs => ?_), fun j hj => ?_, k_facts hC.2.2 hK2 (fun a k h => by omega)⟩
        · have := sp_SC ht hs
          unfold SC at this
          omega
        · by_cases hjk : j = k
          · subst hjk
            obtain ⟨p, m, r1, r2⟩ := hR
            exact ⟨Or.inr ⟨r2.2.2.2.2.2, fun _ => ⟨p, m, r1, r2⟩⟩, hB⟩
          · have hwj := hC.2.1 j hj
            refine ⟨?_, fb_K hwj.2 hK2 (fun x => by omega)⟩
            rw [hK2.1 (178 + 4 * j) 5 (by omega)]
            rcases hwj.1 with e2 | ⟨e2, hR2⟩
            · exact Or.inl e2
            · exact Or.inr ⟨e2, fun hp => wayR_K (hR2 hp) hK2 (fun x y a b => by omega)⟩
      exact h1 k u' hk rfl hc (wayC_of hR) hK2
    · rw [e]
      first | refine i_neg (by first | decide | (unfold vp_in; decide)) ?_ | rw [if_neg (by first | decide | (unfold vp_in; decide))]
      try (with_reducible rfl)
      exact h1 k u hk rfl hC (wayC_of (hR hk)) (kp_r u)
theorem r_isCaller {P : Pl} {v : Int32} {Q : Int32 → St → Prop} {u : St} (hP : VP P) (hM : mPl u P) (h1 : ∀ k, k < pk P → v = nI k → Q 1 u) (h2 : (¬ ∃ k, k < pk P ∧ v = nI k) → Q 0 u) : s_X12_isCaller v.toInt64 Q u := by
  have hk5 := hP.2.2.2.2.2.1
  unfold s_X12_isCaller
  refine r_callerMany hM ?_
  exact r_below (by omega) (fun x hx e => ⟨Or.inr rfl, h1 x hx e⟩) (fun hn => ⟨Or.inl rfl, h2 hn⟩)
theorem r_isFarm {P : Pl} {v : Int32} {Q : Int32 → St → Prop} {u : St} (hP : VP P) (hM : mPl u P) (h1 : ∀ k, k < pf P → v = nI k → Q 1 u) (h2 : (¬ ∃ k, k < pf P ∧ v = nI k) → Q 0 u) : s_X12_isFarm v Q u := by
  have hk5 := hP.2.2.2.2.1
  unfold s_X12_isFarm
  refine r_farmMany hM ?_
  exact r_below (by omega) (fun x hx e => ⟨Or.inr rfl, h1 x hx e⟩) (fun hn => ⟨Or.inl rfl, h2 hn⟩)
theorem q_isFarm {P : Pl} {t : Nat} {v : Int32} {Q : Int32 → St → Prop} {u : St} (hP : VP P) (hT : cPl u t P) (h1 : ∀ k, k < pf P → v = nI k → Q 1 u) (h2 : (¬ ∃ k, k < pf P ∧ v = nI k) → Q 0 u) : s_X5_isFarm t v Q u := by
  have hk5 := hP.2.2.2.2.1
  unfold s_X5_isFarm
  rw [hT.1.2.2.2.1]
  rcases pk_ix v (n := pf P) (by omega) with a | a | ⟨k, hk, rfl⟩
  · first | refine i_pos a ?_ | rw [if_pos a]
    try (with_reducible rfl)
    refine h2 ?_
    rintro ⟨x, hx, rfl⟩
    exact nI_pos (by omega) a
  · have hn : ¬ ∃ k, k < pf P ∧ v = nI k := by
      rintro ⟨x, hx, rfl⟩
      exact nI_ge hx (by omega) a
    by_cases hb : v < 0
    · first | refine i_pos hb ?_ | rw [if_pos hb]
      try (with_reducible rfl)
      exact h2 hn
    · first | refine i_neg hb ?_ | rw [if_neg hb]
      first | refine i_pos a ?_ | rw [if_pos a]
      try (with_reducible rfl)
      exact h2 hn
  · first | refine i_neg (nI_pos (by omega)) ?_ | rw [if_neg (nI_pos (by omega))]
    first | refine i_neg (nI_ge hk (by omega)) ?_ | rw [if_neg (nI_ge hk (by omega))]
    try (with_reducible rfl)
    exact h1 k hk rfl
theorem q_isCaller {P : Pl} {t : Nat} {v : Int32} {Q : Int32 → St → Prop} {u : St} (hP : VP P) (hT : cPl u t P) (h1 : ∀ k, k < pk P → v = nI k → Q 1 u) (h2 : (¬ ∃ k, k < pk P ∧ v = nI k) → Q 0 u) : s_X5_isCaller t v Q u := by
  have hk5 := hP.2.2.2.2.2.1
  unfold s_X5_isCaller
  rw [hT.1.2.2.2.2]
  rcases pk_ix v (n := pk P) (by omega) with a | a | ⟨k, hk, rfl⟩
  · first | refine i_pos a ?_ | rw [if_pos a]
    try (with_reducible rfl)
    refine h2 ?_
    rintro ⟨x, hx, rfl⟩
    exact nI_pos (by omega) a
  · have hn : ¬ ∃ k, k < pk P ∧ v = nI k := by
      rintro ⟨x, hx, rfl⟩
      exact nI_ge hx (by omega) a
    by_cases hb : v < 0
    · first | refine i_pos hb ?_ | rw [if_pos hb]
      try (with_reducible rfl)
      exact h2 hn
    · first | refine i_neg hb ?_ | rw [if_neg hb]
      first | refine i_pos a ?_ | rw [if_pos a]
      try (with_reducible rfl)
      exact h2 hn
  · first | refine i_neg (nI_pos (by omega)) ?_ | rw [if_neg (nI_pos (by omega))]
    first | refine i_neg (nI_ge hk (by omega)) ?_ | rw [if_neg (nI_ge hk (by omega))]
    try (with_reducible rfl)
    exact h1 k hk rfl
theorem w_cel {P : Pl} {N : Nat → Nat} {k : Nat} (hP : VP P) (h0 : pc P ≠ 0) (h : IsWay P N k (wp P N k) (wm P N k)) : wm P N k ≤ 36 ∧ (∀ i, i < wm P N k → cel P (wp P N k i)) ∧ ∀ i j, i < j → j < wm P N k → wp P N k i ≠ wp P N k j := ⟨pw_36 hP h0 h.1, pw_cel hP h0 h.1, pw_inj hP h0 h.1⟩
/-- a way is there just where the source is no stone -/
theorem w_zero {P : Pl} {N : Nat → Nat} {k : Nat} (h : IsWay P N k (wp P N k) (wm P N k)) : wm P N k = 0 ↔ N (2 + 3 * ps P) = 1 := by
  constructor
  · intro e
    have h2 := h.2
    rw [e] at h2
    unfold Nx at h2
    rw [if_pos rfl] at h2
    by_cases e2 : N (2 + 3 * ps P) = 1
    · exact e2
    · rw [if_neg e2] at h2
      exact absurd h2 (by simp)
  · intro e
    by_cases e2 : wm P N k = 0
    · exact e2
    · have h3 := h.1 0 (by omega)
      unfold Nx at h3
      rw [if_pos rfl, if_pos e] at h3
      exact absurd h3 (by simp)
