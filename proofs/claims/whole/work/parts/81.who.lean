/-! ===== who, tells ===== -/
/-- the cell of a caller's way by a step -/
noncomputable def cb (P : Pl) (N : Nat → Nat) (c s : Nat) : Option Nat := if s < wm P N c then some (wp P N c s) else none
theorem cb_cel {P : Pl} {N : Nat → Nat} {c s d : Nat} (hP : VP P) (h0 : pc P ≠ 0) (h : IsWay P N c (wp P N c) (wm P N c)) (e : cb P N c s = some d) : cel P d := by
  unfold cb at e
  by_cases hs : s < wm P N c
  · rw [if_pos hs] at e
    rw [← Option.some.inj e]
    exact (w_cel hP h0 h).2.1 s hs
  · rw [if_neg hs] at e
    exact absurd e (by simp)
theorem q_pb {P : Pl} {N : Nat → Nat} {c s : Nat} {Q : Int32 → St → Prop} {u : St} (hP : VP P) (h0 : pc P ≠ 0) (hW : WayC u (178 + 4 * c) P N c) (hs : s < 1000) (hQ : Q (oI ((cb P N c s).map (pl P))) u) : s_X10_placeBy (178 + 4 * c) (nI s) Q u := by
  have hw := w_cel hP h0 hW.1
  refine q_placeBy (P := P) (p := wp P N c) (m := wm P N c) hW.2.1 hW.2.2.1 hw.1 (fun i hi e => ?_) (fun hn => ?_)
  · rw [nI_eq (by omega) (by omega)] at e
    subst e
    unfold cb at hQ
    rw [if_pos hi] at hQ
    exact hQ
  · unfold cb at hQ
    rw [if_neg (fun h => hn ⟨s, h, rfl⟩)] at hQ
    exact hQ
theorem oI_pl {P : Pl} {o o' : Option Nat} (hP : VP P) (h : ∀ d, o = some d → cel P d) (h' : ∀ d, o' = some d → cel P d) : (oI (o.map (pl P)) = oI (o'.map (pl P))) ↔ o = o' := by
  constructor
  · intro e
    cases o with
    | none =>
      cases o' with
      | none => rfl
      | some d =>
        have h36 := pl_36 hP (h' d rfl)
        have e2 : (-1 : Int32) = nI (pl P d) := e
        rw [x_ne1' (by omega)] at e2
        exact e2.elim
    | some c =>
      have h36 := pl_36 hP (h c rfl)
      cases o' with
      | none =>
        have e2 : nI (pl P c) = (-1 : Int32) := e
        rw [x_ne1 (by omega)] at e2
        exact e2.elim
      | some d =>
        have h36' := pl_36 hP (h' d rfl)
        have e2 : nI (pl P c) = nI (pl P d) := e
        rw [nI_eq (by omega) (by omega)] at e2
        rw [pl_inj (h c rfl) (h' d rfl) e2]
  · intro e
    rw [e]
def Fit (P : Pl) (N : Nat → Nat) (n : Nat) (R C : Nat → Nat) (c : Nat) : Prop := ∀ k, k < n → cb P N c (R k) = some (C k)
theorem q_fits {P : Pl} {N : Nat → Nat} {n c : Nat} {R C : Nat → Nat} {Q : Int32 → St → Prop} {u : St} (hP : VP P) (h0 : pc P ≠ 0) (hW : WayC u (178 + 4 * c) P N c) (hn : n ≤ 16) (e0 : u.1 161 0 = nI n) (hs : ∀ k, k < n → R k ≤ 40 ∧ cel P (C k) ∧ u.1 162 k = nI (R k) ∧ u.1 163 k = nI (pl P (C k))) (q1 : Fit P N n R C c → Q 1 u) (q0 : ¬ Fit P N n R C c → Q 0 u) : s_X7_fits (178 + 4 * c) Q u := by
  unfold s_X7_fits sX7_fits_p2
  refine for_up (fun m i s => sX7_fits_p2n (178 + 4 * c) Q m i s) n (fun i s => s = u ∧ ∀ k, k < i → cb P N c (R k) = some (C k)) ?_ 0 u (by omega) ⟨rfl, fun k hk => absurd hk (by omega)⟩
  rintro m i s hi ⟨rfl, hf⟩ hnext
  show sX7_fits_p2b (178 + 4 * c) Q (sX7_fits_p2n (178 + 4 * c) Q m) (nI i) s
  unfold sX7_fits_p2b
  rw [e0]
  by_cases he : i = n
  · first | refine i_pos (by rw [he]; exact nI_le (Nat.le_refl _) (by omega)) ?_ | rw [if_pos (by rw [he]; exact nI_le (Nat.le_refl _) (by omega))]
    try (with_reducible rfl)
    rw [he] at hf
    exact q1 hf
  first | refine i_neg (nI_ge (by omega) (by omega)) ?_ | rw [if_neg (nI_ge (by omega) (by omega))]
  rw [nI_clamp (by omega)]
  obtain ⟨a1, a2, a3, a4⟩ := hs i (by omega)
  refine ⟨vp_in_nI (by omega) (by omega), ?_⟩
  rw [a3]
  refine q_pb hP h0 hW (by omega) ⟨vp_in_nI (by omega) (by omega), ?_⟩
  rw [a4]
  have hiff := oI_pl (o := cb P N c (R i)) (o' := some (C i)) hP (fun d e => cb_cel hP h0 hW.1 e) (fun d e => by rw [← Option.some.inj e]; exact a2)
  by_cases hy : cb P N c (R i) = some (C i)
  · refine i_pos (hiff.mpr hy) ?_
    show sX7_fits_p2n (178 + 4 * c) Q m (nI i + 1) s
    rw [nI_1]
    refine hnext (by omega) s ⟨rfl, fun k hk => ?_⟩
    by_cases ek : k = i
    · rw [ek]
      exact hy
    · exact hf k (by omega)
  · refine i_neg (fun e => hy (hiff.mp e)) ?_
    exact q0 (fun h => hy (h i (by omega)))
theorem bit_ext {w w' : Nat} {p : Nat → Prop} (h : ∀ f, w.testBit f = true ↔ p f) (h' : ∀ f, w'.testBit f = true ↔ p f) : w = w' := by
  apply Nat.eq_of_testBit_eq
  intro f
  cases a : w.testBit f <;> cases b : w'.testBit f
  · rfl
  · have := (h f).mpr ((h' f).mp b)
    rw [a] at this
    exact absurd this (by simp)
  · have := (h' f).mpr ((h f).mp a)
    rw [b] at this
    exact absurd this (by simp)
  · rfl
theorem bit_add {w i n : Nat} {p : Nat → Prop} (hw : w < 2 ^ n) (hi : i < n) (hb : ∀ f, w.testBit f = true ↔ f < i ∧ p f) (hp : p i) : (w ||| 2 ^ i) < 2 ^ n ∧ ∀ f, (w ||| 2 ^ i).testBit f = true ↔ f < i + 1 ∧ p f := by
  refine ⟨Nat.or_lt_two_pow hw (Nat.pow_lt_pow_right (by omega) hi), fun f => ?_⟩
  simp only [Nat.testBit_or, Bool.or_eq_true, Nat.testBit_two_pow, decide_eq_true_eq]
  rw [hb f]
  constructor
  · rintro (⟨a, b⟩ | rfl)
    · exact ⟨by omega, b⟩
    · exact ⟨by omega, hp⟩
  · rintro ⟨a, b⟩
    by_cases hfi : f = i
    · exact Or.inr hfi.symm
    · exact Or.inl ⟨by omega, b⟩
theorem bit_no {w i : Nat} {p : Nat → Prop} (hb : ∀ f, w.testBit f = true ↔ f < i ∧ p f) (hp : ¬ p i) : ∀ f, w.testBit f = true ↔ f < i + 1 ∧ p f := by
  intro f
  rw [hb f]
  constructor
  · rintro ⟨a, b⟩
    exact ⟨by omega, b⟩
  · rintro ⟨a, b⟩
    by_cases hfi : f = i
    · rw [hfi] at b
      exact absurd b hp
    · exact ⟨by omega, b⟩
/-- the callers that may be, as bits -/
def Who (P : Pl) (N : Nat → Nat) (n : Nat) (R C : Nat → Nat) (w : Nat) : Prop := w < 32 ∧ ∀ c, w.testBit c = true ↔ c < pk P ∧ Fit P N n R C c
/-- what is seen, out of the invariant -/
def Seen (u : St) (P : Pl) (n : Nat) (R C : Nat → Nat) : Prop := n ≤ 16 ∧ u.1 161 0 = nI n ∧ u.1 198 74 = nI n ∧ ∀ k, k < n → R k ≤ 40 ∧ cel P (C k) ∧ u.1 162 k = nI (R k) ∧ u.1 163 k = nI (pl P (C k)) ∧ u.1 252 (2 * k) = nI (R k) ∧ u.1 252 (2 * k + 1) = nI (C k)
theorem seen_K {S : Nat → Nat → Prop} {u u' : St} {P : Pl} {n : Nat} {R C : Nat → Nat} (h : Seen u P n R C) (hK : Kp S u u') (hS : ∀ a k, DSight a k → S a k) : Seen u' P n R C := by
  refine ⟨h.1, ?_, ?_, fun k hk => ?_⟩
  · rw [hK.1 161 0 (hS _ _ (by unfold DSight; omega))]
    exact h.2.1
  · rw [hK.1 198 74 (hS _ _ (by unfold DSight; omega))]
    exact h.2.2.1
  · rw [hK.1 162 _ (hS _ _ (by unfold DSight; omega)), hK.1 163 _ (hS _ _ (by unfold DSight; omega)), hK.1 252 _ (hS _ _ (by unfold DSight; omega)), hK.1 252 _ (hS _ _ (by unfold DSight; omega))]
    exact h.2.2.2 k hk
theorem q_left {P : Pl} {N : Nat → Nat} {n : Nat} {R C : Nat → Nat} {Q : Int32 → St → Prop} {u : St} (hC : Ctx u P N) (hS : Seen u P n R C) (hQ : ∀ w u', Who P N n R C w → Ctx u' P N → Seen u' P n R C → Q (nI w) u') : s_X11_callersLeft Q u := by
  have hP := ctx_vp hC
  have hpk := hP.2.2.2.2.2.1
  unfold s_X11_callersLeft sX11_callersLeft_p4
  have key := for_up (fun m i (s : Int32 × St) => sX11_callersLeft_p4n Q m s.1 i s.2) (pk P) (fun i s => Ctx s.2 P N ∧ Seen s.2 P n R C ∧ ∃ w : Nat, s.1 = nI w ∧ w < 2 ^ 5 ∧ ∀ c, w.testBit c = true ↔ c < i ∧ Fit P N n R C c) ?_ 0 (0, u) (by omega) ⟨hC, hS, 0, rfl, by omega, fun c => by simp⟩
  · exact key
  rintro m i ⟨a, s⟩ hi ⟨hCs, hSs, w, rfl, hw, hb⟩ hnext
  simp only at hCs hSs
  show sX11_callersLeft_p4b Q (sX11_callersLeft_p4n Q m) (nI w) (nI i) s
  unfold sX11_callersLeft_p4b
  rw [(ctx_c hCs).1.2.2.2.2]
  by_cases he : i = pk P
  · first | refine i_pos (by rw [he]; exact nI_le (Nat.le_refl _) (by omega)) ?_ | rw [if_pos (by rw [he]; exact nI_le (Nat.le_refl _) (by omega))]
    try (with_reducible rfl)
    rw [he] at hb
    exact hQ w s ⟨hw, hb⟩ hCs hSs
  first | refine i_neg (nI_ge (by omega) (by omega)) ?_ | rw [if_neg (nI_ge (by omega) (by omega))]
  try (with_reducible rfl)
  refine q_wayOf hCs (fun k u4 hk e hC4 hW4 hK4 => ?_) (fun hn => absurd ⟨i, by omega, rfl⟩ hn)
  rw [nI_eq (by omega) (by omega)] at e
  subst e
  have ht := ctx_t hCs
  have hS4 : Seen u4 P n R C := seen_K hSs hK4 (fun a k h => by unfold DSight at h; omega)
  refine q_fits hP (pk_pc hP hk) hW4 hS4.1 hS4.2.1 (fun k hk => ⟨(hS4.2.2.2 k hk).1, (hS4.2.2.2 k hk).2.1, (hS4.2.2.2 k hk).2.2.1, (hS4.2.2.2 k hk).2.2.2.1⟩) (fun hy => ?_) (fun hn => ?_)
  · first | refine i_neg (by first | decide | (unfold vp_in; decide)) ?_ | rw [if_neg (by first | decide | (unfold vp_in; decide))]
    rw [x_shl i (by omega), x_or]
    show sX11_callersLeft_p4n Q m (nI (w ||| 2 ^ i)) (nI i + 1) u4
    rw [nI_1]
    have hba := bit_add (n := 5) hw (by omega) hb hy
    exact hnext (by omega) (nI (w ||| 2 ^ i), u4) ⟨hC4, hS4, w ||| 2 ^ i, rfl, hba.1, hba.2⟩
  · first | refine i_pos rfl ?_ | rw [if_pos rfl]
    try (with_reducible rfl)
    show sX11_callersLeft_p4n Q m (nI w) (nI i + 1) u4
    rw [nI_1]
    exact hnext (by omega) (nI w, u4) ⟨hC4, hS4, w, rfl, hw, bit_no hb hn⟩
/-- the cells of all ways by all steps, as the reference lays them -/
def CB (u : St) (P : Pl) (N : Nat → Nat) (n : Nat) : Prop := ∀ c, c < n → ∀ k, k ≤ 40 → u.1 253 (41 * c + k) = oI (cb P N c k)
theorem r_cells {P : Pl} {N : Nat → Nat} {Q : St → Prop} {u : St} (hC : Ctx u P N) (hQ : ∀ u', Ctx u' P N → CB u' P N (pk P) → (∀ c, c < pk P → IsWay P N c (wp P N c) (wm P N c)) → Kp SM u u' → Q u') : s_X12_laysCells Q u := by
  have hP := ctx_vp hC
  have hpk := hP.2.2.2.2.2.1
  unfold s_X12_laysCells sX12_laysCells_p2
  refine for_up (fun m i s => sX12_laysCells_p2n Q m i s) (pk P) (fun i s => Ctx s P N ∧ CB s P N i ∧ (∀ c, c < i → IsWay P N c (wp P N c) (wm P N c)) ∧ Kp SM u s) ?_ 0 u (by omega) ⟨hC, fun c hc => absurd hc (by omega), fun c hc => absurd hc (by omega), kp_r u⟩
  rintro m i s hi ⟨hCs, hcb, his, hK⟩ hnext
  show sX12_laysCells_p2b Q (sX12_laysCells_p2n Q m) (nI i) s
  unfold sX12_laysCells_p2b
  refine r_callerMany (ctx_m hCs) ?_
  by_cases he : i = pk P
  · first | refine i_pos (by rw [he]; exact nI_le (Nat.le_refl _) (by omega)) ?_ | rw [if_pos (by rw [he]; exact nI_le (Nat.le_refl _) (by omega))]
    try (with_reducible rfl)
    rw [he] at hcb his
    exact hQ s hCs hcb his hK
  first | refine i_neg (nI_ge (by omega) (by omega)) ?_ | rw [if_neg (nI_ge (by omega) (by omega))]
  try (with_reducible rfl)
  refine r_lays hCs (k := i) (by omega) (fun u4 hW hN4 hC4 hK4 => ?_)
  have hw := w_cel hP (pk_pc hP (k := i) (by omega)) hW
  unfold sX12_laysCells_p17
  refine for_up (fun m2 j z => sX12_laysCells_p17n (nI i) Q (sX12_laysCells_p2n Q m) m2 j z) 41 (fun j z => Kp (fun a _ => a ≠ 253) u4 z ∧ (∀ k, k < j → z.1 253 (41 * i + k) = oI (cb P N i k)) ∧ ∀ x, x < 41 * i → z.1 253 x = u4.1 253 x) ?_ 0 u4 (by omega) ⟨kp_r u4, fun k hk => absurd hk (by omega), fun _ _ => rfl⟩
  rintro m2 j z hj ⟨hKz, hz1, hz2⟩ hnext2
  show sX12_laysCells_p17b (nI i) Q (sX12_laysCells_p2n Q m) (sX12_laysCells_p17n (nI i) Q (sX12_laysCells_p2n Q m) m2) (nI j) z
  unfold sX12_laysCells_p17b
  by_cases h41 : j = 41
  · subst h41
    first | refine i_pos (nI_lt (a := 40) (by omega) (by omega)) ?_ | rw [if_pos (nI_lt (a := 40) (by omega) (by omega))]
    rw [nI_1]
    have hCz : Ctx z P N := ctx_SM hC4 (kp_m hKz (fun a k h => by unfold SM at h; omega))
    refine hnext (by omega) z ⟨hCz, fun c hc k hk => ?_, fun c hc => ?_, kp_t hK (kp_t (kp_SW hK4) (kp_m hKz (fun a k h => by unfold SM at h; omega)))⟩
    · by_cases ec : c = i
      · rw [ec]
        exact hz1 k (by omega)
      · rw [hz2 _ (by omega), hK4.1 253 _ (by unfold SW; omega)]
        exact hcb c (by omega) k hk
    · by_cases ec : c = i
      · rw [ec]
        exact hW
      · exact his c (by omega)
  · first | refine i_neg (nI_nlt (a := 40) (by omega) (by omega)) ?_ | rw [if_neg (nI_nlt (a := 40) (by omega) (by omega))]
    try (with_reducible rfl)
    have e1 : (41 : Int32) * nI i + nI j = nI (41 * i + j) := by
      rw [show (41 : Int32) * nI i = nI (41 * i) from pk_mul 41 i, nI_add]
    have hput : ∀ v : Int32, v = oI (cb P N i j) → sX12_laysCells_p51 (nI i) (nI j) v (41 * nI i + nI j) Q (sX12_laysCells_p2n Q m) (sX12_laysCells_p17n (nI i) Q (sX12_laysCells_p2n Q m) m2) z := by
      rintro v rfl
      unfold sX12_laysCells_p51
      simp only [bnd]
      rw [e1, nI_clamp (by omega), nI_1]
      refine ⟨vp_in_nI (by omega) (by omega), ?_⟩
      refine hnext2 (by omega) _ ⟨kp_I hKz (by omega), fun k hk => ?_, fun x hx => ?_⟩
      · by_cases ek : k = j
        · rw [ek, t_s]
        · rw [t_n _ _ (by omega)]
          exact hz1 k (by omega)
      · rw [t_n _ _ (by omega)]
        exact hz2 x hx
    rw [hKz.1 198 64 (by omega), hN4.1]
    by_cases hjm : j < wm P N i
    · first | refine i_neg (nI_ge (by omega) (by omega)) ?_ | rw [if_neg (nI_ge (by omega) (by omega))]
      rw [nI_clamp (by omega), hKz.1 242 _ (by omega), hN4.2.1 j hjm]
      refine ⟨vp_in_nI (by omega) (by omega), hput _ ?_⟩
      unfold cb
      first | refine i_pos hjm ?_ | rw [if_pos hjm]
      try (with_reducible rfl)
      rfl
    · first | refine i_pos (nI_le (by omega) (by omega)) ?_ | rw [if_pos (nI_le (by omega) (by omega))]
      try (with_reducible rfl)
      refine hput _ ?_
      unfold cb
      first | refine i_neg hjm ?_ | rw [if_neg hjm]
      try (with_reducible rfl)
      rfl
theorem r_who {P : Pl} {N : Nat → Nat} {n : Nat} {R C : Nat → Nat} {Q : Int32 → St → Prop} {u : St} (hC : Ctx u P N) (hS : Seen u P n R C) (hQ : ∀ w u', Who P N n R C w → Ctx u' P N → CB u' P N (pk P) → (∀ c, c < pk P → IsWay P N c (wp P N c) (wm P N c)) → Q (nI w) u') : s_X12_whoCan Q u := by
  have hP := ctx_vp hC
  have hpk := hP.2.2.2.2.2.1
  unfold s_X12_whoCan
  refine r_cells hC (fun u2 hC2 hB hW hK => ?_)
  have hS2 : Seen u2 P n R C := seen_K hS hK (fun a k h => by unfold DSight at h; unfold SM; omega)
  unfold sX12_whoCan_p8
  have key := for_up (fun m i (s : Int32 × St) => sX12_whoCan_p8n Q m s.1 i s.2) (pk P) (fun i s => s.2 = u2 ∧ ∃ w : Nat, s.1 = nI w ∧ w < 2 ^ 5 ∧ ∀ c, w.testBit c = true ↔ c < i ∧ Fit P N n R C c) ?_ 0 (0, u2) (by omega) ⟨rfl, 0, rfl, by omega, fun c => by simp⟩
  · exact key
  rintro m i ⟨a, s⟩ hi ⟨rfl, w, rfl, hw, hb⟩ hnext
  show sX12_whoCan_p8b Q (sX12_whoCan_p8n Q m) (nI w) (nI i) s
  unfold sX12_whoCan_p8b
  refine r_callerMany (ctx_m hC2) ?_
  by_cases he : i = pk P
  · first | refine i_pos (by rw [he]; exact nI_le (Nat.le_refl _) (by omega)) ?_ | rw [if_pos (by rw [he]; exact nI_le (Nat.le_refl _) (by omega))]
    try (with_reducible rfl)
    rw [he] at hb
    exact hQ w s ⟨hw, hb⟩ hC2 hB hW
  first | refine i_neg (nI_ge (by omega) (by omega)) ?_ | rw [if_neg (nI_ge (by omega) (by omega))]
  try (with_reducible rfl)
  have hil : i < pk P := by omega
  have hyes : Fit P N n R C i → (fun r5 u6 => if r5 = (0 : Int32) then sX12_whoCan_p30 (nI w) (nI i) Q (sX12_whoCan_p8n Q m) u6 else sX12_whoCan_p30 (nI w ||| 1 <<< (nI i &&& 31)) (nI i) Q (sX12_whoCan_p8n Q m) u6) 1 s := by
    intro hy
    show (if (1 : Int32) = 0 then _ else _)
    first | refine i_neg (by first | decide | (unfold vp_in; decide)) ?_ | rw [if_neg (by first | decide | (unfold vp_in; decide))]
    rw [x_shl i (by omega), x_or]
    show sX12_whoCan_p8n Q m (nI (w ||| 2 ^ i)) (nI i + 1) s
    rw [nI_1]
    have hba := bit_add (n := 5) hw (by omega) hb hy
    exact hnext (by omega) (nI (w ||| 2 ^ i), s) ⟨rfl, w ||| 2 ^ i, rfl, hba.1, hba.2⟩
  have hno : ¬ Fit P N n R C i → (fun r5 u6 => if r5 = (0 : Int32) then sX12_whoCan_p30 (nI w) (nI i) Q (sX12_whoCan_p8n Q m) u6 else sX12_whoCan_p30 (nI w ||| 1 <<< (nI i &&& 31)) (nI i) Q (sX12_whoCan_p8n Q m) u6) 0 s := by
    intro hy
    show (if (0 : Int32) = 0 then _ else _)
    first | refine i_pos rfl ?_ | rw [if_pos rfl]
    try (with_reducible rfl)
    show sX12_whoCan_p8n Q m (nI w) (nI i + 1) s
    rw [nI_1]
    exact hnext (by omega) (nI w, s) ⟨rfl, w, rfl, hw, bit_no hb hy⟩
  unfold s_X12_isAsSeen sX12_isAsSeen_p2
  refine for_up (fun m2 j z => sX12_isAsSeen_p2n (nI i) (fun r5 u6 => if r5 = (0 : Int32) then sX12_whoCan_p30 (nI w) (nI i) Q (sX12_whoCan_p8n Q m) u6 else sX12_whoCan_p30 (nI w ||| 1 <<< (nI i &&& 31)) (nI i) Q (sX12_whoCan_p8n Q m) u6) m2 j z) n (fun j z => z = s ∧ ∀ k, k < j → cb P N i (R k) = some (C k)) ?_ 0 s (by omega) ⟨rfl, fun k hk => absurd hk (by omega)⟩
  rintro m2 j z hj ⟨rfl, hf⟩ hnext2
  show sX12_isAsSeen_p2b (nI i) _ (sX12_isAsSeen_p2n (nI i) _ m2) (nI j) z
  unfold sX12_isAsSeen_p2b
  rw [hS2.2.2.1]
  by_cases hje : j = n
  · refine i_pos (by rw [hje]; exact nI_le (Nat.le_refl _) (by have := hS2.1; omega)) ?_
    rw [hje] at hf
    exact hyes hf
  have hn16 := hS2.1
  refine i_neg (nI_ge (by omega) (by omega)) ?_
  obtain ⟨a1, a2, a3, a4, a5, a6⟩ := hS2.2.2.2 j (by omega)
  have e2 : (2 : Int32) * nI j = nI (2 * j) := pk_mul 2 j
  have e41 : (41 : Int32) * nI i = nI (41 * i) := pk_mul 41 i
  rw [e2, nI_1, nI_clamp (by omega), nI_clamp (by omega), a5, a6, e41, nI_add, nI_clamp (by omega), hB i hil (R j) a1]
  refine ⟨vp_in_nI (by omega) (by omega), vp_in_nI (by omega) (by omega), vp_in_nI (by omega) (by omega), ?_⟩
  have hc36 := cel_lt hP a2
  have hiff : (oI (cb P N i (R j)) = nI (C j)) = (cb P N i (R j) = some (C j)) := oI_eq (fun x hx => by have := cel_lt hP (cb_cel hP (pk_pc hP hil) (hW i hil) hx); omega) (by omega)
  by_cases hy : cb P N i (R j) = some (C j)
  · refine i_pos (by rw [hiff]; exact hy) ?_
    rw [nI_1]
    refine hnext2 (by omega) z ⟨rfl, fun k hk => ?_⟩
    by_cases ek : k = j
    · rw [ek]
      exact hy
    · exact hf k (by omega)
  · refine i_neg (by rw [hiff]; exact hy) ?_
    exact hno (fun h => hy (h j (by omega)))
theorem who_u {P : Pl} {N : Nat → Nat} {n : Nat} {R C : Nat → Nat} {w w' : Nat} (h : Who P N n R C w) (h' : Who P N n R C w') : w = w' := bit_ext h.2 h'.2
theorem call_who : Call (s_X11_who) (s_X12_who) := by
  rintro u ⟨P, N, hC⟩
  have hC : Ctx u P N := hC
  have hP := ctx_vp hC
  obtain ⟨n, R, C, h1, h2, h3, h4⟩ := hC.1.2.2.2.2.2.2.2.1
  have hS : Seen u P n R C := ⟨h1, h2, h3, h4⟩
  unfold s_X11_who
  refine q_left hC hS (fun w u2 hw hC2 hS2 => ?_)
  unfold s_X12_who
  dsimp only
  rw [(ctx_m hC2).1.1]
  by_cases h0 : pc P = 0
  · have e1 : (if pc P = 0 then (0 : Int32) else 1) = 0 := if_pos h0
    rw [e1]
    first | refine i_pos rfl ?_ | rw [if_pos rfl]
    try (with_reducible rfl)
    have hpk : pk P = 0 := (hP.2.2.1 h0).2.2.1
    have : w = 0 := bit_ext (p := fun c => c < pk P ∧ Fit P N n R C c) hw.2 (fun f => by rw [hpk]; simp)
    rw [this]
    exact ⟨rfl, inv_of hC2⟩
  · have e1 : (if pc P = 0 then (0 : Int32) else 1) = 1 := if_neg h0
    rw [e1]
    first | refine i_neg (by first | decide | (unfold vp_in; decide)) ?_ | rw [if_neg (by first | decide | (unfold vp_in; decide))]
    try (with_reducible rfl)
    refine r_who hC2 hS2 (fun w' u3 hw' hC3 _ _ => ?_)
    rw [who_u hw hw']
    exact ⟨rfl, inv_of hC3⟩
