/-! ===== plain ===== -/
theorem lnN_1 {D : Pl} {c : Nat} (hc : c < 36) : lnN D (1 + 3 * c) = D.1 5 c := by
  unfold lnN
  first | refine i_neg (by omega) ?_ | rw [if_neg (by omega)]
  first | refine i_pos (by omega) ?_ | rw [if_pos (by omega)]
  first | refine i_pos (by omega) ?_ | rw [if_pos (by omega)]
  rw [show (1 + 3 * c - 1) / 3 = c by omega]
theorem lnN_2 {D : Pl} {c : Nat} (hc : c < 36) : lnN D (2 + 3 * c) = D.1 6 c := by
  unfold lnN
  first | refine i_neg (by omega) ?_ | rw [if_neg (by omega)]
  first | refine i_pos (by omega) ?_ | rw [if_pos (by omega)]
  first | refine i_neg (by omega) ?_ | rw [if_neg (by omega)]
  first | refine i_pos (by omega) ?_ | rw [if_pos (by omega)]
  rw [show (2 + 3 * c - 1) / 3 = c by omega]
theorem lnN_3 {D : Pl} {c : Nat} (hc : c < 36) : lnN D (3 + 3 * c) = 0 := by
  unfold lnN
  first | refine i_neg (by omega) ?_ | rw [if_neg (by omega)]
  first | refine i_pos (by omega) ?_ | rw [if_pos (by omega)]
  first | refine i_neg (by omega) ?_ | rw [if_neg (by omega)]
  first | refine i_neg (by omega) ?_ | rw [if_neg (by omega)]
  try (with_reducible rfl)
theorem lnN_p {D : Pl} {f : Nat} : lnN D (109 + f) = if f < pf D then D.1 7 f else 0 := by
  unfold lnN
  first | refine i_neg (by omega) ?_ | rw [if_neg (by omega)]
  first | refine i_neg (by omega) ?_ | rw [if_neg (by omega)]
  try (with_reducible rfl)
  by_cases c : f < pf D
  · first | refine i_pos (by omega) ?_ | rw [if_pos (by omega)]
    first | refine i_pos c ?_ | rw [if_pos c]
    rw [show 109 + f - 109 = f by omega]
  · first | refine i_neg (by omega) ?_ | rw [if_neg (by omega)]
    first | refine i_neg c ?_ | rw [if_neg c]
    try (with_reducible rfl)
theorem vn_ln {D : Pl} {p : Nat} (hD : VD D p) : VN (fin D) (lnN D) := by
  have hb := hD.1
  have h36 : ∀ c, cel (fin D) c → c < 36 := by
    intro c hc
    have h1 : c % 6 < pc D := hc.1
    have h2 : c / 6 < pr D := hc.2
    omega
  refine ⟨Nat.zero_le _, fun c hc => ?_, fun c hc hn => ?_, fun f hf => ?_, fun f h1 h2 => ?_, ?_, fun k hk => ?_⟩
  · rw [lnN_1 (h36 c hc), lnN_2 (h36 c hc), lnN_3 (h36 c hc)]
    exact ⟨(hD.2.2.2.2.1 c).1, (hD.2.2.2.2.1 c).2.1, Nat.zero_le _⟩
  · rw [lnN_2 hc]
    exact (hD.2.2.2.2.1 c).2.2 hn
  · have hf' : f < pf D := hf
    rw [lnN_p]
    first | refine i_pos hf' ?_ | rw [if_pos hf']
    try (with_reducible rfl)
    exact (hD.2.1 f hf').2.2.1
  · have h1' : pf D ≤ f := h1
    rw [lnN_p]
    first | refine i_neg (by omega) ?_ | rw [if_neg (by omega)]
    try (with_reducible rfl)
  · unfold lnN
    first | refine i_neg (by omega) ?_ | rw [if_neg (by omega)]
    first | refine i_neg (by omega) ?_ | rw [if_neg (by omega)]
    first | refine i_neg (by omega) ?_ | rw [if_neg (by omega)]
    try (with_reducible rfl)
    omega
  · unfold lnN
    first | refine i_neg (by omega) ?_ | rw [if_neg (by omega)]
    first | refine i_neg (by omega) ?_ | rw [if_neg (by omega)]
    first | refine i_neg (by omega) ?_ | rw [if_neg (by omega)]
    try (with_reducible rfl)
    omega
theorem good_64 {c : List Nat} (h : Good false 21 c) : Good false 64 c := fun ts hts => h ts (by omega)
theorem okt_0 {c : List Nat} (h : OkK 0 c) : OkT [0, 1, 2, 3, 4, 5, 6, 7] c := by
  intro t ht
  rcases h t ht with h1 | ⟨h1, h2, h3⟩ | h1 | ⟨h1, _⟩
  · exact Or.inl h1
  · refine Or.inr (Or.inl ⟨h1, h2, ?_⟩)
    unfold al at h3
    rw [if_pos rfl] at h3
    have : t - 40 < 8 := by simpa using h3
    have : t - 40 = 0 ∨ t - 40 = 1 ∨ t - 40 = 2 ∨ t - 40 = 3 ∨ t - 40 = 4 ∨ t - 40 = 5 ∨ t - 40 = 6 ∨ t - 40 = 7 := by omega
    simpa using this
  · exact Or.inr (Or.inr h1)
  · omega
theorem okt_1 {c : List Nat} (h : OkK 1 c) : OkT [0, 1, 2, 8] c := by
  intro t ht
  rcases h t ht with h1 | ⟨h1, h2, h3⟩ | h1 | ⟨h1, _⟩
  · exact Or.inl h1
  · refine Or.inr (Or.inl ⟨h1, h2, ?_⟩)
    unfold al at h3
    rw [if_neg (by omega), if_pos rfl] at h3
    have : t - 40 < 3 ∨ t - 40 = 8 := by simpa using h3
    have : t - 40 = 0 ∨ t - 40 = 1 ∨ t - 40 = 2 ∨ t - 40 = 8 := by omega
    simpa using this
  · exact Or.inr (Or.inr h1)
  · omega
theorem good_dg : Good false 64 [1000, 46, 2] := by
  intro ts hts
  have : ts = [] := by
    cases ts with
    | nil => rfl
    | cons a l => simp at hts
  subst this
  rfl
theorem good_db : Good false 64 [41] := by
  intro ts hts
  have : ts = [] := by
    cases ts with
    | nil => rfl
    | cons a l => simp at hts
  subst this
  rfl
theorem vp_fin {D : Pl} {p : Nat} (hD : VD D p) (hp : p ≤ 1600) : VP (fin D) := by
  have hb := hD.1
  have hl := hD.2.2.2.2.2.2.2
  have e1 : pc (fin D) = pc D := rfl
  have e2 : pr (fin D) = pr D := rfl
  have hgo : Good false 64 (pgo (fin D)) ∧ OkT [0, 1, 2, 3, 4, 5, 6, 7] (pgo (fin D)) ∧ (pgo (fin D)).length ≤ 1600 := by
    show Good false 64 (if D.2.1 = [] then [1000, 46, 2] else D.2.1) ∧ OkT _ (if D.2.1 = [] then [1000, 46, 2] else D.2.1) ∧ (if D.2.1 = [] then [1000, 46, 2] else D.2.1).length ≤ 1600
    by_cases c : D.2.1 = []
    · first | refine i_pos c ?_ | rw [if_pos c]
      try (with_reducible rfl)
      exact ⟨good_dg, by unfold OkT; decide, by first | decide | (unfold vp_in; decide)⟩
    · first | refine i_neg c ?_ | rw [if_neg c]
      try (with_reducible rfl)
      rcases hD.2.2.2.2.2.1 with h | h
      · exact absurd h c
      · exact ⟨good_64 h.1, okt_0 h.2, by omega⟩
  have hba : Good false 64 (pba (fin D)) ∧ OkT [0, 1, 2, 8] (pba (fin D)) ∧ (pba (fin D)).length ≤ 1600 := by
    show Good false 64 (if D.2.2 = [] then [41] else D.2.2) ∧ OkT _ (if D.2.2 = [] then [41] else D.2.2) ∧ (if D.2.2 = [] then [41] else D.2.2).length ≤ 1600
    by_cases c : D.2.2 = []
    · first | refine i_pos c ?_ | rw [if_pos c]
      try (with_reducible rfl)
      exact ⟨good_db, by unfold OkT; decide, by first | decide | (unfold vp_in; decide)⟩
    · first | refine i_neg c ?_ | rw [if_neg c]
      try (with_reducible rfl)
      rcases hD.2.2.2.2.2.2.1 with h | h
      · exact absurd h c
      · exact ⟨good_64 h.1, okt_1 h.2, by omega⟩
  refine ⟨by rw [e1]; omega, by rw [e2]; omega, fun h => by rw [e1] at h; omega, fun _ => ⟨by rw [e1]; omega, by rw [e2]; omega, hb.2.2.2.2.1, hgo.1, hba.1, hgo.2.1, hba.2.1, hgo.2.2, hba.2.2⟩, hb.2.2.2.2.2.1, hb.2.2.2.2.2.2, fun f hf => ⟨(hD.2.1 f hf).1, (hD.2.1 f hf).2.1.1, (hD.2.1 f hf).2.1.2⟩, hD.2.2.1, fun c hc => ⟨(hD.2.2.2.1 c hc).1, (hD.2.2.2.1 c hc).2.1⟩, fun f hf => (hD.2.1 f hf).2.2.2, fun c hc => (hD.2.2.2.1 c hc).2.2⟩
theorem c_s2 (u : St) {a b k m : Nat} (hm : m < 1000) : (tC u a 0 b 0 (nI m)).1 b k = if k < m then u.1 a k else u.1 b k := by
  by_cases h : k < m
  · first | refine i_pos h ?_ | rw [if_pos h]
    try (with_reducible rfl)
    exact c_s u h hm
  · first | refine i_neg h ?_ | rw [if_neg h]
    try (with_reducible rfl)
    show (if b = b then va_cpy (u.1 a) (u.1 b) ((0 : Int32)).toNatClampNeg ((0 : Int32)).toNatClampNeg (nI m).toNatClampNeg k else u.1 b k) = _
    first | refine i_pos rfl ?_ | rw [if_pos rfl]
    rw [show ((0 : Int32)).toNatClampNeg = 0 by first | decide | (unfold vp_in; decide), nI_clamp (by omega), pk_cpy_out (by omega)]
theorem cp_m {a b m n : Nat} (ha : SH[a]? = some (100, n)) (hb : SH[b]? = some (100, n)) (hm : m ≤ n) (hn : n < 1000) : Cp SH a 0 b 0 (nI m) := by
  refine ⟨n, n, ha, hb, by first | decide | (unfold vp_in; decide), by first | decide | (unfold vp_in; decide), nI_pos (by omega), ?_, ?_⟩
  · rw [nI_clamp (by omega), show ((0 : Int32)).toNatClampNeg = 0 by first | decide | (unfold vp_in; decide)]
    omega
  · rw [nI_clamp (by omega), show ((0 : Int32)).toNatClampNeg = 0 by first | decide | (unfold vp_in; decide)]
    omega
theorem q_begin {t p : Nat} {D : Pl} {u : St} {Q : St → Prop} (ht : t = 7 ∨ t = 24) (hD : VD D p) (hd : cDr u t (fin D)) (hQ : ∀ u', Kp (fun x _ => ¬ (42 ≤ x ∧ x ≤ 46)) u u' → cLa u' 42 (fin D) (lnN D) → u'.1 42 1 = nI 0 → Q u') : s_X1_begin 42 t Q u := by
  unfold s_X1_begin
  have hb := hD.1
  obtain ⟨g1, g2, g3, g4⟩ := sh_dr ht
  have hl := lsh_42
  have ha : pc D * pr D ≤ 36 := by
    have := Nat.mul_le_mul hb.2.1 hb.2.2.2.1
    omega
  refine bnd_i (bnd_i ⟨cp_0 (m := 36) g1 hl.1 (by omega), bnd_i ⟨cp_0 (m := 36) g2 hl.2.1 (by omega), bnd_i ?_⟩⟩)
  have k1 : Kp (fun x _ => ¬ (42 ≤ x ∧ x ≤ 44)) u (tC (tC (tI (tI u 42 0 0) 42 1 0) (t + 1) 0 43 0 36) (t + 2) 0 44 0 36) := kp_C (kp_C (kp_I (kp_I (kp_r u) (by omega)) (by omega)) (fun k => by omega)) (fun k => by omega)
  have z0 : (tC (tC (tI (tI u 42 0 0) 42 1 0) (t + 1) 0 43 0 36) (t + 2) 0 44 0 36).1 42 0 = 0 := by rw [c_n _ (by omega), c_n _ (by omega), t_n _ _ (by omega), t_s]
  have z1 : (tC (tC (tI (tI u 42 0 0) 42 1 0) (t + 1) 0 43 0 36) (t + 2) 0 44 0 36).1 42 1 = 0 := by rw [c_n _ (by omega), c_n _ (by omega), t_s]
  have z3 : ∀ k, k < 36 → (tC (tC (tI (tI u 42 0 0) 42 1 0) (t + 1) 0 43 0 36) (t + 2) 0 44 0 36).1 43 k = u.1 (t + 1) k := by
    intro k hk
    rw [c_n _ (by omega), show (36 : Int32) = nI 36 from rfl, c_s _ hk (by omega), t_n _ _ (by omega), t_n _ _ (by omega)]
  have z4 : ∀ k, k < 36 → (tC (tC (tI (tI u 42 0 0) 42 1 0) (t + 1) 0 43 0 36) (t + 2) 0 44 0 36).1 44 k = u.1 (t + 2) k := by
    intro k hk
    rw [show (36 : Int32) = nI 36 from rfl, c_s _ hk (by omega), c_n _ (by omega), t_n _ _ (by omega), t_n _ _ (by omega)]
  generalize (tC (tC (tI (tI u 42 0 0) 42 1 0) (t + 1) 0 43 0 36) (t + 2) 0 44 0 36) = u1 at k1 z0 z1 z3 z4
  refine q_fill hl.2.2.1 (by omega) (fun u2 k2 f2 => q_fill hl.2.2.2 (by omega) (fun u3 k3 f3 => ?_))
  have k13 : Kp (fun x _ => ¬ (42 ≤ x ∧ x ≤ 46)) u u3 := kp_t (kp_m k1 (fun a k h => by omega)) (kp_t (kp_m k2 (fun a k h => by omega)) (kp_m k3 (fun a k h => by omega)))
  have e3 : u3.1 t 3 = nI (pf D) := by
    rw [k13.1 t 3 (by omega)]
    exact hd.1.2.2.2.1
  rw [e3]
  refine ⟨cp_m (n := 6) g4 hl.2.2.2 (by omega) (by omega), bnd_i ?_⟩
  have k4 : Kp (fun x _ => x ≠ 46) u3 (tC u3 (t + 7) 0 46 0 (nI (pf D))) := kp_C (kp_r u3) (fun k => by omega)
  refine hQ _ (kp_t k13 (kp_m k4 (fun a k h => by omega))) ⟨?_, fun c hc => ⟨?_, ?_, ?_⟩, fun f hf => ?_, fun q hq hqa => ?_⟩ ?_
  · rw [k4.1 42 0 (by omega), k3.1 42 0 (by omega), k2.1 42 0 (by omega), z0]
    rfl
  · have hp := pl_lt hc
    have hp' : pl (fin D) c < pc D * pr D := hp
    have h36 : c < 36 := by
      have h1 : c % 6 < pc D := hc.1
      have h2 : c / 6 < pr D := hc.2
      omega
    rw [k4.1 _ _ (by omega), k3.1 _ _ (by omega), k2.1 _ _ (by omega), z3 _ (by omega), lnN_1 h36]
    exact (hd.2.1 c hc).1
  · have hp' : pl (fin D) c < pc D * pr D := pl_lt hc
    have h36 : c < 36 := by
      have h1 : c % 6 < pc D := hc.1
      have h2 : c / 6 < pr D := hc.2
      omega
    rw [k4.1 _ _ (by omega), k3.1 _ _ (by omega), k2.1 _ _ (by omega), z4 _ (by omega), lnN_2 h36]
    exact (hd.2.1 c hc).2.1
  · have hp' : pl (fin D) c < pc D * pr D := pl_lt hc
    have h36 : c < 36 := by
      have h1 : c % 6 < pc D := hc.1
      have h2 : c / 6 < pr D := hc.2
      omega
    rw [k4.1 _ _ (by omega), k3.1 _ _ (by omega), f2 _ (by omega), lnN_3 h36]
    rfl
  · rw [c_s2 _ (by omega), lnN_p]
    by_cases c : f < pf D
    · first | refine i_pos c ?_ | rw [if_pos c]
      first | refine i_pos c ?_ | rw [if_pos c]
      rw [k13.1 (t + 7) f (by omega)]
      exact (hd.2.2.2.1 f c).2.2.2
    · first | refine i_neg c ?_ | rw [if_neg c]
      first | refine i_neg c ?_ | rw [if_neg c]
      rw [f3 f hf]
      rfl
  · have hqa' : pc D * pr D ≤ q := hqa
    rw [k4.1 _ _ (by omega), k3.1 _ _ (by omega), k2.1 _ _ (by omega), z4 _ (by omega)]
    exact hd.2.2.1 q hq hqa
  · rw [k4.1 42 1 (by omega), k3.1 42 1 (by omega), k2.1 42 1 (by omega), z1]
    rfl
def SPf (a k : Nat) : Prop := SYq a k ∧ ¬ (a = 198 ∧ ((1 ≤ k ∧ k ≤ 8) ∨ k = 55 ∨ k = 57 ∨ k = 113)) ∧ ¬ DRd a k ∧ ¬ (a = 200 ∧ k = 1)
theorem r_plain {X : Tx} {u : St} {r : Except E2 (Pl × Nat)} {Q : Int32 → St → Prop} (h16 : X.2 ≤ 1600) (e1 : u.1 198 1 = nI X.2) (hb : ∀ k, k < X.2 → u.1 199 k = nI (X.1 k) ∧ X.1 k < 256) (hG : gWords u) (hR : PlT X r) (h1 : ∀ u' D cnt p, r = .ok (D, cnt) → cnt ≤ 80 → VD D p → p ≤ 1600 → Kz (fun a k => SPf a k ∧ SSt a k) u u' → u'.1 198 1 = nI 0 → u'.1 198 7 = 0 → u'.1 198 8 = -1 → u'.1 200 1 = u.1 200 1 → mPl u' (fin D) → mLa u' (lnN D) → u'.1 198 78 = 0 → u'.1 198 74 = 0 → Q (nI cnt) u') (h0 : ∀ u' e, r = .error e → Kr SPf u u' → u'.1 198 1 = nI 0 → u'.1 198 7 = nI e.1 → u'.1 198 8 = nI e.2 → u'.1 200 1 = u.1 200 1 + 1 → Q (-1) u') : s_X12_plain Q u := by
  unfold s_X12_plain
  refine bnd_i (bnd_i (bnd_i (bnd_i (bnd_i (bnd_i (bnd_i (bnd_i ?_)))))))
  obtain ⟨z1, z2, z3⟩ := r_begin (X := X) (u := u) h16 e1 hb _ rfl
  generalize tI (tI (tI (tI (tI (tI u 198 3 (u.1 198 1)) 198 1 0) 198 2 0) 198 4 (-1)) 198 5 0) 198 6 (-1) = y at z1 z2 z3
  have ky : Kp (fun a k => ¬ (a = 198 ∧ (k = 54 ∨ k = 43))) y (tI (tI y 198 54 0) 198 43 0) := kp_I (kp_I (kp_r y) (by omega)) (by omega)
  have y54 : (tI (tI y 198 54 0) 198 43 0).1 198 54 = 0 := by rw [t_n _ _ (by omega), t_s]
  have y43 : (tI (tI y 198 54 0) 198 43 0).1 198 43 = 0 := t_s _ _ _ _
  generalize tI (tI y 198 54 0) 198 43 0 = w at ky y54 y43
  -- the clearing
  have hclr : ∀ w', Kp (fun a k => ¬ ((a = 232 ∨ a = 238) ∧ k < 2) ∧ ¬ (a = 236) ∧ ¬ (a = 237)) w w' → mClr w' → s_X12_plainTold (fun u16 => bnd (tI u16 198 55 (1 : Int32)) (fun u17 => sX12_plain_p107 Q u17)) w' := by
    intro w' kw cw
    have kU : Kp (fun a k => ¬ (a = 198 ∧ ((1 ≤ k ∧ k ≤ 6) ∨ k = 54 ∨ k = 43)) ∧ ¬ ((a = 232 ∨ a = 238) ∧ k < 2) ∧ ¬ (a = 236) ∧ ¬ (a = 237)) u w' := kp_t (kp_m z3 (fun a k h => by omega)) (kp_t (kp_m ky (fun a k h => by omega)) (kp_m kw (fun a k h => h.2)))
    have hmw : Ma w' X 0 false := ma_K (ma_K z1 ky (fun a k h => by omega)) kw (fun a k h => by omega)
    have hGw : gWords w' := k_words hG kU (fun a k h => by unfold DWords at h; omega)
    have w1 : w'.1 198 1 = nI 0 := by rw [kw.1 198 1 (by omega), ky.1 198 1 (by omega)]; exact z2
    have kSP : ∀ a k, SPf a k → ¬ (a = 198 ∧ ((1 ≤ k ∧ k ≤ 6) ∨ k = 54 ∨ k = 43)) ∧ ¬ ((a = 232 ∨ a = 238) ∧ k < 2) ∧ ¬ (a = 236) ∧ ¬ (a = 237) := by
      intro a k h
      have a1 := h.2.1
      have a2 := h.2.2.1
      unfold DRd at a2
      omega
    have kRd : ∀ a k, SPf a k → SR5 a k := by
      intro a k h
      have a1 := h.2.1
      exact ⟨⟨h.1, by omega, h.2.2.1⟩, by omega⟩
    -- the end: 198 7 and 198 8
    have hend : ∀ s : St, Kr SR5 w' s → (∃ e, r = .error e ∧ Mf s X e) → sX12_plain_p129 Q s := by
      intro s ks ⟨e, hre, hf⟩
      unfold sX12_plain_p129
      refine bnd_i (bnd_i ?_)
      rw [t_n (k' := 6) _ _ (by omega), t_n (k' := 5) _ _ (by omega), t_n (k' := 5) _ _ (by omega)]
      refine i_neg (mf_bad hf) ⟨vp_in_nI (n := 1) (by omega) (by omega), bnd_i ?_⟩
      rw [show ((1 : Int32)).toNatClampNeg = 1 by first | decide | (unfold vp_in; decide), hf.2.1, hf.2.2.2.1]
      have e200 : (tI (tI s 198 7 (nI e.1)) 198 8 (nI e.2)).1 200 1 = u.1 200 1 := by
        rw [t_n _ _ (by omega), t_n _ _ (by omega), ks.1 200 1 (by unfold SR5 SRd SYq DRd; omega), kU.1 200 1 (by omega)]
      rw [e200]
      have kt : Kp (fun a k => ¬ (a = 198 ∧ (k = 7 ∨ k = 8)) ∧ ¬ (a = 200 ∧ k = 1)) s (tI (tI (tI s 198 7 (nI e.1)) 198 8 (nI e.2)) 200 1 (u.1 200 1 + 1)) := kp_I (kp_I (kp_I (kp_r s) (by omega)) (by omega)) (by omega)
      refine h0 _ e hre (kr_t (kr_p (kp_m kU kSP)) (kr_t (kr_m ks kRd) (kr_p (kp_m kt (fun a k h => ⟨by have := h.2.1; omega, h.2.2.2⟩))))) ?_ ?_ ?_ (t_s _ _ _ _)
      · rw [t_n _ _ (by omega), t_n _ _ (by omega), t_n _ _ (by omega), ks.1 198 1 (by unfold SR5 SRd SYq DRd; omega)]
        exact w1
      · rw [t_n _ _ (by omega), t_n _ _ (by omega), t_s]
      · rw [t_n _ _ (by omega), t_s]
    refine r_sidesT hmw cw hGw (fun u2 D0 p0 hsd m2 M2 G2 k2 => bnd_i ?_) (fun u2 e hsd f2 k2 => bnd_i ?_)
    · have k3 : Kp (fun a k => ¬ (a = 198 ∧ k = 55)) u2 (tI u2 198 55 1) := kp_I (kp_r u2) (by omega)
      have e55 : (tI u2 198 55 1).1 198 55 = nI 1 := t_s _ _ _ _
      have hRR : VD D0 p0 ∧ ∃ n, Rp X n 1 D0 p0 r := by
        rcases hR with ⟨e, he, _⟩ | ⟨D', p', he, hv, hr⟩
        · exact absurd (hsd.symm.trans he) (by simp)
        · have hq := Except.ok.inj (hsd.symm.trans he)
          have q1 : D0 = D' := congrArg (fun y => y.1) hq
          have q2 : p0 = p' := congrArg (fun y => y.2) hq
          rw [q1, q2]
          exact ⟨hv, hr⟩
      obtain ⟨hv0, n, hRn⟩ := hRR
      have hp0 := m2.2.1
      have M3 : mDr (tI u2 198 55 1) D0 := mdr_K M2 hv0 (by omega) k3 (fun a k h => by unfold DRd at h; omega)
      have m3 : Ma (tI u2 198 55 1) X p0 false := ma_K m2 k3 (fun a k h => by omega)
      have G3 : gWords (tI u2 198 55 1) := k_words G2 k3 (fun a k h => by unfold DWords at h; omega)
      generalize tI u2 198 55 1 = u3 at k3 e55 M3 m3 G3
      have k23 : Kr SR5 w' u3 := kr_t (kr_m k2 (fun a k h => h.1)) (kr_p (kp_m k3 (fun a k h => h.2)))
      refine r_loop hv0 m3 M3 G3 e55 hRn (fun s D cnt p hre hc hv hp Ms s5 s6 s55 ks => ?_) (fun s e hre hf ks => hend s (kr_t k23 ks) ⟨e, hre, hf⟩)
      have ks' := kr_t k23 ks
      unfold sX12_plain_p129
      refine bnd_i (bnd_i ?_)
      rw [t_n (k' := 6) _ _ (by omega), t_n (k' := 5) _ _ (by omega), t_n (k' := 5) _ _ (by omega), s5, s6]
      refine i_pos rfl ?_
      have kt : Kp (fun a k => ¬ (a = 198 ∧ (k = 7 ∨ k = 8))) s (tI (tI s 198 7 0) 198 8 (-1)) := kp_I (kp_I (kp_r s) (by omega)) (by omega)
      have t7 : (tI (tI s 198 7 0) 198 8 (-1)).1 198 7 = 0 := by rw [t_n _ _ (by omega), t_s]
      have t8 : (tI (tI s 198 7 0) 198 8 (-1)).1 198 8 = -1 := t_s _ _ _ _
      have Mt : mDr (tI (tI s 198 7 0) 198 8 (-1)) D := mdr_K Ms hv hp kt (fun a k h => by unfold DRd at h; omega)
      generalize tI (tI s 198 7 0) 198 8 (-1) = s2 at kt t7 t8 Mt
      refine r_stands hv hp Mt (fun v kv mP mL v78 v74 => ?_)
      have s198 : ∀ k, ¬ (S4 198 ∧ 2 ≤ k) := fun k h => by
        have := h.1
        unfold S4 at this
        omega
      have s200 : ∀ k, ¬ (S4 200 ∧ 2 ≤ k) := fun k h => by
        have := h.1
        unfold S4 at this
        omega
      have hS8 : ∀ k, k = 1 ∨ k = 7 ∨ k = 8 ∨ k = 55 → SSt 198 k := fun k hk => ⟨by omega, s198 k, by omega, by omega, by omega, by omega⟩
      rw [kv.1 198 55 (hS8 55 (by omega)), kt.1 198 55 (by omega), s55]
      refine h1 v D cnt p hre hc hv hp ?_ ?_ ?_ ?_ ?_ mP mL v78 v74
      · refine kz_t (kz_r (kr_t (kr_p (kp_m kU (fun a k h => kSP a k h.1))) (kr_t (kr_m ks' (fun a k h => kRd a k h.1)) (kr_p (kp_m kt (fun a k h => ?_)))))) (kz_m kv (fun a k h => h.2))
        have := h.1.2.1
        omega
      · rw [kv.1 198 1 (hS8 1 (by omega)), kt.1 198 1 (by omega), ks'.1 198 1 (by unfold SR5 SRd SYq DRd; omega)]
        exact w1
      · rw [kv.1 198 7 (hS8 7 (by omega))]
        exact t7
      · rw [kv.1 198 8 (hS8 8 (by omega))]
        exact t8
      · rw [kv.1 200 1 ⟨by omega, s200 1, by omega, by omega, by omega, by omega⟩, kt.1 200 1 (by omega), ks'.1 200 1 (by unfold SR5 SRd SYq DRd; omega), kU.1 200 1 (by omega)]
    · have k3 : Kp (fun a k => ¬ (a = 198 ∧ k = 55)) u2 (tI u2 198 55 1) := kp_I (kp_r u2) (by omega)
      have f3 : Mf (tI u2 198 55 1) X e := mf_K f2 k3 (fun a k h => by omega)
      generalize tI u2 198 55 1 = u3 at k3 f3
      have hre : r = .error e := by
        rcases hR with ⟨e', he, hre⟩ | ⟨D', p', he, _⟩
        · have := Except.error.inj (hsd.symm.trans he)
          rw [this]
          exact hre
        · exact absurd (hsd.symm.trans he) (by simp)
      unfold sX12_plain_p107
      refine ⟨1, ?_⟩
      show sX12_plain_p107b Q _ u3
      unfold sX12_plain_p107b
      exact i_neg (mf_bad f3) (hend u3 (kr_t (kr_m k2 (fun a k h => h.1)) (kr_p (kp_m k3 (fun a k h => h.2)))) ⟨e, hre, f3⟩)
  unfold sX12_plain_p45
  refine for_up (sX12_plain_p45n Q) 2 (fun i s => Kp (fun a k => ¬ ((a = 232 ∨ a = 238) ∧ k < 2)) w s ∧ ∀ k, k < i → s.1 232 k = 0 ∧ s.1 238 k = -1) (fun n i s hi hI hK => ?_) 0 w (Nat.zero_le _) ⟨kp_r w, fun k hk => absurd hk (by omega)⟩
  obtain ⟨kI, hI⟩ := hI
  show sX12_plain_p45b Q (sX12_plain_p45n Q n) (nI i) s
  unfold sX12_plain_p45b
  by_cases c : i = 2
  · subst c
    have h2 : nI 2 ≤ nI 2 := nI_le (by omega) (by omega)
    refine i_pos h2 ?_
    unfold sX12_plain_p72
    refine for_up (sX12_plain_p72n Q) 36 (fun i s' => Kp (fun a _ => a ≠ 236 ∧ a ≠ 237) s s' ∧ ∀ k, k < i → s'.1 236 k = 0 ∧ s'.1 237 k = 0) (fun n i s' hi hI2 hK2 => ?_) 0 s (Nat.zero_le _) ⟨kp_r s, fun k hk => absurd hk (by omega)⟩
    obtain ⟨kI2, hI2⟩ := hI2
    show sX12_plain_p72b Q (sX12_plain_p72n Q n) (nI i) s'
    unfold sX12_plain_p72b
    by_cases c2 : i = 36
    · subst c2
      have h36 : nI 36 ≤ nI 36 := nI_le (by omega) (by omega)
      refine i_pos h36 (hclr s' (kp_t (kp_m kI (fun a k h => h.1)) (kp_m kI2 (fun a k h => h.2))) ⟨⟨?_, ?_⟩, fun k hk => ?_, hI2⟩)
      · rw [kI2.1 198 54 (by omega), kI.1 198 54 (by omega)]
        exact y54
      · rw [kI2.1 198 43 (by omega), kI.1 198 43 (by omega)]
        exact y43
      · rw [kI2.1 232 k (by omega), kI2.1 238 k (by omega)]
        exact hI k hk
    · have h36 : ¬ nI 36 ≤ nI i := nI_ge (by omega) (by omega)
      refine i_neg h36 ⟨vp_in_nI (by omega) (by omega), bnd_i ⟨vp_in_nI (by omega) (by omega), bnd_i ?_⟩⟩
      rw [nI_clamp (by omega), nI_1]
      refine hK2 (by omega) _ ⟨kp_I (kp_I kI2 (by omega)) (by omega), fun k hk => ?_⟩
      by_cases q : k = i
      · subst q
        exact ⟨by rw [t_n _ _ (by omega), t_s], by rw [t_s]; rfl⟩
      · rw [t_n _ _ (by omega), t_n _ _ (by omega), t_n _ _ (by omega), t_n _ _ (by omega)]
        exact hI2 k (by omega)
  · have h2 : ¬ nI 2 ≤ nI i := nI_ge (by omega) (by omega)
    refine i_neg h2 ⟨vp_in_nI (by omega) (by omega), bnd_i ⟨vp_in_nI (by omega) (by omega), bnd_i ?_⟩⟩
    rw [nI_clamp (by omega), nI_1]
    refine hK (by omega) _ ⟨kp_I (kp_I kI (by omega)) (by omega), fun k hk => ?_⟩
    by_cases q : k = i
    · subst q
      exact ⟨by rw [t_n _ _ (by omega), t_s], by rw [t_s]⟩
    · rw [t_n _ _ (by omega), t_n _ _ (by omega), t_n _ _ (by omega), t_n _ _ (by omega)]
      exact hI k (by omega)
