/-! ===== chance: years with drawn callers ===== -/
def sd (s : Nat) : Nat := (1103515245 * s + 12345) % 2147483648
theorem sd_lt (s : Nat) : sd s < 2147483648 := Nat.mod_lt _ (by omega)
theorem l_and (a b : Nat) : lN a &&& lN b = lN (a &&& b) := by
  apply Int64.toBitVec.inj
  rw [Int64.toBitVec_and]
  show BitVec.ofNat 64 a &&& BitVec.ofNat 64 b = BitVec.ofNat 64 (a &&& b)
  rw [BitVec.ofNat_and]
theorem sd_x {s : Nat} (hs : s < 2147483648) : (1103515245 : Int64) * lN s + (12345 : Int64) = lN (1103515245 * s + 12345) := by
  rw [lN_lI (n := s) (by omega), lN_lI (n := 1103515245 * s + 12345) (by omega)]
  show lI 1103515245 * lI (s : Int) + lI 12345 = _
  rw [lI_mul, lI_add]
  congr 1
theorem sd_c {s : Nat} (hs : s < 2147483648) : ((1103515245 : Int64) * lN s + (12345 : Int64)) &&& (2147483647 : Int64) = lN (sd s) := by
  rw [sd_x hs]
  show lN (1103515245 * s + 12345) &&& lN 2147483647 = _
  rw [l_and]
  unfold sd
  rw [show (2147483647 : Nat) = 2 ^ 31 - 1 by first | decide | (unfold vp_in; decide), Nat.and_two_pow_sub_one_eq_mod]
theorem l_rem {a d : Nat} (ha : a < 4000000000000000000) (h0 : 0 < d) (hd : d < 4000000000000000000) : lN a - lN a / lN d * lN d = lN (a % d) := by
  have e : (a : Int).tdiv (d : Int) = ((a / d : Nat) : Int) := by
    rw [Int.ofNat_tdiv]
  have h1 : a / d * d + a % d = a := Nat.div_add_mod' a d
  have h2 : ((a / d : Nat) : Int) * (d : Int) = ((a / d * d : Nat) : Int) := by
    rw [Int.natCast_mul]
  have h3 : a % d < d := Nat.mod_lt _ h0
  rw [lN_lI (n := a) (by omega), lN_lI (n := d) (by omega), lN_lI (n := a % d) (by omega), lI_div (by omega) (by omega) (by omega) (by omega), lI_mul, lI_sub, e, h2]
  congr 1
  generalize a / d * d = q at h1
  generalize a % d = r at h1
  omega
theorem sd_r {s : Nat} (hs : s < 2147483648) : ((1103515245 : Int64) * lN s + (12345 : Int64)) - ((1103515245 : Int64) * lN s + (12345 : Int64)) / (2147483648 : Int64) * (2147483648 : Int64) = lN (sd s) := by
  rw [sd_x hs]
  exact l_rem (d := 2147483648) (by omega) (by omega) (by omega)
theorem sd_k {s p : Nat} (hs : s < 2147483648) (h0 : 0 < p) (hp : p ≤ 5) : ((lN s / (64 : Int64)) - (lN s / (64 : Int64)) / (nI p).toInt64 * (nI p).toInt64).toInt32 = nI (s / 64 % p) := by
  have e : lN s / (64 : Int64) = lN (s / 64) := by
    rw [lN_lI (n := s) (by omega), lN_lI (n := s / 64) (by omega)]
    show lI (s : Int) / lI 64 = _
    rw [lI_div (by omega) (by omega) (by omega) (by omega)]
    congr 1
  have h3 : s / 64 % p < p := Nat.mod_lt _ h0
  rw [e, nI_l (by omega), l_rem (by omega) h0 (by omega), lN_lI (by omega), lI_i (by omega) (by omega), nI_iI (by omega)]
theorem tL_id {u : St} {a k : Nat} {x : Int64} (h : u.2.1 a k = x) : tL u a k x = u := by
  have e : (fun a' k' => if a' = a ∧ k' = k then x else u.2.1 a' k') = u.2.1 := by
    funext a' k'
    by_cases c : a' = a ∧ k' = k
    · first | refine i_pos c ?_ | rw [if_pos c]
      rw [c.1, c.2]
      exact h.symm
    · first | refine i_neg c ?_ | rw [if_neg c]
      try (with_reducible rfl)
  show (u.1, (fun a' k' => if a' = a ∧ k' = k then x else u.2.1 a' k'), u.2.2) = u
  rw [e]
theorem tL_tL (u : St) (a k : Nat) (x y : Int64) : tL (tL u a k x) a k y = tL u a k y := by
  have e : (fun a' k' => if a' = a ∧ k' = k then y else (if a' = a ∧ k' = k then x else u.2.1 a' k')) = (fun a' k' => if a' = a ∧ k' = k then y else u.2.1 a' k') := by
    funext a' k'
    by_cases c : a' = a ∧ k' = k
    · first | refine i_pos c ?_ | rw [if_pos c]
      first | refine i_pos c ?_ | rw [if_pos c]
      try (with_reducible rfl)
    · first | refine i_neg c ?_ | rw [if_neg c]
      first | refine i_neg c ?_ | rw [if_neg c]
      first | refine i_neg c ?_ | rw [if_neg c]
      try (with_reducible rfl)
  show (u.1, (fun a' k' => if a' = a ∧ k' = k then y else (if a' = a ∧ k' = k then x else u.2.1 a' k')), u.2.2) = (u.1, (fun a' k' => if a' = a ∧ k' = k then y else u.2.1 a' k'), u.2.2)
  rw [e]
theorem tL_ss (u : St) (a k : Nat) (x : Int64) : (tL u a k x).2.1 a k = x := by
  show (if a = a ∧ k = k then x else u.2.1 a k) = x
  first | refine i_pos ⟨rfl, rfl⟩ ?_ | rw [if_pos ⟨rfl, rfl⟩]
  try (with_reducible rfl)
theorem tL_na (u : St) {a k a' : Nat} (x : Int64) (h : a' ≠ a) : (tL u a k x).2.1 a' = u.2.1 a' := by
  funext k'
  show (if a' = a ∧ k' = k then x else u.2.1 a' k') = u.2.1 a' k'
  first | refine i_neg (fun e => h e.1) ?_ | rw [if_neg (fun e => h e.1)]
  try (with_reducible rfl)
theorem kp_tL {S : Nat → Nat → Prop} {u v : St} {a k : Nat} {x : Int64} (h : Kp S u v) (ha : a ≠ 284) : Kp S (tL u a k x) (tL v a k x) := by
  refine ⟨h.1, fun b hb => ?_, h.2.2⟩
  funext j
  show (if b = a ∧ j = k then x else v.2.1 b j) = (if b = a ∧ j = k then x else u.2.1 b j)
  rw [h.2.1 b hb]
theorem mPl_tL {u : St} {P : Pl} {a k : Nat} {x : Int64} (h : mPl u P) (ha : a ≠ 233) : mPl (tL u a k x) P := by
  have hn : (tL u a k x).2.1 233 = u.2.1 233 := tL_na u x (fun e => ha e.symm)
  exact ⟨h.1, fun f hf => by rw [hn]; exact h.2.1 f hf, fun c hc => by rw [hn]; exact h.2.2.1 c hc, h.2.2.2⟩
theorem ctx_sd {u : St} {P : Pl} {N : Nat → Nat} {s : Nat} (hC : Ctx u P N) (hs : s < 2147483648) : Ctx (tL (tL u 0 18 (lN s)) 198 80 (lN s)) P N := by
  obtain ⟨⟨h1, h2, h3, h4, h5, h6, h7, h8, h9, h10, h11⟩, h12, h13⟩ := hC
  have hsd : gSeed (tL (tL u 0 18 (lN s)) 198 80 (lN s)) := ⟨s, hs, by rw [tL_na _ _ (by omega), tL_ss], tL_ss _ _ _ _⟩
  exact ⟨⟨h1, h2, h3, hsd, h5, h6, ⟨h7.1, h7.2.1, h7.2.2.1, mPl_tL (mPl_tL h7.2.2.2 (by omega)) (by omega)⟩, h8, h9, h10, h11⟩, h12, h13⟩
def chS (s : Nat) : Nat → Nat
  | 0 => s
  | i + 1 => sd (chS s i)
theorem chS_lt {s : Nat} (hs : s < 2147483648) : ∀ i, chS s i < 2147483648
  | 0 => hs
  | i + 1 => sd_lt _
def chK (P : Pl) (s i : Nat) : Nat := chS s (i + 1) / 64 % pk P
noncomputable def chN (P : Pl) (N : Nat → Nat) (s : Nat) : Nat → Nat → Nat
  | 0 => N
  | i + 1 => yrN P (chN P N s i) (chK P s i)
noncomputable def chB (P : Pl) (N : Nat → Nat) (s i : Nat) : Nat := pop (ww P (chN P N s i) (chK P s i))
noncomputable def chE (P : Pl) (N : Nat → Nat) (s : Nat) (E : Nat → Nat → Nat) (Y : Nat) : Nat → Nat → Nat → Nat
  | 0 => E
  | i + 1 => yE (chE P N s E Y i) (Y + i) (chN P N s i 0) (chK P s i) (chB P N s i)
noncomputable def chV (P : Pl) (N : Nat → Nat) (s : Nat) : Nat → Nat
  | 0 => 0
  | i + 1 => chV P N s i + chB P N s i
theorem chE_n {P : Pl} {N : Nat → Nat} {s Y j y : Nat} {E : Nat → Nat → Nat} : ∀ i, y < Y → chE P N s E Y i j y = E j y
  | 0, _ => rfl
  | i + 1, h => by
    unfold chE
    rw [yE_n (by omega)]
    exact chE_n i h
def cWy (z : St) : Prop := ∀ j, j < 5 → z.1 (178 + 4 * j) 5 = 0 ∧ FB z (178 + 4 * j + 3)
/-- what the class has when i years are over -/
def ChC (u : St) (P : Pl) (N : Nat → Nat) (s Y : Nat) (E : Nat → Nat → Nat) (i : Nat) (z : St) : Prop := Kp (YSc u.2.2.1) (tL u 0 18 (lN (chS s i))) z ∧ (∀ j, j ≤ i → VN P (chN P N s j) ∧ chN P N s j 0 = N 0 + j ∧ chN P N s j (2 + 3 * ps P) = N (2 + 3 * ps P)) ∧ KR (chE P N s E Y i) (Y + i) (chN P N s i) ∧ cLa z 42 P (chN P N s i) ∧ gWays z P (chN P N s i) ∧ (0 < i → cWy z) ∧ FB z 173 ∧ z.1 42 1 = nI (Y + i) ∧ ∀ y, y < Y + i → z.1 54 y = nI (chE P N s E Y i 0 y) ∧ z.1 55 y = nI (chE P N s E Y i 1 y) ∧ z.1 56 y = nI (chE P N s E Y i 2 y)
theorem q_chance {P : Pl} {N : Nat → Nat} {s Y n : Nat} {E : Nat → Nat → Nat} {Q : Int32 → St → Prop} {u : St} (hP : VP P) (hN : VN P N) (hk : 0 < pk P) (ht : 7 ≤ u.2.2.1 ∧ u.2.2.1 + 16 ≤ 40) (hT : cPl u u.2.2.1 P) (hL : cLa u 42 P N) (hG : gWays u P N) (hB : FB u 173) (hst : N (2 + 3 * ps P) ≠ 1) (hY : u.1 42 1 = nI Y) (hYN : Y ≤ N 0) (h9 : N 0 + n ≤ 999) (hn : n ≤ 100) (hE : ∀ y, y < Y → u.1 54 y = nI (E 0 y) ∧ u.1 55 y = nI (E 1 y) ∧ u.1 56 y = nI (E 2 y)) (hKR : KR E Y N) (hs : s < 2147483648) (hsu : u.2.1 0 18 = lN s)
    (hQ : ∀ u', ChC u P N s Y E n u' → Q (nI (chV P N s n)) u') : sX11_chance_p59 (nI n) Q (0 : Int32) (0 : Int32) u := by
  have hk5 := hP.2.2.2.2.2.1
  have h0 := pk_pc hP hk
  have h6 := hP.1
  have hps : ps P < 36 := by
    have := (hP.2.2.2.1 h0).2.2.1
    omega
  unfold sX11_chance_p59
  have key := for_up (fun m i (z : Int32 × St) => sX11_chance_p59n (nI n) Q m z.1 i z.2) n (fun i z => z.1 = nI (chV P N s i) ∧ ChC u P N s Y E i z.2) ?_ 0 (0, u) (by omega) ⟨rfl, by rw [show chS s 0 = s from rfl, tL_id hsu]; exact kp_r u, fun j hj => by rw [show j = 0 by omega]; exact ⟨hN, rfl, rfl⟩, hKR, hL, hG, fun h => absurd h (by omega), hB, hY, hE⟩
  · exact key
  rintro m i ⟨v2, z⟩ hi ⟨e2, hc⟩ hnext
  simp only at e2 hc
  subst e2
  show sX11_chance_p59b (nI n) Q (sX11_chance_p59n (nI n) Q m) (nI (chV P N s i)) (nI i) z
  unfold sX11_chance_p59b
  by_cases hie : i = n
  · rw [hie] at hc ⊢
    exact i_pos (nI_le (Nat.le_refl _) (by omega)) (hQ z hc)
  refine i_neg (nI_ge (by omega) (by omega)) ?_
  obtain ⟨c1, c2, c3, c4, c5, c6, c7, c8, c9⟩ := hc
  have ez : z.2.2 = u.2.2 := c1.2.2
  have esd : z.2.1 0 18 = lN (chS s i) := by
    rw [c1.2.1 0 (by omega), tL_ss]
  have hsl := chS_lt hs i
  have hTz : cPl z u.2.2.1 P := cPl_K (u := tL u 0 18 (lN (chS s i))) hT c1 (fun x j a b c d => by unfold YSc; omega)
  unfold s_X11_drawCaller
  refine bnd_i ?_
  rw [esd, sd_c hsl]
  have hd : chS s (i + 1) = sd (chS s i) := rfl
  rw [← hd, tL_ss]
  have e4 : (tL z 0 18 (lN (chS s (i + 1)))).1 (tL z 0 18 (lN (chS s (i + 1)))).2.2.1 4 = nI (pk P) := by
    show z.1 z.2.2.1 4 = _
    rw [ez]
    exact hTz.1.2.2.2.2
  rw [e4]
  refine i_neg (nI_ne0 (by omega) (by omega)) ⟨?_, ?_⟩
  · rw [nI_l (by omega), lN_lI (by omega), l_0]
    first | rw [ite_e (lI_eq (by omega) (by omega) (by omega) (by omega))] | rw [lI_eq (by omega) (by omega) (by omega) (by omega)]
    try (with_reducible rfl)
    omega
  rw [sd_k (chS_lt hs (i + 1)) hk (by omega)]
  have hkk : chK P s i < pk P := Nat.mod_lt _ hk
  obtain ⟨d1, d2, d3⟩ := c2 i (Nat.le_refl _)
  have hYi : Y + i ≤ chN P N s i 0 := by rw [d2]; omega
  show s_X11_passYear (nI (chK P s i)) _ _
  have k1 : Kp (YSc u.2.2.1) (tL u 0 18 (lN (chS s (i + 1)))) (tL z 0 18 (lN (chS s (i + 1)))) := by
    have := kp_tL (a := 0) (k := 18) (x := lN (chS s (i + 1))) c1 (by omega)
    rw [tL_tL] at this
    exact this
  have et : (tL z 0 18 (lN (chS s (i + 1)))).2.2.1 = u.2.2.1 := by
    show z.2.2.1 = _
    rw [ez]
  refine q_year (u := tL z 0 18 (lN (chS s (i + 1)))) (Y := Y + i) (E := chE P N s E Y i) hP d1 hkk (by rw [et]; exact ht) (by rw [et]; exact hTz) c4 c5 c7 (by rw [d3]; exact hst) c8 hYi (by rw [d2]; omega) c9 (fun u' k2 w2 l2 g2 b2 y2 e2 z2 => ?_)
  rw [et] at k2
  have hcel := (w_cel hP h0 w2).2.1
  rw [nI_add, nI_1]
  refine hnext (by omega) (nI (chV P N s (i + 1)), u') ⟨rfl, kp_t k1 k2, fun j hj => ?_, ?_, l2, g2, fun _ => z2, b2, y2, e2⟩
  · by_cases hji : j = i + 1
    · rw [hji]
      refine ⟨yr_vn hP d1 hkk hcel (by rw [d2]; omega), ?_, ?_⟩
      · show yrN P (chN P N s i) (chK P s i) 0 = _
        rw [yr_0, d2]
        omega
      · show yrN P (chN P N s i) (chK P s i) (2 + 3 * ps P) = _
        rw [yr_st hP hcel hps, d3]
    · exact c2 j (by omega)
  · exact kr_yr hP hcel c3
theorem r_chance {P : Pl} {N : Nat → Nat} {s n : Nat} {Q : Int32 → St → Prop} {u : St} (hP : VP P) (hk : 0 < pk P) (hM : mPl u P) (hL : mLa u N) (h9 : N 0 + n ≤ 999) (hn : n ≤ 100) (hs : s < 2147483648) (hsu : u.2.1 198 80 = lN s) (hV : ∀ j, j ≤ n → VN P (chN P N s j) ∧ chN P N s j 0 = N 0 + j)
    (hQ : ∀ u', Kp SRy (tL u 198 80 (lN (chS s n))) u' → mLa u' (chN P N s n) → Q (nI (chV P N s n)) u') : sX12_chance_p39 (nI n) Q (0 : Int32) (0 : Int32) u := by
  have hk5 := hP.2.2.2.2.2.1
  unfold sX12_chance_p39
  have key := for_up (fun m i (z : Int32 × St) => sX12_chance_p39n (nI n) Q m z.1 i z.2) n (fun i z => z.1 = nI (chV P N s i) ∧ Kp SRy (tL u 198 80 (lN (chS s i))) z.2 ∧ mLa z.2 (chN P N s i)) ?_ 0 (0, u) (by omega) ⟨rfl, by rw [show chS s 0 = s from rfl, tL_id hsu]; exact kp_r u, hL⟩
  · exact key
  rintro m i ⟨v2, z⟩ hi ⟨e2, c1, c4⟩ hnext
  simp only at e2 c1 c4
  subst e2
  show sX12_chance_p39b (nI n) Q (sX12_chance_p39n (nI n) Q m) (nI (chV P N s i)) (nI i) z
  unfold sX12_chance_p39b
  by_cases hie : i = n
  · rw [hie] at c1 c4 ⊢
    exact i_pos (nI_le (Nat.le_refl _) (by omega)) (hQ z c1 c4)
  refine i_neg (nI_ge (by omega) (by omega)) ?_
  have hMz : mPl z P := mPl_K (mPl_tL (a := 198) (k := 80) (x := lN (chS s i)) hM (by omega)) c1 (fun x j h => by unfold SRy; omega)
  refine r_callerMany hMz ?_
  have esd : z.2.1 198 80 = lN (chS s i) := by
    rw [c1.2.1 198 (by omega), tL_ss]
  have hsl := chS_lt hs i
  unfold s_X12_drawOf
  refine bnd_i ?_
  rw [esd, sd_r hsl]
  have hd : chS s (i + 1) = sd (chS s i) := rfl
  rw [← hd, tL_ss]
  refine ⟨?_, ?_⟩
  · rw [nI_l (by omega), lN_lI (by omega), l_0]
    first | rw [ite_e (lI_eq (by omega) (by omega) (by omega) (by omega))] | rw [lI_eq (by omega) (by omega) (by omega) (by omega)]
    try (with_reducible rfl)
    omega
  rw [sd_k (chS_lt hs (i + 1)) hk (by omega)]
  have hkk : chK P s i < pk P := Nat.mod_lt _ hk
  obtain ⟨d1, d2⟩ := hV i (by omega)
  show s_X12_yearGoes (nI (chK P s i)) _ _
  have k1 : Kp SRy (tL u 198 80 (lN (chS s (i + 1)))) (tL z 198 80 (lN (chS s (i + 1)))) := by
    have := kp_tL (a := 198) (k := 80) (x := lN (chS s (i + 1))) c1 (by omega)
    rw [tL_tL] at this
    exact this
  refine r_year (u := tL z 198 80 (lN (chS s (i + 1)))) hP d1 hkk (mPl_tL hMz (by omega)) c4 (by rw [d2]; omega) (fun u' k2 l2 => ?_)
  rw [nI_add, nI_1]
  exact hnext (by omega) (nI (chV P N s (i + 1)), u') ⟨rfl, kp_t k1 k2, l2⟩
theorem call_chance (v1 : Int32) : Call (s_X11_chance v1) (s_X12_chance v1) := by
  rintro u ⟨P, N, hC⟩
  have hC : Ctx u P N := hC
  have hP := ctx_vp hC
  have hN := ctx_vn hC
  have hk5 := hP.2.2.2.2.2.1
  have hn0 := hN.1
  have hrf : ∀ u1, Ctx u1 P N → (¬ ∃ x, 1 ≤ x ∧ x ≤ 100 ∧ v1 = nI x ∧ N 0 + x ≤ 999) ∨ pk P = 0 ∨ N (2 + 3 * ps P) = 1 → sX11_chance_p38 (fun r u1 => s_X12_chance v1 (fun r2 u2 => r = r2 ∧ Inv u2) u1) u1 := by
    intro u1 hC1 hor
    have c177 := ctx_177 (k := 2) (x := u1.1 177 2 + 1) hC1
    have hb : sX12_chance_p25 (fun r2 u2 => (-1 : Int32) = r2 ∧ Inv u2) (tI u1 177 2 (u1.1 177 2 + 1)) := by
      unfold sX12_chance_p25
      exact inv_ref3 (inv_of hC1) (k := 2) (by omega) (fun u' h => ⟨rfl, h⟩)
    unfold sX11_chance_p38
    refine q_refuse (k := 2) (by omega) ?_
    unfold s_X12_chance
    by_cases h0 : pc P = 0
    · unfold s_X12_isAhead
      dsimp only
      rw [c177.2.2.1.1.1]
      exact i_pos (by rw [if_pos h0]) (i_pos rfl hb)
    refine r_ahead (n := 100) c177.2.2.1 c177.2.2.2 (by omega) h0 hn0 (fun x hx1 hx2 ex h9 => ?_) (fun _ => i_pos rfl hb)
    refine i_neg (by first | decide | (unfold vp_in; decide)) ?_
    refine r_callerMany c177.2.2.1 ?_
    by_cases hk0 : pk P = 0
    · exact i_pos (by rw [hk0]; rfl) hb
    refine i_neg (nI_ne0 (by omega) (by omega)) ?_
    refine r_hasWay hP hN c177.2.2.1 c177.2.2.2 (fun _ hs => ?_) (fun _ => i_pos rfl hb)
    rcases hor with h | h | h
    · exact absurd ⟨x, hx1, hx2, ex, h9⟩ h
    · exact absurd h hk0
    · exact absurd h hs
  unfold s_X11_chance
  by_cases hv1 : v1 < (1 : Int32)
  · refine i_pos hv1 (hrf u hC (Or.inl ?_))
    rintro ⟨x, hx1, hx2, rfl, _⟩
    exact absurd hv1 (nI_nlt (b := 1) (by omega) (by omega))
  refine i_neg hv1 ?_
  by_cases hv2 : (100 : Int32) < v1
  · refine i_pos hv2 (hrf u hC (Or.inl ?_))
    rintro ⟨x, hx1, hx2, rfl, _⟩
    exact absurd hv2 (nI_nlt (a := 100) (by omega) (by omega))
  refine i_neg hv2 ?_
  obtain ⟨x, hx, rfl⟩ : ∃ x : Nat, (1 ≤ x ∧ x ≤ 100) ∧ v1 = nI x := by
    have hb := i32_b v1
    have a1 : 1 ≤ v1.toInt := by
      rw [Int32.lt_iff_toInt_lt, show ((1 : Int32)).toInt = 1 by first | decide | (unfold vp_in; decide)] at hv1
      omega
    have a2 : v1.toInt ≤ 100 := by
      rw [Int32.lt_iff_toInt_lt, show ((100 : Int32)).toInt = 100 by first | decide | (unfold vp_in; decide)] at hv2
      omega
    exact ⟨v1.toInt.toNat, by omega, by rw [nI_iI (by omega)]; apply iI_of; omega⟩
  refine q_wayOf hC (fun k u1 hk e hC1 hW k1 => ?_) (fun hno => ?_)
  · have h0 := pk_pc hP hk
    have hz := w_zero hW.1
    rw [hW.2.1]
    by_cases hst : N (2 + 3 * ps P) = 1
    · exact i_pos (by rw [if_pos (hz.mpr hst)]) (hrf u1 hC1 (Or.inr (Or.inr hst)))
    have hm : wm P N k ≠ 0 := fun e => hst (hz.mp e)
    have h36 := (w_cel hP h0 hW.1).1
    refine i_neg (by rw [if_neg hm, x_ne1 (by omega)]; exact id) ?_
    have hL1 := ctx_l hC1
    rw [hL1.1, nI_add]
    by_cases h9 : 999 < N 0 + x
    · have h9' : ¬ nI (N 0 + x) ≤ nI 999 := nI_ge (by omega) (by omega)
      refine i_neg h9' (hrf u1 hC1 (Or.inl ?_))
      rintro ⟨y, hy1, hy2, ey, hy3⟩
      rw [nI_eq (by omega) (by omega)] at ey
      omega
    have h9' : nI (N 0 + x) ≤ nI 999 := nI_le (by omega) (by omega)
    refine i_pos h9' ?_
    obtain ⟨Y, E, n, o, w, S, ys, g1, g2, g3, g4, g5, g6, g7, g8, g9, g10⟩ := past_of hC1.1.2.2.2.2.2.2.2.2.2.1
    obtain ⟨s, hs, hs1, hs2⟩ := hC1.1.2.2.2.1
    have ht := ctx_t hC1
    refine q_remember hP g5 g6 g8 hL1 g2 (fun u2 o' ho' k2 s2 => ?_)
    have e2 : u2.2.2.1 = u1.2.2.1 := by rw [k2.2.2]
    refine q_chance (s := s) (Y := Y) (E := E) hP hN (by omega) (by rw [e2]; exact ht) (by rw [e2]; exact cPl_K (ctx_c hC1) k2 (fun x j a b c d => by omega)) (cLa_K hL1 k2 (fun x j a b c => by omega)) (k_ways hC1.2.1 k2 (fun a j h => by omega)) (fb_K hC1.2.2.2 k2 (fun j => by omega)) hst (by rw [k2.1 42 1 (by omega)]; exact g2) g1 (by omega) hx.2 (fun y hy => by rw [k2.1 54 y (by omega), k2.1 55 y (by omega), k2.1 56 y (by omega)]; exact g3 y hy) g4 hs (by rw [k2.2.1 0 (by omega)]; exact hs1) (fun u3 c3 => ?_)
    obtain ⟨c1, c2, c3, c4, c5, c6, c7, c8, c9⟩ := c3
    rw [e2] at c1
    have k13 : Kp (fun a k => a ≠ 52 ∧ ¬ (57 ≤ a ∧ a ≤ 156) ∧ YSc u1.2.2.1 a k) (tL u1 0 18 (lN (chS s x))) u3 := kp_t (kp_m (kp_tL (a := 0) (k := 18) (x := lN (chS s x)) k2 (by omega)) (fun a k h => ⟨h.1, h.2.1⟩)) (kp_m c1 (fun a k h => h.2.2))
    have hM3 : mPl u3 P := mPl_K (mPl_tL (a := 0) (k := 18) (x := lN (chS s x)) (ctx_m hC1) (by omega)) k13 (fun a k h => by unfold YSc; omega)
    have hL3 : mLa u3 N := mLa_K (u := tL u1 0 18 (lN (chS s x))) (show mLa u1 N from ctx_n hC1) k13 (fun k => by unfold YSc; omega)
    have hS3 : mStk u3 n w S := mStk_K (u := tL u1 0 18 (lN (chS s x))) g9 k13 (fun a k h => by unfold YSc; omega)
    have hsd3 : u3.2.1 198 80 = lN s := by
      rw [k13.2.1 198 (by omega), tL_na _ _ (by omega)]
      exact hs2
    unfold s_X12_chance
    refine r_ahead (n := 100) hM3 hL3 (by omega) h0 hn0 (fun y hy1 hy2 ey h9 => ?_) (fun hn => absurd ⟨x, hx.1, hx.2, rfl, by omega⟩ hn)
    refine i_neg (by first | decide | (unfold vp_in; decide)) ?_
    refine r_callerMany hM3 ?_
    refine i_neg (nI_ne0 (by omega) (by omega)) ?_
    refine r_hasWay hP hN hM3 hL3 (fun _ _ => ?_) (fun h => absurd ⟨h0, hst⟩ h)
    refine i_neg (by first | decide | (unfold vp_in; decide)) ?_
    refine r_keeps g5 g7 hS3 hL3 (fun u4 k4 m4 => ?_)
    have hM4 : mPl u4 P := mPl_K hM3 k4 (fun a k h => by omega)
    have hL4 : mLa u4 N := mLa_K hL3 k4 (fun k => by omega)
    refine r_chance (s := s) hP (by omega) hM4 hL4 (by omega) hx.2 hs (by rw [k4.2.1 198 (by omega)]; exact hsd3) (fun j hj => ⟨(c2 j hj).1, (c2 j hj).2.1⟩) (fun u5 k5 l5 => ⟨rfl, ?_⟩)
    have k4' : Kp (fun a k => ¬ (a = 198 ∧ (k = 78 ∨ k = 79)) ∧ a ≠ 254) (tL u3 198 80 (lN (chS s x))) (tL u4 198 80 (lN (chS s x))) := kp_tL k4 (by omega)
    have k35 : Kp (fun a k => ¬ (a = 198 ∧ (k = 78 ∨ k = 79)) ∧ a ≠ 254 ∧ SRy a k) (tL u3 198 80 (lN (chS s x))) u5 := kp_t (kp_m k4' (fun a k h => ⟨h.1, h.2.1⟩)) (kp_m k5 (fun a k h => h.2.2))
    have k13' : Kp (fun a k => a ≠ 52 ∧ ¬ (57 ≤ a ∧ a ≤ 156) ∧ YSc u1.2.2.1 a k) (tL (tL u1 0 18 (lN (chS s x))) 198 80 (lN (chS s x))) (tL u3 198 80 (lN (chS s x))) := kp_tL k13 (by omega)
    have k15 : Kp (SYa u1.2.2.1) (tL (tL u1 0 18 (lN (chS s x))) 198 80 (lN (chS s x))) u5 := kp_t (kp_m k13' (fun a k h => by unfold SYa at h; unfold YSc; omega)) (kp_m k35 (fun a k h => ⟨h.2.2.2.2.2.2.2.1, h.2.2.2.2.2.2.2.2.1, h.2.2.2.2.2.2.2.2.2⟩))
    have hC5 := ctx_sd hC1 (chS_lt hs x)
    have c6' : cWy u3 := c6 (by omega)
    refine yr_fin (u := tL (tL u1 0 18 (lN (chS s x))) 198 80 (lN (chS s x))) (N' := chN P N s x) (Y' := Y + x) (E' := chE P N s E Y x) hC5 g5 ho' g7 g1 g4 g10 k15 ?_ (mStk_K (u := tL u4 198 80 (lN (chS s x))) m4 k5 (fun a k h => by unfold SRy; omega)) (fun j hj => ?_) (fb_K (u := tL u3 198 80 (lN (chS s x))) c7 k35 (fun j => by unfold SRy; omega)) (c2 x (Nat.le_refl _)).1 (cLa_K (u := tL u3 198 80 (lN (chS s x))) c4 k35 (fun x j a b c => by unfold SRy; omega)) l5 (by omega) (by rw [(c2 x (Nat.le_refl _)).2.1]; omega) (by rw [k35.1 42 1 (by unfold SRy; omega)]; exact c8) (fun y hy => ?_) c3 (fun j y hy => chE_n x hy)
    · have s3 : cStk u3 P (pun n) o' (pus S N n) (pus ys Y n) := cStk_K (u := tL u2 0 18 (lN (chS s x))) s2 c1 (fun a k h => by unfold YSc; omega)
      exact cStk_K (u := tL u3 198 80 (lN (chS s x))) s3 k35 (fun a k h => by unfold SRy; omega)
    · rw [k35.1 _ _ (by unfold SRy; omega)]
      exact ⟨(c6' j hj).1, fb_K (u := tL u3 198 80 (lN (chS s x))) (c6' j hj).2 k35 (fun j => by unfold SRy; omega)⟩
    · rw [k35.1 54 y (by unfold SRy; omega), k35.1 55 y (by unfold SRy; omega), k35.1 56 y (by unfold SRy; omega)]
      exact c9 y hy
  · refine i_pos (no_way hC) (hrf u hC (Or.inr (Or.inl ?_)))
    by_cases hk0 : pk P = 0
    · exact hk0
    · exact absurd ⟨0, by omega, rfl⟩ hno
