/-! ===== lands copied; what can be undone ===== -/
theorem c_n (u : St) {a b x k : Nat} {sp dp n : Int32} (h : x ≠ b) : (tC u a sp b dp n).1 x k = u.1 x k := by
  show (if x = b then _ else u.1 x k) = _
  first | refine i_neg h ?_ | rw [if_neg h]
  try (with_reducible rfl)
theorem c_s (u : St) {a b k m : Nat} (hk : k < m) (hm : m < 1000) : (tC u a 0 b 0 (nI m)).1 b k = u.1 a k := by
  show (if b = b then va_cpy (u.1 a) (u.1 b) ((0 : Int32)).toNatClampNeg ((0 : Int32)).toNatClampNeg (nI m).toNatClampNeg k else u.1 b k) = _
  first | refine i_pos rfl ?_ | rw [if_pos rfl]
  rw [show ((0 : Int32)).toNatClampNeg = 0 by first | decide | (unfold vp_in; decide), nI_clamp (by omega), pk_cpy_in (by omega) (by omega), show 0 + (k - 0) = k by omega]
theorem kp_C {S : Nat → Nat → Prop} {u v : St} {a b : Nat} {sp dp n : Int32} (h : Kp S u v) (hs : ∀ k, ¬ S b k) : Kp S u (tC v a sp b dp n) := ⟨fun x j hx => by
    rw [c_n]
    · exact h.1 x j hx
    · intro e
      rw [e] at hx
      exact hs j hx, h.2⟩
def LSH (a : Nat) : Prop := SH[a + 1]? = some (100, 36) ∧ SH[a + 2]? = some (100, 36) ∧ SH[a + 3]? = some (100, 36) ∧ SH[a + 4]? = some (100, 6)
theorem lsh_42 : LSH 42 := ⟨rfl, rfl, rfl, rfl⟩
theorem lsh_47 : LSH 47 := ⟨rfl, rfl, rfl, rfl⟩
set_option maxHeartbeats 4000000 in
set_option maxRecDepth 100000 in
theorem sh_ol : ∀ i, i < 20 → SH[57 + 5 * i + 1]? = some (100, 36) ∧ SH[57 + 5 * i + 2]? = some (100, 36) ∧ SH[57 + 5 * i + 3]? = some (100, 36) ∧ SH[57 + 5 * i + 4]? = some (100, 6) := by decide +kernel
theorem lsh_ol (o i : Nat) : LSH (ol o i) := sh_ol _ (by omega)
theorem cp_0 {a b m : Nat} (ha : SH[a]? = some (100, m)) (hb : SH[b]? = some (100, m)) (hm : m < 1000) : Cp SH a 0 b 0 (nI m) := by
  refine ⟨m, m, ha, hb, by first | decide | (unfold vp_in; decide), by first | decide | (unfold vp_in; decide), nI_pos (by omega), ?_, ?_⟩
  · rw [nI_clamp (by omega), show ((0 : Int32)).toNatClampNeg = 0 by first | decide | (unfold vp_in; decide)]
    omega
  · rw [nI_clamp (by omega), show ((0 : Int32)).toNatClampNeg = 0 by first | decide | (unfold vp_in; decide)]
    omega
theorem q_copy {P : Pl} {N : Nat → Nat} {a b Y : Nat} {Q : St → Prop} {u : St} (hP : VP P) (sa : LSH a) (sb : LSH b) (hab : a + 4 < b ∨ b + 4 < a) (hL : cLa u b P N) (hy : u.1 b 1 = nI Y) (hQ : ∀ u', Kp (fun x _ => ¬ (a ≤ x ∧ x ≤ a + 4)) u u' → cLa u' a P N → u'.1 a 1 = nI Y → Q u') : s_X1_copy a b Q u := by
  unfold s_X1_copy
  simp only [bnd]
  refine ⟨cp_0 (m := 36) sb.1 sa.1 (by omega), cp_0 (m := 36) sb.2.1 sa.2.1 (by omega), cp_0 (m := 36) sb.2.2.1 sa.2.2.1 (by omega), cp_0 (m := 6) sb.2.2.2 sa.2.2.2 (by omega), ?_⟩
  refine hQ _ (kp_C (kp_C (kp_C (kp_C (kp_I (kp_I (kp_r u) (by omega)) (by omega)) (fun k => by omega)) (fun k => by omega)) (fun k => by omega)) (fun k => by omega)) ⟨?_, fun c hc => ⟨?_, ?_, ?_⟩, fun f hf => ?_, fun p hp hpa => ?_⟩ ?_
  · rw [c_n _ (by omega), c_n _ (by omega), c_n _ (by omega), c_n _ (by omega), t_n _ _ (by omega), t_s]
    exact hL.1
  · have h36 := pl_36 hP hc
    rw [c_n _ (by omega), c_n _ (by omega), c_n _ (by omega)]
    have e := c_s (tI (tI u a 0 (u.1 b 0)) a 1 ((tI u a 0 (u.1 b 0)).1 b 1)) (a := b + 1) (b := a + 1) h36 (by omega)
    refine e.trans ?_
    rw [t_n _ _ (by omega), t_n _ _ (by omega)]
    exact (hL.2.1 c hc).1
  · have h36 := pl_36 hP hc
    rw [c_n _ (by omega), c_n _ (by omega)]
    refine (c_s _ (a := b + 2) (b := a + 2) h36 (by omega)).trans ?_
    rw [c_n _ (by omega), t_n _ _ (by omega), t_n _ _ (by omega)]
    exact (hL.2.1 c hc).2.1
  · have h36 := pl_36 hP hc
    rw [c_n _ (by omega)]
    refine (c_s _ (a := b + 3) (b := a + 3) h36 (by omega)).trans ?_
    rw [c_n _ (by omega), c_n _ (by omega), t_n _ _ (by omega), t_n _ _ (by omega)]
    exact (hL.2.1 c hc).2.2
  · refine (c_s _ (a := b + 4) (b := a + 4) hf (by omega)).trans ?_
    rw [c_n _ (by omega), c_n _ (by omega), c_n _ (by omega), t_n _ _ (by omega), t_n _ _ (by omega)]
    exact hL.2.2.1 f hf
  · rw [c_n _ (by omega), c_n _ (by omega)]
    refine (c_s _ (a := b + 2) (b := a + 2) hp (by omega)).trans ?_
    rw [c_n _ (by omega), t_n _ _ (by omega), t_n _ _ (by omega)]
    exact hL.2.2.2 p hp hpa
  · rw [c_n _ (by omega), c_n _ (by omega), c_n _ (by omega), c_n _ (by omega), t_s, t_n _ _ (by omega)]
    exact hy
/-- one more on top of those that can be undone, twenty at most -/
def pus {α : Type} (S : Nat → α) (x : α) (n : Nat) : Nat → α := fun i => if n = 20 then (if i < 19 then S (i + 1) else x) else (if i < n then S i else x)
def pun (n : Nat) : Nat := if n = 20 then 20 else n + 1
theorem pun_le {n : Nat} (h : n ≤ 20) : 1 ≤ pun n ∧ pun n ≤ 20 := by
  unfold pun
  split <;> omega
/-- what holds of each on the stack of the class -/
def cStk (u : St) (P : Pl) (n o : Nat) (S : Nat → Nat → Nat) (ys : Nat → Nat) : Prop := u.1 52 0 = nI n ∧ u.1 52 1 = nI o ∧ ∀ i, i < n → cLa u (ol o i) P (S i) ∧ u.1 (ol o i) 1 = nI (ys i)
def mStk (u : St) (n w : Nat) (S : Nat → Nat → Nat) : Prop := u.1 198 78 = nI n ∧ u.1 198 79 = nI w ∧ ∀ i, i < n → ∀ k, k < 236 → u.1 254 (236 * ((w + 20 - (n - 1 - i)) % 20) + k) = nI (S i k)
theorem q_remember {P : Pl} {N : Nat → Nat} {n o Y : Nat} {S : Nat → Nat → Nat} {ys : Nat → Nat} {Q : St → Prop} {u : St} (hP : VP P) (hn : n ≤ 20) (ho : o < 20) (hS : cStk u P n o S ys) (hL : cLa u 42 P N) (hY : u.1 42 1 = nI Y)
    (hQ : ∀ u' o', o' < 20 → Kp (fun a _ => a ≠ 52 ∧ ¬ (57 ≤ a ∧ a ≤ 156)) u u' → cStk u' P (pun n) o' (pus S N n) (pus ys Y n) → Q u') : s_X3_remember 42 Q u := by
  have push : ∀ (w : St) (n1 o1 : Nat) (S1 : Nat → Nat → Nat) (y1 : Nat → Nat), n1 < 20 → o1 < 20 → w.1 52 0 = nI n1 → w.1 52 1 = nI o1 → (∀ i, i < n1 → cLa w (ol o1 i) P (S1 i) ∧ w.1 (ol o1 i) 1 = nI (y1 i)) → Kp (fun a _ => a ≠ 52 ∧ ¬ (57 ≤ a ∧ a ≤ 156)) u w → (∀ u', Kp (fun a _ => a ≠ 52 ∧ ¬ (57 ≤ a ∧ a ≤ 156)) u u' → u'.1 52 0 = nI (n1 + 1) → u'.1 52 1 = nI o1 → (∀ i, i < n1 → cLa u' (ol o1 i) P (S1 i) ∧ u'.1 (ol o1 i) 1 = nI (y1 i)) → cLa u' (ol o1 n1) P N → u'.1 (ol o1 n1) 1 = nI Y → Q u') → sX3_remember_p32 42 Q w := by
    intro w n1 o1 S1 y1 hn1 ho1 w0 w1 wS hK hq
    unfold sX3_remember_p32
    have e1 : w.1 52 1 + w.1 52 0 = nI (o1 + n1) := by rw [w0, w1, nI_add]
    have e2 : nI (o1 + n1) - nI (o1 + n1) / 20 * 20 = nI ((o1 + n1) % 20) := pk_rem (d := 20) (by omega) (by omega) (by omega)
    rw [e1, e2, nI_clamp (by omega)]
    refine ⟨vp_in_nI (by omega) (by omega), ?_⟩
    have hr := ol_rng o1 n1
    refine q_copy (P := P) (N := N) (a := ol o1 n1) (b := 42) hP (lsh_ol o1 n1) lsh_42 (by omega) (cLa_K hL hK (fun x k a b c => by omega)) (by rw [hK.1 42 1 (by omega)]; exact hY) (fun x kx lx yx => ?_)
    show Q (tI x 52 0 (x.1 52 0 + 1))
    rw [kx.1 52 0 (by omega), w0, nI_1]
    have hne : ∀ i, i < n1 → ol o1 i + 4 < ol o1 n1 ∨ ol o1 n1 + 4 < ol o1 i := by
      intro i hi
      unfold ol
      omega
    refine hq _ (kp_I (kp_t hK (kp_m kx (fun a k h => by omega))) (by omega)) (t_s _ _ _ _) ?_ (fun i hi => ?_) ?_ ?_
    · rw [t_n _ _ (by omega), kx.1 52 1 (by omega)]
      exact w1
    · have hri := ol_rng o1 i
      have hni := hne i hi
      obtain ⟨a1, a2⟩ := wS i hi
      have hKx : Kp (fun a _ => ¬ (ol o1 n1 ≤ a ∧ a ≤ ol o1 n1 + 4) ∧ a ≠ 52) w (tI x 52 0 (nI (n1 + 1))) := kp_I (kp_m kx (fun a k h => h.1)) (by omega)
      refine ⟨cLa_K a1 hKx (fun x k a b c => by omega), ?_⟩
      rw [hKx.1 (ol o1 i) 1 (by omega)]
      exact a2
    · have hKx : Kp (fun a _ => a ≠ 52) x (tI x 52 0 (nI (n1 + 1))) := kp_I (kp_r x) (by omega)
      exact cLa_K lx hKx (fun y k a b c => by omega)
    · rw [t_n _ _ (by omega)]
      exact yx
  unfold s_X3_remember
  rw [hS.1]
  by_cases h20 : n = 20
  · first | refine i_pos (by rw [h20]; rfl) ?_ | rw [if_pos (by rw [h20]; rfl)]
    try (with_reducible rfl)
    simp only [bnd]
    have e1 : u.1 52 1 + 1 = nI (o + 1) := by rw [hS.2.1, nI_1]
    have e2 : nI (o + 1) - nI (o + 1) / 20 * 20 = nI ((o + 1) % 20) := pk_rem (d := 20) (by omega) (by omega) (by omega)
    rw [e1, e2, t_n _ _ (by omega), hS.1, show nI n - 1 = nI 19 by rw [h20]; exact pk_sub (a := 20) (b := 1) (by omega)]
    refine push _ 19 ((o + 1) % 20) (fun i => S (i + 1)) (fun i => ys (i + 1)) (by omega) (by omega) (t_s _ _ _ _) (by rw [t_n _ _ (by omega), t_s]) (fun i hi => ?_) (kp_I (kp_I (kp_r u) (by omega)) (by omega)) (fun u' k1 a1 a2 a3 a4 a5 => ?_)
    · have he : ol ((o + 1) % 20) i = ol o (i + 1) := by
        unfold ol
        omega
      have hr := ol_rng o (i + 1)
      obtain ⟨b1, b2⟩ := hS.2.2 (i + 1) (by omega)
      have hKx : Kp (fun a _ => a ≠ 52) u (tI (tI u 52 1 (nI ((o + 1) % 20))) 52 0 (nI 19)) := kp_I (kp_I (kp_r u) (by omega)) (by omega)
      rw [he]
      refine ⟨cLa_K b1 hKx (fun x k a b c => by omega), ?_⟩
      rw [hKx.1 (ol o (i + 1)) 1 (by omega)]
      exact b2
    · refine hQ u' ((o + 1) % 20) (by omega) k1 ⟨?_, a2, fun i hi => ?_⟩
      · unfold pun
        first | refine i_pos h20 ?_ | rw [if_pos h20]
        try (with_reducible rfl)
        exact a1
      · unfold pun at hi
        rw [if_pos h20] at hi
        unfold pus
        simp only [if_pos h20]
        by_cases hi19 : i < 19
        · simp only [if_pos hi19]
          exact a3 i hi19
        · simp only [if_neg hi19]
          rw [show i = 19 by omega]
          exact ⟨a4, a5⟩
  · first | refine i_neg (x_ne (k := 20) (by omega) (by omega) h20) ?_ | rw [if_neg (x_ne (k := 20) (by omega) (by omega) h20)]
    try (with_reducible rfl)
    refine push u n o S ys (by omega) ho hS.1 hS.2.1 hS.2.2 (kp_r u) (fun u' k1 a1 a2 a3 a4 a5 => ?_)
    refine hQ u' o ho k1 ⟨?_, a2, fun i hi => ?_⟩
    · unfold pun
      first | refine i_neg h20 ?_ | rw [if_neg h20]
      try (with_reducible rfl)
      exact a1
    · unfold pun at hi
      rw [if_neg h20] at hi
      unfold pus
      simp only [if_neg h20]
      by_cases hin : i < n
      · simp only [if_pos hin]
        exact a3 i hin
      · simp only [if_neg hin]
        rw [show i = n by omega]
        exact ⟨a4, a5⟩
theorem r_keeps {N : Nat → Nat} {n w : Nat} {S : Nat → Nat → Nat} {Q : St → Prop} {u : St} (hn : n ≤ 20) (hw : w < 20) (hS : mStk u n w S) (hL : mLa u N)
    (hQ : ∀ u', Kp (fun a k => ¬ (a = 198 ∧ (k = 78 ∨ k = 79)) ∧ a ≠ 254) u u' → mStk u' (pun n) ((w + 1) % 20) (pus S N n) → Q u') : s_X12_keeps Q u := by
  unfold s_X12_keeps
  simp only [bnd]
  have e1 : u.1 198 79 + 1 = nI (w + 1) := by rw [hS.2.1, nI_1]
  have e2 : nI (w + 1) - nI (w + 1) / 20 * 20 = nI ((w + 1) % 20) := pk_rem (d := 20) (by omega) (by omega) (by omega)
  rw [e1, e2]
  unfold sX12_keeps_p15
  have hw' : (w + 1) % 20 < 20 := by omega
  refine for_up (fun m i s => sX12_keeps_p15n Q m i s) 236 (fun i s => Kp (fun a k => ¬ (a = 198 ∧ (k = 78 ∨ k = 79)) ∧ a ≠ 254) u s ∧ s.1 198 79 = nI ((w + 1) % 20) ∧ s.1 198 78 = nI n ∧ (∀ k, k < i → s.1 254 (236 * ((w + 1) % 20) + k) = nI (N k)) ∧ (∀ x, (x < 236 * ((w + 1) % 20) ∨ 236 * ((w + 1) % 20) + 236 ≤ x) → s.1 254 x = u.1 254 x)) ?_ 0 _ (by omega) ⟨kp_I (kp_r u) (by omega), t_s _ _ _ _, by rw [t_n _ _ (by omega)]; exact hS.1, fun k hk => absurd hk (by omega), fun x _ => t_n _ _ (by omega)⟩
  rintro m i s hi ⟨hK, s79, s78, sn, so⟩ hnext
  show sX12_keeps_p15b Q (sX12_keeps_p15n Q m) (nI i) s
  unfold sX12_keeps_p15b
  by_cases h236 : i = 236
  · subst h236
    first | refine i_pos (nI_le (a := 236) (Nat.le_refl _) (by omega)) ?_ | rw [if_pos (nI_le (a := 236) (Nat.le_refl _) (by omega))]
    rw [s78]
    have hfin : ∀ z : St, Kp (fun a k => ¬ (a = 198 ∧ (k = 78 ∨ k = 79)) ∧ a ≠ 254) u z → z.1 198 78 = nI (pun n) → z.1 198 79 = nI ((w + 1) % 20) → z.1 254 = s.1 254 → Q z := by
      intro z hz z78 z79 z254
      refine hQ z hz ⟨z78, z79, fun i hi k hk => ?_⟩
      rw [z254]
      unfold pun at hi ⊢
      unfold pus
      by_cases h20 : n = 20
      · simp only [if_pos h20] at hi ⊢
        by_cases hi19 : i < 19
        · simp only [if_pos hi19]
          have ei : ((w + 1) % 20 + 20 - (20 - 1 - i)) % 20 = (w + 20 - (20 - 1 - (i + 1))) % 20 := by omega
          have ej : (w + 20 - (20 - 1 - (i + 1))) % 20 ≠ (w + 1) % 20 := by omega
          rw [ei, so _ (by omega)]
          have := hS.2.2 (i + 1) (by omega) k hk
          rw [h20] at this
          exact this
        · simp only [if_neg hi19]
          have ei : ((w + 1) % 20 + 20 - (20 - 1 - i)) % 20 = (w + 1) % 20 := by omega
          rw [ei]
          exact sn k hk
      · simp only [if_neg h20] at hi ⊢
        by_cases hin : i < n
        · simp only [if_pos hin]
          have ei : ((w + 1) % 20 + 20 - (n + 1 - 1 - i)) % 20 = (w + 20 - (n - 1 - i)) % 20 := by omega
          have ej : (w + 20 - (n - 1 - i)) % 20 ≠ (w + 1) % 20 := by omega
          rw [ei, so _ (by omega)]
          exact hS.2.2 i hin k hk
        · simp only [if_neg hin]
          have ei : ((w + 1) % 20 + 20 - (n + 1 - 1 - i)) % 20 = (w + 1) % 20 := by omega
          rw [ei]
          exact sn k hk
    by_cases h20 : n = 20
    · first | refine i_pos (by rw [h20]; exact nI_le (a := 20) (Nat.le_refl _) (by omega)) ?_ | rw [if_pos (by rw [h20]; exact nI_le (a := 20) (Nat.le_refl _) (by omega))]
      try (with_reducible rfl)
      refine hfin s hK ?_ s79 rfl
      unfold pun
      first | refine i_pos h20 ?_ | rw [if_pos h20]
      rw [s78, h20]
    · first | refine i_neg (nI_ge (b := 20) (by omega) (by omega)) ?_ | rw [if_neg (nI_ge (b := 20) (by omega) (by omega))]
      try (with_reducible rfl)
      simp only [bnd]
      rw [nI_1]
      refine hfin _ (kp_I hK (by omega)) ?_ (by rw [t_n _ _ (by omega)]; exact s79) ?_
      · rw [t_s]
        unfold pun
        first | refine i_neg h20 ?_ | rw [if_neg h20]
        try (with_reducible rfl)
      · funext x
        exact t_n _ _ (by omega)
  · first | refine i_neg (nI_ge (b := 236) (by omega) (by omega)) ?_ | rw [if_neg (nI_ge (b := 236) (by omega) (by omega))]
    rw [s79]
    have e3 : (236 : Int32) * nI ((w + 1) % 20) = nI (236 * ((w + 1) % 20)) := pk_mul 236 _
    rw [e3, nI_add, nI_clamp (by omega), nI_clamp (by omega)]
    refine ⟨vp_in_nI (by omega) (by omega), vp_in_nI (by omega) (by omega), ?_⟩
    show sX12_keeps_p15n Q m (nI i + 1) (tI s 254 (236 * ((w + 1) % 20) + i) (s.1 241 i))
    rw [nI_1, hK.1 241 i (by omega), hL i (by omega)]
    refine hnext (by omega) _ ⟨kp_I hK (by omega), by rw [t_n _ _ (by omega)]; exact s79, by rw [t_n _ _ (by omega)]; exact s78, fun k hk => ?_, fun x hx => ?_⟩
    · by_cases e : k = i
      · rw [e, t_s]
      · rw [t_n _ _ (by omega)]
        exact sn k (by omega)
    · rw [t_n _ _ (by omega)]
      exact so x hx
theorem q_forget {Q : St → Prop} {u : St} (hQ : ∀ u', Kp (fun a k => ¬ (178 ≤ a ∧ a ≤ 194 ∧ (a - 178) % 4 = 0 ∧ k = 5)) u u' → (∀ k, k < 5 → u'.1 (178 + 4 * k) 5 = 0) → Q u') : s_X11_forgetWays Q u := by
  unfold s_X11_forgetWays sX11_forgetWays_p2
  refine for_up (fun m i s => sX11_forgetWays_p2n Q m i s) 5 (fun i s => Kp (fun a k => ¬ (178 ≤ a ∧ a ≤ 194 ∧ (a - 178) % 4 = 0 ∧ k = 5)) u s ∧ ∀ k, k < i → s.1 (178 + 4 * k) 5 = 0) ?_ 0 u (by omega) ⟨kp_r u, fun k hk => absurd hk (by omega)⟩
  rintro m i s hi ⟨hK, h0⟩ hnext
  show sX11_forgetWays_p2b Q (sX11_forgetWays_p2n Q m) (nI i) s
  unfold sX11_forgetWays_p2b
  by_cases h5 : i = 5
  · subst h5
    first | refine i_pos (nI_le (a := 5) (Nat.le_refl _) (by omega)) ?_ | rw [if_pos (nI_le (a := 5) (Nat.le_refl _) (by omega))]
    try (with_reducible rfl)
    exact hQ s hK h0
  · first | refine i_neg (nI_ge (b := 5) (by omega) (by omega)) ?_ | rw [if_neg (nI_ge (b := 5) (by omega) (by omega))]
    try (with_reducible rfl)
    refine ⟨vp_in_nI (by omega) (by omega), ?_⟩
    show sX11_forgetWays_p2n Q m (nI i + 1) (tI s (178 + 4 * (nI i).toNatClampNeg) 5 0)
    rw [nI_1, nI_clamp (by omega)]
    refine hnext (by omega) _ ⟨kp_I hK (by omega), fun k hk => ?_⟩
    by_cases e : k = i
    · rw [e, t_s]
    · rw [t_n _ _ (by omega)]
      exact h0 k (by omega)
