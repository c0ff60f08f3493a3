/-! the sets of bakers at rest -/
def msk (P : Pl) (N : Nat → Nat) (v : Nat) : Nat → Nat := fun k => if (109 ≤ k ∧ k < 109 + pf P) ∧ ¬ v.testBit (k - 109) = true then 0 else N k
theorem msk_o {P : Pl} {N : Nat → Nat} {v k : Nat} (h : ¬ (109 ≤ k ∧ k < 109 + pf P)) : msk P N v k = N k := by
  unfold msk
  first | refine i_neg (fun g => h g.1) ?_ | rw [if_neg (fun g => h g.1)]
  try (with_reducible rfl)
theorem msk_y {P : Pl} {N : Nat → Nat} {v f : Nat} (h : v.testBit f = true) : msk P N v (109 + f) = N (109 + f) := by
  unfold msk
  first | refine i_neg (fun g => g.2 (by rw [show 109 + f - 109 = f by omega]; exact h)) ?_ | rw [if_neg (fun g => g.2 (by rw [show 109 + f - 109 = f by omega]; exact h))]
  try (with_reducible rfl)
theorem msk_n {P : Pl} {N : Nat → Nat} {v f : Nat} (hf : f < pf P) (h : ¬ v.testBit f = true) : msk P N v (109 + f) = 0 := by
  unfold msk
  first | refine i_pos ⟨by omega, by rw [show 109 + f - 109 = f by omega]; exact h⟩ ?_ | rw [if_pos ⟨by omega, by rw [show 109 + f - 109 = f by omega]; exact h⟩]
  try (with_reducible rfl)
theorem msk_le (P : Pl) (N : Nat → Nat) (v k : Nat) : msk P N v k ≤ N k := by
  unfold msk
  by_cases h : (109 ≤ k ∧ k < 109 + pf P) ∧ ¬ v.testBit (k - 109) = true
  · first | refine i_pos h ?_ | rw [if_pos h]
    try (with_reducible rfl)
    omega
  · first | refine i_neg h ?_ | rw [if_neg h]
    try (with_reducible rfl)
    omega
theorem msk_vn {P : Pl} {N : Nat → Nat} (hP : VP P) (hN : VN P N) (v : Nat) : VN P (msk P N v) := by
  have hpf := hP.2.2.2.2.1
  refine ⟨?_, fun c hc => ?_, fun c hc h => ?_, fun g hg => ?_, fun g hg hg6 => ?_, ?_, fun k hk => ?_⟩
  · exact Nat.le_trans (msk_le P N v 0) hN.1
  · have := hN.2.1 c hc
    exact ⟨Nat.le_trans (msk_le P N v _) this.1, Nat.le_trans (msk_le P N v _) this.2.1, Nat.le_trans (msk_le P N v _) this.2.2⟩
  · have := hN.2.2.1 c hc h
    have h2 := msk_le P N v (2 + 3 * c)
    omega
  · exact Nat.le_trans (msk_le P N v _) (hN.2.2.2.1 g hg)
  · have := hN.2.2.2.2.1 g hg hg6
    have h2 := msk_le P N v (109 + g)
    omega
  · exact Nat.le_trans (msk_le P N v _) hN.2.2.2.2.2.1
  · exact Nat.le_trans (msk_le P N v _) (hN.2.2.2.2.2.2 k hk)
theorem q_pieIn {P : Pl} {N : Nat → Nat} {v f : Nat} {Q : Int32 → St → Prop} {u : St} (hv : v < 64) (hf : f < 6) (hfp : f < pf P) (hL : u.1 46 f = nI (N (109 + f))) (hQ : Q (nI (msk P N v (109 + f))) u) : s_X11_pieIn (nI v) (nI f) Q u := by
  unfold s_X11_pieIn
  by_cases h : v.testBit f = true
  · refine i_pos (by rw [bit_rd v hv f hf]; exact h) ⟨vp_in_nI (by omega) (by omega), ?_⟩
    rw [clamp6 hf, hL]
    rw [msk_y h] at hQ
    exact hQ
  · refine i_neg (by rw [bit_rd v hv f hf]; exact h) ?_
    rw [msk_n hfp h] at hQ
    exact hQ
/-- a trial land, its pies being laid for the set v -/
def Trl (P : Pl) (N : Nat → Nat) (v j : Nat) (s : St) : Prop := ∃ N', cLa s 47 P N' ∧ (∀ k, ¬ (109 ≤ k ∧ k < 109 + pf P) → N' k = N k) ∧ ∀ g, g < j → N' (109 + g) = msk P N v (109 + g)
theorem trl_f {P : Pl} {N : Nat → Nat} {v : Nat} {s : St} (h : Trl P N v (pf P) s) : cLa s 47 P (msk P N v) := by
  obtain ⟨N', a, b, c⟩ := h
  have e : N' = msk P N v := by
    funext k
    by_cases hk : 109 ≤ k ∧ k < 109 + pf P
    · have := c (k - 109) (by omega)
      rw [show 109 + (k - 109) = k by omega] at this
      exact this
    · rw [b k hk, msk_o hk]
  rw [← e]
  exact a
theorem trl_s {P : Pl} {N : Nat → Nat} {v j : Nat} {s : St} (hP : VP P) (h : Trl P N v j s) (hj : j < pf P) : Trl P N v (j + 1) (tI s 51 j (nI (msk P N v (109 + j)))) := by
  have hpf := hP.2.2.2.2.1
  obtain ⟨N', a, b, c⟩ := h
  refine ⟨_, cLa_pie hP a (by omega), fun k hk => ?_, fun g hg => ?_⟩
  · rw [upN_n _ (by omega)]
    exact b k hk
  · by_cases e : g = j
    · rw [e, upN_s]
    · rw [upN_n _ (by omega)]
      exact c g (by omega)
def SBs (t a k : Nat) : Prop := SB t a k ∧ a ≠ 174
def WbS (P : Pl) (N : Nat → Nat) (k n : Nat) (s : St) : Prop := ∀ v, v < n → s.1 174 v = nI (wb P (wp P (msk P N v) k) (wm P (msk P N v) k)) ∧ IsWay P (msk P N v) k (wp P (msk P N v) k) (wm P (msk P N v) k)
theorem q_set {P : Pl} {N : Nat → Nat} {k v : Nat} {Q : St → Prop} {K : Int32 → St → Prop} {u s : St} (hC : Ctx u P N) (hk : k < pk P) (hv : v < 64) (hK : Kp (SBs u.2.2.1) u s) (hB : FB s 168) (hT0 : Trl P N v 0 s) (hW : WbS P N k v s)
    (hnext : ∀ s', Kp (SBs u.2.2.1) u s' → FB s' 168 → Trl P N (v + 1) 0 s' → WbS P N k (v + 1) s' → K (nI (v + 1)) s') : sX11_waterBySets_p28 (nI k) (nI v) Q K (0 : Int32) s := by
  have hP := ctx_vp hC
  have hN := ctx_vn hC
  have hpf := hP.2.2.2.2.1
  have ht := ctx_t hC
  have h0 := pk_pc hP hk
  have hT := ctx_c hC
  have hL := ctx_l hC
  unfold sX11_waterBySets_p28
  refine for_up (fun m i s => sX11_waterBySets_p28n (nI k) (nI v) Q K m i s) (pf P) (fun j s => Kp (SBs u.2.2.1) u s ∧ FB s 168 ∧ Trl P N v j s ∧ WbS P N k v s) ?_ 0 s (by omega) ⟨hK, hB, hT0, hW⟩
  rintro m j s1 hj ⟨hK1, hB1, hT1, hW1⟩ hnext1
  show sX11_waterBySets_p28b (nI k) (nI v) Q K (sX11_waterBySets_p28n (nI k) (nI v) Q K m) (nI j) s1
  unfold sX11_waterBySets_p28b
  rw [hK1.2.2, hK1.1 u.2.2.1 3 (by unfold SBs SB; omega), hT.1.2.2.2.1]
  by_cases hje : j = pf P
  · rw [hje] at hT1 ⊢
    refine i_pos (nI_le (Nat.le_refl _) (by omega)) ?_
    refine q_tried hP (msk_vn hP hN v) h0 hk ht (cPl_K hT hK1 (fun a k h1 h2 h3 h4 => by unfold SBs SB; omega)) (trl_f hT1) hB1 (fun u3 k3 b3 w3 e3 => ?_)
    rw [nI_1, nI_clamp (by omega), e3]
    refine ⟨vp_in_nI (by omega) (by omega), bnd_i ?_⟩
    have k4 : Kp (fun a _ => a ≠ 174) u3 (tI u3 174 v (nI (wb P (wp P (msk P N v) k) (wm P (msk P N v) k)))) := kp_I (kp_r u3) (by omega)
    refine hnext _ (kp_t hK1 (kp_t (kp_m k3 (fun a k h => by unfold SBs SB at h; omega)) (kp_m k4 (fun a k h => by unfold SBs at h; omega)))) (fb_K b3 k4 (fun j => by omega)) ⟨msk P N v, cLa_K (cLa_K (trl_f hT1) k3 (fun a k h1 h2 h3 => by omega)) k4 (fun a k h1 h2 h3 => by omega), fun k hk => msk_o hk, fun g hg => absurd hg (by omega)⟩ (fun x hx => ?_)
    by_cases e : x = v
    · rw [e, t_s]
      exact ⟨rfl, w3⟩
    · rw [t_n _ _ (by omega), k3.1 174 x (by omega)]
      exact hW1 x (by omega)
  · refine i_neg (nI_ge (by omega) (by omega)) ?_
    refine q_pieIn (P := P) (N := N) hv (by omega) (by omega) (by rw [hK1.1 46 j (by unfold SBs SB; omega)]; exact hL.2.2.1 j (by omega)) ?_
    rw [nI_1, clamp6 (by omega)]
    refine ⟨vp_in_nI (by omega) (by omega), bnd_i ?_⟩
    have k4 : Kp (fun a _ => a ≠ 51) s1 (tI s1 51 j (nI (msk P N v (109 + j)))) := kp_I (kp_r s1) (by omega)
    refine hnext1 (by omega) _ ⟨kp_t hK1 (kp_m k4 (fun a k h => by unfold SBs SB at h; omega)), fb_K hB1 k4 (fun j => by omega), trl_s hP hT1 (by omega), fun x hx => ?_⟩
    rw [k4.1 174 x (by omega)]
    exact hW1 x hx
theorem pow6 {n : Nat} (h : n ≤ 6) : 2 ^ n ≤ 64 := Nat.pow_le_pow_right (n := 2) (by omega) h
theorem q_wbs {P : Pl} {N : Nat → Nat} {k : Nat} {Q : St → Prop} {u : St} (hC : Ctx u P N) (hk : k < pk P) (hQ : ∀ u', Kp (SBs u.2.2.1) u u' → FB u' 168 → WbS P N k (2 ^ pf P) u' → Q u') : s_X11_waterBySets (nI k) Q u := by
  have hP := ctx_vp hC
  have hpf := hP.2.2.2.2.1
  have ht := ctx_t hC
  have hT := ctx_c hC
  have h64 := pow6 hpf
  obtain ⟨Y, E, n0, o, w, Sk, ys, g1, g2, g3⟩ := past_of hC.1.2.2.2.2.2.2.2.2.2.1
  unfold s_X11_waterBySets
  refine q_copy hP lsh_47 lsh_42 (by omega) (ctx_l hC) g2 (fun u1 k1 l1 _ => ?_)
  unfold sX11_waterBySets_p13
  refine for_up (fun m i s => sX11_waterBySets_p13n (nI k) Q m i s) (2 ^ pf P) (fun v s => Kp (SBs u.2.2.1) u s ∧ FB s 168 ∧ Trl P N v 0 s ∧ WbS P N k v s) ?_ 0 u1 (Nat.zero_le _) ⟨kp_m k1 (fun a k h => by unfold SBs SB at h; omega), fb_K hC.2.2.1 k1 (fun j => by omega), ⟨N, l1, fun _ _ => rfl, fun g hg => absurd hg (by omega)⟩, fun v hv => absurd hv (by omega)⟩
  rintro m v s hv ⟨hK, hB, hT0, hW⟩ hnext
  show sX11_waterBySets_p13b (nI k) Q (sX11_waterBySets_p13n (nI k) Q m) (nI v) s
  unfold sX11_waterBySets_p13b
  rw [hK.2.2, hK.1 u.2.2.1 3 (by unfold SBs SB; omega), hT.1.2.2.2.1, x_shl _ (by omega)]
  by_cases hve : v = 2 ^ pf P
  · rw [hve] at hW ⊢
    exact i_pos (nI_le (Nat.le_refl _) (by omega)) (hQ s hK hB hW)
  · refine i_neg (nI_ge (by omega) (by omega)) ?_
    exact q_set hC hk (by omega) hK hB hT0 hW (fun s' a b c d => hnext (by omega) s' ⟨a, b, c, d⟩)
noncomputable def wfI (P : Pl) (N : Nat → Nat) (k v f : Nat) : Int32 := (if (wb P (wp P (msk P N v) k) (wm P (msk P N v) k)).testBit f = true then (10 : Int32) else 0) - nI (msk P N v (109 + f))
theorem bit_10 : ∀ w, w < 64 → ∀ k, k < 6 → (10 : Int32) * ((nI w >>> (nI k &&& 31)) &&& 1) = if w.testBit k = true then 10 else 0 := by first | decide | (unfold vp_in; decide)
theorem q_welfare {P : Pl} {N : Nat → Nat} {k v f n : Nat} {Q : Int32 → St → Prop} {u : St} (hP : VP P) (hn : n ≤ 64) (hv : v < n) (hf : f < pf P) (hW : WbS P N k n u) (hL : u.1 46 f = nI (N (109 + f))) (hQ : Q (wfI P N k v f) u) : s_X11_welfare (nI v) (nI f) Q u := by
  have hpf := hP.2.2.2.2.1
  unfold s_X11_welfare
  refine ⟨vp_in_nI (by omega) (by omega), ?_⟩
  refine q_pieIn (P := P) (N := N) (by omega) (by omega) hf hL ?_
  rw [nI_clamp (by omega), (hW v hv).1, bit_10 _ (wb_lt hP _) f (by omega)]
  exact hQ
theorem x_xor (a b : Nat) : nI a ^^^ nI b = nI (a ^^^ b) := by
  apply Int32.toBitVec.inj
  rw [Int32.toBitVec_xor]
  show BitVec.ofNat 32 a ^^^ BitVec.ofNat 32 b = BitVec.ofNat 32 (a ^^^ b)
  rw [BitVec.ofNat_xor]
theorem xor_lt {v f n : Nat} (hv : v < 2 ^ n) (hf : f < n) : v ^^^ 2 ^ f < 2 ^ n := Nat.xor_lt_two_pow hv (Nat.pow_lt_pow_right (by omega) hf)
def AR (P : Pl) (N : Nat → Nat) (k v : Nat) : Prop := ∀ f, f < pf P → wfI P N k (v ^^^ 2 ^ f) f ≤ wfI P N k v f
theorem q_atRest {P : Pl} {N : Nat → Nat} {k v : Nat} {Q : Int32 → St → Prop} {u : St} (hP : VP P) (hT : u.1 u.2.2.1 3 = nI (pf P)) (hv : v < 2 ^ pf P) (hW : WbS P N k (2 ^ pf P) u) (hL : ∀ f, f < pf P → u.1 46 f = nI (N (109 + f))) (h1 : AR P N k v → Q 1 u) (h2 : ¬ AR P N k v → Q 0 u) : s_X11_isAtRest (nI v) Q u := by
  have hpf := hP.2.2.2.2.1
  have h64 := pow6 hpf
  unfold s_X11_isAtRest sX11_isAtRest_p2
  refine for_up (fun m i s => sX11_isAtRest_p2n (nI v) Q m i s) (pf P) (fun i s => s = u ∧ ∀ f, f < i → wfI P N k (v ^^^ 2 ^ f) f ≤ wfI P N k v f) ?_ 0 u (by omega) ⟨rfl, fun f hf => absurd hf (by omega)⟩
  rintro m i s hi ⟨hs, ha⟩ hnext
  rw [hs]
  show sX11_isAtRest_p2b (nI v) Q (sX11_isAtRest_p2n (nI v) Q m) (nI i) u
  unfold sX11_isAtRest_p2b
  rw [hT]
  by_cases hie : i = pf P
  · rw [hie] at ha ⊢
    exact i_pos (nI_le (Nat.le_refl _) (by omega)) (h1 ha)
  refine i_neg (nI_ge (by omega) (by omega)) ?_
  rw [x_shl _ (by omega), x_xor, nI_1]
  refine q_welfare hP h64 (xor_lt hv (by omega)) (by omega) hW (hL i (by omega)) ?_
  refine q_welfare hP h64 hv (by omega) hW (hL i (by omega)) ?_
  by_cases hc : wfI P N k (v ^^^ 2 ^ i) i ≤ wfI P N k v i
  · refine i_pos hc (hnext (by omega) u ⟨rfl, fun f hf => ?_⟩)
    by_cases e : f = i
    · rw [e]
      exact hc
    · exact ha f (by omega)
  · exact i_neg hc (h2 (fun g => hc (g i (by omega))))
noncomputable def rsn (P : Pl) (N : Nat → Nat) (k : Nat) : Nat → Option Nat
  | 0 => none
  | i + 1 => @ite _ ((∃ b, rsn P N k i = some b ∧ pop i ≤ pop b) ∨ ¬ AR P N k i) (Classical.propDecidable _) (rsn P N k i) (some i)
theorem rsn_y {P : Pl} {N : Nat → Nat} {k i : Nat} (h : (∃ b, rsn P N k i = some b ∧ pop i ≤ pop b) ∨ ¬ AR P N k i) : rsn P N k (i + 1) = rsn P N k i := by
  rw [rsn]
  exact if_pos h
theorem rsn_n {P : Pl} {N : Nat → Nat} {k i : Nat} (h : ¬ ((∃ b, rsn P N k i = some b ∧ pop i ≤ pop b) ∨ ¬ AR P N k i)) : rsn P N k (i + 1) = some i := by
  rw [rsn]
  exact if_neg h
theorem rsn_lt {P : Pl} {N : Nat → Nat} {k : Nat} : ∀ i b, rsn P N k i = some b → b < i
  | 0, b, h => by
    rw [rsn] at h
    exact absurd h (by simp)
  | i + 1, b, h => by
    by_cases g : (∃ b, rsn P N k i = some b ∧ pop i ≤ pop b) ∨ ¬ AR P N k i
    · rw [rsn_y g] at h
      have := rsn_lt i b h
      omega
    · rw [rsn_n g] at h
      have := Option.some.inj h
      omega
theorem q_rest2 {P : Pl} {N : Nat → Nat} {k : Nat} {Q : Int32 → St → Prop} {u : St} (hP : VP P) (hT : u.1 u.2.2.1 3 = nI (pf P)) (hW : WbS P N k (2 ^ pf P) u) (hL : ∀ f, f < pf P → u.1 46 f = nI (N (109 + f))) (hQ : Q (oI (rsn P N k (2 ^ pf P))) u) : sX11_rest_p23 Q (-1 : Int32) (0 : Int32) u := by
  have hpf := hP.2.2.2.2.1
  have h64 := pow6 hpf
  unfold sX11_rest_p23
  have key := for_up (fun m i (s : Int32 × St) => sX11_rest_p23n Q m s.1 i s.2) (2 ^ pf P) (fun i s => s.2 = u ∧ s.1 = oI (rsn P N k i)) ?_ 0 (-1, u) (Nat.zero_le _) ⟨rfl, by rw [rsn]; rfl⟩
  · exact key
  rintro m i ⟨v, s⟩ hi ⟨hs, hv⟩ hnext
  simp only at hs hv
  rw [hs, hv]
  show sX11_rest_p23b Q (sX11_rest_p23n Q m) (oI (rsn P N k i)) (nI i) u
  unfold sX11_rest_p23b
  rw [hT, x_shl _ (by omega)]
  by_cases hie : i = 2 ^ pf P
  · rw [hie]
    exact i_pos (nI_le (Nat.le_refl _) (by omega)) hQ
  refine i_neg (nI_ge (by omega) (by omega)) ?_
  have hil : i < 2 ^ pf P := by omega
  have hkeep : ((∃ b, rsn P N k i = some b ∧ pop i ≤ pop b) ∨ ¬ AR P N k i) → sX11_rest_p74 (oI (rsn P N k i)) (nI i) Q (sX11_rest_p23n Q m) u := by
    intro g
    unfold sX11_rest_p74
    rw [nI_1]
    exact hnext hil (oI (rsn P N k i), u) ⟨rfl, (congrArg oI (rsn_y g)).symm⟩
  have hask : (¬ ∃ b, rsn P N k i = some b ∧ pop i ≤ pop b) → sX11_rest_p52 (oI (rsn P N k i)) (nI i) Q (sX11_rest_p23n Q m) u := by
    intro g
    unfold sX11_rest_p52 sX11_rest_p57
    refine i_neg (by first | decide | (unfold vp_in; decide)) ?_
    refine q_atRest hP hT hil hW hL (fun h => ?_) (fun h => ?_)
    · refine i_neg (by first | decide | (unfold vp_in; decide)) ?_
      unfold sX11_rest_p74
      rw [nI_1]
      exact hnext hil (nI i, u) ⟨rfl, (congrArg oI (rsn_n (fun z => z.elim g (fun y => y h)))).symm⟩
    · exact i_pos rfl (hkeep (Or.inr h))
  cases hr : rsn P N k i with
  | none =>
    rw [hr] at hask
    exact i_pos rfl (hask (fun z => by obtain ⟨b, hb, _⟩ := z; exact absurd hb (by simp)))
  | some b =>
    have hbi := rsn_lt i b hr
    rw [hr] at hask hkeep
    refine i_neg (fun g => by have g2 : nI b = -1 := g; rw [x_ne1 (by omega)] at g2; exact g2) ?_
    refine q_bits (s := i) (by omega) ?_
    refine q_bits (s := b) (by omega) ?_
    have hp1 := pop_le i
    have hp2 := pop_le b
    by_cases hp : pop i ≤ pop b
    · refine i_pos (nI_le hp (by omega)) ?_
      unfold sX11_rest_p57
      exact i_pos rfl (hkeep (Or.inl ⟨b, rfl, hp⟩))
    · refine i_neg (nI_ge (by omega) (by omega)) ?_
      exact hask (fun z => by obtain ⟨b', hb, h2⟩ := z; have := Option.some.inj hb; rw [← this] at h2; exact hp h2)
def SMp (P : Pl) (a k : Nat) : Prop := SM a k ∧ ¬ (a = 241 ∧ 109 ≤ k ∧ k < 109 + pf P)
def Hld (P : Pl) (N : Nat → Nat) (n : Nat) (s : St) : Prop := ∀ f, f < n → s.1 249 f = nI (N (109 + f))
def Wfs (P : Pl) (N : Nat → Nat) (k q : Nat) (s : St) : Prop := ∀ v f, f < pf P → 6 * v + f < q → s.1 248 (6 * v + f) = wfI P N k v f
def Pis (P : Pl) (M : Nat → Nat) (n : Nat) (s : St) : Prop := ∀ f, f < n → s.1 241 (109 + f) = nI (M (109 + f))
theorem pis_la {P : Pl} {N M : Nat → Nat} {u s : St} (hL : mLa u N) (hK : Kp (SMp P) u s) (hM : ∀ k, ¬ (109 ≤ k ∧ k < 109 + pf P) → M k = N k) (h : Pis P M (pf P) s) : mLa s M := by
  intro k hk
  by_cases e : 109 ≤ k ∧ k < 109 + pf P
  · have := h (k - 109) (by omega)
    rw [show 109 + (k - 109) = k by omega] at this
    exact this
  · rw [hM k e, hK.1 241 k (by unfold SMp SM; omega)]
    exact hL k hk
theorem r_fill {P : Pl} {N : Nat → Nat} {k v : Nat} {Q : St → Prop} {K29 : Int32 → St → Prop} {u s : St} (hC : Ctx u P N) (hk : k < pk P) (hv : v < 64) (hK : Kp (SMp P) u s) (hH : Hld P N (pf P) s) (hW : Wfs P N k (6 * v) s)
    (hnext : ∀ s', Kp (SMp P) u s' → Hld P N (pf P) s' → Wfs P N k (6 * (v + 1)) s' → K29 (nI (v + 1)) s') : sX12_laysWells_p41 (nI k) (nI v) Q K29 (0 : Int32) s := by
  have hP := ctx_vp hC
  have hN := ctx_vn hC
  have hpf := hP.2.2.2.2.1
  have h0 := pk_pc hP hk
  have hM := ctx_m hC
  have hL := ctx_n hC
  have hfr : ∀ z : St, Kp (SMp P) u z → mPl z P := fun z hz => mPl_K hM hz (fun a k h => by unfold SMp SM; omega)
  unfold sX12_laysWells_p41
  refine for_up (fun m i s => sX12_laysWells_p41n (nI k) (nI v) Q K29 m i s) (pf P) (fun j s => Kp (SMp P) u s ∧ Hld P N (pf P) s ∧ Wfs P N k (6 * v) s ∧ Pis P (msk P N v) j s) ?_ 0 s (by omega) ⟨hK, hH, hW, fun f hf => absurd hf (by omega)⟩
  rintro m j s1 hj ⟨hK1, hH1, hW1, hP1⟩ hnext1
  show sX12_laysWells_p41b (nI k) (nI v) Q K29 (sX12_laysWells_p41n (nI k) (nI v) Q K29 m) (nI j) s1
  unfold sX12_laysWells_p41b
  refine r_farmMany (hfr s1 hK1) ?_
  by_cases hje : j = pf P
  · rw [hje] at hP1 ⊢
    refine i_pos (nI_le (Nat.le_refl _) (by omega)) ?_
    refine r_laysWay hP (msk_vn hP hN v) h0 hk (hfr s1 hK1) (pis_la hL hK1 (fun k hk => msk_o hk) hP1) (fun u3 p mm w3 n3 k3 => ?_)
    have hs := w_spec w3
    have hK3 : Kp (SMp P) u u3 := kp_t hK1 (kp_m (kp_SW k3) (fun a k h => h.1))
    have hH3 : Hld P N (pf P) u3 := fun f hf => by rw [k3.1 249 f (by unfold SW; omega)]; exact hH1 f hf
    have hW3 : Wfs P N k (6 * v + 0) u3 := fun v' f hf h => by rw [k3.1 248 _ (by unfold SW; omega)]; exact hW1 v' f hf h
    have hP3 : Pis P (msk P N v) (pf P) u3 := fun f hf => by rw [k3.1 241 _ (by unfold SW; omega)]; exact hP1 f hf
    have hiff : ∀ f, f < pf P → (isW P p mm f ↔ (wb P (wp P (msk P N v) k) (wm P (msk P N v) k)).testBit f = true) := by
      intro f hf
      rw [isW_bit hP (w_cel hP h0 hs.1).2.2 hf]
      unfold isW
      rw [hs.2.1, stp_c (p := p) (p' := wp P (msk P N v) k) (m := mm) (fun j hj => (hs.2.2 j hj).symm)]
    have hm36 := pw_36 hP h0 w3.1
    unfold sX12_laysWells_p90
    refine for_up (fun m i s => sX12_laysWells_p90n (nI k) (nI v) Q K29 m i s) (pf P) (fun f s => Kp (SMp P) u s ∧ Hld P N (pf P) s ∧ Wfs P N k (6 * v + f) s ∧ Pis P (msk P N v) (pf P) s ∧ WayN s p mm) ?_ 0 u3 (by omega) ⟨hK3, hH3, hW3, hP3, n3⟩
    rintro m2 f s2 hf ⟨hK2, hH2, hW2, hP2, n2⟩ hnext2
    show sX12_laysWells_p90b (nI k) (nI v) Q K29 (sX12_laysWells_p90n (nI k) (nI v) Q K29 m2) (nI f) s2
    unfold sX12_laysWells_p90b
    refine r_farmMany (hfr s2 hK2) ?_
    by_cases hfe : f = pf P
    · refine i_pos (by rw [hfe]; exact nI_le (Nat.le_refl _) (by omega)) ?_
      rw [nI_1]
      exact hnext s2 hK2 hH2 (fun v' g hg h => hW2 v' g hg (by omega))
    refine i_neg (nI_ge (by omega) (by omega)) ?_
    have ei : (6 : Int32) * nI v + nI f = nI (6 * v + f) := by
      rw [show (6 : Int32) * nI v = nI (6 * v) from pk_mul 6 _, nI_add]
    rw [ei]
    have hput : ∀ x : Int32, x - nI (msk P N v (109 + f)) = wfI P N k v f → sX12_laysWells_p122 (nI k) (nI v) (nI f) x (nI (6 * v + f)) Q K29 (sX12_laysWells_p90n (nI k) (nI v) Q K29 m2) s2 := by
      intro x hx
      unfold sX12_laysWells_p122
      refine r_pieOf (pis_la hL hK2 (fun k hk => msk_o hk) hP2) (by omega) ?_
      rw [hx, nI_1, nI_clamp (by omega)]
      refine ⟨vp_in_nI (by omega) (by omega), bnd_i ?_⟩
      have k4 : Kp (fun a _ => a ≠ 248) s2 (tI s2 248 (6 * v + f) (wfI P N k v f)) := kp_I (kp_r s2) (by omega)
      refine hnext2 (by omega) _ ⟨kp_t hK2 (kp_m k4 (fun a k h => by unfold SMp SM at h; omega)), fun g hg => by rw [k4.1 249 g (by omega)]; exact hH2 g hg, fun v' g hg h => ?_, fun g hg => by rw [k4.1 241 _ (by omega)]; exact hP2 g hg, ?_⟩
      · by_cases e : 6 * v' + g = 6 * v + f
        · have e1 : v' = v := by omega
          have e2 : g = f := by omega
          rw [e1, e2, t_s]
        · rw [t_n _ _ (by omega)]
          exact hW2 v' g hg (by omega)
      · exact ⟨by rw [k4.1 198 64 (by omega)]; exact n2.1, fun i hi => by rw [k4.1 242 i (by omega)]; exact n2.2.1 i hi, fun c hc => by rw [k4.1 243 c (by omega)]; exact n2.2.2 c hc⟩
    refine r_isWatered hP (hfr s2 hK2) n2 hm36 (by omega) (fun hw => ?_) (fun hw => ?_)
    · refine i_neg (by first | decide | (unfold vp_in; decide)) (hput 10 ?_)
      unfold wfI
      first | refine i_pos ((hiff f (by omega)).1 hw) ?_ | rw [if_pos ((hiff f (by omega)).1 hw)]
      try (with_reducible rfl)
    · refine i_pos rfl (hput 0 ?_)
      unfold wfI
      first | refine i_neg (fun g => hw ((hiff f (by omega)).2 g)) ?_ | rw [if_neg (fun g => hw ((hiff f (by omega)).2 g))]
      try (with_reducible rfl)
  · refine i_neg (nI_ge (by omega) (by omega)) ?_
    have e9 : (109 : Int32) + nI j = nI (109 + j) := nI_add 109 j
    rw [e9]
    have hput : sX12_laysWells_p76 (nI k) (nI v) (nI j) (nI (msk P N v (109 + j))) (nI (109 + j)) Q K29 (sX12_laysWells_p41n (nI k) (nI v) Q K29 m) s1 := by
      unfold sX12_laysWells_p76
      rw [nI_1, nI_clamp (by omega)]
      refine ⟨vp_in_nI (by omega) (by omega), bnd_i ?_⟩
      have k4 : Kp (fun a k => ¬ (a = 241 ∧ k = 109 + j)) s1 (tI s1 241 (109 + j) (nI (msk P N v (109 + j)))) := kp_I (kp_r s1) (by omega)
      refine hnext1 (by omega) _ ⟨kp_t hK1 (kp_m k4 (fun a k h => by unfold SMp at h; omega)), fun g hg => by rw [k4.1 249 g (by omega)]; exact hH1 g hg, fun v' g hg h => by rw [k4.1 248 _ (by omega)]; exact hW1 v' g hg h, fun g hg => ?_⟩
      by_cases e : g = j
      · rw [e, t_s]
      · rw [t_n _ _ (by omega)]
        exact hP1 g (by omega)
    by_cases hb : v.testBit j = true
    · refine i_pos (by rw [bit_rd v hv j (by omega)]; exact hb) ⟨vp_in_nI (by omega) (by omega), ?_⟩
      rw [clamp6 (by omega), hH1 j (by omega)]
      rw [msk_y hb] at hput
      exact hput
    · refine i_neg (by rw [bit_rd v hv j (by omega)]; exact hb) ?_
      rw [msk_n (by omega) hb] at hput
      exact hput
theorem smp_ctx {P : Pl} {N : Nat → Nat} {u s : St} (hC : Ctx u P N) (hK : Kp (SMp P) u s) (h : Pis P N (pf P) s) : Ctx s P N := by
  have hpf := (ctx_vp hC).2.2.2.2.1
  refine ctx_SM hC ⟨fun a k g => ?_, hK.2⟩
  by_cases e : a = 241 ∧ 109 ≤ k ∧ k < 109 + pf P
  · have h1 := h (k - 109) (by omega)
    rw [show 109 + (k - 109) = k by omega] at h1
    rw [e.1, h1, ctx_n hC k (by omega)]
  · exact hK.1 a k ⟨g, e⟩
theorem r_wells {P : Pl} {N : Nat → Nat} {k : Nat} {Q : St → Prop} {u : St} (hC : Ctx u P N) (hk : k < pk P) (hQ : ∀ u', Ctx u' P N → Wfs P N k (6 * 2 ^ pf P) u' → Q u') : s_X12_laysWells (nI k) Q u := by
  have hP := ctx_vp hC
  have hN := ctx_vn hC
  have hpf := hP.2.2.2.2.1
  have h64 := pow6 hpf
  have hM := ctx_m hC
  have hL := ctx_n hC
  have hfr : ∀ z : St, Kp (SMp P) u z → mPl z P := fun z hz => mPl_K hM hz (fun a k h => by unfold SMp SM; omega)
  unfold s_X12_laysWells sX12_laysWells_p2
  refine for_up (fun m i s => sX12_laysWells_p2n (nI k) Q m i s) (pf P) (fun f s => Kp (fun a _ => a ≠ 249) u s ∧ Hld P N f s) ?_ 0 u (by omega) ⟨kp_r u, fun f hf => absurd hf (by omega)⟩
  rintro m f s hf ⟨hK, hH⟩ hnext
  show sX12_laysWells_p2b (nI k) Q (sX12_laysWells_p2n (nI k) Q m) (nI f) s
  unfold sX12_laysWells_p2b
  have hK0 : Kp (SMp P) u s := kp_m hK (fun a k h => by unfold SMp SM at h; omega)
  refine r_farmMany (hfr s hK0) ?_
  by_cases hfe : f = pf P
  · rw [hfe] at hH ⊢
    refine i_pos (nI_le (Nat.le_refl _) (by omega)) ?_
    unfold sX12_laysWells_p29
    refine for_up (fun m i s => sX12_laysWells_p29n (nI k) Q m i s) (2 ^ pf P) (fun v s => Kp (SMp P) u s ∧ Hld P N (pf P) s ∧ Wfs P N k (6 * v) s) ?_ 0 s (Nat.zero_le _) ⟨hK0, hH, fun v f hf h => absurd h (by omega)⟩
    rintro m1 v s1 hv ⟨hK1, hH1, hW1⟩ hnext1
    show sX12_laysWells_p29b (nI k) Q (sX12_laysWells_p29n (nI k) Q m1) (nI v) s1
    unfold sX12_laysWells_p29b
    refine r_farmMany (hfr s1 hK1) ?_
    rw [x_shl _ (by omega)]
    by_cases hve : v = 2 ^ pf P
    · rw [hve] at hW1 ⊢
      refine i_pos (nI_le (Nat.le_refl _) (by omega)) ?_
      unfold sX12_laysWells_p143
      refine for_up (fun m i s => sX12_laysWells_p143n Q m i s) (pf P) (fun j s => Kp (SMp P) u s ∧ Hld P N (pf P) s ∧ Wfs P N k (6 * 2 ^ pf P) s ∧ Pis P N j s) ?_ 0 s1 (by omega) ⟨hK1, hH1, hW1, fun f hf => absurd hf (by omega)⟩
      rintro m2 j s2 hj ⟨hK2, hH2, hW2, hP2⟩ hnext2
      show sX12_laysWells_p143b Q (sX12_laysWells_p143n Q m2) (nI j) s2
      unfold sX12_laysWells_p143b
      refine r_farmMany (hfr s2 hK2) ?_
      by_cases hje : j = pf P
      · rw [hje] at hP2 ⊢
        exact i_pos (nI_le (Nat.le_refl _) (by omega)) (hQ s2 (smp_ctx hC hK2 hP2) hW2)
      refine i_neg (nI_ge (by omega) (by omega)) ?_
      have e9 : (109 : Int32) + nI j = nI (109 + j) := nI_add 109 j
      rw [e9, nI_1, nI_clamp (by omega), clamp6 (by omega), hH2 j (by omega)]
      refine ⟨vp_in_nI (by omega) (by omega), vp_in_nI (by omega) (by omega), bnd_i ?_⟩
      have k4 : Kp (fun a k => ¬ (a = 241 ∧ k = 109 + j)) s2 (tI s2 241 (109 + j) (nI (N (109 + j)))) := kp_I (kp_r s2) (by omega)
      refine hnext2 (by omega) _ ⟨kp_t hK2 (kp_m k4 (fun a k h => by unfold SMp at h; omega)), fun g hg => by rw [k4.1 249 g (by omega)]; exact hH2 g hg, fun v' g hg h => by rw [k4.1 248 _ (by omega)]; exact hW2 v' g hg h, fun g hg => ?_⟩
      by_cases e : g = j
      · rw [e, t_s]
      · rw [t_n _ _ (by omega)]
        exact hP2 g (by omega)
    · refine i_neg (nI_ge (by omega) (by omega)) ?_
      exact r_fill hC hk (by omega) hK1 hH1 hW1 (fun s' a b c => hnext1 (by omega) s' ⟨a, b, c⟩)
  · refine i_neg (nI_ge (by omega) (by omega)) ?_
    refine r_pieOf (mLa_K hL hK (fun k => by omega)) (by omega) ?_
    rw [nI_1, clamp6 (by omega)]
    refine ⟨vp_in_nI (by omega) (by omega), bnd_i ?_⟩
    refine hnext (by omega) _ ⟨kp_I hK (by omega), fun g hg => ?_⟩
    by_cases e : g = f
    · rw [e, t_s]
    · rw [t_n _ _ (by omega)]
      exact hH g (by omega)
theorem r_isRest {P : Pl} {N : Nat → Nat} {k v : Nat} {Q : Int32 → St → Prop} {u : St} (hP : VP P) (hM : mPl u P) (hv : v < 2 ^ pf P) (hW : Wfs P N k (6 * 2 ^ pf P) u) (h1 : AR P N k v → Q 1 u) (h2 : ¬ AR P N k v → Q 0 u) : s_X12_isRest (nI v) Q u := by
  have hpf := hP.2.2.2.2.1
  have h64 := pow6 hpf
  unfold s_X12_isRest sX12_isRest_p2
  refine for_up (fun m i s => sX12_isRest_p2n (nI v) Q m i s) (pf P) (fun i s => s = u ∧ ∀ f, f < i → wfI P N k (v ^^^ 2 ^ f) f ≤ wfI P N k v f) ?_ 0 u (by omega) ⟨rfl, fun f hf => absurd hf (by omega)⟩
  rintro m i s hi ⟨hs, ha⟩ hnext
  rw [hs]
  show sX12_isRest_p2b (nI v) Q (sX12_isRest_p2n (nI v) Q m) (nI i) u
  unfold sX12_isRest_p2b
  refine r_farmMany hM ?_
  by_cases hie : i = pf P
  · rw [hie] at ha ⊢
    exact i_pos (nI_le (Nat.le_refl _) (by omega)) (h1 ha)
  refine i_neg (nI_ge (by omega) (by omega)) ?_
  have hx := xor_lt hv (show i < pf P by omega)
  have e1 : (6 : Int32) * nI v + nI i = nI (6 * v + i) := by
    rw [show (6 : Int32) * nI v = nI (6 * v) from pk_mul 6 _, nI_add]
  have e2 : (6 : Int32) * nI (v ^^^ 2 ^ i) + nI i = nI (6 * (v ^^^ 2 ^ i) + i) := by
    rw [show (6 : Int32) * nI (v ^^^ 2 ^ i) = nI (6 * (v ^^^ 2 ^ i)) from pk_mul 6 _, nI_add]
  rw [x_shl _ (by omega), x_xor, nI_1, e1, e2, nI_clamp (by omega), nI_clamp (by omega), hW v i (by omega) (by omega), hW _ i (by omega) (by omega)]
  refine ⟨vp_in_nI (by omega) (by omega), vp_in_nI (by omega) (by omega), ?_⟩
  by_cases hc : wfI P N k (v ^^^ 2 ^ i) i ≤ wfI P N k v i
  · refine i_pos hc (hnext (by omega) u ⟨rfl, fun f hf => ?_⟩)
    by_cases e : f = i
    · rw [e]
      exact hc
    · exact ha f (by omega)
  · exact i_neg hc (h2 (fun g => hc (g i (by omega))))
theorem r_rest2 {P : Pl} {N : Nat → Nat} {k : Nat} {Q : Int32 → St → Prop} {u : St} (hP : VP P) (hM : mPl u P) (hW : Wfs P N k (6 * 2 ^ pf P) u) (hQ : Q (oI (rsn P N k (2 ^ pf P))) u) : sX12_rest_p27 Q (-1 : Int32) (0 : Int32) u := by
  have hpf := hP.2.2.2.2.1
  have h64 := pow6 hpf
  unfold sX12_rest_p27
  have key := for_up (fun m i (s : Int32 × St) => sX12_rest_p27n Q m s.1 i s.2) (2 ^ pf P) (fun i s => s.2 = u ∧ s.1 = oI (rsn P N k i)) ?_ 0 (-1, u) (Nat.zero_le _) ⟨rfl, by rw [rsn]; rfl⟩
  · exact key
  rintro m i ⟨v, s⟩ hi ⟨hs, hv⟩ hnext
  simp only at hs hv
  rw [hs, hv]
  show sX12_rest_p27b Q (sX12_rest_p27n Q m) (oI (rsn P N k i)) (nI i) u
  unfold sX12_rest_p27b
  refine r_farmMany hM ?_
  rw [x_shl _ (by omega)]
  by_cases hie : i = 2 ^ pf P
  · rw [hie]
    exact i_pos (nI_le (Nat.le_refl _) (by omega)) hQ
  refine i_neg (nI_ge (by omega) (by omega)) ?_
  have hil : i < 2 ^ pf P := by omega
  have hkeep : ((∃ b, rsn P N k i = some b ∧ pop i ≤ pop b) ∨ ¬ AR P N k i) → sX12_rest_p63 (oI (rsn P N k i)) (nI i) Q (sX12_rest_p27n Q m) u := by
    intro g
    unfold sX12_rest_p63
    rw [nI_1]
    exact hnext hil (oI (rsn P N k i), u) ⟨rfl, (congrArg oI (rsn_y g)).symm⟩
  have hask : (¬ ∃ b, rsn P N k i = some b ∧ pop i ≤ pop b) → sX12_rest_p53 (oI (rsn P N k i)) (nI i) Q (sX12_rest_p27n Q m) u := by
    intro g
    unfold sX12_rest_p53
    refine r_isRest hP hM hil hW (fun h => ?_) (fun h => ?_)
    · refine i_neg (by first | decide | (unfold vp_in; decide)) ?_
      unfold sX12_rest_p63
      rw [nI_1]
      exact hnext hil (nI i, u) ⟨rfl, (congrArg oI (rsn_n (fun z => z.elim g (fun y => y h)))).symm⟩
    · exact i_pos rfl (hkeep (Or.inr h))
  cases hr : rsn P N k i with
  | none =>
    rw [hr] at hask
    exact i_pos rfl (hask (fun z => by obtain ⟨b, hb, _⟩ := z; exact absurd hb (by simp)))
  | some b =>
    have hbi := rsn_lt i b hr
    rw [hr] at hask hkeep
    refine i_neg (fun g => by have g2 : nI b = -1 := g; rw [x_ne1 (by omega)] at g2; exact g2) ?_
    refine r_bits (s := i) (by omega) ?_
    refine r_bits (s := b) (by omega) ?_
    have hp1 := pop_le i
    have hp2 := pop_le b
    by_cases hp : pop i ≤ pop b
    · exact i_pos (nI_le hp (by omega)) (hkeep (Or.inl ⟨b, rfl, hp⟩))
    · refine i_neg (nI_ge (by omega) (by omega)) ?_
      exact hask (fun z => by obtain ⟨b', hb, h2⟩ := z; have := Option.some.inj hb; rw [← this] at h2; exact hp h2)
theorem ctx_SBs {u u' : St} {P : Pl} {N : Nat → Nat} (hC : Ctx u P N) (hK : Kp (SBs u.2.2.1) u u') (hB : FB u' 168) : Ctx u' P N := by
  have ht := ctx_t hC
  refine ⟨inv0_K hC.1 hK (fun a k h => ?_), k_ways hC.2.1 hK (fun a k h => by unfold SBs SB; omega), hB, fb_K hC.2.2.2 hK (fun k => by unfold SBs SB; omega)⟩
  have h2 := sp_SC ht h
  unfold SC at h2
  unfold SBs SB
  omega
theorem call_rest (v1 : Int32) : Call (s_X11_rest v1) (s_X12_rest v1) := by
  rintro u ⟨P, N, hC⟩
  have hC : Ctx u P N := hC
  have hP := ctx_vp hC
  have hpf := hP.2.2.2.2.1
  unfold s_X11_rest
  refine q_wayOf hC (fun k u1 hk e hC1 hW hK => ?_) (fun hn => ?_)
  · have h0 := pk_pc hP hk
    have hw := w_cel hP h0 hW.1
    have hz := w_zero hW.1
    by_cases hm0 : wm P N k = 0
    · have e2 : u1.1 (178 + 4 * k) 2 = -1 := by
        rw [hW.2.1]
        exact if_pos hm0
      rw [e2]
      refine i_pos rfl ?_
      unfold s_X12_rest
      refine r_isCaller hP (ctx_m hC1) (fun _ _ _ => ?_) (fun hn => absurd ⟨k, hk, e⟩ hn)
      refine i_neg (by first | decide | (unfold vp_in; decide)) ?_
      refine r_hasWay hP (ctx_vn hC1) (ctx_m hC1) (ctx_n hC1) (fun _ hs => absurd (hz.mp hm0) hs) (fun _ => ?_)
      exact i_pos rfl ⟨rfl, inv_of hC1⟩
    · have e2 : u1.1 (178 + 4 * k) 2 = nI (wm P N k - 1) := by
        rw [hW.2.1]
        exact if_neg hm0
      rw [e2, e]
      refine i_neg (by rw [x_ne1 (by omega)]; exact id) ?_
      refine q_wbs hC1 hk (fun u2 k2 b2 w2 => ?_)
      have hC2 := ctx_SBs hC1 k2 b2
      refine q_rest2 hP (ctx_c hC2).1.2.2.2.1 w2 (fun f hf => (ctx_l hC2).2.2.1 f (by omega)) ?_
      unfold s_X12_rest
      refine r_isCaller hP (ctx_m hC2) (fun _ _ _ => ?_) (fun hn => absurd ⟨k, hk, rfl⟩ hn)
      refine i_neg (by first | decide | (unfold vp_in; decide)) ?_
      refine r_hasWay hP (ctx_vn hC2) (ctx_m hC2) (ctx_n hC2) (fun _ hs => ?_) (fun hs => absurd ⟨h0, fun x => hm0 (hz.mpr x)⟩ hs)
      refine i_neg (by first | decide | (unfold vp_in; decide)) ?_
      refine r_wells hC2 hk (fun u3 hC3 w3 => ?_)
      exact r_rest2 hP (ctx_m hC3) w3 ⟨rfl, inv_of hC3⟩
  · rw [(ctx_no hC).1]
    refine i_pos rfl ?_
    unfold s_X12_rest
    refine r_isCaller hP (ctx_m hC) (fun k hk e => absurd ⟨k, hk, e⟩ hn) (fun _ => ?_)
    exact i_pos rfl ⟨rfl, inv_of hC⟩
