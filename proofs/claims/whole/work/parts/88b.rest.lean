/-! the sets of bakers at rest -/
def msk (P : Pl) (N : Nat → Nat) (v : Nat) : Nat → Nat := fun k => if (109 ≤ k ∧ k < 109 + pf P) ∧ ¬ v.testBit (k - 109) = true then 0 else N k
theorem msk_o {P : Pl} {N : Nat → Nat} {v k : Nat} (h : ¬ (109 ≤ k ∧ k < 109 + pf P)) : msk P N v k = N k := by
  unfold msk
  first | refine i_neg (fun g => h g.1) ?_ | rw [if_neg (fun g => h g.1)]
  try (with_reducible rfl)
theorem msk_y {P : Pl} {N : Nat → Nat} {v f : Nat} (h : v.testBit f = true) : msk P N v (109 + f) = N (109 + f) := by
  unfold msk
  first | refine i_neg (fun g => g.2 (by rw [show 109 + f - 109 = f by omega]; exact h)) ?_ | rw [if_neg (fun g => g.2 (by rw [show 109 + f - 109 = f by omega]; exact h))]
  try (with_reducible rfl)
theorem msk_n {P : Pl} {N : Nat → Nat} {v f : Nat} (hf : f < pf P) (h : ¬ v.testBit f = true) : msk P N v (109 + f) = 0 := by
  unfold msk
  first | refine i_pos ⟨by omega, by rw [show 109 + f - 109 = f by omega]; exact h⟩ ?_ | rw [if_pos ⟨by omega, by rw [show 109 + f - 109 = f by omega]; exact h⟩]
  try (with_reducible rfl)
theorem msk_le (P : Pl) (N : Nat → Nat) (v k : Nat) : msk P N v k ≤ N k := by
  unfold msk
  by_cases h : (109 ≤ k ∧ k < 109 + pf P) ∧ ¬ v.testBit (k - 109) = true
  · first | refine i_pos h ?_ | rw [if_pos h]
    try (with_reducible rfl)
    omega
  · first | refine i_neg h ?_ | rw [if_neg h]
    try (with_reducible rfl)
    omega
theorem msk_vn {P : Pl} {N : Nat → Nat} (hP : VP P) (hN : VN P N) (v : Nat) : VN P (msk P N v) := by
  have hpf := hP.2.2.2.2.1
  refine ⟨?_, fun c hc => ?_, fun c hc h => ?_, fun g hg => ?_, fun g hg hg6 => ?_, ?_, fun k hk => ?_⟩
  · exact Nat.le_trans (msk_le P N v 0) hN.1
  · have := hN.2.1 c hc
    exact ⟨Nat.le_trans (msk_le P N v _) this.1, Nat.le_trans (msk_le P N v _) this.2.1, Nat.le_trans (msk_le P N v _) this.2.2⟩
  · have := hN.2.2.1 c hc h
    have h2 := msk_le P N v (2 + 3 * c)
    omega
  · exact Nat.le_trans (msk_le P N v _) (hN.2.2.2.1 g hg)
  · have := hN.2.2.2.2.1 g hg hg6
    have h2 := msk_le P N v (109 + g)
    omega
  · exact Nat.le_trans (msk_le P N v _) hN.2.2.2.2.2.1
  · exact Nat.le_trans (msk_le P N v _) (hN.2.2.2.2.2.2 k hk)
theorem q_pieIn {P : Pl} {N : Nat → Nat} {v f : Nat} {Q : Int32 → St → Prop} {u : St} (hv : v < 64) (hf : f < 6) (hfp : f < pf P) (hL : u.1 46 f = nI (N (109 + f))) (hQ : Q (nI (msk P N v (109 + f))) u) : s_X11_pieIn (nI v) (nI f) Q u := by
  unfold s_X11_pieIn
  by_cases h : v.testBit f = true
  · refine i_pos (by rw [bit_rd v hv f hf]; exact h) ⟨vp_in_nI (by omega) (by omega), ?_⟩
    rw [clamp6 hf, hL]
    rw [msk_y h] at hQ
    exact hQ
  · refine i_neg (by rw [bit_rd v hv f hf]; exact h) ?_
    rw [msk_n hfp h] at hQ
    exact hQ
/-- a trial land, its pies being laid for the set v -/
def Trl (P : Pl) (N : Nat → Nat) (v j : Nat) (s : St) : Prop := ∃ N', cLa s 47 P N' ∧ (∀ k, ¬ (109 ≤ k ∧ k < 109 + pf P) → N' k = N k) ∧ ∀ g, g < j → N' (109 + g) = msk P N v (109 + g)
theorem trl_f {P : Pl} {N : Nat → Nat} {v : Nat} {s : St} (h : Trl P N v (pf P) s) : cLa s 47 P (msk P N v) := by
  obtain ⟨N', a, b, c⟩ := h
  have e : N' = msk P N v := by
    funext k
    by_cases hk : 109 ≤ k ∧ k < 109 + pf P
    · have := c (k - 109) (by omega)
      rw [show 109 + (k - 109) = k by omega] at this
      exact this
    · rw [b k hk, msk_o hk]
  rw [← e]
  exact a
theorem trl_s {P : Pl} {N : Nat → Nat} {v j : Nat} {s : St} (hP : VP P) (h : Trl P N v j s) (hj : j < pf P) : Trl P N v (j + 1) (tI s 51 j (nI (msk P N v (109 + j)))) := by
  have hpf := hP.2.2.2.2.1
  obtain ⟨N', a, b, c⟩ := h
  refine ⟨_, cLa_pie hP a (by omega), fun k hk => ?_, fun g hg => ?_⟩
  · rw [upN_n _ (by omega)]
    exact b k hk
  · by_cases e : g = j
    · rw [e, upN_s]
    · rw [upN_n _ (by omega)]
      exact c g (by omega)
def SBs (t a k : Nat) : Prop := SB t a k ∧ a ≠ 174
def WbS (P : Pl) (N : Nat → Nat) (k n : Nat) (s : St) : Prop := ∀ v, v < n → s.1 174 v = nI (wb P (wp P (msk P N v) k) (wm P (msk P N v) k)) ∧ IsWay P (msk P N v) k (wp P (msk P N v) k) (wm P (msk P N v) k)
theorem q_set {P : Pl} {N : Nat → Nat} {k v : Nat} {Q : St → Prop} {K : Int32 → St → Prop} {u s : St} (hC : Ctx u P N) (hk : k < pk P) (hv : v < 64) (hK : Kp (SBs u.2.2.1) u s) (hB : FB s 168) (hT0 : Trl P N v 0 s) (hW : WbS P N k v s)
    (hnext : ∀ s', Kp (SBs u.2.2.1) u s' → FB s' 168 → Trl P N (v + 1) 0 s' → WbS P N k (v + 1) s' → K (nI (v + 1)) s') : sX11_waterBySets_p28 (nI k) (nI v) Q K (0 : Int32) s := by
  have hP := ctx_vp hC
  have hN := ctx_vn hC
  have hpf := hP.2.2.2.2.1
  have ht := ctx_t hC
  have h0 := pk_pc hP hk
  have hT := ctx_c hC
  have hL := ctx_l hC
  unfold sX11_waterBySets_p28
  refine for_up (fun m i s => sX11_waterBySets_p28n (nI k) (nI v) Q K m i s) (pf P) (fun j s => Kp (SBs u.2.2.1) u s ∧ FB s 168 ∧ Trl P N v j s ∧ WbS P N k v s) ?_ 0 s (by omega) ⟨hK, hB, hT0, hW⟩
  rintro m j s1 hj ⟨hK1, hB1, hT1, hW1⟩ hnext1
  show sX11_waterBySets_p28b (nI k) (nI v) Q K (sX11_waterBySets_p28n (nI k) (nI v) Q K m) (nI j) s1
  unfold sX11_waterBySets_p28b
  rw [hK1.2.2, hK1.1 u.2.2.1 3 (by unfold SBs SB; omega), hT.1.2.2.2.1]
  by_cases hje : j = pf P
  · rw [hje] at hT1 ⊢
    refine i_pos (nI_le (Nat.le_refl _) (by omega)) ?_
    refine q_tried hP (msk_vn hP hN v) h0 hk ht (cPl_K hT hK1 (fun a k h1 h2 h3 h4 => by unfold SBs SB; omega)) (trl_f hT1) hB1 (fun u3 k3 b3 w3 e3 => ?_)
    rw [nI_1, nI_clamp (by omega), e3]
    refine ⟨vp_in_nI (by omega) (by omega), bnd_i ?_⟩
    have k4 : Kp (fun a _ => a ≠ 174) u3 (tI u3 174 v (nI (wb P (wp P (msk P N v) k) (wm P (msk P N v) k)))) := kp_I (kp_r u3) (by omega)
    refine hnext _ (kp_t hK1 (kp_t (kp_m k3 (fun a k h => by unfold SBs SB at h; omega)) (kp_m k4 (fun a k h => by unfold SBs at h; omega)))) (fb_K b3 k4 (fun j => by omega)) ⟨msk P N v, cLa_K (cLa_K (trl_f hT1) k3 (fun a k h1 h2 h3 => by omega)) k4 (fun a k h1 h2 h3 => by omega), fun k hk => msk_o hk, fun g hg => absurd hg (by omega)⟩ (fun x hx => ?_)
    by_cases e : x = v
    · rw [e, t_s]
      exact ⟨rfl, w3⟩
    · rw [t_n _ _ (by omega), k3.1 174 x (by omega)]
      exact hW1 x (by omega)
  · refine i_neg (nI_ge (by omega) (by omega)) ?_
    refine q_pieIn (P := P) (N := N) hv (by omega) (by omega) (by rw [hK1.1 46 j (by unfold SBs SB; omega)]; exact hL.2.2.1 j (by omega)) ?_
    rw [nI_1, clamp6 (by omega)]
    refine ⟨vp_in_nI (by omega) (by omega), bnd_i ?_⟩
    have k4 : Kp (fun a _ => a ≠ 51) s1 (tI s1 51 j (nI (msk P N v (109 + j)))) := kp_I (kp_r s1) (by omega)
    refine hnext1 (by omega) _ ⟨kp_t hK1 (kp_m k4 (fun a k h => by unfold SBs SB at h; omega)), fb_K hB1 k4 (fun j => by omega), trl_s hP hT1 (by omega), fun x hx => ?_⟩
    rw [k4.1 174 x (by omega)]
    exact hW1 x hx
theorem pow6 {n : Nat} (h : n ≤ 6) : 2 ^ n ≤ 64 := Nat.pow_le_pow_right (n := 2) (by omega) h
theorem q_wbs {P : Pl} {N : Nat → Nat} {k : Nat} {Q : St → Prop} {u : St} (hC : Ctx u P N) (hk : k < pk P) (hQ : ∀ u', Kp (SBs u.2.2.1) u u' → FB u' 168 → WbS P N k (2 ^ pf P) u' → Q u') : s_X11_waterBySets (nI k) Q u := by
  have hP := ctx_vp hC
  have hpf := hP.2.2.2.2.1
  have ht := ctx_t hC
  have hT := ctx_c hC
  have h64 := pow6 hpf
  obtain ⟨Y, E, n0, o, w, Sk, ys, g1, g2, g3⟩ := past_of hC.1.2.2.2.2.2.2.2.2.2.1
  unfold s_X11_waterBySets
  refine q_copy hP lsh_47 lsh_42 (by omega) (ctx_l hC) g2 (fun u1 k1 l1 _ => ?_)
  unfold sX11_waterBySets_p13
  refine for_up (fun m i s => sX11_waterBySets_p13n (nI k) Q m i s) (2 ^ pf P) (fun v s => Kp (SBs u.2.2.1) u s ∧ FB s 168 ∧ Trl P N v 0 s ∧ WbS P N k v s) ?_ 0 u1 (Nat.zero_le _) ⟨kp_m k1 (fun a k h => by unfold SBs SB at h; omega), fb_K hC.2.2.1 k1 (fun j => by omega), ⟨N, l1, fun _ _ => rfl, fun g hg => absurd hg (by omega)⟩, fun v hv => absurd hv (by omega)⟩
  rintro m v s hv ⟨hK, hB, hT0, hW⟩ hnext
  show sX11_waterBySets_p13b (nI k) Q (sX11_waterBySets_p13n (nI k) Q m) (nI v) s
  unfold sX11_waterBySets_p13b
  rw [hK.2.2, hK.1 u.2.2.1 3 (by unfold SBs SB; omega), hT.1.2.2.2.1, x_shl _ (by omega)]
  by_cases hve : v = 2 ^ pf P
  · rw [hve] at hW ⊢
    exact i_pos (nI_le (Nat.le_refl _) (by omega)) (hQ s hK hB hW)
  · refine i_neg (nI_ge (by omega) (by omega)) ?_
    exact q_set hC hk (by omega) hK hB hT0 hW (fun s' a b c d => hnext (by omega) s' ⟨a, b, c, d⟩)
noncomputable def wfI (P : Pl) (N : Nat → Nat) (k v f : Nat) : Int32 := (if (wb P (wp P (msk P N v) k) (wm P (msk P N v) k)).testBit f = true then (10 : Int32) else 0) - nI (msk P N v (109 + f))
theorem bit_10 : ∀ w, w < 64 → ∀ k, k < 6 → (10 : Int32) * ((nI w >>> (nI k &&& 31)) &&& 1) = if w.testBit k = true then 10 else 0 := by first | decide | (unfold vp_in; decide)
theorem q_welfare {P : Pl} {N : Nat → Nat} {k v f n : Nat} {Q : Int32 → St → Prop} {u : St} (hP : VP P) (hn : n ≤ 64) (hv : v < n) (hf : f < pf P) (hW : WbS P N k n u) (hL : u.1 46 f = nI (N (109 + f))) (hQ : Q (wfI P N k v f) u) : s_X11_welfare (nI v) (nI f) Q u := by
  have hpf := hP.2.2.2.2.1
  unfold s_X11_welfare
  refine ⟨vp_in_nI (by omega) (by omega), ?_⟩
  refine q_pieIn (P := P) (N := N) (by omega) (by omega) hf hL ?_
  rw [nI_clamp (by omega), (hW v hv).1, bit_10 _ (wb_lt hP _) f (by omega)]
  exact hQ
theorem x_xor (a b : Nat) : nI a ^^^ nI b = nI (a ^^^ b) := by
  apply Int32.toBitVec.inj
  rw [Int32.toBitVec_xor]
  show BitVec.ofNat 32 a ^^^ BitVec.ofNat 32 b = BitVec.ofNat 32 (a ^^^ b)
  rw [BitVec.ofNat_xor]
theorem xor_lt {v f n : Nat} (hv : v < 2 ^ n) (hf : f < n) : v ^^^ 2 ^ f < 2 ^ n := Nat.xor_lt_two_pow hv (Nat.pow_lt_pow_right (by omega) hf)
def AR (P : Pl) (N : Nat → Nat) (k v : Nat) : Prop := ∀ f, f < pf P → wfI P N k (v ^^^ 2 ^ f) f ≤ wfI P N k v f
theorem q_atRest {P : Pl} {N : Nat → Nat} {k v : Nat} {Q : Int32 → St → Prop} {u : St} (hP : VP P) (hT : u.1 u.2.2.1 3 = nI (pf P)) (hv : v < 2 ^ pf P) (hW : WbS P N k (2 ^ pf P) u) (hL : ∀ f, f < pf P → u.1 46 f = nI (N (109 + f))) (h1 : AR P N k v → Q 1 u) (h2 : ¬ AR P N k v → Q 0 u) : s_X11_isAtRest (nI v) Q u := by
  have hpf := hP.2.2.2.2.1
  have h64 := pow6 hpf
  unfold s_X11_isAtRest sX11_isAtRest_p2
  refine for_up (fun m i s => sX11_isAtRest_p2n (nI v) Q m i s) (pf P) (fun i s => s = u ∧ ∀ f, f < i → wfI P N k (v ^^^ 2 ^ f) f ≤ wfI P N k v f) ?_ 0 u (by omega) ⟨rfl, fun f hf => absurd hf (by omega)⟩
  rintro m i s hi ⟨hs, ha⟩ hnext
  rw [hs]
  show sX11_isAtRest_p2b (nI v) Q (sX11_isAtRest_p2n (nI v) Q m) (nI i) u
  unfold sX11_isAtRest_p2b
  rw [hT]
  by_cases hie : i = pf P
  · rw [hie] at ha ⊢
    exact i_pos (nI_le (Nat.le_refl _) (by omega)) (h1 ha)
  refine i_neg (nI_ge (by omega) (by omega)) ?_
  rw [x_shl _ (by omega), x_xor, nI_1]
  refine q_welfare hP h64 (xor_lt hv (by omega)) (by omega) hW (hL i (by omega)) ?_
  refine q_welfare hP h64 hv (by omega) hW (hL i (by omega)) ?_
  by_cases hc : wfI P N k (v ^^^ 2 ^ i) i ≤ wfI P N k v i
  · refine i_pos hc (hnext (by omega) u ⟨rfl, fun f hf => ?_⟩)
    by_cases e : f = i
    · rw [e]
      exact hc
    · exact ha f (by omega)
  · exact i_neg hc (h2 (fun g => hc (g i (by omega))))
noncomputable def rsn (P : Pl) (N : Nat → Nat) (k : Nat) : Nat → Option Nat
  | 0 => none
  | i + 1 => @ite _ ((∃ b, rsn P N k i = some b ∧ pop i ≤ pop b) ∨ ¬ AR P N k i) (Classical.propDecidable _) (rsn P N k i) (some i)
theorem rsn_y {P : Pl} {N : Nat → Nat} {k i : Nat} (h : (∃ b, rsn P N k i = some b ∧ pop i ≤ pop b) ∨ ¬ AR P N k i) : rsn P N k (i + 1) = rsn P N k i := by
  rw [rsn]
  exact if_pos h
theorem rsn_n {P : Pl} {N : Nat → Nat} {k i : Nat} (h : ¬ ((∃ b, rsn P N k i = some b ∧ pop i ≤ pop b) ∨ ¬ AR P N k i)) : rsn P N k (i + 1) = some i := by
  rw [rsn]
  exact if_neg h
theorem rsn_lt {P : Pl} {N : Nat → Nat} {k : Nat} : ∀ i b, rsn P N k i = some b → b < i
  | 0, b, h => by
    rw [rsn] at h
    exact absurd h (by simp)
  | i + 1, b, h => by
    by_cases g : (∃ b, rsn P N k i = some b ∧ pop i ≤ pop b) ∨ ¬ AR P N k i
    · rw [rsn_y g] at h
      have := rsn_lt i b h
      omega
    · rw [rsn_n g] at h
      have := Option.some.inj h
      omega
theorem q_rest2 {P : Pl} {N : Nat → Nat} {k : Nat} {Q : Int32 → St → Prop} {u : St} (hP : VP P) (hT : u.1 u.2.2.1 3 = nI (pf P)) (hW : WbS P N k (2 ^ pf P) u) (hL : ∀ f, f < pf P → u.1 46 f = nI (N (109 + f))) (hQ : Q (oI (rsn P N k (2 ^ pf P))) u) : sX11_rest_p23 Q (-1 : Int32) (0 : Int32) u := by
  have hpf := hP.2.2.2.2.1
  have h64 := pow6 hpf
  unfold sX11_rest_p23
  have key := for_up (fun m i (s : Int32 × St) => sX11_rest_p23n Q m s.1 i s.2) (2 ^ pf P) (fun i s => s.2 = u ∧ s.1 = oI (rsn P N k i)) ?_ 0 (-1, u) (Nat.zero_le _) ⟨rfl, by rw [rsn]; rfl⟩
  · exact key
  rintro m i ⟨v, s⟩ hi ⟨hs, hv⟩ hnext
  simp only at hs hv
  rw [hs, hv]
  show sX11_rest_p23b Q (sX11_rest_p23n Q m) (oI (rsn P N k i)) (nI i) u
  unfold sX11_rest_p23b
  rw [hT, x_shl _ (by omega)]
  by_cases hie : i = 2 ^ pf P
  · rw [hie]
    exact i_pos (nI_le (Nat.le_refl _) (by omega)) hQ
  refine i_neg (nI_ge (by omega) (by omega)) ?_
  have hil : i < 2 ^ pf P := by omega
  have hkeep : ((∃ b, rsn P N k i = some b ∧ pop i ≤ pop b) ∨ ¬ AR P N k i) → sX11_rest_p74 (oI (rsn P N k i)) (nI i) Q (sX11_rest_p23n Q m) u := by
    intro g
    unfold sX11_rest_p74
    rw [nI_1]
    exact hnext hil (oI (rsn P N k i), u) ⟨rfl, (congrArg oI (rsn_y g)).symm⟩
  have hask : (¬ ∃ b, rsn P N k i = some b ∧ pop i ≤ pop b) → sX11_rest_p52 (oI (rsn P N k i)) (nI i) Q (sX11_rest_p23n Q m) u := by
    intro g
    unfold sX11_rest_p52 sX11_rest_p57
    refine i_neg (by first | decide | (unfold vp_in; decide)) ?_
    refine q_atRest hP hT hil hW hL (fun h => ?_) (fun h => ?_)
    · refine i_neg (by first | decide | (unfold vp_in; decide)) ?_
      unfold sX11_rest_p74
      rw [nI_1]
      exact hnext hil (nI i, u) ⟨rfl, (congrArg oI (rsn_n (fun z => z.elim g (fun y => y h)))).symm⟩
    · exact i_pos rfl (hkeep (Or.inr h))
  cases hr : rsn P N k i with
  | none =>
    rw [hr] at hask
    exact i_pos rfl (hask (fun z => by obtain ⟨b, hb, _⟩ := z; exact absurd hb (by simp)))
  | some b =>
    have hbi := rsn_lt i b hr
    rw [hr] at hask hkeep
    refine i_neg (fun g => by have g2 : nI b = -1 := g; rw [x_ne1 (by omega)] at g2; exact g2) ?_
    refine q_bits (s := i) (by omega) ?_
    refine q_bits (s := b) (by omega) ?_
    have hp1 := pop_le i
    have hp2 := pop_le b
    by_cases hp : pop i ≤ pop b
    · refine i_pos (nI_le hp (by omega)) ?_
      unfold sX11_rest_p57
      exact i_pos rfl (hkeep (Or.inl ⟨b, rfl, hp⟩))
    · refine i_neg (nI_ge (by omega) (by omega)) ?_
      exact hask (fun z => by obtain ⟨b', hb, h2⟩ := z; have := Option.some.inj hb; rw [← this] at h2; exact hp h2)
