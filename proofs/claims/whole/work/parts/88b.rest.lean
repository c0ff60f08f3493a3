/-! the sets of bakers at rest -/
def msk (P : Pl) (N : Nat → Nat) (v : Nat) : Nat → Nat := fun k => if (109 ≤ k ∧ k < 109 + pf P) ∧ ¬ v.testBit (k - 109) = true then 0 else N k
theorem msk_o {P : Pl} {N : Nat → Nat} {v k : Nat} (h : ¬ (109 ≤ k ∧ k < 109 + pf P)) : msk P N v k = N k := by
  unfold msk
  first | refine i_neg (fun g => h g.1) ?_ | rw [if_neg (fun g => h g.1)]
  try (with_reducible rfl)
theorem msk_y {P : Pl} {N : Nat → Nat} {v f : Nat} (h : v.testBit f = true) : msk P N v (109 + f) = N (109 + f) := by
  unfold msk
  first | refine i_neg (fun g => g.2 (by rw [show 109 + f - 109 = f by omega]; exact h)) ?_ | rw [if_neg (fun g => g.2 (by rw [show 109 + f - 109 = f by omega]; exact h))]
  try (with_reducible rfl)
theorem msk_n {P : Pl} {N : Nat → Nat} {v f : Nat} (hf : f < pf P) (h : ¬ v.testBit f = true) : msk P N v (109 + f) = 0 := by
  unfold msk
  first | refine i_pos ⟨by omega, by rw [show 109 + f - 109 = f by omega]; exact h⟩ ?_ | rw [if_pos ⟨by omega, by rw [show 109 + f - 109 = f by omega]; exact h⟩]
  try (with_reducible rfl)
theorem msk_le (P : Pl) (N : Nat → Nat) (v k : Nat) : msk P N v k ≤ N k := by
  unfold msk
  by_cases h : (109 ≤ k ∧ k < 109 + pf P) ∧ ¬ v.testBit (k - 109) = true
  · first | refine i_pos h ?_ | rw [if_pos h]
    try (with_reducible rfl)
    omega
  · first | refine i_neg h ?_ | rw [if_neg h]
    try (with_reducible rfl)
    omega
theorem msk_vn {P : Pl} {N : Nat → Nat} (hP : VP P) (hN : VN P N) (v : Nat) : VN P (msk P N v) := by
  have hpf := hP.2.2.2.2.1
  refine ⟨?_, fun c hc => ?_, fun c hc h => ?_, fun g hg => ?_, fun g hg hg6 => ?_, ?_, fun k hk => ?_⟩
  · exact Nat.le_trans (msk_le P N v 0) hN.1
  · have := hN.2.1 c hc
    exact ⟨Nat.le_trans (msk_le P N v _) this.1, Nat.le_trans (msk_le P N v _) this.2.1, Nat.le_trans (msk_le P N v _) this.2.2⟩
  · have := hN.2.2.1 c hc h
    have h2 := msk_le P N v (2 + 3 * c)
    omega
  · exact Nat.le_trans (msk_le P N v _) (hN.2.2.2.1 g hg)
  · have := hN.2.2.2.2.1 g hg hg6
    have h2 := msk_le P N v (109 + g)
    omega
  · exact Nat.le_trans (msk_le P N v _) hN.2.2.2.2.2.1
  · exact Nat.le_trans (msk_le P N v _) (hN.2.2.2.2.2.2 k hk)
theorem q_pieIn {P : Pl} {N : Nat → Nat} {v f : Nat} {Q : Int32 → St → Prop} {u : St} (hv : v < 64) (hf : f < 6) (hfp : f < pf P) (hL : u.1 46 f = nI (N (109 + f))) (hQ : Q (nI (msk P N v (109 + f))) u) : s_X11_pieIn (nI v) (nI f) Q u := by
  unfold s_X11_pieIn
  by_cases h : v.testBit f = true
  · refine i_pos (by rw [bit_rd v hv f hf]; exact h) ⟨vp_in_nI (by omega) (by omega), ?_⟩
    rw [clamp6 hf, hL]
    rw [msk_y h] at hQ
    exact hQ
  · refine i_neg (by rw [bit_rd v hv f hf]; exact h) ?_
    rw [msk_n hfp h] at hQ
    exact hQ
/-- a trial land, its pies being laid for the set v -/
def Trl (P : Pl) (N : Nat → Nat) (v j : Nat) (s : St) : Prop := ∃ N', cLa s 47 P N' ∧ (∀ k, ¬ (109 ≤ k ∧ k < 109 + pf P) → N' k = N k) ∧ ∀ g, g < j → N' (109 + g) = msk P N v (109 + g)
theorem trl_f {P : Pl} {N : Nat → Nat} {v : Nat} {s : St} (h : Trl P N v (pf P) s) : cLa s 47 P (msk P N v) := by
  obtain ⟨N', a, b, c⟩ := h
  have e : N' = msk P N v := by
    funext k
    by_cases hk : 109 ≤ k ∧ k < 109 + pf P
    · have := c (k - 109) (by omega)
      rw [show 109 + (k - 109) = k by omega] at this
      exact this
    · rw [b k hk, msk_o hk]
  rw [← e]
  exact a
theorem trl_s {P : Pl} {N : Nat → Nat} {v j : Nat} {s : St} (hP : VP P) (h : Trl P N v j s) (hj : j < pf P) : Trl P N v (j + 1) (tI s 51 j (nI (msk P N v (109 + j)))) := by
  have hpf := hP.2.2.2.2.1
  obtain ⟨N', a, b, c⟩ := h
  refine ⟨_, cLa_pie hP a (by omega), fun k hk => ?_, fun g hg => ?_⟩
  · rw [upN_n _ (by omega)]
    exact b k hk
  · by_cases e : g = j
    · rw [e, upN_s]
    · rw [upN_n _ (by omega)]
      exact c g (by omega)
def SBs (t a k : Nat) : Prop := SB t a k ∧ a ≠ 174
def WbS (P : Pl) (N : Nat → Nat) (k n : Nat) (s : St) : Prop := ∀ v, v < n → s.1 174 v = nI (wb P (wp P (msk P N v) k) (wm P (msk P N v) k)) ∧ IsWay P (msk P N v) k (wp P (msk P N v) k) (wm P (msk P N v) k)
theorem q_set {P : Pl} {N : Nat → Nat} {k v : Nat} {Q : St → Prop} {K : Int32 → St → Prop} {u s : St} (hC : Ctx u P N) (hk : k < pk P) (hv : v < 64) (hK : Kp (SBs u.2.2.1) u s) (hB : FB s 168) (hT0 : Trl P N v 0 s) (hW : WbS P N k v s)
    (hnext : ∀ s', Kp (SBs u.2.2.1) u s' → FB s' 168 → Trl P N (v + 1) 0 s' → WbS P N k (v + 1) s' → K (nI (v + 1)) s') : sX11_waterBySets_p28 (nI k) (nI v) Q K (0 : Int32) s := by
  have hP := ctx_vp hC
  have hN := ctx_vn hC
  have hpf := hP.2.2.2.2.1
  have ht := ctx_t hC
  have h0 := pk_pc hP hk
  have hT := ctx_c hC
  have hL := ctx_l hC
  unfold sX11_waterBySets_p28
  refine for_up (fun m i s => sX11_waterBySets_p28n (nI k) (nI v) Q K m i s) (pf P) (fun j s => Kp (SBs u.2.2.1) u s ∧ FB s 168 ∧ Trl P N v j s ∧ WbS P N k v s) ?_ 0 s (by omega) ⟨hK, hB, hT0, hW⟩
  rintro m j s1 hj ⟨hK1, hB1, hT1, hW1⟩ hnext1
  show sX11_waterBySets_p28b (nI k) (nI v) Q K (sX11_waterBySets_p28n (nI k) (nI v) Q K m) (nI j) s1
  unfold sX11_waterBySets_p28b
  rw [hK1.2.2, hK1.1 u.2.2.1 3 (by unfold SBs SB; omega), hT.1.2.2.2.1]
  by_cases hje : j = pf P
  · rw [hje] at hT1 ⊢
    refine i_pos (nI_le (Nat.le_refl _) (by omega)) ?_
    refine q_tried hP (msk_vn hP hN v) h0 hk ht (cPl_K hT hK1 (fun a k h1 h2 h3 h4 => by unfold SBs SB; omega)) (trl_f hT1) hB1 (fun u3 k3 b3 w3 e3 => ?_)
    rw [nI_1, nI_clamp (by omega), e3]
    refine ⟨vp_in_nI (by omega) (by omega), bnd_i ?_⟩
    have k4 : Kp (fun a _ => a ≠ 174) u3 (tI u3 174 v (nI (wb P (wp P (msk P N v) k) (wm P (msk P N v) k)))) := kp_I (kp_r u3) (by omega)
    refine hnext _ (kp_t hK1 (kp_t (kp_m k3 (fun a k h => by unfold SBs SB at h; omega)) (kp_m k4 (fun a k h => by unfold SBs at h; omega)))) (fb_K b3 k4 (fun j => by omega)) ⟨msk P N v, cLa_K (cLa_K (trl_f hT1) k3 (fun a k h1 h2 h3 => by omega)) k4 (fun a k h1 h2 h3 => by omega), fun k hk => msk_o hk, fun g hg => absurd hg (by omega)⟩ (fun x hx => ?_)
    by_cases e : x = v
    · rw [e, t_s]
      exact ⟨rfl, w3⟩
    · rw [t_n _ _ (by omega), k3.1 174 x (by omega)]
      exact hW1 x (by omega)
  · refine i_neg (nI_ge (by omega) (by omega)) ?_
    refine q_pieIn (P := P) (N := N) hv (by omega) (by omega) (by rw [hK1.1 46 j (by unfold SBs SB; omega)]; exact hL.2.2.1 j (by omega)) ?_
    rw [nI_1, clamp6 (by omega)]
    refine ⟨vp_in_nI (by omega) (by omega), bnd_i ?_⟩
    have k4 : Kp (fun a _ => a ≠ 51) s1 (tI s1 51 j (nI (msk P N v (109 + j)))) := kp_I (kp_r s1) (by omega)
    refine hnext1 (by omega) _ ⟨kp_t hK1 (kp_m k4 (fun a k h => by unfold SBs SB at h; omega)), fb_K hB1 k4 (fun j => by omega), trl_s hP hT1 (by omega), fun x hx => ?_⟩
    rw [k4.1 174 x (by omega)]
    exact hW1 x hx
