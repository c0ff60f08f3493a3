/-! the least pie that leads the water to a farm -/
theorem upN_vn {P : Pl} {N : Nat → Nat} {f x : Nat} (hP : VP P) (hN : VN P N) (hf : f < pf P) (hx : x ≤ 9) : VN P (upN N (109 + f) x) := by
  have hpf := hP.2.2.2.2.1
  refine ⟨by rw [upN_n _ (by omega)]; exact hN.1, fun c hc => ?_, fun c hc h => ?_, fun g hg => ?_, fun g hg hg6 => ?_, by rw [upN_n _ (by omega)]; exact hN.2.2.2.2.2.1, fun k hk => by rw [upN_n _ (by omega)]; exact hN.2.2.2.2.2.2 k hk⟩
  · have h36 := cel_lt hP hc
    rw [upN_n _ (by omega), upN_n _ (by omega), upN_n _ (by omega)]
    exact hN.2.1 c hc
  · rw [upN_n _ (by omega)]
    exact hN.2.2.1 c hc h
  · by_cases eg : g = f
    · rw [eg, upN_s]
      omega
    · rw [upN_n _ (by omega)]
      exact hN.2.2.2.1 g hg
  · rw [upN_n _ (by omega)]
    exact hN.2.2.2.2.1 g hg hg6
theorem cLa_pie {u : St} {P : Pl} {N : Nat → Nat} {f x : Nat} (hP : VP P) (h : cLa u 47 P N) (hf : f < 6) : cLa (tI u 51 f (nI x)) 47 P (upN N (109 + f) x) := by
  refine ⟨by rw [t_n _ _ (by omega), upN_n _ (by omega)]; exact h.1, fun c hc => ?_, fun g hg => ?_, fun p hp hpa => ?_⟩
  · have h36 := cel_lt hP hc
    rw [t_n _ _ (by omega), t_n _ _ (by omega), t_n _ _ (by omega), upN_n _ (by omega), upN_n _ (by omega), upN_n _ (by omega)]
    exact h.2.1 c hc
  · by_cases eg : g = f
    · rw [eg, t_s, upN_s]
    · rw [t_n _ _ (by omega), upN_n _ (by omega)]
      exact h.2.2.1 g hg
  · rw [t_n _ _ (by omega)]
    exact h.2.2.2 p hp hpa
theorem upN_up (N : Nat → Nat) (j x y : Nat) : upN (upN N j x) j y = upN N j y := by
  funext k
  unfold upN
  by_cases h : k = j
  · first | refine i_pos h ?_ | rw [if_pos h]
    first | refine i_pos h ?_ | rw [if_pos h]
    try (with_reducible rfl)
  · first | refine i_neg h ?_ | rw [if_neg h]
    first | refine i_neg h ?_ | rw [if_neg h]
    first | refine i_neg h ?_ | rw [if_neg h]
    try (with_reducible rfl)
theorem q_tried {P : Pl} {N : Nat → Nat} {t k : Nat} {Q : St → Prop} {u : St} (hP : VP P) (hN : VN P N) (h0 : pc P ≠ 0) (hk : k < pk P) (ht : 7 ≤ t ∧ t + 16 ≤ 40) (hT : cPl u t P) (hL : cLa u 47 P N) (hB : FB u 168)
    (hQ : ∀ u', Kp (fun x _ => ¬ (165 ≤ x ∧ x ≤ 168) ∧ x ≠ t + 13) u u' → FB u' 168 → IsWay P N k (wp P N k) (wm P N k) → u'.1 165 4 = nI (wb P (wp P N k) (wm P N k)) → Q u') : s_X10_lead 165 t 47 (nI k) Q u := by
  refine q_lead hP hN h0 hk ht (by omega) (by omega) rfl rfl hT hL hB (fun u' kk w fb => ?_)
  have wc := wayC_of w
  exact hQ u' (kp_m kk (fun a k h => by omega)) fb wc.1 wc.2.2.2.2.2.1
theorem q_waters {a w f : Nat} {Q : Int32 → St → Prop} {u : St} (he : u.1 a 4 = nI w) (hw : w < 64) (hf : f < 6) (h1 : w.testBit f = true → Q 1 u) (h2 : ¬ w.testBit f = true → Q 0 u) : s_X10_waters a (nI f) Q u := by
  unfold s_X10_waters
  rw [he]
  by_cases h : w.testBit f = true
  · exact i_pos (by rw [bit_rd w hw f hf]; exact h) (h1 h)
  · exact i_neg (by rw [bit_rd w hw f hf]; exact h) (h2 h)
def Wt (P : Pl) (N : Nat → Nat) (k f : Nat) : Prop := isW P (wp P N k) (wm P N k) f
def BidA (P : Pl) (N : Nat → Nat) (k f : Nat) (r : Option Nat) : Prop := (r = none ∧ ∀ x, x < 10 → ¬ Wt P (upN N (109 + f) x) k f) ∨ (∃ x, x < 10 ∧ r = some x ∧ Wt P (upN N (109 + f) x) k f ∧ ∀ y, y < x → ¬ Wt P (upN N (109 + f) y) k f)
theorem bidA_u {P : Pl} {N : Nat → Nat} {k f : Nat} {r r' : Option Nat} (h : BidA P N k f r) (h' : BidA P N k f r') : r = r' := by
  rcases h with ⟨a, b⟩ | ⟨x, a, b, c, d⟩
  · rcases h' with ⟨a', b'⟩ | ⟨x', a', b', c', d'⟩
    · rw [a, a']
    · exact absurd c' (b x' a')
  · rcases h' with ⟨a', b'⟩ | ⟨x', a', b', c', d'⟩
    · exact absurd c (b' x a)
    · rw [b, b']
      by_cases e1 : x < x'
      · exact absurd c (d' x e1)
      · by_cases e2 : x' < x
        · exact absurd c' (d x' e2)
        · rw [show x = x' by omega]
def SB (t a k : Nat) : Prop := ¬ (47 ≤ a ∧ a ≤ 51) ∧ ¬ (165 ≤ a ∧ a ≤ 168) ∧ a ≠ t + 13
theorem ctx_SB {u u' : St} {P : Pl} {N : Nat → Nat} (hC : Ctx u P N) (hK : Kp (SB u.2.2.1) u u') (hB : FB u' 168) : Ctx u' P N := by
  have ht := ctx_t hC
  refine ⟨inv0_K hC.1 hK (fun a k h => sp_c (S := SB u.2.2.1) h ?_ ?_ ?_ ?_ ?_ ?_ ?_ ?_ ?_ ?_ ?_), k_ways hC.2.1 hK (fun a k h => by unfold SB; omega), hB, fb_K hC.2.2.2 hK (fun k => by unfold SB; omega)⟩
  · unfold DTape SB
    omega
  · unfold DFault SB
    omega
  · unfold DRef SB
    omega
  · unfold DPic SB
    omega
  · unfold DWords SB
    omega
  · unfold DTold SB
    omega
  · unfold DPlan SB
    omega
  · unfold DSight SB
    omega
  · unfold DLand SB
    omega
  · unfold DPast SB
    omega
  · unfold DNo SB
    omega
theorem q_bidt {P : Pl} {N : Nat → Nat} {k f i : Nat} {Q : Int32 → St → Prop} {K : Int32 → St → Prop} {u s2 : St} (hC : Ctx u P N) (hk : k < pk P) (hf : f < pf P) (hQ : ∀ r u', BidA P N k f r → Ctx u' P N → Q (oI r) u') (hi : i < 10) (hno : ∀ x, x < i → ¬ Wt P (upN N (109 + f) x) k f)
    (hnext : ∀ s', Kp (SB u.2.2.1) u s' → FB s' 168 → cLa s' 47 P (upN N (109 + f) i) → (∀ x, x < i + 1 → ¬ Wt P (upN N (109 + f) x) k f) → K (nI (i + 1)) s') (hL2 : cLa s2 47 P (upN N (109 + f) i)) (hK2 : Kp (SB u.2.2.1) u s2) (hB2 : FB s2 168) : s_X10_lead 165 s2.2.2.1 47 (nI k) (fun u18 => s_X10_waters 165 (nI f) (fun r20 u21 => if r20 = 0 then K (nI i + (1 : Int32)) u21 else Q (nI i) u21) u18) s2 := by
  have hP := ctx_vp hC
  have hN := ctx_vn hC
  have hpf := hP.2.2.2.2.1
  have ht := ctx_t hC
  have h0 := pk_pc hP hk
  have hT := ctx_c hC
  have hV := upN_vn (x := i) hP hN hf (by omega)
  rw [hK2.2.2]
  refine q_tried hP hV h0 hk ht (cPl_K hT hK2 (fun a k h1 h2 h3 h4 => by unfold SB; omega)) hL2 hB2 (fun u3 k3 b3 w3 e3 => ?_)
  have hwl := wb_lt hP (p := wp P (upN N (109 + f) i) k) (wm P (upN N (109 + f) i) k)
  have hbit := isW_bit hP (w_cel hP h0 w3).2.2 hf
  have hK3 : Kp (SB u.2.2.1) u u3 := kp_t hK2 (kp_m k3 (fun a k h => by unfold SB at h; omega))
  refine q_waters e3 hwl (by omega) (fun hb => ?_) (fun hb => ?_)
  · refine i_neg (by first | decide | (unfold vp_in; decide)) ?_
    exact hQ (some i) u3 (Or.inr ⟨i, by omega, rfl, hbit.1 hb, hno⟩) (ctx_SB hC hK3 b3)
  · refine i_pos rfl ?_
    rw [nI_1]
    refine hnext u3 hK3 b3 (cLa_K hL2 k3 (fun a k h1 h2 h3 => by omega)) (fun x hx => ?_)
    by_cases e : x = i
    · rw [e]
      exact fun g => hb (hbit.2 g)
    · exact hno x (by omega)
theorem clamp6 {f : Nat} (hf : f < 6) : (nI f).toNatClampNeg = f := nI_clamp (by omega)
theorem q_bidv {k f m i : Nat} {Q : Int32 → St → Prop} {s : St} (hf : f < 6) (hi : i < 10) (h : s_X10_lead 165 (tI s 51 f (nI i)).2.2.1 47 (nI k) (fun u18 => s_X10_waters 165 (nI f) (fun r20 u21 => if r20 = 0 then sX11_bid_p37n (nI f) (nI k) Q m (nI i + (1 : Int32)) u21 else Q (nI i) u21) u18) (tI s 51 f (nI i))) : sX11_bid_p37b (nI f) (nI k) Q (sX11_bid_p37n (nI f) (nI k) Q m) (nI i) s := by
  unfold sX11_bid_p37b
  have h9 : ¬ nI 9 < nI i := nI_nlt (by omega) (by omega)
  refine i_neg h9 ⟨vp_in_nI (by omega) (by omega), ?_⟩
  rw [clamp6 hf]
  exact bnd_i h
theorem q_bids {P : Pl} {N : Nat → Nat} {k f m i y : Nat} {Q : Int32 → St → Prop} {u s : St} (hC : Ctx u P N) (hk : k < pk P) (hf : f < pf P) (hQ : ∀ r u', BidA P N k f r → Ctx u' P N → Q (oI r) u') (hi : i ≤ 10) (hK : Kp (SB u.2.2.1) u s) (hB : FB s 168) (hL : cLa s 47 P (upN N (109 + f) y)) (hno : ∀ x, x < i → ¬ Wt P (upN N (109 + f) x) k f)
    (hnext : i < 10 → ∀ s', Kp (SB u.2.2.1) u s' → FB s' 168 → cLa s' 47 P (upN N (109 + f) i) → (∀ x, x < i + 1 → ¬ Wt P (upN N (109 + f) x) k f) → sX11_bid_p37n (nI f) (nI k) Q m (nI (i + 1)) s') : sX11_bid_p37n (nI f) (nI k) Q (m + 1) (nI i) s := by
  have hP := ctx_vp hC
  have hN := ctx_vn hC
  have hpf := hP.2.2.2.2.1
  have ht := ctx_t hC
  have h0 := pk_pc hP hk
  have hT := ctx_c hC
  show sX11_bid_p37b (nI f) (nI k) Q (sX11_bid_p37n (nI f) (nI k) Q m) (nI i) s
  by_cases hie : i = 10
  · unfold sX11_bid_p37b
    have h9 : nI 9 < nI i := nI_lt (by omega) (by omega)
    exact i_pos h9 (hQ none s (Or.inl ⟨rfl, fun x hx => hno x (by omega)⟩) (ctx_SB hC hK hB))
  have hL2 := cLa_pie (x := i) hP hL (show f < 6 by omega)
  rw [upN_up] at hL2
  have hK2 : Kp (SB u.2.2.1) u (tI s 51 f (nI i)) := kp_I hK (by unfold SB; omega)
  have hB2 : FB (tI s 51 f (nI i)) 168 := fb_K hB (S := fun a _ => a ≠ 51) (kp_I (kp_r s) (by omega)) (fun j => by omega)
  exact q_bidv (by omega) (by omega) (q_bidt (K := sX11_bid_p37n (nI f) (nI k) Q m) hC hk hf hQ (by omega) hno (hnext (by omega)) hL2 hK2 hB2)
theorem upN_id (N : Nat → Nat) (j : Nat) : upN N j (N j) = N := by
  funext k
  unfold upN
  by_cases h : k = j
  · first | refine i_pos h ?_ | rw [if_pos h]
    rw [h]
  · first | refine i_neg h ?_ | rw [if_neg h]
    try (with_reducible rfl)
theorem q_bidl {P : Pl} {N : Nat → Nat} {k f : Nat} {Q : Int32 → St → Prop} {u u1 : St} (hC : Ctx u P N) (hk : k < pk P) (hf : f < pf P) (hQ : ∀ r u', BidA P N k f r → Ctx u' P N → Q (oI r) u') (hK : Kp (SB u.2.2.1) u u1) (hB : FB u1 168) (hL : cLa u1 47 P N) : sX11_bid_p37 (nI f) (nI k) Q (0 : Int32) u1 := by
  unfold sX11_bid_p37
  refine for_up (fun m i s => sX11_bid_p37n (nI f) (nI k) Q m i s) 10 (fun i s => Kp (SB u.2.2.1) u s ∧ FB s 168 ∧ (∃ y, cLa s 47 P (upN N (109 + f) y)) ∧ ∀ x, x < i → ¬ Wt P (upN N (109 + f) x) k f) ?_ 0 u1 (by omega) ⟨hK, hB, ⟨N (109 + f), by rw [upN_id]; exact hL⟩, fun x hx => absurd hx (by omega)⟩
  rintro m i s hi ⟨a, b, ⟨y, c⟩, d⟩ hnext
  exact q_bids hC hk hf hQ hi a b c d (fun h s' a b c d => hnext h s' ⟨a, b, ⟨i, c⟩, d⟩)
theorem q_bid {P : Pl} {N : Nat → Nat} {k f : Nat} {Q : Int32 → St → Prop} {u : St} (hC : Ctx u P N) (hk : k < pk P) (hf : f < pf P) (hQ : ∀ r u', BidA P N k f r → Ctx u' P N → Q (oI r) u') : s_X1_copy 47 42 (fun u10 => sX11_bid_p37 (nI f) (nI k) Q (0 : Int32) u10) u := by
  have hP := ctx_vp hC
  obtain ⟨Y, E, n0, o, w, Sk, ys, g1, g2, g3⟩ := past_of hC.1.2.2.2.2.2.2.2.2.2.1
  refine q_copy hP lsh_47 lsh_42 (by omega) (ctx_l hC) g2 (fun u1 k1 l1 _ => ?_)
  exact q_bidl hC hk hf hQ (kp_m k1 (fun a k h => by unfold SB at h; omega)) (fb_K hC.2.2.1 k1 (fun j => by omega)) l1
def SBr (f a k : Nat) : Prop := SM a k ∧ ¬ (a = 241 ∧ k = 109 + f)
theorem mLa_br {u s : St} {N : Nat → Nat} {f y : Nat} (hL : mLa u N) (hK : Kp (SBr f) u s) (hy : s.1 241 (109 + f) = nI y) : mLa s (upN N (109 + f) y) := by
  intro k hk
  by_cases e : k = 109 + f
  · rw [e, upN_s]
    exact hy
  · rw [upN_n _ e, hK.1 241 k (by unfold SBr SM; omega)]
    exact hL k hk
theorem kp_br {u s : St} {N : Nat → Nat} {f : Nat} (hL : mLa u N) (hf : f < 6) (hK : Kp (SBr f) u s) : Kp SM u (tI s 241 (109 + f) (nI (N (109 + f)))) := by
  refine ⟨fun a k h => ?_, hK.2.1, hK.2.2⟩
  by_cases e : a = 241 ∧ k = 109 + f
  · rw [e.1, e.2, t_s, hL _ (by omega)]
  · rw [t_n _ _ (by omega), hK.1 a k ⟨h, e⟩]
def BidP (P : Pl) (N : Nat → Nat) (k f i : Nat) (r : Option Nat) : Prop := (r = none ∧ ∀ x, x < i → ¬ Wt P (upN N (109 + f) x) k f) ∨ (∃ x, x < i ∧ x < 10 ∧ r = some x ∧ Wt P (upN N (109 + f) x) k f ∧ ∀ y, y < x → ¬ Wt P (upN N (109 + f) y) k f)
theorem r_bid {P : Pl} {N : Nat → Nat} {k f : Nat} {Q : Int32 → St → Prop} {u : St} (hC : Ctx u P N) (hk : k < pk P) (hf : f < pf P) (hQ : ∀ r u', BidA P N k f r → Ctx u' P N → Q (oI r) u') : sX12_bid_p31 (nI f) (nI k) (nI (N (109 + f))) Q (-1 : Int32) (0 : Int32) u := by
  have hP := ctx_vp hC
  have hN := ctx_vn hC
  have hpf := hP.2.2.2.2.1
  have h0 := pk_pc hP hk
  have hL := ctx_n hC
  have hM := ctx_m hC
  have hpie := hN.2.2.2.1 f hf
  have e9 : (109 : Int32) + nI f = nI (109 + f) := nI_add 109 f
  have hend : ∀ (s : St) (r : Option Nat), Kp (SBr f) u s → BidA P N k f r → sX12_bid_p78 (nI f) (nI (N (109 + f))) (oI r) Q s := by
    intro s r hK hr
    unfold sX12_bid_p78
    rw [e9, nI_clamp (by omega)]
    exact ⟨vp_in_nI (by omega) (by omega), hQ r _ hr (ctx_SM hC (kp_br hL (by omega) hK))⟩
  unfold sX12_bid_p31
  have key := for_up (fun m i (s : Int32 × St) => sX12_bid_p31n (nI f) (nI k) (nI (N (109 + f))) Q m s.1 i s.2) 10 (fun i s => ∃ r, s.1 = oI r ∧ BidP P N k f i r ∧ Kp (SBr f) u s.2) ?_ 0 (-1, u) (by omega) ⟨none, rfl, Or.inl ⟨rfl, fun x hx => absurd hx (by omega)⟩, kp_r u⟩
  · exact key
  rintro m i ⟨v, s⟩ hi ⟨r, hv, hb, hK⟩ hnext
  simp only at hv hK
  rw [hv]
  show sX12_bid_p31b (nI f) (nI k) (nI (N (109 + f))) Q (sX12_bid_p31n (nI f) (nI k) (nI (N (109 + f))) Q m) (oI r) (nI i) s
  unfold sX12_bid_p31b
  by_cases hie : i = 10
  · have h9 : nI 9 < nI i := nI_lt (by omega) (by omega)
    refine i_pos h9 (hend s r hK ?_)
    rcases hb with hb | ⟨x, a, b, c⟩
    · exact Or.inl ⟨hb.1, fun x hx => hb.2 x (by omega)⟩
    · exact Or.inr ⟨x, b, c⟩
  have h9 : ¬ nI 9 < nI i := nI_nlt (by omega) (by omega)
  refine i_neg h9 ?_
  rcases hb with hb | ⟨x, a, b, c⟩
  · rw [hb.1]
    refine i_pos rfl ?_
    rw [e9, nI_clamp (by omega)]
    refine ⟨vp_in_nI (by omega) (by omega), ?_⟩
    unfold bnd
    have hK2 : Kp (SBr f) u (tI s 241 (109 + f) (nI i)) := kp_I hK (by unfold SBr; omega)
    have hy2 : (tI s 241 (109 + f) (nI i)).1 241 (109 + f) = nI i := t_s _ _ _ _
    generalize tI s 241 (109 + f) (nI i) = s2 at hK2 hy2
    dsimp only
    have hV := upN_vn (x := i) hP hN hf (by omega)
    have hM2 : mPl s2 P := mPl_K hM hK2 (fun a k h => by unfold SBr SM; omega)
    refine r_laysWay hP hV h0 hk hM2 (mLa_br hL hK2 hy2) (fun u3 p mm w3 n3 k3 => ?_)
    have hs := w_spec w3
    have hK3 : Kp (SBr f) u u3 := kp_t hK2 (kp_m (kp_SW k3) (fun a k h => h.1))
    have hM3 : mPl u3 P := mPl_K hM hK3 (fun a k h => by unfold SBr SM; omega)
    have hiff : isW P p mm f ↔ Wt P (upN N (109 + f) i) k f := by
      unfold Wt isW
      rw [hs.2.1, stp_c (p := p) (p' := wp P (upN N (109 + f) i) k) (m := mm) (fun j hj => (hs.2.2 j hj).symm)]
    refine r_isWatered hP hM3 n3 (pw_36 hP h0 w3.1) hf (fun hw => ?_) (fun hw => ?_)
    · refine i_neg (by first | decide | (unfold vp_in; decide)) ?_
      unfold sX12_bid_p72
      rw [nI_1]
      exact hnext (by omega) (nI i, u3) ⟨some i, rfl, Or.inr ⟨i, by omega, by omega, rfl, hiff.1 hw, hb.2⟩, hK3⟩
    · refine i_pos rfl ?_
      unfold sX12_bid_p72
      rw [nI_1]
      refine hnext (by omega) (oI none, u3) ⟨none, rfl, Or.inl ⟨rfl, fun x hx => ?_⟩, hK3⟩
      by_cases e : x = i
      · rw [e]
        exact fun g => hw (hiff.2 g)
      · exact hb.2 x (by omega)
  · refine i_neg ?_ (hend s r hK (Or.inr ⟨x, b, c⟩))
    rw [c.1]
    intro g
    have g2 : nI x = -1 := g
    rw [x_ne1 (by omega)] at g2
    exact g2
theorem call_bid (v1 v2 : Int32) : Call (s_X11_bid v1 v2) (s_X12_bid v1 v2) := by
  rintro u ⟨P, N, hC⟩
  have hC : Ctx u P N := hC
  have hP := ctx_vp hC
  have hpf := hP.2.2.2.2.1
  unfold s_X11_bid
  have hR1 : (¬ ∃ f, f < pf P ∧ v1 = nI f) → s_X12_bid v1 v2 (fun r2 u2 => (-1 : Int32) = r2 ∧ Inv u2) u := by
    intro hn
    unfold s_X12_bid
    refine r_isFarm hP (ctx_m hC) (fun f hf e => absurd ⟨f, hf, e⟩ hn) (fun _ => ?_)
    exact i_pos rfl ⟨rfl, inv_of hC⟩
  refine q_isFarm hP (ctx_c hC) (fun f hf e => ?_) (fun hn => i_pos rfl (hR1 hn))
  refine i_neg (by first | decide | (unfold vp_in; decide)) ?_
  refine q_isCaller hP (ctx_c hC) (fun k hk e2 => ?_) (fun hn => i_pos rfl ?_)
  · refine i_neg (by first | decide | (unfold vp_in; decide)) ?_
    rw [e, e2]
    refine q_bid hC hk hf (fun r u1 hr hC1 => ?_)
    unfold s_X12_bid
    refine r_isFarm hP (ctx_m hC1) (fun _ _ _ => ?_) (fun hn => absurd ⟨f, hf, rfl⟩ hn)
    refine i_neg (by first | decide | (unfold vp_in; decide)) ?_
    refine r_isCaller hP (ctx_m hC1) (fun _ _ _ => ?_) (fun hn => absurd ⟨k, hk, rfl⟩ hn)
    refine i_neg (by first | decide | (unfold vp_in; decide)) ?_
    refine r_pieOf (ctx_n hC1) (by omega) ?_
    refine r_bid hC1 hk hf (fun r2 u2 hr2 hC2 => ⟨?_, inv_of hC2⟩)
    rw [bidA_u hr hr2]
  · unfold s_X12_bid
    refine r_isFarm hP (ctx_m hC) (fun _ _ _ => ?_) (fun hn => absurd ⟨f, hf, e⟩ hn)
    refine i_neg (by first | decide | (unfold vp_in; decide)) ?_
    refine r_isCaller hP (ctx_m hC) (fun k hk e2 => absurd ⟨k, hk, e2⟩ hn) (fun _ => ?_)
    exact i_pos rfl ⟨rfl, inv_of hC⟩
