/-! ===== ask ===== -/
theorem r_qKind {X : Tx} {p : Nat} {g : Bool} {Q : Int32 → St → Prop} {u : St} (hG : gWords u) (h : Ma u X p g) (h1 : ∀ u' k, wIn X p g (wds 14) = some k → Kp SXr u u' → Ma u' X (lnx X p) true → Q (nI k) u') (h0 : ∀ u', wIn X p g (wds 14) = none → Kp SXr u u' → Mf u' X (1, lst X p) → Q 5 u') : s_X12_qKind Q u := by
  unfold s_X12_qKind sX12_qKind_p76
  have hg : ∀ s, Kp SXr u s → gWords s := fun s k => k_words hG k (fun a k h => by unfold DWords at h; unfold SXr; omega)
  refine r_takes (v := 255) (w := [102, 105, 114, 115, 116]) (by omega) (wd_of (q := (255, [102, 105, 114, 115, 116])) (hg _ (kp_r u)) (by first | decide | (unfold vp_in; decide))) h (fun s k y m => i_neg (by first | decide | (unfold vp_in; decide)) (i_neg (by first | decide | (unfold vp_in; decide)) (h1 s 0 (by rw [wIn_w y]; rfl) (kp_t (kp_r u) k) m))) (fun s0 k0 b0 n0 => i_pos rfl ?_)
  have kk0 := kp_t (kp_r u) k0
  refine r_takes (v := 256) (w := [108, 97, 115, 116]) (by omega) (wd_of (q := (256, [108, 97, 115, 116])) (hg _ kk0) (by first | decide | (unfold vp_in; decide))) b0.1 (fun s k y m => i_neg (by first | decide | (unfold vp_in; decide)) (i_neg (by first | decide | (unfold vp_in; decide)) (h1 s 1 (by rw [wIn_w y]; rfl) (kp_t kk0 k) m))) (fun s1 k1 b1 n1 => i_pos rfl ?_)
  have kk1 := kp_t kk0 k1
  refine r_takes (v := 257) (w := [111, 102, 116, 101, 110]) (by omega) (wd_of (q := (257, [111, 102, 116, 101, 110])) (hg _ kk1) (by first | decide | (unfold vp_in; decide))) b1.1 (fun s k y m => i_neg (by first | decide | (unfold vp_in; decide)) (i_neg (by first | decide | (unfold vp_in; decide)) (h1 s 2 (by rw [wIn_w y]; rfl) (kp_t kk1 k) m))) (fun s2 k2 b2 n2 => i_pos rfl ?_)
  have kk2 := kp_t kk1 k2
  refine r_takes (v := 258) (w := [116, 111, 116, 97, 108]) (by omega) (wd_of (q := (258, [116, 111, 116, 97, 108])) (hg _ kk2) (by first | decide | (unfold vp_in; decide))) b2.1 (fun s k y m => i_neg (by first | decide | (unfold vp_in; decide)) (i_neg (by first | decide | (unfold vp_in; decide)) (h1 s 3 (by rw [wIn_w y]; rfl) (kp_t kk2 k) m))) (fun s3 k3 b3 n3 => i_pos rfl ?_)
  have kk3 := kp_t kk2 k3
  refine r_takes (v := 259) (w := [109, 111, 115, 116]) (by omega) (wd_of (q := (259, [109, 111, 115, 116])) (hg _ kk3) (by first | decide | (unfold vp_in; decide))) b3.1 (fun s k y m => i_neg (by first | decide | (unfold vp_in; decide)) (i_neg (by first | decide | (unfold vp_in; decide)) (h1 s 4 (by rw [wIn_w y]; rfl) (kp_t kk3 k) m))) (fun s4 k4 b4 n4 => i_pos rfl ?_)
  have kk4 := kp_t kk3 k4
  refine i_pos rfl (r_asks (v := 260) (w := [108, 101, 97, 115, 116]) (by omega) (wd_of (q := (260, [108, 101, 97, 115, 116])) (hg _ kk4) (by first | decide | (unfold vp_in; decide))) b4.1 (fun s k y m => h1 s 5 (by rw [wIn_w y]; rfl) (kp_t kk4 k) m) (fun s k n5 f => h0 s (wIn_none (fun w hw => ?_)) (kp_t kk4 k) f))
  have hm : w = [102, 105, 114, 115, 116] ∨ w = [108, 97, 115, 116] ∨ w = [111, 102, 116, 101, 110] ∨ w = [116, 111, 116, 97, 108] ∨ w = [109, 111, 115, 116] ∨ w = [108, 101, 97, 115, 116] := by
    simpa [wds] using hw
  rcases hm with rfl | rfl | rfl | rfl | rfl | rfl
  · exact n0
  · exact n1
  · exact n2
  · exact n3
  · exact n4
  · exact n5
/-- what the reference does with a QUESTION's text -/
theorem r_askT {X : Tx} {Q : Int64 → St → Prop} {u : St} (hG : gWords u) (h57 : u.1 198 57 = nI 2) (hm : Ma u X 0 false) (hV : Wt' u []) (hL : Cd u []) (h112 : u.1 198 112 = nI 0) (r : Except (Nat × Nat) (Nat × List Nat)) (hr : (∃ e, r = .error e ∧ QEr X e) ∨ ∃ k c, r = .ok (k, c) ∧ QOk X k c)
    (h1 : ∀ u' k c, r = .ok (k, c) → Kp SYq u u' → u'.1 198 5 = 0 → u'.1 198 6 = -1 → Cd u' c → sX12_ask_p133 (nI k) Q u') (h0 : ∀ u' e v, r = .error e → Kp SYq u u' → Mf u' X e → sX12_ask_p133 v Q u') : s_X12_qKind (fun r12 u13 => if (u13.1 198 5) = 0 then (if (3 : Int32) ≤ r12 then (sX12_ask_p98 r12 Q u13) else (s_X12_qTest (fun u15 => sX12_ask_p109 r12 Q u15) u13)) else (sX12_ask_p98 r12 Q u13)) u := by
  refine r_qKind hG hm (fun u1 k hw k1 m1 => ?_) (fun u1 hw k1 f1 => ?_)
  · have hk6 : k < 6 := wIn_b hw
    have hwl := wrd_lt (Nat.zero_le _) (Or.inl (wIn_get hw).1)
    have h109F : ∀ u2 e, Kp SYq u u2 → Mf u2 X e → r = .error e → sX12_ask_p109 (nI k) Q u2 := by
      intro u2 e k2 f2 hre
      unfold sX12_ask_p109
      exact i_neg (mf_bad f2) (h0 u2 e _ hre k2 f2)
    have h109 : ∀ u2 p g c, Kp SYq u u2 → Ma u2 X p g → Cd u2 c → (lkd X p g = 0 → r = .ok (k, c)) → (lkd X p g ≠ 0 → r = .error (1, lst X p)) → sX12_ask_p109 (nI k) Q u2 := by
      intro u2 p g c k2 m2 c2 hz hnz
      unfold sX12_ask_p109
      rw [m2.2.2.2.2.2.1]
      refine i_pos rfl (r_look m2 (fun u3 k3 b3 => ?_))
      have hlk : lkd X p g = 0 ↔ ¬ lst X p < X.2 := by
        constructor
        · intro h
          exact lk0_0.mp (lkd_k h (by omega)).1
        · intro h
          have := lk0_0.mpr h
          unfold lkd
          first | refine i_neg (by omega) ?_ | rw [if_neg (by omega)]
          try (with_reducible rfl)
          exact this
      unfold lch
      by_cases hlt : lst X p < X.2
      · have hby := (b3.1.1.2.2 _ hlt).2
        first | refine i_pos hlt ?_ | rw [if_pos hlt]
        rw [show oI (some (X.1 (lst X p))) = nI (X.1 (lst X p)) from rfl]
        refine i_neg (by rw [x_ne1 (by omega)]; exact id) (r_failB b3 (fun u4 k4 f4 => h0 u4 _ _ (hnz (fun h => hlk.mp h hlt)) (kp_t k2 (kp_t (sxr_syq k3) (sxr_syq k4))) f4))
      · first | refine i_neg hlt ?_ | rw [if_neg hlt]
        try (with_reducible rfl)
        refine i_pos rfl (h1 u3 k c (hz (hlk.mpr hlt)) (kp_t k2 (sxr_syq k3)) b3.1.2.2.2.2.2.1 b3.1.2.2.2.2.2.2 (cd_K c2 k3 (by unfold SXr; omega) (fun j => by unfold SXr; omega)))
    have hG1 : gWords u1 := k_words hG k1 (fun a k h => by unfold DWords at h; unfold SXr; omega)
    have e57 : u1.1 198 57 = nI 2 := by rw [k1.1 198 57 (by unfold SXr; omega)]; exact h57
    have hV1 : Wt' u1 [] := wt_K hV k1 (by unfold SXr; omega) (fun j => by unfold SXr; omega)
    have hL1 : Cd u1 [] := cd_K hL k1 (by unfold SXr; omega) (fun j => by unfold SXr; omega)
    have e112 : u1.1 198 112 = nI 0 := by rw [k1.1 198 112 (by unfold SXr; omega)]; exact h112
    rw [m1.2.2.2.2.2.1]
    refine i_pos rfl ?_
    -- what the text comes to
    have hrr : ∃ rr : Rs, ((k < 3 ∧ Rz X 0 (lnx X 0) true [] [] 0 rr) ∨ (3 ≤ k ∧ Rx X 2 0 (lnx X 0) true [] [] 0 rr)) ∧ (∀ e, rr = .error e → r = .error e) ∧ ∀ p g c, rr = .ok (p, g, c) → (lkd X p g = 0 → r = .ok (k, c)) ∧ (lkd X p g ≠ 0 → r = .error (1, lst X p)) := by
      rcases hr with ⟨e, hre, hq⟩ | ⟨k', c, hre, hq⟩
      · rcases hq with ⟨hn, _⟩ | ⟨k', hw', hq⟩
        · rw [hw] at hn
          exact absurd hn (by simp)
        · rw [hw] at hw'
          have ek : k = k' := Option.some.inj hw'
          subst ek
          rcases hq with hq | hq | ⟨p, g, c, hq, hp, hnz, hee⟩
          · exact ⟨.error e, Or.inl hq, fun e' he => by rw [← Except.error.inj he]; exact hre, fun p g c hh => absurd hh (by simp)⟩
          · exact ⟨.error e, Or.inr hq, fun e' he => by rw [← Except.error.inj he]; exact hre, fun p g c hh => absurd hh (by simp)⟩
          · refine ⟨.ok (p, g, c), hq, fun e' he => absurd he (by simp), fun p' g' c' hh => ?_⟩
            have hh := Except.ok.inj hh
            obtain ⟨rfl, hh2⟩ := Prod.mk.inj hh
            obtain ⟨rfl, rfl⟩ := Prod.mk.inj hh2
            exact ⟨fun h => absurd h hnz, fun _ => by rw [hre, hee]⟩
      · obtain ⟨hw', p, g, hq, hp, hz, _⟩ := hq
        rw [hw] at hw'
        have ek : k = k' := Option.some.inj hw'
        subst ek
        refine ⟨.ok (p, g, c), hq, fun e' he => absurd he (by simp), fun p' g' c' hh => ?_⟩
        have hh := Except.ok.inj hh
        obtain ⟨rfl, hh2⟩ := Prod.mk.inj hh
        obtain ⟨rfl, rfl⟩ := Prod.mk.inj hh2
        exact ⟨fun _ => hre, fun h => absurd hz h⟩
    obtain ⟨rr, hq, hE, hO⟩ := hrr
    rcases hq with ⟨hk3, hq⟩ | ⟨hk3, hq⟩
    · have c3 : ¬ nI 3 ≤ nI k := nI_ge (by omega) (by omega)
      refine i_neg c3 (r_test ⟨e57, hG1⟩ m1 hV1 hL1 e112 hq (fun u2 p2 g2 c2 h2 kk2 m2 cd2 => ?_) (fun u2 e h2 hF => ?_))
      · exact h109 u2 p2 g2 c2 (kp_t (sxr_syq k1) kk2) m2 cd2 (hO p2 g2 c2 h2).1 (hO p2 g2 c2 h2).2
      · exact h109F u2 e (kp_t (sxr_syq k1) hF.2) hF.1 (hE e h2)
    · have c3 : nI 3 ≤ nI k := nI_le (by omega) (by omega)
      refine i_pos c3 ?_
      unfold sX12_ask_p98
      rw [m1.2.2.2.2.2.1]
      refine i_pos rfl (r_sums (V := []) (L := []) (by omega) hG1 e57 m1 hV1 hL1 ⟨e112, by omega⟩ (by simp) (fun x hx => absurd hx (by simp)) hq (fun u2 p2 g2 c2 h2 kk2 m2 w2 cd2 _ _ => ?_) (fun u2 e h2 hF => ?_))
      · exact h109 u2 p2 g2 c2 (kp_t (sxr_syq k1) kk2) m2 cd2 (hO p2 g2 c2 h2).1 (hO p2 g2 c2 h2).2
      · exact h109F u2 e (kp_t (sxr_syq k1) hF.2.2) hF.1 (hE e h2)
  · have hre : r = .error (1, lst X 0) := by
      rcases hr with ⟨e, hre, hq⟩ | ⟨k', c, hre, hq⟩
      · rcases hq with ⟨_, he⟩ | ⟨k', hw', _⟩
        · rw [hre, he]
        · rw [hw] at hw'
          exact absurd hw' (by simp)
      · have hw' := hq.1
        rw [hw] at hw'
        exact absurd hw' (by simp)
    refine i_neg (mf_bad f1) ?_
    unfold sX12_ask_p98 sX12_ask_p109
    exact i_neg (mf_bad f1) (i_neg (mf_bad f1) (h0 u1 _ _ hre (sxr_syq k1) f1))
def CallL (c m : (Int64 → St → Prop) → St → Prop) : Prop := ∀ u, Inv u → c (fun r u1 => m (fun r2 u2 => r = r2 ∧ Inv u2) u1) u
def SAll (t a k : Nat) : Prop := ¬ (a = 1 ∧ 1 ≤ k ∧ k ≤ 6) ∧ ¬ (3 ≤ a ∧ a ≤ 6) ∧ a ≠ 173 ∧ a ≠ t + 13 ∧ ¬ (178 ≤ a ∧ a ≤ 197) ∧ ¬ (a = 198 ∧ ((1 ≤ k ∧ k ≤ 8) ∨ k = 10 ∨ k = 41 ∨ k = 57 ∨ k = 59 ∨ k = 60 ∨ k = 61 ∨ k = 64 ∨ k = 109 ∨ k = 111 ∨ k = 112 ∨ k = 113 ∨ k = 115 ∨ k = 117)) ∧ ¬ (242 ≤ a ∧ a ≤ 244) ∧ a ≠ 282 ∧ a ≠ 283
theorem inv_ask {u z : St} {P : Pl} {N : Nat → Nat} (hC : Ctx u P N) (hK : Kp (SAll u.2.2.1) u z) (e1 : z.1 1 1 = nI 0) (e2 : z.1 198 1 = nI 0) (hf : gFault z) (hG : gWays z P N) (hB : FB z 173) : Inv z := by
  have ht := ctx_t hC
  obtain ⟨h1, h2, h3, h4, h5, h6, h7, h8, h9, h10, h11⟩ := hC.1
  refine inv_gen (N' := N) hC hK ⟨0, fun _ => 0, by omega, e1, e2, fun k hk => absurd hk (by omega)⟩ hf (k_ref h3 hK (fun a k h => by unfold DRef at h; unfold SAll; omega)) (k_pic h5 hK (fun a k h => by unfold DPic at h; unfold SAll; omega)) (k_sight h8 hK (fun a k h => by unfold DSight at h; unfold SAll; omega)) (k_land h9 hK (fun a k h => by unfold DLand at h; unfold SAll; omega)) (k_past h10 hK (by unfold SAll; omega) (fun a k h => by unfold DPast at h; unfold SAll; omega)) hG ⟨fb_K hC.2.2.1 hK (fun j => by unfold SAll; omega), hB⟩ (fun a k h => ?_)
  rcases h with h | h | h | h
  · unfold DWords at h
    unfold SAll
    omega
  · unfold DTold at h
    unfold SAll
    omega
  · unfold DPlan at h
    unfold SAll
    omega
  · unfold DNo at h
    unfold SAll
    omega
theorem ctx_116 {u : St} {P : Pl} {N : Nat → Nat} {x : Int64} (hC : Ctx u P N) : Ctx (tL (tD3 u 3) 198 116 x) P N := by
  obtain ⟨⟨h1, h2, h3, h4, h5, h6, h7, h8, h9, h10, h11⟩, h12, h13⟩ := hC
  have hsd : gSeed (tL (tD3 u 3) 198 116 x) := by
    obtain ⟨s, a, b, c⟩ := h4
    refine ⟨s, a, ?_, ?_⟩
    · rw [tL_na _ _ (by omega)]
      exact b
    · show (if 198 = 198 ∧ 80 = 116 then x else u.2.1 198 80) = _
      first | refine i_neg (by omega) ?_ | rw [if_neg (by omega)]
      try (with_reducible rfl)
      exact c
  exact ⟨⟨h1, h2, h3, hsd, h5, h6, ⟨h7.1, h7.2.1, h7.2.2.1, mPl_tL (u := tD3 u 3) h7.2.2.2 (by omega)⟩, h8, h9, h10, h11⟩, h12, h13⟩
/-- the reference begins to read -/
theorem r_begin {X : Tx} {u : St} (h16 : X.2 ≤ 1600) (h1 : u.1 198 1 = nI X.2) (hb : ∀ k, k < X.2 → u.1 199 k = nI (X.1 k) ∧ X.1 k < 256) (z : St) (hz : z = tI (tI (tI (tI (tI (tI u 198 3 (u.1 198 1)) 198 1 0) 198 2 0) 198 4 (-1)) 198 5 0) 198 6 (-1)) : Ma z X 0 false ∧ z.1 198 1 = nI 0 ∧ Kp (fun a k => ¬ (a = 198 ∧ 1 ≤ k ∧ k ≤ 6)) u z := by
  subst hz
  have hl := lst_p (X := X) (p := 0) (Nat.zero_le _)
  refine ⟨⟨⟨h16, ?_, fun k hk => ?_⟩, Nat.zero_le _, ⟨0, ?_, Nat.le_refl _, hl.1⟩, fun h => absurd h (by simp), fun _ => Or.inl ?_, ?_, t_s _ _ _ _⟩, ?_, kp_I (kp_I (kp_I (kp_I (kp_I (kp_I (kp_r u) (by omega)) (by omega)) (by omega)) (by omega)) (by omega)) (by omega)⟩
  · rw [t_n _ _ (by omega), t_n _ _ (by omega), t_n _ _ (by omega), t_n _ _ (by omega), t_n _ _ (by omega), t_s]
    exact h1
  · rw [t_n _ _ (by omega), t_n _ _ (by omega), t_n _ _ (by omega), t_n _ _ (by omega), t_n _ _ (by omega), t_n _ _ (by omega)]
    exact hb k hk
  · rw [t_n _ _ (by omega), t_n _ _ (by omega), t_n _ _ (by omega), t_s]
    rfl
  · rw [t_n _ _ (by omega), t_n _ _ (by omega), t_s]
  · rw [t_n _ _ (by omega), t_s]
  · rw [t_n _ _ (by omega), t_n _ _ (by omega), t_n _ _ (by omega), t_n _ _ (by omega), t_s]
    rfl
theorem call_ask : CallL s_X11_ask s_X12_ask := by
  rintro u ⟨P, N, hC⟩
  have hC : Ctx u P N := hC
  have hP := ctx_vp hC
  have hN := ctx_vn hC
  have hT := ctx_c hC
  have hM := ctx_m hC
  have ht := ctx_t hC
  have h6 := hP.1
  obtain ⟨n, B, g1, g2, g3, g4⟩ := hC.1.1
  unfold s_X11_ask
  rw [hT.1.1]
  by_cases h0 : pc P = 0
  · rw [h0]
    refine i_pos rfl (bnd_i ?_)
    unfold s_X12_ask
    have kz : Kp (fun a k => ¬ (a = 1 ∧ k = 1)) u (tI u 1 1 0) := kp_I (kp_r u) (by omega)
    have m56 : (tI u 1 1 0).1 198 56 = 0 := by
      rw [kz.1 198 56 (by omega), hM.1.1]
      exact if_pos h0
    refine i_pos m56 (bnd_i ⟨rfl, ?_⟩)
    have kz2 : Kp (fun a k => ¬ (a = 1 ∧ k = 1) ∧ ¬ (a = 198 ∧ k = 1)) u (tI (tI u 1 1 0) 198 1 0) := kp_I (kp_I (kp_r u) (by omega)) (by omega)
    refine inv_ask hC (kp_m kz2 (fun a k h => by unfold SAll at h; omega)) (by rw [t_n _ _ (by omega), t_s]; rfl) (by rw [t_s]; rfl) (k_fault hC.1.2.1 kz2 (fun a k h => by unfold DFault at h; omega)) (k_ways hC.2.1 kz2 (fun a k h => by omega)) (fb_K hC.2.2.2 kz2 (fun j => by omega))
  refine i_neg (nI_ne0 (by omega) (by omega)) ?_
  have hTx : Txt u (B, n) := ⟨g1, g2, fun k hk => ⟨(g4 k hk).1, (g4 k hk).2.2⟩⟩
  -- what the reference does from a state that the class left
  have href : ∀ (s : St) (ans : Int64), Kp (fun a k => ¬ (a = 1 ∧ 1 ≤ k ∧ k ≤ 6) ∧ ¬ (3 ≤ a ∧ a ≤ 6) ∧ a ≠ 173 ∧ a ≠ u.2.2.1 + 13 ∧ ¬ (178 ≤ a ∧ a ≤ 197)) (tD3 u 3) s → s.1 1 1 = nI 0 → gWays s P N → FB s 173 → ((∃ e, QEr (B, n) e ∧ s.1 1 5 = nI e.1 ∧ s.1 1 6 = nI e.2 ∧ ans = -1000000000000000) ∨ (∃ k c, k < 6 ∧ QOk (B, n) k c ∧ s.1 1 5 = 0 ∧ s.1 1 6 = -1 ∧ ans = lI (ansQ P N c k (pf P)))) → s_X12_ask (fun r2 u2 => ans = r2 ∧ Inv u2) s := by
    intro s ans hK e11 hG hB hres
    unfold s_X12_ask
    have m56 : s.1 198 56 = 1 := by
      rw [hK.1 198 56 (by omega)]
      show u.1 198 56 = 1
      rw [hM.1.1]
      first | refine i_neg h0 ?_ | rw [if_neg h0]
      try (with_reducible rfl)
    rw [m56]
    refine i_neg (by first | decide | (unfold vp_in; decide)) (bnd_i (bnd_i (bnd_i (bnd_i (bnd_i (bnd_i (bnd_i (bnd_i (bnd_i (bnd_i (bnd_i ?_)))))))))))
    obtain ⟨z1, z2, z3⟩ := r_begin (X := (B, n)) (u := s) g1 (by rw [hK.1 198 1 (by omega)]; exact g3) (fun k hk => by rw [hK.1 199 k (by omega)]; exact (g4 k hk).2) _ rfl
    generalize tI (tI (tI (tI (tI (tI s 198 3 (s.1 198 1)) 198 1 0) 198 2 0) 198 4 (-1)) 198 5 0) 198 6 (-1) = y at z1 z2 z3
    have ky : Kp (fun a k => ¬ (a = 198 ∧ (k = 57 ∨ k = 109 ∨ k = 111 ∨ k = 112 ∨ k = 113))) y (tI (tI (tI (tI (tI y 198 57 2) 198 109 0) 198 111 0) 198 112 0) 198 113 0) := kp_I (kp_I (kp_I (kp_I (kp_I (kp_r y) (by omega)) (by omega)) (by omega)) (by omega)) (by omega)
    have y57 : (tI (tI (tI (tI (tI y 198 57 2) 198 109 0) 198 111 0) 198 112 0) 198 113 0).1 198 57 = nI 2 := by rw [t_n _ _ (by omega), t_n _ _ (by omega), t_n _ _ (by omega), t_n _ _ (by omega), t_s]; rfl
    have y109 : (tI (tI (tI (tI (tI y 198 57 2) 198 109 0) 198 111 0) 198 112 0) 198 113 0).1 198 109 = nI 0 := by rw [t_n _ _ (by omega), t_n _ _ (by omega), t_n _ _ (by omega), t_s]; rfl
    have y111 : (tI (tI (tI (tI (tI y 198 57 2) 198 109 0) 198 111 0) 198 112 0) 198 113 0).1 198 111 = nI 0 := by rw [t_n _ _ (by omega), t_n _ _ (by omega), t_s]; rfl
    have y112 : (tI (tI (tI (tI (tI y 198 57 2) 198 109 0) 198 111 0) 198 112 0) 198 113 0).1 198 112 = nI 0 := by rw [t_n _ _ (by omega), t_s]; rfl
    generalize (tI (tI (tI (tI (tI y 198 57 2) 198 109 0) 198 111 0) 198 112 0) 198 113 0) = w at ky y57 y109 y111 y112
    have hKw : Kp (SAll u.2.2.1) (tD3 u 3) w := kp_t (kp_m hK (fun a k h => by unfold SAll at h; omega)) (kp_t (kp_m z3 (fun a k h => by unfold SAll at h; omega)) (kp_m ky (fun a k h => by unfold SAll at h; omega)))
    have ksw : Kp (fun a k => a ≠ 198) s w := kp_t (kp_m z3 (fun a k h => by omega)) (kp_m ky (fun a k h => by omega))
    have hGw : gWords w := k_words (u := tD3 u 3) hC.1.2.2.2.2.2.1 hKw (fun a k h => by unfold DWords at h; unfold SAll; omega)
    have w1 : w.1 198 1 = nI 0 := by rw [ky.1 198 1 (by omega)]; exact z2
    have hfin : ∀ (v : St) (x : Int64), Kp (SAll u.2.2.1) (tL (tD3 u 3) 198 116 x) v → Kp (fun a _ => a ≠ 198 ∧ ¬ (242 ≤ a ∧ a ≤ 244) ∧ a ≠ 282 ∧ a ≠ 283) (tL s 198 116 x) v → v.1 198 1 = nI 0 → v.1 198 7 = s.1 1 5 → v.1 198 8 = s.1 1 6 → Inv v := by
      intro v x kv kv2 v1 v7 v8
      have e1 : ∀ k, v.1 1 k = s.1 1 k := fun k => kv2.1 1 k (by omega)
      exact inv_ask (u := tL (tD3 u 3) 198 116 x) (ctx_116 hC) kv (by rw [e1]; exact e11) v1 ⟨by rw [v7, e1], by rw [v8, e1]⟩ (k_ways (u := tL s 198 116 x) hG kv2 (fun a k h => by omega)) (fb_K (u := tL s 198 116 x) hB kv2 (fun j => by omega))
    have hmw : Ma w (B, n) 0 false := ma_K z1 ky (fun a k h => by omega)
    have hVw : Wt' w [] := ⟨y111, fun i hi => absurd hi (by simp), fun x hx => absurd hx (by simp)⟩
    have hLw : Cd w [] := ⟨y109, fun i hi => absurd hi (by simp)⟩
    have hend : ∀ (v : St) (a b : Int32), Kp SYq w v → Kp (SAll u.2.2.1) (tD3 u 3) (tI (tI v 198 7 a) 198 8 b) ∧ Kp (fun a _ => a ≠ 198 ∧ ¬ (242 ≤ a ∧ a ≤ 244) ∧ a ≠ 282 ∧ a ≠ 283) s (tI (tI v 198 7 a) 198 8 b) ∧ (tI (tI v 198 7 a) 198 8 b).1 198 1 = nI 0 ∧ (tI (tI v 198 7 a) 198 8 b).1 198 7 = a ∧ (tI (tI v 198 7 a) 198 8 b).1 198 8 = b := by
      intro v a b kv
      refine ⟨kp_I (kp_I (kp_t hKw (kp_m kv (fun a k h => by unfold SAll at h; unfold SYq; omega))) (by unfold SAll; omega)) (by unfold SAll; omega), kp_I (kp_I (kp_t (kp_m ksw (fun a k h => h.1)) (kp_m kv (fun a k h => by unfold SYq; omega))) (by omega)) (by omega), ?_, ?_, t_s _ _ _ _⟩
      · rw [t_n _ _ (by omega), t_n _ _ (by omega), kv.1 198 1 (by unfold SYq; omega)]
        exact w1
      · rw [t_n _ _ (by omega), t_s]
    rcases hres with ⟨e, hq, s5, s6, hans⟩ | ⟨k, c, hk6, hq, s5, s6, hans⟩
    · refine r_askT hGw y57 hmw hVw hLw y112 (.error e) (Or.inl ⟨e, rfl, hq⟩) (fun v k c h _ _ _ _ => absurd h (by simp)) (fun v e' vv h kv fv => ?_)
      have he : e = e' := Except.error.inj h
      subst he
      unfold sX12_ask_p133
      refine bnd_i (bnd_i ?_)
      rw [t_n (k' := 6) _ _ (by omega), fv.2.1, fv.2.2.2.1]
      obtain ⟨q1, q2, q3, q4, q5⟩ := hend v (nI e.1) (nI e.2) kv
      have hb := fv.2.2.1
      rw [t_n _ _ (by omega), t_n _ _ (by omega), fv.2.1]
      refine i_neg (nI_ne0 (by omega) (by omega)) ⟨hans, ?_⟩
      have ex1 : tL (tD3 u 3) 198 116 (u.2.1 198 116) = tD3 u 3 := tL_id rfl
      have ex2 : tL s 198 116 (u.2.1 198 116) = s := tL_id (by rw [hK.2.1 198 (by omega)]; rfl)
      exact hfin _ (u.2.1 198 116) (by rw [ex1]; exact q1) (by rw [ex2]; exact q2) q3 (by rw [q4, s5]) (by rw [q5, s6])
    · obtain ⟨_, _, _, _, _, _, hgd, hok, hlen⟩ := id hq
      refine r_askT hGw y57 hmw hVw hLw y112 (.ok (k, c)) (Or.inr ⟨k, c, rfl, hq⟩) (fun v k' c' h kv v5 v6 cv => ?_) (fun v e' vv h kv fv => absurd h (by simp))
      have hh := Except.ok.inj h
      obtain ⟨rfl, rfl⟩ := Prod.mk.inj hh
      unfold sX12_ask_p133
      refine bnd_i (bnd_i ?_)
      rw [t_n (k' := 6) _ _ (by omega), v5, v6]
      obtain ⟨q1, q2, q3, q4, q5⟩ := hend v 0 (-1) kv
      have kvv : Kp (fun a j => ¬ (a = 198 ∧ (j = 7 ∨ j = 8))) v (tI (tI v 198 7 0) 198 8 (-1)) := kp_I (kp_I (kp_r v) (by omega)) (by omega)
      rw [t_n _ _ (by omega), t_n _ _ (by omega), v5]
      refine i_pos rfl ?_
      have cv2 : Cd (tI (tI v 198 7 0) 198 8 (-1)) c := cd_K cv kvv (by omega) (fun j => by omega)
      generalize tI (tI v 198 7 0) 198 8 (-1) = y2 at q1 q2 q3 q4 q5 cv2
      have hM2 : mPl y2 P := mPl_K (u := tD3 u 3) hM q1 (fun a k h => by unfold SAll; omega)
      have hL2 : mLa y2 N := mLa_K (u := tD3 u 3) (show mLa u N from ctx_n hC) q1 (fun k => by unfold SAll; omega)
      refine r_answer hP hN h0 hk6 hM2 hL2 cv2 hgd hok hlen (fun y3 k3 => ⟨hans, ?_⟩)
      refine hfin y3 (lI (ansQ P N c k (pf P))) (kp_t (kp_tL q1 (by omega)) (kp_m k3 (fun a j h => by unfold SAll at h; unfold SRa SW; omega))) (kp_t (kp_tL q2 (by omega)) (kp_m k3 (fun a j h => by unfold SRa SW; omega))) ?_ ?_ ?_
      · rw [k3.1 198 1 (by unfold SRa SW; omega)]
        exact q3
      · rw [k3.1 198 7 (by unfold SRa SW; omega)]
        show y2.1 198 7 = _
        rw [q4, s5]
      · rw [k3.1 198 8 (by unfold SRa SW; omega)]
        show y2.1 198 8 = _
        rw [q5, s6]
  have hGD : gWays (tD3 u 3) P N := hC.2.1
  have hBD : FB (tD3 u 3) 173 := hC.2.2.2
  refine q_readQ hTx (fun u1 k c hk6 k1 hq hc1 ⟨p, g, tk1⟩ => bnd_i ?_) (fun u1 e rr k1 hq tf1 => bnd_i ?_)
  · have k2 : Kp (fun a k => SQ a k ∧ ¬ (a = 1 ∧ k = 1)) (tD3 u 3) (tI u1 1 1 0) := kp_I (kp_m k1 (fun a k h => h.1)) (by omega)
    have e11 : (tI u1 1 1 0).1 1 1 = nI 0 := t_s _ _ _ _
    have kz : Kp (fun a k => ¬ (a = 1 ∧ k = 1)) u1 (tI u1 1 1 0) := kp_I (kp_r u1) (by omega)
    have e15 : (tI u1 1 1 0).1 1 5 = 0 := by rw [kz.1 1 5 (by omega)]; exact tk1.2.2.2.2.2.1
    have e16 : (tI u1 1 1 0).1 1 6 = -1 := by rw [kz.1 1 6 (by omega)]; exact tk1.2.2.2.2.2.2
    have hc2 : cCo (tI u1 1 1 0) 3 c := cco_K hc1 kz (fun a k h => by omega)
    generalize tI u1 1 1 0 = u2 at k2 e11 e15 e16 hc2
    have et : u2.2.2.1 = u.2.2.1 := by rw [k2.2.2]; rfl
    rw [e15]
    refine i_pos rfl ?_
    obtain ⟨_, _, _, _, _, _, hgd, hok, hlen⟩ := id hq
    refine q_answer hP hN h0 hk6 (by rw [et]; exact ht) (by rw [et]; exact cPl_K (u := tD3 u 3) hT k2 (fun x k a b c d => by unfold SQ SX; omega)) (cLa_K (u := tD3 u 3) (show cLa u 42 P N from ctx_l hC) k2 (fun x k a b c => by unfold SQ SX; omega)) (k_ways hGD k2 (fun a k h => by unfold SQ SX; omega)) (fb_K hBD k2 (fun j => by unfold SQ SX; omega)) (k_no (u := tD3 u 3) hC.1.2.2.2.2.2.2.2.2.2.2 k2 (fun a k h => by unfold DNo at h; unfold SQ SX; omega)) hc2 hgd hok hlen (fun u3 k3 g3 b3 _ => ?_)
    rw [et] at k3
    refine href u3 _ (kp_t (kp_m k2 (fun a k h => by unfold SQ SX; omega)) (kp_m k3 (fun a k h => by unfold SAn; omega))) (by rw [k3.1 1 1 (by unfold SAn; omega)]; exact e11) g3 b3 (Or.inr ⟨k, c, hk6, hq, by rw [k3.1 1 5 (by unfold SAn; omega)]; exact e15, by rw [k3.1 1 6 (by unfold SAn; omega)]; exact e16, rfl⟩)
  · have k2 : Kp (fun a k => SQ a k ∧ ¬ (a = 1 ∧ k = 1)) (tD3 u 3) (tI u1 1 1 0) := kp_I (kp_m k1 (fun a k h => h.1)) (by omega)
    have kz : Kp (fun a k => ¬ (a = 1 ∧ k = 1)) u1 (tI u1 1 1 0) := kp_I (kp_r u1) (by omega)
    have e11 : (tI u1 1 1 0).1 1 1 = nI 0 := t_s _ _ _ _
    have e15 : (tI u1 1 1 0).1 1 5 = nI e.1 := by rw [kz.1 1 5 (by omega)]; exact tf1.2.2.1
    have e16 : (tI u1 1 1 0).1 1 6 = nI e.2 := by rw [kz.1 1 6 (by omega)]; exact tf1.2.2.2.2.1
    generalize tI u1 1 1 0 = u2 at k2 e11 e15 e16
    have hb := tf1.2.2.2.1
    rw [e15]
    refine i_neg (nI_ne0 (by omega) (by omega)) ?_
    exact href u2 _ (kp_m k2 (fun a k h => by unfold SQ SX; omega)) e11 (k_ways hGD k2 (fun a k h => by unfold SQ SX; omega)) (fb_K hBD k2 (fun j => by unfold SQ SX; omega)) (Or.inl ⟨e, hq, e15, e16, rfl⟩)
