/-! ===== the reference reads a statement ===== -/
def SRd (a k : Nat) : Prop := SYq a k ∧ ¬ (a = 198 ∧ (k = 57 ∨ k = 113)) ∧ ¬ DRd a k
def Kr (S : Nat → Nat → Prop) (u u' : St) : Prop := (∀ a k, S a k → u'.1 a k = u.1 a k) ∧ (∀ a, a ≠ 284 → a ≠ 233 → u'.2.1 a = u.2.1 a) ∧ (∀ k, 16 ≤ k → u'.2.1 233 k = u.2.1 233 k) ∧ u'.2.2 = u.2.2
theorem kr_p {S : Nat → Nat → Prop} {u v : St} (h : Kp S u v) : Kr S u v := ⟨h.1, fun a h1 _ => h.2.1 a h1, fun k _ => by rw [h.2.1 233 (by omega)], h.2.2⟩
theorem kr_t {S : Nat → Nat → Prop} {u v w : St} (h : Kr S u v) (h2 : Kr S v w) : Kr S u w := ⟨fun a k hs => (h2.1 a k hs).trans (h.1 a k hs), fun a x y => (h2.2.1 a x y).trans (h.2.1 a x y), fun k hk => (h2.2.2.1 k hk).trans (h.2.2.1 k hk), h2.2.2.2.trans h.2.2.2⟩
theorem kr_m {S T : Nat → Nat → Prop} {u v : St} (h : Kr S u v) (hs : ∀ a k, T a k → S a k) : Kr T u v := ⟨fun a k x => h.1 a k (hs a k x), h.2⟩
theorem kr_L {S : Nat → Nat → Prop} {u v : St} {k : Nat} {x : Int64} (h : Kr S u v) (hk : k < 16) : Kr S u (tL v 233 k x) := by
  refine ⟨fun a j hs => h.1 a j hs, fun a h1 h2 => ?_, fun j hj => ?_, h.2.2.2⟩
  · funext j
    show (if a = 233 ∧ j = k then x else v.2.1 a j) = _
    first | refine i_neg (by omega) ?_ | rw [if_neg (by omega)]
    rw [h.2.1 a h1 h2]
  · show (if 233 = 233 ∧ j = k then x else v.2.1 233 j) = _
    first | refine i_neg (by omega) ?_ | rw [if_neg (by omega)]
    rw [h.2.2.1 j hj]
theorem kr_I {S : Nat → Nat → Prop} {u v : St} {a k : Nat} {x : Int32} (h : Kr S u v) (hs : ¬ S a k) : Kr S u (tI v a k x) := kr_t h (kr_p (kp_I (kp_r v) hs))
theorem sxr_rd : ∀ a k, SRd a k → SXr a k := fun a k h => by
  have := h.1
  unfold SYq at this
  unfold SXr
  omega
theorem drd_sxr : ∀ a k, DRd a k → SXr a k := fun a k h => by unfold DRd at h; unfold SXr; omega
def RdO (X : Tx) (D : Pl) (u0 u : St) (p : Nat) (g : Bool) : Prop := Ma u X p g ∧ mDr u D ∧ gWords u ∧ Kr SRd u0 u
def RdE (X : Tx) (u0 u : St) (e : E2) : Prop := Mf u X e ∧ Kr SRd u0 u
/-- a step of reading -/
theorem ro_K {X : Tx} {p p' q : Nat} {g g' : Bool} {D : Pl} {u0 u u' : St} (hD : VD D q) (hq : q ≤ 1600) (h : RdO X D u0 u p g) (hK : Kp SXr u u') (hm : Ma u' X p' g') : RdO X D u0 u' p' g' := ⟨hm, mdr_K h.2.1 hD hq hK drd_sxr, k_words h.2.2.1 hK (fun a k h => by unfold DWords at h; unfold SXr; omega), kr_t h.2.2.2 (kr_p (kp_m hK sxr_rd))⟩
theorem re_K {X : Tx} {e : E2} {u0 u u' : St} (h : Kr SRd u0 u) (hK : Kp SXr u u') (hm : Mf u' X e) : RdE X u0 u' e := ⟨hm, kr_t h (kr_p (kp_m hK sxr_rd))⟩
theorem mc2_J {u u' : St} {w n m : Nat} {c : List Nat} (h : mC2 u w n c) (hn : n ≤ m) (hJ : ∀ a k, a = 238 ∨ a = 239 ∨ a = 240 → u'.1 a k = u.1 a k) : mC2 u' w m c := by
  rcases h with ⟨h1, h2⟩ | ⟨h1, fr, h2, h3, h4, h5⟩
  · exact Or.inl ⟨by rw [hJ _ _ (by omega)]; exact h1, h2⟩
  · refine Or.inr ⟨h1, fr, by rw [hJ _ _ (by omega)]; exact h2, by rw [hJ _ _ (by omega)]; exact h3, by omega, fun i hi => ?_⟩
    rw [hJ _ _ (by omega)]
    exact h5 i hi
theorem mdr_h {u u' : St} {c h : Nat} {D : Pl} (hM : mDr u D) (hK : Kp (fun a k => ¬ (a = 236 ∧ k = c)) u u') (hv : u'.1 236 c = nI h) : mDr u' (s0 D 5 c h) := by
  obtain ⟨⟨a1, a2, a3, a4, a5⟩, b, cc, d, e, f, g⟩ := hM
  have hJ : ∀ a k, a = 238 ∨ a = 239 ∨ a = 240 → u'.1 a k = u.1 a k := fun a k h => hK.1 a k (by omega)
  refine ⟨⟨?_, ?_, ?_, ?_, ?_⟩, fun x hx => ?_, fun x hx => ?_, fun x hx => ⟨?_, ?_⟩, mc2_J e (Nat.le_refl _) hJ, mc2_J f (Nat.le_refl _) hJ, ?_⟩
  · rw [hK.1 _ _ (by omega)]
    exact a1
  · rw [hK.1 _ _ (by omega)]
    exact a2
  · rw [hK.1 _ _ (by omega)]
    exact a3
  · rw [hK.1 _ _ (by omega)]
    exact a4
  · rw [hK.1 _ _ (by omega)]
    exact a5
  · rw [hK.1 234 _ (by omega), hK.1 234 _ (by omega), hK.1 234 _ (by omega), hK.2.1 233 (by omega), s0_f (by omega)]
    exact b x hx
  · rw [hK.1 235 _ (by omega), hK.1 235 _ (by omega), hK.2.1 233 (by omega), s0_c (by omega)]
    exact cc x hx
  · by_cases q : x = c
    · rw [q, s0_s]
      exact hv
    · rw [s0_n (by omega), hK.1 236 x (by omega)]
      exact (d x hx).1
  · rw [s0_n (by omega), hK.1 237 x (by omega)]
    exact (d x hx).2
  · rw [hK.1 _ _ (by omega)]
    exact g
theorem mdr_s {u u' : St} {c : Nat} {D : Pl} (hM : mDr u D) (hK : Kp (fun a k => ¬ (a = 237 ∧ k = c)) u u') (hv : u'.1 237 c = nI 1) : mDr u' (s0 D 6 c 1) := by
  obtain ⟨⟨a1, a2, a3, a4, a5⟩, b, cc, d, e, f, g⟩ := hM
  have hJ : ∀ a k, a = 238 ∨ a = 239 ∨ a = 240 → u'.1 a k = u.1 a k := fun a k h => hK.1 a k (by omega)
  refine ⟨⟨?_, ?_, ?_, ?_, ?_⟩, fun x hx => ?_, fun x hx => ?_, fun x hx => ⟨?_, ?_⟩, mc2_J e (Nat.le_refl _) hJ, mc2_J f (Nat.le_refl _) hJ, ?_⟩
  · rw [hK.1 _ _ (by omega)]
    exact a1
  · rw [hK.1 _ _ (by omega)]
    exact a2
  · rw [hK.1 _ _ (by omega)]
    exact a3
  · rw [hK.1 _ _ (by omega)]
    exact a4
  · rw [hK.1 _ _ (by omega)]
    exact a5
  · rw [hK.1 234 _ (by omega), hK.1 234 _ (by omega), hK.1 234 _ (by omega), hK.2.1 233 (by omega), s0_f (by omega)]
    exact b x hx
  · rw [hK.1 235 _ (by omega), hK.1 235 _ (by omega), hK.2.1 233 (by omega), s0_c (by omega)]
    exact cc x hx
  · rw [s0_n (by omega), hK.1 236 x (by omega)]
    exact (d x hx).1
  · by_cases q : x = c
    · rw [q, s0_s]
      exact hv
    · rw [s0_n (by omega), hK.1 237 x (by omega)]
      exact (d x hx).2
  · rw [hK.1 _ _ (by omega)]
    exact g
theorem mdr_so {u u' : St} {x : Nat} {D : Pl} (hM : mDr u D) (hK : Kp (fun a k => ¬ (a = 198 ∧ k = 43)) u u') (hv : u'.1 198 43 = nI x) : mDr u' (s0 D 0 2 x) := by
  obtain ⟨⟨a1, a2, a3, a4, a5⟩, b, cc, d, e, f, g⟩ := hM
  have hJ : ∀ a k, a = 238 ∨ a = 239 ∨ a = 240 → u'.1 a k = u.1 a k := fun a k h => hK.1 a k (by omega)
  refine ⟨⟨?_, ?_, hv, ?_, ?_⟩, fun x hx => ?_, fun x hx => ?_, fun x hx => ⟨?_, ?_⟩, mc2_J e (Nat.le_refl _) hJ, mc2_J f (Nat.le_refl _) hJ, ?_⟩
  · rw [hK.1 _ _ (by omega)]
    exact a1
  · rw [hK.1 _ _ (by omega)]
    exact a2
  · rw [hK.1 _ _ (by omega)]
    exact a4
  · rw [hK.1 _ _ (by omega)]
    exact a5
  · rw [hK.1 234 _ (by omega), hK.1 234 _ (by omega), hK.1 234 _ (by omega), hK.2.1 233 (by omega), s0_f (by omega)]
    exact b x hx
  · rw [hK.1 235 _ (by omega), hK.1 235 _ (by omega), hK.2.1 233 (by omega), s0_c (by omega)]
    exact cc x hx
  · rw [s0_n (by omega), hK.1 236 x (by omega)]
    exact (d x hx).1
  · rw [s0_n (by omega), hK.1 237 x (by omega)]
    exact (d x hx).2
  · rw [hK.1 _ _ (by omega)]
    exact g
theorem mdr_f {u u' : St} {c d i : Nat} {l : Nat → Nat} {D D' : Pl} (hM : mDr u D) (h6 : pf D < 6) (h5 : pk D ≤ 5) (hI : ∀ a k, ¬ (a = 234 ∧ 3 * pf D ≤ k ∧ k ≤ 3 * pf D + 2) → ¬ (a = 232 ∧ k = 0) → u'.1 a k = u.1 a k) (hL : ∀ k, k ≠ pf D → u'.2.1 233 k = u.2.1 233 k) (v0 : u'.1 234 (3 * pf D) = nI c) (v1 : u'.1 234 (3 * pf D + 1) = nI d) (v2 : u'.1 234 (3 * pf D + 2) = nI i) (vl : u'.2.1 233 (pf D) = lN (nmL l (nmK l 6))) (vn : u'.1 232 0 = nI (pf D + 1)) (h : D' = nwF D l c d i) : mDr u' D' := by
  obtain ⟨⟨a1, a2, a3, a4, a5⟩, b, cc, dd, e, f, g⟩ := hM
  obtain ⟨⟨n1, n2, n3, n4, n5⟩, e1, e2, e7, e20, es, e30, ec⟩ := nwF_e h
  have hJ : ∀ a k, a = 238 ∨ a = 239 ∨ a = 240 → u'.1 a k = u.1 a k := fun a k h => hI a k (by omega) (by omega)
  refine ⟨⟨?_, ?_, ?_, ?_, ?_⟩, fun x hx => ?_, fun x hx => ?_, fun x hx => ?_, by rw [ec]; exact mc2_J e (Nat.le_refl _) hJ, by rw [ec]; exact mc2_J f (Nat.le_refl _) hJ, ?_⟩
  · rw [hI _ _ (by omega) (by omega), n1]
    exact a1
  · rw [hI _ _ (by omega) (by omega), n2]
    exact a2
  · rw [hI _ _ (by omega) (by omega), n3]
    exact a3
  · rw [n4]
    exact vn
  · rw [hI _ _ (by omega) (by omega), n5]
    exact a5
  · rw [n4] at hx
    rw [e1, e2, e7, e20]
    by_cases q : x = pf D
    · first | refine i_pos q ?_ | rw [if_pos q]
      first | refine i_pos q ?_ | rw [if_pos q]
      first | refine i_pos q ?_ | rw [if_pos q]
      first | refine i_pos q ?_ | rw [if_pos q]
      rw [q]
      exact ⟨v0, v1, v2, vl⟩
    · first | refine i_neg q ?_ | rw [if_neg q]
      first | refine i_neg q ?_ | rw [if_neg q]
      first | refine i_neg q ?_ | rw [if_neg q]
      first | refine i_neg q ?_ | rw [if_neg q]
      rw [hI 234 _ (by omega) (by omega), hI 234 _ (by omega) (by omega), hI 234 _ (by omega) (by omega), hL x q]
      exact b x (by omega)
  · rw [n5] at hx
    rw [(es x).1, (es x).2.1, e30 x (by omega) (by omega), hI 235 _ (by omega) (by omega), hI 235 _ (by omega) (by omega), hL (8 + x) (by omega)]
    exact cc x hx
  · rw [(es x).2.2.1, (es x).2.2.2, hI 236 _ (by omega) (by omega), hI 237 _ (by omega) (by omega)]
    exact dd x hx
  · rw [ec, hI _ _ (by omega) (by omega)]
    exact g
theorem mdr_k {u u' : St} {b k : Nat} {l : Nat → Nat} {D D' : Pl} (hM : mDr u D) (h6 : pf D ≤ 6) (h5 : pk D < 5) (hI : ∀ a j, ¬ (a = 235 ∧ 2 * pk D ≤ j ∧ j ≤ 2 * pk D + 1) → ¬ (a = 232 ∧ j = 1) → u'.1 a j = u.1 a j) (hL : ∀ j, j ≠ 8 + pk D → u'.2.1 233 j = u.2.1 233 j) (v0 : u'.1 235 (2 * pk D) = nI b) (v1 : u'.1 235 (2 * pk D + 1) = nI k) (vl : u'.2.1 233 (8 + pk D) = lN (nmL l (nmK l 6))) (vn : u'.1 232 1 = nI (pk D + 1)) (h : D' = nwK D l b k) : mDr u' D' := by
  obtain ⟨⟨a1, a2, a3, a4, a5⟩, bb, cc, dd, e, f, g⟩ := hM
  obtain ⟨⟨n1, n2, n3, n4, n5⟩, e3, e4, e30, es, e20, ec⟩ := nwK_e h
  have hJ : ∀ a k, a = 238 ∨ a = 239 ∨ a = 240 → u'.1 a k = u.1 a k := fun a k h => hI a k (by omega) (by omega)
  refine ⟨⟨?_, ?_, ?_, ?_, ?_⟩, fun x hx => ?_, fun x hx => ?_, fun x hx => ?_, by rw [ec]; exact mc2_J e (Nat.le_refl _) hJ, by rw [ec]; exact mc2_J f (Nat.le_refl _) hJ, ?_⟩
  · rw [hI _ _ (by omega) (by omega), n1]
    exact a1
  · rw [hI _ _ (by omega) (by omega), n2]
    exact a2
  · rw [hI _ _ (by omega) (by omega), n3]
    exact a3
  · rw [hI _ _ (by omega) (by omega), n4]
    exact a4
  · rw [n5]
    exact vn
  · rw [n4] at hx
    rw [(es x).1, (es x).2.1, (es x).2.2.2.2, e20 x (by omega), hI 234 _ (by omega) (by omega), hI 234 _ (by omega) (by omega), hI 234 _ (by omega) (by omega), hL x (by omega)]
    exact bb x hx
  · rw [n5] at hx
    rw [e3, e4, e30]
    by_cases q : x = pk D
    · first | refine i_pos q ?_ | rw [if_pos q]
      first | refine i_pos q ?_ | rw [if_pos q]
      first | refine i_pos q ?_ | rw [if_pos q]
      rw [q]
      exact ⟨v0, v1, vl⟩
    · first | refine i_neg q ?_ | rw [if_neg q]
      first | refine i_neg q ?_ | rw [if_neg q]
      first | refine i_neg q ?_ | rw [if_neg q]
      rw [hI 235 _ (by omega) (by omega), hI 235 _ (by omega) (by omega), hL (8 + x) (by omega)]
      exact cc x (by omega)
  · rw [(es x).2.2.1, (es x).2.2.2.1, hI 236 _ (by omega) (by omega), hI 237 _ (by omega) (by omega)]
    exact dd x hx
  · rw [ec, hI _ _ (by omega) (by omega)]
    exact g
theorem r_high {X : Tx} {p : Nat} {D : Pl} {u0 u : St} {r : Rd} {Q : St → Prop} (hD : VD D p) (h : RdO X D u0 u p true) (hr : r = hiR X D p) (h1 : ∀ u' D' p' g', r = .ok (D', p', g') → RdO X D' u0 u' p' g' → Q u') (h0 : ∀ u' e, r = .error e → RdE X u0 u' e → Q u') : s_X12_highTold Q u := by
  unfold s_X12_highTold
  have hp := h.1.2.1
  have h16 := h.1.1.1
  have h2 : 2 ≤ pc D ∧ pc D ≤ 6 ∧ 2 ≤ pr D ∧ pr D ≤ 6 := by
    have := hD.1
    omega
  refine r_cell h2 ⟨h.2.1.1.1, h.2.1.1.2.1⟩ h.1 (fun u1 c k1 hc hcel h36 m1 _ => ?_) (fun u1 e k1 hc f1 => ?_)
  · have o1 := ro_K hD (by omega) h k1 m1
    refine r_number (least := 0) (most := 9) (by omega) (by omega) m1 (fun u2 v k2 hv m2 _ => ?_) (fun u2 e rr k2 hv f2 => ?_)
    · have o2 := ro_K hD (by omega) o1 k2 m2
      rw [m2.2.2.2.2.2.1]
      refine i_pos rfl ⟨vp_in_nI (by omega) (by omega), bnd_i ?_⟩
      rw [nI_clamp (by omega)]
      have hK : Kp (fun a k => ¬ (a = 236 ∧ k = c)) u2 (tI u2 236 c (nI v)) := kp_I (kp_r u2) (by omega)
      have hR : r = .ok (s0 D 5 c v, lx X 3 p, true) := by
        rw [hr]
        unfold hiR
        rw [hc]
        show (nuR X (lx X 2 p) true 0 9).bind _ = _
        rw [hv]
        rfl
      refine h1 _ _ _ _ hR ⟨ma_K m2 hK (fun a k h => by omega), mdr_h o2.2.1 hK (t_s _ _ _ _), k_words o2.2.2.1 hK (fun a k h => by unfold DWords at h; omega), kr_t o2.2.2.2 (kr_p (kp_m hK (fun a k h => ?_)))⟩
      have := h.2.2
      unfold DRd at this
      omega
    · have hR : r = .error e := by
        rw [hr]
        unfold hiR
        rw [hc]
        show (nuR X (lx X 2 p) true 0 9).bind _ = _
        rw [hv]
        rfl
      exact i_neg (mf_bad f2) (h0 u2 e hR (re_K o1.2.2.2 k2 f2))
  · have hR : r = .error e := by
      rw [hr]
      unfold hiR
      rw [hc]
      rfl
    exact r_numberF f1 (i_neg (mf_bad f1) (h0 u1 e hR (re_K h.2.2.2 k1 f1)))
theorem r_stone {X : Tx} {p : Nat} {D : Pl} {u0 u : St} {r : Rd} {Q : St → Prop} (hD : VD D p) (h : RdO X D u0 u p true) (hr : r = stR X D p) (h1 : ∀ u' D' p' g', r = .ok (D', p', g') → RdO X D' u0 u' p' g' → Q u') (h0 : ∀ u' e, r = .error e → RdE X u0 u' e → Q u') : s_X12_stoneTold Q u := by
  unfold s_X12_stoneTold
  have hp := h.1.2.1
  have h16 := h.1.1.1
  have hx1 := lx_le hp 1
  have hl1 := lst_p (X := X) (p := lnx X p) hx1.2
  have h2 : 2 ≤ pc D ∧ pc D ≤ 6 ∧ 2 ≤ pr D ∧ pr D ≤ 6 := by
    have := hD.1
    omega
  refine r_cell h2 ⟨h.2.1.1.1, h.2.1.1.2.1⟩ h.1 (fun u1 c k1 hc hcel h36 m1 e10 => ?_) (fun u1 e k1 hc f1 => ?_)
  · have o1 := ro_K hD (by omega) h k1 m1
    have hb := hD.2.2.2.2.1 c
    rw [m1.2.2.2.2.2.1]
    refine i_pos rfl ⟨vp_in_nI (by omega) (by omega), ?_⟩
    rw [nI_clamp (by omega), (o1.2.1.2.2.2.1 c h36).2]
    by_cases c1 : D.1 6 c = 1
    · refine i_neg (by rw [c1]; decide) ?_
      rw [e10]
      refine r_fail (f := 2) m1 (by omega) (by omega) (fun u2 k2 f2 => ?_)
      unfold sX12_stoneTold_p30
      refine i_neg (mf_bad f2) (h0 u2 _ ?_ (re_K o1.2.2.2 k2 f2))
      rw [hr]
      unfold stR
      rw [hc]
      show (if D.1 6 c = 1 then _ else _) = _
      exact if_pos c1
    · refine i_pos (by rw [show D.1 6 c = 0 by omega]; rfl) ?_
      unfold sX12_stoneTold_p30
      rw [m1.2.2.2.2.2.1]
      refine i_pos rfl ⟨vp_in_nI (by omega) (by omega), bnd_i ?_⟩
      rw [nI_clamp (by omega)]
      have hK : Kp (fun a k => ¬ (a = 237 ∧ k = c)) u1 (tI u1 237 c (vp_nar .boolean (1 : Int32))) := kp_I (kp_r u1) (by omega)
      have hv : (tI u1 237 c (vp_nar .boolean (1 : Int32))).1 237 c = nI 1 := t_s _ _ _ _
      have hR : r = .ok (s0 D 6 c 1, lx X 2 p, true) := by
        rw [hr]
        unfold stR
        rw [hc]
        show (if D.1 6 c = 1 then _ else _) = _
        exact if_neg c1
      refine h1 _ _ _ _ hR ⟨ma_K m1 hK (fun a k h => by omega), mdr_s o1.2.1 hK hv, k_words o1.2.2.1 hK (fun a k h => by unfold DWords at h; omega), kr_t o1.2.2.2 (kr_p (kp_m hK (fun a k h => ?_)))⟩
      have := h.2.2
      unfold DRd at this
      omega
  · have hR : r = .error e := by
      rw [hr]
      unfold stR
      rw [hc]
      rfl
    refine i_neg (mf_bad f1) ?_
    unfold sX12_stoneTold_p30
    exact i_neg (mf_bad f1) (h0 u1 e hR (re_K h.2.2.2 k1 f1))
theorem r_source {X : Tx} {p : Nat} {D : Pl} {u0 u : St} {r : Rd} {Q : St → Prop} (hD : VD D p) (h : RdO X D u0 u p true) (hr : r = soR X D p) (h1 : ∀ u' D' p' g', r = .ok (D', p', g') → RdO X D' u0 u' p' g' → Q u') (h0 : ∀ u' e, r = .error e → RdE X u0 u' e → Q u') : s_X12_number (0 : Int32) ((u.1 231 (0 : Int32).toNatClampNeg) - (1 : Int32)) (fun r32 u33 => bnd (tI u33 198 43 r32) (fun u34 => Q u34)) u := by
  have hp := h.1.2.1
  have h16 := h.1.1.1
  have hb := hD.1
  rw [show ((0 : Int32)).toNatClampNeg = 0 by first | decide | (unfold vp_in; decide), h.2.1.1.1, show nI (pc D) - 1 = nI (pc D - 1) from pk_sub (b := 1) (by omega)]
  have n43 : ∀ (s : St) (x : Int32), Kp (fun a k => ¬ (a = 198 ∧ k = 43)) s (tI s 198 43 x) := fun s x => kp_I (kp_r s) (by omega)
  have hS : ∀ a k, SRd a k → ¬ (a = 198 ∧ k = 43) := by
    intro a k h
    have := h.2.2
    unfold DRd at this
    omega
  refine r_number (least := 0) (by omega) (by omega) h.1 (fun u2 v k2 hv m2 _ => bnd_i ?_) (fun u2 e rr k2 hv f2 => bnd_i ?_)
  · have o2 := ro_K hD (by omega) h k2 m2
    have hK := n43 u2 (nI v)
    have hR : r = .ok (s0 D 0 2 v, lnx X p, true) := by
      rw [hr]
      unfold soR
      rw [hv]
      rfl
    exact h1 _ _ _ _ hR ⟨ma_K m2 hK (fun a k h => by omega), mdr_so o2.2.1 hK (t_s _ _ _ _), k_words o2.2.2.1 hK (fun a k h => by unfold DWords at h; omega), kr_t o2.2.2.2 (kr_p (kp_m hK hS))⟩
  · have hR : r = .error e := by
      rw [hr]
      unfold soR
      rw [hv]
      rfl
    have hK := n43 u2 rr
    exact h0 _ e hR ⟨mf_K f2 hK (fun a k h => by omega), kr_t h.2.2.2 (kr_t (kr_p (kp_m k2 sxr_rd)) (kr_p (kp_m hK hS)))⟩
