/-! ===== the reference reads farms, callers, sums, a whole statement ===== -/
def faB (X : Tx) (D : Pl) (p c : Nat) : Rd := (wR X (lx X 4 p) true wDay).bind fun _ => (nuR X (lx X 5 p) true 1 40).bind fun d => (wR X (lx X 6 p) true wPie).bind fun _ => (nuR X (lx X 7 p) true 0 9).bind fun i => .ok (nwF D (lln X p) c d i, lx X 8 p, true)
def faA (X : Tx) (D : Pl) (p : Nat) : Rd := (wR X (lx X 1 p) true wAt).bind fun _ => (plR X D (lx X 2 p)).bind fun c => if (fAt D c).isSome = true then .error (2, lst X (lx X 3 p)) else faB X D p c
theorem faR_A (X : Tx) (D : Pl) (p : Nat) : faR X D p = (nnR X D p).bind fun _ => faA X D p := rfl
theorem r_full {X : Tx} {v n m b : Nat} {D : Pl} {u0 u : St} {p : Nat} {g : Bool} {Q : Int32 → St → Prop} (hv : v < 2) (hn : u.1 232 v = nI n) (hnb : n < 100) (hm : m < 100) (hb : b ≤ 1600) (h : RdO X D u0 u p g) (h1 : n = m → ∀ u', RdE X u0 u' (5, b) → Q 1 u') (h0 : n ≠ m → Q 0 u) : s_X12_isFull (nI v) (nI m) (nI b) Q u := by
  unfold s_X12_isFull
  rw [h.1.2.2.2.2.2.1]
  refine i_pos rfl ⟨vp_in_nI (by omega) (by omega), ?_⟩
  rw [nI_clamp (by omega), hn]
  by_cases c : n = m
  · refine i_pos (by rw [c]) (r_fail (f := 5) h.1 (by omega) hb (fun u1 k1 f1 => ?_))
    unfold sX12_isFull_p23
    exact i_neg (mf_bad f1) (h1 c u1 (re_K h.2.2.2 k1 f1))
  · refine i_neg (x_ne (by omega) (by omega) c) ?_
    unfold sX12_isFull_p23
    rw [h.1.2.2.2.2.2.1]
    exact i_pos rfl (h0 c)
/-- the end of a farm's reading, behind the loop -/
theorem r_farmE {X : Tx} {p c : Nat} {D : Pl} {u0 u : St} {r : Rd} {Q : St → Prop} {K34 : Int32 → St → Prop} (hD : VD D p) (hpx : p ≤ X.2) (h6 : pf D ≠ 6) (hcel : cel D c) (h36 : c < 36) (h : RdO X D u0 u (lx X 4 p) true) (hr : r = faB X D p c) (h1 : ∀ u' D' p' g', r = .ok (D', p', g') → RdO X D' u0 u' p' g' → Q u') (h0 : ∀ u' e, r = .error e → RdE X u0 u' e → Q u') : sX12_farmTold_p34b (lN (nmL (lln X p) (nmK (lln X p) 6))) (nI c) Q K34 (nI (pf D)) u := by
  unfold sX12_farmTold_p34b
  have h16 := h.1.1.1
  have hb := hD.1
  refine ⟨vp_in_nI (n := 0) (by omega) (by omega), ?_⟩
  rw [show ((0 : Int32)).toNatClampNeg = 0 by first | decide | (unfold vp_in; decide), h.2.1.1.2.2.2.1]
  refine i_pos (nI_le (Nat.le_refl _) (by omega)) ?_
  refine r_asks (v := 208) (w := wDay) (by omega) (wd_of (q := (208, wDay)) h.2.2.1 (by first | decide | (unfold vp_in; decide))) h.1 (fun u1 k1 hi m1 => ?_) (fun u1 k1 hi f1 => ?_)
  · have o1 := ro_K hD (by omega) h k1 m1
    have hw1 : wR X (lx X 4 p) true wDay = .ok () := if_pos hi
    refine r_number (least := 1) (most := 40) (by omega) (by omega) m1 (fun u2 d k2 hd m2 _ => ?_) (fun u2 e rr k2 hd f2 => ?_)
    · have o2 := ro_K hD (by omega) o1 k2 m2
      have hd' : nuR X (lx X 5 p) true 1 40 = .ok d := hd
      refine r_asks (v := 209) (w := wPie) (by omega) (wd_of (q := (209, wPie)) o2.2.2.1 (by first | decide | (unfold vp_in; decide))) m2 (fun u3 k3 hi3 m3 => ?_) (fun u3 k3 hi3 f3 => ?_)
      · have o3 := ro_K hD (by omega) o2 k3 m3
        have hw3 : wR X (lx X 6 p) true wPie = .ok () := if_pos hi3
        refine r_number (least := 0) (most := 9) (by omega) (by omega) m3 (fun u4 i k4 hi4 m4 _ => ?_) (fun u4 e rr k4 hi4 f4 => ?_)
        · have o4 := ro_K hD (by omega) o3 k4 m4
          have hi4' : nuR X (lx X 7 p) true 0 9 = .ok i := hi4
          have e0 : u4.1 232 0 = nI (pf D) := o4.2.1.1.2.2.2.1
          rw [m4.2.2.2.2.2.1]
          refine i_pos rfl ⟨vp_in_nI (n := 0) (by omega) (by omega), ?_⟩
          rw [e0]
          refine ⟨vp_in_nI (by omega) (by omega), bnd_i ?_⟩
          rw [nI_clamp (by omega)]
          have z0 : (tL u4 233 (pf D) (lN (nmL (lln X p) (nmK (lln X p) 6)))).1 232 0 = nI (pf D) := e0
          have zi : ∀ a k, (tL u4 233 (pf D) (lN (nmL (lln X p) (nmK (lln X p) 6)))).1 a k = u4.1 a k := fun a k => rfl
          have zl : ∀ k, k ≠ pf D → (tL u4 233 (pf D) (lN (nmL (lln X p) (nmK (lln X p) 6)))).2.1 233 k = u4.2.1 233 k := by
            intro k hk
            show (if 233 = 233 ∧ k = pf D then _ else u4.2.1 233 k) = _
            first | refine i_neg (by omega) ?_ | rw [if_neg (by omega)]
            try (with_reducible rfl)
          have zv : (tL u4 233 (pf D) (lN (nmL (lln X p) (nmK (lln X p) 6)))).2.1 233 (pf D) = lN (nmL (lln X p) (nmK (lln X p) 6)) := by
            show (if 233 = 233 ∧ pf D = pf D then _ else u4.2.1 233 (pf D)) = _
            first | refine i_pos ⟨rfl, rfl⟩ ?_ | rw [if_pos ⟨rfl, rfl⟩]
            try (with_reducible rfl)
          have zk : Kr SRd u4 (tL u4 233 (pf D) (lN (nmL (lln X p) (nmK (lln X p) 6)))) := kr_L (kr_p (kp_r u4)) (by omega)
          have zm : Ma (tL u4 233 (pf D) (lN (nmL (lln X p) (nmK (lln X p) 6)))) X (lx X 8 p) true := m4
          have zw : gWords (tL u4 233 (pf D) (lN (nmL (lln X p) (nmK (lln X p) 6)))) := o4.2.2.1
          generalize tL u4 233 (pf D) (lN (nmL (lln X p) (nmK (lln X p) 6))) = z at z0 zi zl zv zk zm zw
          rw [z0, show (3 : Int32) * nI (pf D) = nI (3 * pf D) from pk_mul 3 _]
          refine ⟨vp_in_nI (by omega) (by omega), bnd_i ?_⟩
          rw [nI_clamp (by omega)]
          rw [show (tI z 234 (3 * pf D) (nI c)).1 232 0 = nI (pf D) by rw [t_n _ _ (by omega)]; exact z0, show (3 : Int32) * nI (pf D) = nI (3 * pf D) from pk_mul 3 _, nI_1]
          refine ⟨vp_in_nI (by omega) (by omega), bnd_i ?_⟩
          rw [nI_clamp (by omega)]
          rw [show (tI (tI z 234 (3 * pf D) (nI c)) 234 (3 * pf D + 1) (nI d)).1 232 0 = nI (pf D) by rw [t_n _ _ (by omega), t_n _ _ (by omega)]; exact z0, show (3 : Int32) * nI (pf D) = nI (3 * pf D) from pk_mul 3 _, show nI (3 * pf D) + 2 = nI (3 * pf D + 2) from nI_add _ 2]
          refine ⟨vp_in_nI (by omega) (by omega), bnd_i (bnd_i ?_)⟩
          rw [nI_clamp (by omega)]
          rw [show (tI (tI (tI z 234 (3 * pf D) (nI c)) 234 (3 * pf D + 1) (nI d)) 234 (3 * pf D + 2) (nI i)).1 232 0 = nI (pf D) by rw [t_n _ _ (by omega), t_n _ _ (by omega), t_n _ _ (by omega)]; exact z0, nI_1]
          have hK : Kp (fun a k => ¬ (a = 234 ∧ 3 * pf D ≤ k ∧ k ≤ 3 * pf D + 2) ∧ ¬ (a = 232 ∧ k = 0)) z (tI (tI (tI (tI z 234 (3 * pf D) (nI c)) 234 (3 * pf D + 1) (nI d)) 234 (3 * pf D + 2) (nI i)) 232 0 (nI (pf D + 1))) := kp_I (kp_I (kp_I (kp_I (kp_r z) (by omega)) (by omega)) (by omega)) (by omega)
          have w0 : (tI (tI (tI (tI z 234 (3 * pf D) (nI c)) 234 (3 * pf D + 1) (nI d)) 234 (3 * pf D + 2) (nI i)) 232 0 (nI (pf D + 1))).1 234 (3 * pf D) = nI c := by rw [t_n _ _ (by omega), t_n _ _ (by omega), t_n _ _ (by omega), t_s]
          have w1 : (tI (tI (tI (tI z 234 (3 * pf D) (nI c)) 234 (3 * pf D + 1) (nI d)) 234 (3 * pf D + 2) (nI i)) 232 0 (nI (pf D + 1))).1 234 (3 * pf D + 1) = nI d := by rw [t_n _ _ (by omega), t_n _ _ (by omega), t_s]
          have w2 : (tI (tI (tI (tI z 234 (3 * pf D) (nI c)) 234 (3 * pf D + 1) (nI d)) 234 (3 * pf D + 2) (nI i)) 232 0 (nI (pf D + 1))).1 234 (3 * pf D + 2) = nI i := by rw [t_n _ _ (by omega), t_s]
          have w3 : (tI (tI (tI (tI z 234 (3 * pf D) (nI c)) 234 (3 * pf D + 1) (nI d)) 234 (3 * pf D + 2) (nI i)) 232 0 (nI (pf D + 1))).1 232 0 = nI (pf D + 1) := t_s _ _ _ _
          generalize tI (tI (tI (tI z 234 (3 * pf D) (nI c)) 234 (3 * pf D + 1) (nI d)) 234 (3 * pf D + 2) (nI i)) 232 0 (nI (pf D + 1)) = y at hK w0 w1 w2 w3
          have hR : r = .ok (nwF D (lln X p) c d i, lx X 8 p, true) := by
            rw [hr]
            unfold faB
            rw [hw1]
            show (nuR X (lx X 5 p) true 1 40).bind _ = _
            rw [hd']
            show (wR X (lx X 6 p) true wPie).bind _ = _
            rw [hw3]
            show (nuR X (lx X 7 p) true 0 9).bind _ = _
            rw [hi4']
            rfl
          have hyl : ∀ k, y.2.1 233 k = z.2.1 233 k := fun k => by rw [hK.2.1 233 (by omega)]
          refine h1 y _ _ _ hR ⟨ma_K zm hK (fun a k h => by omega), mdr_f (u := u4) (u' := y) o4.2.1 (by omega) (by omega) (fun a k q1 q2 => (hK.1 a k ⟨q1, q2⟩).trans (zi a k)) (fun k hk => (hyl k).trans (zl k hk)) w0 w1 w2 ((hyl _).trans zv) w3 rfl, k_words zw hK (fun a k h => by unfold DWords at h; omega), kr_t o4.2.2.2 (kr_t zk (kr_p (kp_m hK (fun a k h => ?_))))⟩
          have := h.2.2
          unfold DRd at this
          omega
        · have hi4' : nuR X (lx X 7 p) true 0 9 = .error e := hi4
          have hR : r = .error e := by
            rw [hr]
            unfold faB
            rw [hw1]
            show (nuR X (lx X 5 p) true 1 40).bind _ = _
            rw [hd']
            show (wR X (lx X 6 p) true wPie).bind _ = _
            rw [hw3]
            show (nuR X (lx X 7 p) true 0 9).bind _ = _
            rw [hi4']
            rfl
          exact i_neg (mf_bad f4) (h0 u4 e hR (re_K o3.2.2.2 k4 f4))
      · have hR : r = .error (1, lst X (lx X 6 p)) := by
          rw [hr]
          unfold faB
          rw [hw1]
          show (nuR X (lx X 5 p) true 1 40).bind _ = _
          rw [hd']
          show (wR X (lx X 6 p) true wPie).bind _ = _
          rw [show wR X (lx X 6 p) true wPie = .error (1, lst X (lx X 6 p)) from if_neg hi3]
          rfl
        exact r_numberF f3 (i_neg (mf_bad f3) (h0 u3 _ hR (re_K o2.2.2.2 k3 f3)))
    · have hd' : nuR X (lx X 5 p) true 1 40 = .error e := hd
      have hR : r = .error e := by
        rw [hr]
        unfold faB
        rw [hw1]
        show (nuR X (lx X 5 p) true 1 40).bind _ = _
        rw [hd']
        rfl
      exact r_asksF f2 (r_numberF f2 (i_neg (mf_bad f2) (h0 u2 _ hR (re_K o1.2.2.2 k2 f2))))
  · have hR : r = .error (1, lst X (lx X 4 p)) := by
      rw [hr]
      unfold faB
      rw [show wR X (lx X 4 p) true wDay = .error (1, lst X (lx X 4 p)) from if_neg hi]
      rfl
    exact r_numberF f1 (r_asksF f1 (r_numberF f1 (i_neg (mf_bad f1) (h0 u1 _ hR (re_K h.2.2.2 k1 f1)))))
theorem r_farmL {X : Tx} {e : E2} {D : Pl} {v2 : Int64} {v4 : Int32} {Q : St → Prop} {u : St} (h6 : pf D ≤ 6) (hn : u.1 232 0 = nI (pf D)) (h : Mf u X e) (hQ : Q u) : ∀ i, i ≤ pf D → ∃ n, sX12_farmTold_p34n v2 v4 Q n (nI i) u := by
  intro i hi
  refine for_up (sX12_farmTold_p34n v2 v4 Q) (pf D) (fun i s => s = u) (fun n i s hi hI hK => ?_) i u hi rfl
  subst hI
  show sX12_farmTold_p34b v2 v4 Q (sX12_farmTold_p34n v2 v4 Q n) (nI i) s
  unfold sX12_farmTold_p34b
  refine ⟨vp_in_nI (n := 0) (by omega) (by omega), ?_⟩
  rw [show ((0 : Int32)).toNatClampNeg = 0 by first | decide | (unfold vp_in; decide), hn]
  by_cases c : i = pf D
  · refine i_pos (nI_le (by omega) (by omega)) (r_asksF h (r_numberF h (r_asksF h (r_numberF h (i_neg (mf_bad h) hQ)))))
  · refine i_neg (nI_ge (by omega) (by omega)) (i_neg (mf_bad h) ?_)
    unfold sX12_farmTold_p75
    rw [nI_1]
    exact hK (by omega) s rfl
theorem r_farm {X : Tx} {p b : Nat} {D : Pl} {u0 u : St} {r : Rd} {Q : St → Prop} (hD : VD D p) (hb : b ≤ 1600) (h : RdO X D u0 u p true) (hf : pf D = 6 → ∀ u', RdE X u0 u' (5, b) → Q u') (hr : r = faR X D p) (h1 : ∀ u' D' p' g', pf D ≠ 6 → r = .ok (D', p', g') → RdO X D' u0 u' p' g' → Q u') (h0 : ∀ u' e, pf D ≠ 6 → r = .error e → RdE X u0 u' e → Q u') : s_X12_farmTold (nI b) Q u := by
  unfold s_X12_farmTold
  have hp := h.1.2.1
  have h16 := h.1.1.1
  have hbd := hD.1
  have hx := fun n => (lx_le hp n).2
  have hl3 := lst_p (hx 3)
  refine r_full (v := 0) (n := pf D) (m := 6) (by omega) h.2.1.1.2.2.2.1 (by omega) (by omega) hb h (fun e6 u1 e1 => i_neg (by first | decide | (unfold vp_in; decide)) (hf e6 u1 e1)) (fun n6 => i_pos rfl ?_)
  refine r_newName hD (by omega) h.2.2.1 h.2.1 h.1 (fun u1 k1 hn hv m1 => ?_) (fun u1 e rr k1 hn f1 => ?_)
  · have o1 := ro_K hD (by omega) h k1 m1
    have hr1 : r = faA X D p := by
      rw [hr, faR_A, hn]
      rfl
    refine r_asks (v := 207) (w := wAt) (by omega) (wd_of (q := (207, wAt)) o1.2.2.1 (by first | decide | (unfold vp_in; decide))) m1 (fun u2 k2 hi m2 => ?_) (fun u2 k2 hi f2 => ?_)
    · have o2 := ro_K hD (by omega) o1 k2 m2
      have hw2 : wR X (lx X 1 p) true wAt = .ok () := if_pos hi
      have hr2 : ∀ y, (plR X D (lx X 2 p)).bind (fun c => if (fAt D c).isSome = true then .error (2, lst X (lx X 3 p)) else faB X D p c) = y → r = y := by
        intro y hy
        rw [hr1, ← hy]
        unfold faA
        rw [hw2]
        rfl
      refine r_cell (by omega) ⟨o2.2.1.1.1, o2.2.1.1.2.1⟩ m2 (fun u3 c k3 hc hcel h36 m3 e10 => ?_) (fun u3 e k3 hc f3 => ?_)
      · have o3 := ro_K hD (by omega) o2 k3 m3
        have hc' : plR X D (lx X 2 p) = .ok c := hc
        have hr3 : r = if (fAt D c).isSome = true then .error (2, lst X (lx X 3 p)) else faB X D p c := by
          refine hr2 _ ?_
          rw [hc']
          rfl
        unfold sX12_farmTold_p34
        refine for_up (sX12_farmTold_p34n (lN (nmL (lln X p) (nmK (lln X p) 6))) (nI c) Q) (pf D) (fun i s => (s = u3 ∧ ∀ f, f < i → fce D f ≠ c) ∨ (RdE X u0 s (2, lst X (lx X 3 p)) ∧ (fAt D c).isSome = true ∧ s.1 232 0 = nI (pf D))) (fun n i s hi hI hK => ?_) 0 u3 (Nat.zero_le _) (Or.inl ⟨rfl, fun f hf => absurd hf (by omega)⟩)
        rcases hI with ⟨rfl, hI⟩ | ⟨hE, hfa, hcn⟩
        · show sX12_farmTold_p34b (lN (nmL (lln X p) (nmK (lln X p) 6))) (nI c) Q (sX12_farmTold_p34n (lN (nmL (lln X p) (nmK (lln X p) 6))) (nI c) Q n) (nI i) s
          by_cases ci : i = pf D
          · rw [ci]
            have hfa : fAt D c = none := fAtN_n (fun f hf => hI f (by omega))
            have hr4 : r = faB X D p c := by
              rw [hr3, hfa]
              rfl
            exact r_farmE hD hp n6 hcel h36 o3 hr4 (fun u' D' p' g' q1 q2 => h1 u' D' p' g' n6 q1 q2) (fun u' e q1 q2 => h0 u' e n6 q1 q2)
          · unfold sX12_farmTold_p34b
            refine ⟨vp_in_nI (n := 0) (by omega) (by omega), ?_⟩
            rw [show ((0 : Int32)).toNatClampNeg = 0 by first | decide | (unfold vp_in; decide), o3.2.1.1.2.2.2.1]
            refine i_neg (nI_ge (by omega) (by omega)) ?_
            rw [m3.2.2.2.2.2.1, show (3 : Int32) * nI i = nI (3 * i) from pk_mul 3 i]
            refine i_pos rfl ⟨vp_in_nI (by omega) (by omega), ?_⟩
            have hfc := (hD.2.1 i (by omega)).1
            have hf36 : fce D i < 36 := by
              unfold cel at hfc
              omega
            rw [nI_clamp (by omega), (o3.2.1.2.1 i (by omega)).1]
            unfold sX12_farmTold_p75
            rw [nI_1]
            by_cases cc : fce D i = c
            · refine i_pos (by rw [cc]) ?_
              rw [e10]
              refine r_fail (f := 2) (a := lst X (lx X 3 p)) m3 (by omega) (by omega) (fun u4 k4 f4 => hK (by omega) u4 (Or.inr ⟨re_K o3.2.2.2 k4 f4, fAtN_y (by omega) cc, ?_⟩))
              rw [k4.1 232 0 (by unfold SXr; omega)]
              exact o3.2.1.1.2.2.2.1
            · refine i_neg (x_ne (by omega) (by omega) cc) (hK (by omega) s (Or.inl ⟨rfl, fun f hf => ?_⟩))
              by_cases e : f = i
              · rw [e]
                exact cc
              · exact hI f (by omega)
        · have hR : r = .error (2, lst X (lx X 3 p)) := hr3.trans (if_pos hfa)
          show sX12_farmTold_p34b (lN (nmL (lln X p) (nmK (lln X p) 6))) (nI c) Q (sX12_farmTold_p34n (lN (nmL (lln X p) (nmK (lln X p) 6))) (nI c) Q n) (nI i) s
          unfold sX12_farmTold_p34b
          refine ⟨vp_in_nI (n := 0) (by omega) (by omega), ?_⟩
          rw [show ((0 : Int32)).toNatClampNeg = 0 by first | decide | (unfold vp_in; decide), hcn]
          have hm := hE.1
          by_cases ci : i = pf D
          · exact i_pos (nI_le (by omega) (by omega)) (r_asksF hm (r_numberF hm (r_asksF hm (r_numberF hm (i_neg (mf_bad hm) (h0 s _ n6 hR hE))))))
          · refine i_neg (nI_ge (by omega) (by omega)) (i_neg (mf_bad hm) ?_)
            unfold sX12_farmTold_p75
            rw [nI_1]
            exact hK (by omega) s (Or.inr ⟨hE, hfa, hcn⟩)
      · have hc' : plR X D (lx X 2 p) = .error e := hc
        have hR : r = .error e := by
          refine hr2 _ ?_
          rw [hc']
          rfl
        have hcn : u3.1 232 0 = nI (pf D) := by rw [k3.1 232 0 (by unfold SXr; omega)]; exact o2.2.1.1.2.2.2.1
        exact r_farmL (D := D) (by omega) hcn f3 (h0 u3 e n6 hR (re_K o2.2.2.2 k3 f3)) 0 (Nat.zero_le _)
    · have hR : r = .error (1, lst X (lx X 1 p)) := by
        rw [hr1]
        unfold faA
        rw [show wR X (lx X 1 p) true wAt = .error (1, lst X (lx X 1 p)) from if_neg hi]
        rfl
      have hcn : u2.1 232 0 = nI (pf D) := by rw [k2.1 232 0 (by unfold SXr; omega)]; exact o1.2.1.1.2.2.2.1
      exact r_cellF f2 (r_farmL (D := D) (by omega) hcn f2 (h0 u2 _ n6 hR (re_K o1.2.2.2 k2 f2)) 0 (Nat.zero_le _))
  · have hR : r = .error e := by
      rw [hr, faR_A, hn]
      rfl
    have hcn : u1.1 232 0 = nI (pf D) := by rw [k1.1 232 0 (by unfold SXr; omega)]; exact h.2.1.1.2.2.2.1
    exact r_asksF f1 (r_cellF f1 (r_farmL (D := D) (by omega) hcn f1 (h0 u1 e n6 hR (re_K h.2.2.2 k1 f1)) 0 (Nat.zero_le _)))
def caA (X : Tx) (D : Pl) (p : Nat) : Rd := (wR X (lx X 1 p) true wBold).bind fun _ => (nuR X (lx X 2 p) true 0 9).bind fun b => (wR X (lx X 3 p) true wKind).bind fun _ => (nuR X (lx X 4 p) true 0 9).bind fun k => .ok (nwK D (lln X p) b k, lx X 5 p, true)
theorem caR_A (X : Tx) (D : Pl) (p : Nat) : caR X D p = (nnR X D p).bind fun _ => caA X D p := rfl
theorem r_caller {X : Tx} {p b : Nat} {D : Pl} {u0 u : St} {r : Rd} {Q : St → Prop} (hD : VD D p) (hb : b ≤ 1600) (h : RdO X D u0 u p true) (hf : pk D = 5 → ∀ u', RdE X u0 u' (5, b) → Q u') (hr : r = caR X D p) (h1 : ∀ u' D' p' g', pk D ≠ 5 → r = .ok (D', p', g') → RdO X D' u0 u' p' g' → Q u') (h0 : ∀ u' e, pk D ≠ 5 → r = .error e → RdE X u0 u' e → Q u') : s_X12_callerTold (nI b) Q u := by
  unfold s_X12_callerTold
  have hp := h.1.2.1
  have h16 := h.1.1.1
  have hbd := hD.1
  refine r_full (v := 1) (n := pk D) (m := 5) (by omega) h.2.1.1.2.2.2.2 (by omega) (by omega) hb h (fun e6 u1 e1 => i_neg (by first | decide | (unfold vp_in; decide)) (hf e6 u1 e1)) (fun n5 => i_pos rfl ?_)
  rw [show ((1 : Int32)).toNatClampNeg = 1 by first | decide | (unfold vp_in; decide)]
  refine r_newName hD (by omega) h.2.2.1 h.2.1 h.1 (fun u1 k1 hn hv m1 => ?_) (fun u1 e rr k1 hn f1 => ?_)
  · have o1 := ro_K hD (by omega) h k1 m1
    have hr1 : r = caA X D p := by
      rw [hr, caR_A, hn]
      rfl
    refine r_asks (v := 211) (w := wBold) (by omega) (wd_of (q := (211, wBold)) o1.2.2.1 (by first | decide | (unfold vp_in; decide))) m1 (fun u2 k2 hi m2 => ?_) (fun u2 k2 hi f2 => ?_)
    · have o2 := ro_K hD (by omega) o1 k2 m2
      have hw2 : wR X (lx X 1 p) true wBold = .ok () := if_pos hi
      refine r_number (least := 0) (most := 9) (by omega) (by omega) m2 (fun u3 x k3 hx m3 _ => ?_) (fun u3 e rr k3 hx f3 => ?_)
      · have o3 := ro_K hD (by omega) o2 k3 m3
        have hx' : nuR X (lx X 2 p) true 0 9 = .ok x := hx
        refine r_asks (v := 212) (w := wKind) (by omega) (wd_of (q := (212, wKind)) o3.2.2.1 (by first | decide | (unfold vp_in; decide))) m3 (fun u4 k4 hi4 m4 => ?_) (fun u4 k4 hi4 f4 => ?_)
        · have o4 := ro_K hD (by omega) o3 k4 m4
          have hw4 : wR X (lx X 3 p) true wKind = .ok () := if_pos hi4
          refine r_number (least := 0) (most := 9) (by omega) (by omega) m4 (fun u5 y k5 hy m5 _ => ?_) (fun u5 e rr k5 hy f5 => ?_)
          · have o5 := ro_K hD (by omega) o4 k5 m5
            have hy' : nuR X (lx X 4 p) true 0 9 = .ok y := hy
            have e0 : u5.1 232 1 = nI (pk D) := o5.2.1.1.2.2.2.2
            rw [m5.2.2.2.2.2.1]
            refine i_pos rfl ⟨vp_in_nI (n := 1) (by omega) (by omega), ?_⟩
            rw [e0, show (8 : Int32) + nI (pk D) = nI (8 + pk D) from nI_add 8 _]
            refine ⟨vp_in_nI (by omega) (by omega), bnd_i ?_⟩
            rw [nI_clamp (by omega)]
            have z0 : (tL u5 233 (8 + pk D) (lN (nmL (lln X p) (nmK (lln X p) 6)))).1 232 1 = nI (pk D) := e0
            have zi : ∀ a k, (tL u5 233 (8 + pk D) (lN (nmL (lln X p) (nmK (lln X p) 6)))).1 a k = u5.1 a k := fun a k => rfl
            have zl : ∀ k, k ≠ 8 + pk D → (tL u5 233 (8 + pk D) (lN (nmL (lln X p) (nmK (lln X p) 6)))).2.1 233 k = u5.2.1 233 k := by
              intro k hk
              show (if 233 = 233 ∧ k = 8 + pk D then _ else u5.2.1 233 k) = _
              first | refine i_neg (by omega) ?_ | rw [if_neg (by omega)]
              try (with_reducible rfl)
            have zv : (tL u5 233 (8 + pk D) (lN (nmL (lln X p) (nmK (lln X p) 6)))).2.1 233 (8 + pk D) = lN (nmL (lln X p) (nmK (lln X p) 6)) := by
              show (if 233 = 233 ∧ 8 + pk D = 8 + pk D then _ else u5.2.1 233 (8 + pk D)) = _
              first | refine i_pos ⟨rfl, rfl⟩ ?_ | rw [if_pos ⟨rfl, rfl⟩]
              try (with_reducible rfl)
            have zk : Kr SRd u5 (tL u5 233 (8 + pk D) (lN (nmL (lln X p) (nmK (lln X p) 6)))) := kr_L (kr_p (kp_r u5)) (by omega)
            have zm : Ma (tL u5 233 (8 + pk D) (lN (nmL (lln X p) (nmK (lln X p) 6)))) X (lx X 5 p) true := m5
            have zw : gWords (tL u5 233 (8 + pk D) (lN (nmL (lln X p) (nmK (lln X p) 6)))) := o5.2.2.1
            generalize tL u5 233 (8 + pk D) (lN (nmL (lln X p) (nmK (lln X p) 6))) = z at z0 zi zl zv zk zm zw
            rw [z0, show (2 : Int32) * nI (pk D) = nI (2 * pk D) from pk_mul 2 _]
            refine ⟨vp_in_nI (by omega) (by omega), bnd_i ?_⟩
            rw [nI_clamp (by omega)]
            rw [show (tI z 235 (2 * pk D) (nI x)).1 232 1 = nI (pk D) by rw [t_n _ _ (by omega)]; exact z0, show (2 : Int32) * nI (pk D) = nI (2 * pk D) from pk_mul 2 _, nI_1]
            refine ⟨vp_in_nI (by omega) (by omega), bnd_i (bnd_i ?_)⟩
            rw [nI_clamp (by omega)]
            rw [show (tI (tI z 235 (2 * pk D) (nI x)) 235 (2 * pk D + 1) (nI y)).1 232 1 = nI (pk D) by rw [t_n _ _ (by omega), t_n _ _ (by omega)]; exact z0, nI_1]
            have hK : Kp (fun a k => ¬ (a = 235 ∧ 2 * pk D ≤ k ∧ k ≤ 2 * pk D + 1) ∧ ¬ (a = 232 ∧ k = 1)) z (tI (tI (tI z 235 (2 * pk D) (nI x)) 235 (2 * pk D + 1) (nI y)) 232 1 (nI (pk D + 1))) := kp_I (kp_I (kp_I (kp_r z) (by omega)) (by omega)) (by omega)
            have w0 : (tI (tI (tI z 235 (2 * pk D) (nI x)) 235 (2 * pk D + 1) (nI y)) 232 1 (nI (pk D + 1))).1 235 (2 * pk D) = nI x := by rw [t_n _ _ (by omega), t_n _ _ (by omega), t_s]
            have w1 : (tI (tI (tI z 235 (2 * pk D) (nI x)) 235 (2 * pk D + 1) (nI y)) 232 1 (nI (pk D + 1))).1 235 (2 * pk D + 1) = nI y := by rw [t_n _ _ (by omega), t_s]
            have w3 : (tI (tI (tI z 235 (2 * pk D) (nI x)) 235 (2 * pk D + 1) (nI y)) 232 1 (nI (pk D + 1))).1 232 1 = nI (pk D + 1) := t_s _ _ _ _
            generalize tI (tI (tI z 235 (2 * pk D) (nI x)) 235 (2 * pk D + 1) (nI y)) 232 1 (nI (pk D + 1)) = q at hK w0 w1 w3
            have hR : r = .ok (nwK D (lln X p) x y, lx X 5 p, true) := by
              rw [hr1]
              unfold caA
              rw [hw2]
              show (nuR X (lx X 2 p) true 0 9).bind _ = _
              rw [hx']
              show (wR X (lx X 3 p) true wKind).bind _ = _
              rw [hw4]
              show (nuR X (lx X 4 p) true 0 9).bind _ = _
              rw [hy']
              rfl
            have hyl : ∀ k, q.2.1 233 k = z.2.1 233 k := fun k => by rw [hK.2.1 233 (by omega)]
            refine h1 q _ _ _ n5 hR ⟨ma_K zm hK (fun a k h => by omega), mdr_k (u := u5) (u' := q) o5.2.1 (by omega) (by omega) (fun a k q1 q2 => (hK.1 a k ⟨q1, q2⟩).trans (zi a k)) (fun k hk => (hyl k).trans (zl k hk)) w0 w1 ((hyl _).trans zv) w3 rfl, k_words zw hK (fun a k h => by unfold DWords at h; omega), kr_t o5.2.2.2 (kr_t zk (kr_p (kp_m hK (fun a k h => ?_))))⟩
            have := h.2.2
            unfold DRd at this
            omega
          · have hy' : nuR X (lx X 4 p) true 0 9 = .error e := hy
            have hR : r = .error e := by
              rw [hr1]
              unfold caA
              rw [hw2]
              show (nuR X (lx X 2 p) true 0 9).bind _ = _
              rw [hx']
              show (wR X (lx X 3 p) true wKind).bind _ = _
              rw [hw4]
              show (nuR X (lx X 4 p) true 0 9).bind _ = _
              rw [hy']
              rfl
            exact i_neg (mf_bad f5) (h0 u5 e n5 hR (re_K o4.2.2.2 k5 f5))
        · have hR : r = .error (1, lst X (lx X 3 p)) := by
            rw [hr1]
            unfold caA
            rw [hw2]
            show (nuR X (lx X 2 p) true 0 9).bind _ = _
            rw [hx']
            show (wR X (lx X 3 p) true wKind).bind _ = _
            rw [show wR X (lx X 3 p) true wKind = .error (1, lst X (lx X 3 p)) from if_neg hi4]
            rfl
          exact r_numberF f4 (i_neg (mf_bad f4) (h0 u4 _ n5 hR (re_K o3.2.2.2 k4 f4)))
      · have hx' : nuR X (lx X 2 p) true 0 9 = .error e := hx
        have hR : r = .error e := by
          rw [hr1]
          unfold caA
          rw [hw2]
          show (nuR X (lx X 2 p) true 0 9).bind _ = _
          rw [hx']
          rfl
        exact r_asksF f3 (r_numberF f3 (i_neg (mf_bad f3) (h0 u3 _ n5 hR (re_K o2.2.2.2 k3 f3))))
    · have hR : r = .error (1, lst X (lx X 1 p)) := by
        rw [hr1]
        unfold caA
        rw [show wR X (lx X 1 p) true wBold = .error (1, lst X (lx X 1 p)) from if_neg hi]
        rfl
      exact r_numberF f2 (r_asksF f2 (r_numberF f2 (i_neg (mf_bad f2) (h0 u2 _ n5 hR (re_K o1.2.2.2 k2 f2)))))
  · have hR : r = .error e := by
      rw [hr, caR_A, hn]
      rfl
    exact r_asksF f1 (r_numberF f1 (r_asksF f1 (r_numberF f1 (i_neg (mf_bad f1) (h0 u1 _ n5 hR (re_K h.2.2.2 k1 f1))))))
theorem sy_rd : ∀ a k, SRd a k → SYq a k := fun a k h => h.1
theorem drd_sy : ∀ a k, DRd a k → SYq a k := fun a k h => by unfold DRd at h; unfold SYq; omega
theorem mdr_c {u u' : St} {w p : Nat} {c : List Nat} {D : Pl} (hM : mDr u D) (hw : w = 0 ∨ w = 1) (he : gC D w = []) (hc : c ≠ []) (hl : D.2.1.length + D.2.2.length + c.length ≤ 1600) (hK : Kp (fun a k => ¬ ((a = 238 ∨ a = 239) ∧ k = w) ∧ ¬ (a = 198 ∧ k = 54) ∧ ¬ (a = 240 ∧ D.2.1.length + D.2.2.length ≤ k)) u u') (v8 : u'.1 238 w = nI (D.2.1.length + D.2.2.length)) (v9 : u'.1 239 w = nI (D.2.1.length + D.2.2.length + c.length)) (v54 : u'.1 198 54 = nI (D.2.1.length + D.2.2.length + c.length)) (vc : ∀ i, i < c.length → u'.1 240 (D.2.1.length + D.2.2.length + i) = nI (c.getD i 0)) : mDr u' (sC D w c) := by
  obtain ⟨⟨a1, a2, a3, a4, a5⟩, b, cc, d, e, f, g⟩ := hM
  have hD1 : (sC D w c).1 = D.1 := by
    rcases hw with rfl | rfl <;> rfl
  have hln : (sC D w c).2.1.length + (sC D w c).2.2.length = D.2.1.length + D.2.2.length + c.length := by
    rcases hw with rfl | rfl
    · have he' : D.2.1 = [] := he
      show c.length + D.2.2.length = _
      rw [he']
      simp
      omega
    · have he' : D.2.2 = [] := he
      show D.2.1.length + c.length = _
      rw [he']
      simp
  have hco : mC2 u' 0 (D.2.1.length + D.2.2.length + c.length) (sC D w c).2.1 ∧ mC2 u' 1 (D.2.1.length + D.2.2.length + c.length) (sC D w c).2.2 := by
    have hnew : mC2 u' w (D.2.1.length + D.2.2.length + c.length) c := Or.inr ⟨hc, _, v8, v9, Nat.le_refl _, vc⟩
    rcases hw with rfl | rfl
    · exact ⟨hnew, mc2_K f (by omega) (by omega) hl hK (fun a k h => by omega)⟩
    · exact ⟨mc2_K e (by omega) (by omega) hl hK (fun a k h => by omega), hnew⟩
  generalize hE : sC D w c = E at hco hD1 hln
  have q0 : pc E = pc D ∧ pr E = pr D ∧ ps E = ps D ∧ pf E = pf D ∧ pk E = pk D := by
    unfold pc pr ps pf pk
    rw [hD1]
    exact ⟨rfl, rfl, rfl, rfl, rfl⟩
  have q1 : fce E = fce D ∧ fda E = fda D ∧ fnm E = fnm D ∧ cbo E = cbo D ∧ cki E = cki D ∧ cnm E = cnm D := by
    unfold fce fda fnm cbo cki cnm
    rw [hD1]
    exact ⟨rfl, rfl, rfl, rfl, rfl, rfl⟩
  refine ⟨⟨?_, ?_, ?_, ?_, ?_⟩, fun x hx => ?_, fun x hx => ?_, fun x hx => ?_, by rw [hln]; exact hco.1, by rw [hln]; exact hco.2, by rw [hln]; exact v54⟩
  · rw [hK.1 _ _ (by omega), q0.1]
    exact a1
  · rw [hK.1 _ _ (by omega), q0.2.1]
    exact a2
  · rw [hK.1 _ _ (by omega), q0.2.2.1]
    exact a3
  · rw [hK.1 _ _ (by omega), q0.2.2.2.1]
    exact a4
  · rw [hK.1 _ _ (by omega), q0.2.2.2.2]
    exact a5
  · rw [q0.2.2.2.1] at hx
    rw [q1.1, q1.2.1, q1.2.2.1, hD1, hK.1 234 _ (by omega), hK.1 234 _ (by omega), hK.1 234 _ (by omega), hK.2.1 233 (by omega)]
    exact b x hx
  · rw [q0.2.2.2.2] at hx
    rw [q1.2.2.2.1, q1.2.2.2.2.1, q1.2.2.2.2.2, hK.1 235 _ (by omega), hK.1 235 _ (by omega), hK.2.1 233 (by omega)]
    exact cc x hx
  · rw [hD1, hK.1 236 _ (by omega), hK.1 237 _ (by omega)]
    exact d x hx
theorem good_ne {c : List Nat} {d : Nat} (hd : d ≤ 64) (h : Good false d c) : c ≠ [] := by
  intro e
  rw [e] at h
  have := h [] (by simpa using hd)
  unfold tyR at this
  exact absurd this (by simp)
theorem r_codesT {X : Tx} {w p b : Nat} {D : Pl} {u0 u : St} {Q : St → Prop} (hD : VD D p) (hw : w = 0 ∨ w = 1) (hb : b ≤ 1600) (h : RdO X D u0 u p true) (hf : gC D w ≠ [] → ∀ u', RdE X u0 u' (5, b) → Q u') (r : Rd) (hr : gC D w = [] → CoR X D w p r) (h1 : ∀ u' D' p' g', gC D w = [] → r = .ok (D', p', g') → RdO X D' u0 u' p' g' → Q u') (h0 : ∀ u' e, gC D w = [] → r = .error e → RdE X u0 u' e → Q u') : s_X12_codesTold (nI w) (nI b) Q u := by
  unfold s_X12_codesTold
  have hp := h.1.2.1
  have h16 := h.1.1.1
  have hlD := hD.2.2.2.2.2.2.2
  have hm2 : mC2 u w (D.2.1.length + D.2.2.length) (gC D w) := by
    rcases hw with rfl | rfl
    · exact h.2.1.2.2.2.2.1
    · exact h.2.1.2.2.2.2.2.1
  rw [h.1.2.2.2.2.2.1]
  refine i_pos rfl ⟨vp_in_nI (by omega) (by omega), ?_⟩
  rw [nI_clamp (by omega)]
  rcases hm2 with ⟨e8, hg⟩ | ⟨hg, fr, e8, e9, hfr, _⟩
  · rw [e8]
    refine i_pos rfl ?_
    unfold sX12_codesTold_p23
    rw [h.1.2.2.2.2.2.1]
    refine i_pos rfl (bnd_i (bnd_i (bnd_i (bnd_i (bnd_i ?_)))))
    have ky : Kp (fun a k => ¬ (a = 198 ∧ (k = 57 ∨ k = 109 ∨ k = 111 ∨ k = 112 ∨ k = 113))) u (tI (tI (tI (tI (tI u 198 57 (nI w)) 198 109 0) 198 111 0) 198 112 0) 198 113 0) := kp_I (kp_I (kp_I (kp_I (kp_I (kp_r u) (by omega)) (by omega)) (by omega)) (by omega)) (by omega)
    have y57 : (tI (tI (tI (tI (tI u 198 57 (nI w)) 198 109 0) 198 111 0) 198 112 0) 198 113 0).1 198 57 = nI w := by rw [t_n _ _ (by omega), t_n _ _ (by omega), t_n _ _ (by omega), t_n _ _ (by omega), t_s]
    have y109 : (tI (tI (tI (tI (tI u 198 57 (nI w)) 198 109 0) 198 111 0) 198 112 0) 198 113 0).1 198 109 = nI 0 := by rw [t_n _ _ (by omega), t_n _ _ (by omega), t_n _ _ (by omega), t_s]; rfl
    have y111 : (tI (tI (tI (tI (tI u 198 57 (nI w)) 198 109 0) 198 111 0) 198 112 0) 198 113 0).1 198 111 = nI 0 := by rw [t_n _ _ (by omega), t_n _ _ (by omega), t_s]; rfl
    have y112 : (tI (tI (tI (tI (tI u 198 57 (nI w)) 198 109 0) 198 111 0) 198 112 0) 198 113 0).1 198 112 = nI 0 := by rw [t_n _ _ (by omega), t_s]; rfl
    generalize (tI (tI (tI (tI (tI u 198 57 (nI w)) 198 109 0) 198 111 0) 198 112 0) 198 113 0) = z at ky y57 y109 y111 y112
    have hmz : Ma z X p true := ma_K h.1 ky (fun a k h => by omega)
    have hGz : gWords z := k_words h.2.2.1 ky (fun a k h => by unfold DWords at h; omega)
    have hMz : mDr z D := mdr_K h.2.1 hD (by omega) ky (fun a k h => by unfold DRd at h; omega)
    have hKz : Kr SRd u0 z := kr_t h.2.2.2 (kr_p (kp_m ky (fun a k h => by
      have h1 := h.1
      have h2 := h.2.1
      unfold SYq at h1
      omega)))
    have hVz : Wt' z [] := ⟨y111, fun i hi => absurd hi (by simp), fun x hx => absurd hx (by simp)⟩
    have hLz : Cd z [] := ⟨y109, fun i hi => absurd hi (by simp)⟩
    have hq : ∃ q, Rx X w 0 p true [] [] 0 q ∧ ((∃ e, q = .error e ∧ r = .error e) ∨ ∃ p' g' c, q = .ok (p', g', c) ∧ Bs X w p p' false 21 c ∧ r = .ok (sC D w c, p', g')) := by
      rcases hr hg with ⟨e, hx, hre⟩ | ⟨p', g', c, hx, hbs, hre⟩
      · exact ⟨_, hx, Or.inl ⟨e, rfl, hre⟩⟩
      · exact ⟨_, hx, Or.inr ⟨p', g', c, rfl, hbs, hre⟩⟩
    obtain ⟨q, hx, hq⟩ := hq
    refine r_sums (V := []) (L := []) (by omega) hGz y57 hmz hVz hLz ⟨y112, by omega⟩ (by simp) (fun x hx => absurd hx (by simp)) hx (fun u1 p' g' c hqe k1 m1 v1 c1 o1 l1 => ?_) (fun u1 e hqe hsf => ?_)
    · rcases hq with ⟨e, hq, _⟩ | ⟨p2, g2, c2, hq, hbs, hre⟩
      · exact absurd (hq.symm.trans hqe) (by simp)
      · have hqq := Except.ok.inj (hq.symm.trans hqe)
        have hq1 : p2 = p' := congrArg (fun y => y.1) hqq
        have hq2 : g2 = g' := congrArg (fun y => y.2.1) hqq
        have hq3 : c2 = c := congrArg (fun y => y.2.2) hqq
        clear hqq
        subst hq1
        subst hq2
        subst hq3
        rw [List.nil_append] at c1 l1
        have hbs' := hbs
        obtain ⟨b1, b2, b3, b4, b5⟩ := hbs
        have hM1 : mDr u1 D := mdr_K hMz hD (by omega) k1 drd_sy
        have hne := good_ne (by omega) b4
        have e54 := hM1.2.2.2.2.2.2
        rw [m1.2.2.2.2.2.1]
        refine i_pos rfl ⟨vp_in_nI (by omega) (by omega), bnd_i ?_⟩
        rw [e54, nI_clamp (by omega)]
        generalize hn : D.2.1.length + D.2.2.length = n at hlD e54
        unfold sX12_codesTold_p80
        have ks : Kp (fun a k => ¬ (a = 238 ∧ k = w)) u1 (tI u1 238 w (nI n)) := kp_I (kp_r u1) (by omega)
        have s8 : (tI u1 238 w (nI n)).1 238 w = nI n := t_s _ _ _ _
        generalize tI u1 238 w (nI n) = s1 at ks s8
        have c109 : u1.1 198 109 = nI c2.length := c1.1
        refine for_up (sX12_codesTold_p80n (nI w) Q) c2.length (fun i s => s.1 198 54 = nI (n + i) ∧ (∀ j, j < i → s.1 240 (n + j) = nI (c2.getD j 0)) ∧ Kp (fun a k => ¬ (a = 198 ∧ k = 54) ∧ ¬ (a = 240 ∧ n ≤ k ∧ k < 1600)) s1 s) (fun m i s hi hI hK => ?_) 0 s1 (Nat.zero_le _) ⟨by rw [ks.1 198 54 (by omega)]; exact e54, fun j hj => absurd hj (by omega), kp_r s1⟩
        obtain ⟨i54, i240, iK⟩ := hI
        show sX12_codesTold_p80b (nI w) Q (sX12_codesTold_p80n (nI w) Q m) (nI i) s
        unfold sX12_codesTold_p80b
        rw [iK.1 198 109 (by omega), ks.1 198 109 (by omega), c109]
        by_cases ci : i = c2.length
        · refine i_pos (nI_le (by omega) (by omega)) ⟨vp_in_nI (by omega) (by omega), bnd_i ?_⟩
          rw [nI_clamp (by omega), i54, ci]
          have k9 : Kp (fun a k => ¬ (a = 239 ∧ k = w)) s (tI s 239 w (nI (n + c2.length))) := kp_I (kp_r s) (by omega)
          have v9 : (tI s 239 w (nI (n + c2.length))).1 239 w = nI (n + c2.length) := t_s _ _ _ _
          generalize tI s 239 w (nI (n + c2.length)) = y at k9 v9
          have kU : Kp (fun a k => ¬ ((a = 238 ∨ a = 239) ∧ k = w) ∧ ¬ (a = 198 ∧ k = 54) ∧ ¬ (a = 240 ∧ n ≤ k ∧ k < 1600)) u1 y := kp_t (kp_m ks (fun a k h => by omega)) (kp_t (kp_m iK (fun a k h => by omega)) (kp_m k9 (fun a k h => by omega)))
          refine h1 y _ _ _ hg hre ⟨ma_K m1 kU (fun a k h => by omega), mdr_c (p := p) hM1 hw hg hne (by omega) (kp_m kU (fun a k h => by omega)) ?_ ?_ ?_ (fun j hj => ?_), k_words (k_words hGz k1 (fun a k h => by unfold DWords at h; unfold SYq; omega)) kU (fun a k h => by unfold DWords at h; omega), kr_t hKz (kr_t (kr_p (kp_m k1 sy_rd)) (kr_p (kp_m kU (fun a k h => ?_))))⟩
          · rw [k9.1 238 w (by omega), iK.1 238 w (by omega), s8, hn]
          · rw [v9, hn]
          · rw [k9.1 198 54 (by omega), i54, hn, ci]
          · rw [hn, k9.1 240 _ (by omega)]
            exact i240 j (by omega)
          · have := h.2.2
            unfold DRd at this
            omega
        · refine i_neg (nI_ge (by omega) (by omega)) ⟨vp_in_nI (by omega) (by omega), ?_⟩
          rw [i54]
          refine ⟨vp_in_nI (by omega) (by omega), bnd_i (bnd_i ?_)⟩
          rw [nI_clamp (by omega), nI_clamp (by omega), iK.1 282 i (by omega), ks.1 282 i (by omega), c1.2 i (by omega)]
          rw [show (tI s 240 (n + i) (nI (c2.getD i 0))).1 198 54 = nI (n + i) by rw [t_n _ _ (by omega)]; exact i54, nI_1, nI_1]
          refine hK (by omega) _ ⟨t_s _ _ _ _, fun j hj => ?_, kp_I (kp_I iK (by omega)) (by omega)⟩
          rw [t_n _ _ (by omega)]
          by_cases e : j = i
          · rw [e, t_s]
          · rw [t_n _ _ (by omega)]
            exact i240 j (by omega)
    · rcases hq with ⟨e2, hq, hre⟩ | ⟨p2, g2, c2, hq, _⟩
      · have he := Except.error.inj (hq.symm.trans hqe)
        subst he
        exact i_neg (mf_bad hsf.1) (h0 u1 _ hg hre ⟨hsf.1, kr_t hKz (kr_p (kp_m hsf.2.2 sy_rd))⟩)
      · exact absurd (hq.symm.trans hqe) (by simp)
  · rw [e8]
    refine i_neg (by rw [x_ne1 (by omega)]; exact id) (r_fail (f := 5) h.1 (by omega) hb (fun u1 k1 f1 => ?_))
    unfold sX12_codesTold_p23
    exact i_neg (mf_bad f1) (hf hg u1 (re_K h.2.2.2 k1 f1))
theorem wds2 {X : Tx} {p : Nat} : wIn X p false (wds 2) = none ∨ ∃ k, k < 7 ∧ wIn X p false (wds 2) = some k := by
  cases e : wIn X p false (wds 2) with
  | none => exact Or.inl rfl
  | some k => exact Or.inr ⟨k, wIn_b e, rfl⟩
/-- what a statement comes to, if its word is the k-th -/
theorem stm_k {X : Tx} {D : Pl} {p k : Nat} {r : Rq} (h : Stm X D p r) (hk : wIn X p false (wds 2) = some k) : (ful D k ∧ r = .error (5, lst X p)) ∨ (¬ ful D k ∧ ∃ q, Bdy X D (lnx X p) k q ∧ r = smR X q) := by
  rcases h with ⟨h1, _⟩ | ⟨k', h1, h2⟩
  · rw [hk] at h1
    exact absurd h1 (by simp)
  · have : k' = k := Option.some.inj (h1.symm.trans hk)
    subst this
    exact h2
theorem bdy_k {X : Tx} {D : Pl} {p k : Nat} {q : Rd} (h : Bdy X D p k q) : (k = 0 → q = hiR X D p) ∧ (k = 1 → q = stR X D p) ∧ (k = 2 → q = soR X D p) ∧ (k = 3 → q = faR X D p) ∧ (k = 4 → q = caR X D p) ∧ (k = 5 → CoR X D 0 p q) ∧ (k = 6 → CoR X D 1 p q) := by
  rcases h with ⟨rfl, h⟩ | ⟨rfl, h⟩ | ⟨rfl, h⟩ | ⟨rfl, h⟩ | ⟨rfl, h⟩ | ⟨rfl, h⟩ | ⟨rfl, h⟩
  · exact ⟨fun _ => h, fun e => absurd e (by omega), fun e => absurd e (by omega), fun e => absurd e (by omega), fun e => absurd e (by omega), fun e => absurd e (by omega), fun e => absurd e (by omega)⟩
  · exact ⟨fun e => absurd e (by omega), fun _ => h, fun e => absurd e (by omega), fun e => absurd e (by omega), fun e => absurd e (by omega), fun e => absurd e (by omega), fun e => absurd e (by omega)⟩
  · exact ⟨fun e => absurd e (by omega), fun e => absurd e (by omega), fun _ => h, fun e => absurd e (by omega), fun e => absurd e (by omega), fun e => absurd e (by omega), fun e => absurd e (by omega)⟩
  · exact ⟨fun e => absurd e (by omega), fun e => absurd e (by omega), fun e => absurd e (by omega), fun _ => h, fun e => absurd e (by omega), fun e => absurd e (by omega), fun e => absurd e (by omega)⟩
  · exact ⟨fun e => absurd e (by omega), fun e => absurd e (by omega), fun e => absurd e (by omega), fun e => absurd e (by omega), fun _ => h, fun e => absurd e (by omega), fun e => absurd e (by omega)⟩
  · exact ⟨fun e => absurd e (by omega), fun e => absurd e (by omega), fun e => absurd e (by omega), fun e => absurd e (by omega), fun e => absurd e (by omega), fun _ => h, fun e => absurd e (by omega)⟩
  · exact ⟨fun e => absurd e (by omega), fun e => absurd e (by omega), fun e => absurd e (by omega), fun e => absurd e (by omega), fun e => absurd e (by omega), fun e => absurd e (by omega), fun _ => h⟩
def SR5 (a k : Nat) : Prop := SRd a k ∧ ¬ (a = 198 ∧ k = 55)
theorem r_codesF {X : Tx} {e : E2} {v1 v2 : Int32} {Q : St → Prop} {u : St} (h : Mf u X e) (hQ : Q u) : s_X12_codesTold v1 v2 Q u := by
  unfold s_X12_codesTold sX12_codesTold_p23
  exact i_neg (mf_bad h) (i_neg (mf_bad h) hQ)
theorem r_statement {X : Tx} {p n : Nat} {D : Pl} {u : St} {r : Rq} {Q : St → Prop} (hD : VD D p) (hm : Ma u X p false) (hM : mDr u D) (hG : gWords u) (h2 : u.1 198 2 = nI (lst X p)) (h55 : u.1 198 55 = nI n) (hn : n < 80) (hr : Stm X D p r) (h1 : ∀ u' D' p', r = .ok (D', p') → Ma u' X p' false → mDr u' D' → gWords u' → Kr SR5 u u' → u'.1 198 55 = nI (n + 1) → Q u') (h0 : ∀ u' e, r = .error e → Mf u' X e → Kr SR5 u u' → Q u') : s_X12_statementTold Q u := by
  unfold s_X12_statementTold
  have h : RdO X D u u p false := ⟨hm, hM, hG, kr_p (kp_r u)⟩
  have hp := h.1.2.1
  have h16 := h.1.1.1
  have hl := lst_p hp
  have hx := lx_le hp 1
  have hD1 : VD D (lnx X p) := vd_le hD hx.1
  rw [h55, h2]
  refine i_neg (x_ne (k := 80) (by omega) (by omega) (by omega)) ?_
  have k55 : ∀ s : St, Kr SRd u s → s.1 198 55 = nI n := by
    intro s hs
    rw [hs.1 198 55 (by unfold SRd SYq DRd; omega)]
    exact h55
  have hok : ∀ u' D' p' g', r = smR X (.ok (D', p', g')) → RdO X D' u u' p' g' → sX12_statementTold_p160 Q u' := by
    intro u' D' p' g' hs ho
    have e55 := k55 u' ho.2.2.2
    unfold sX12_statementTold_p160
    have hs' : r = if isS X p' g' 59 then .ok (D', lnx X p') else .error (1, lst X p') := hs
    refine r_asksSign (c := 59) ⟨by omega, by first | decide | (unfold vp_in; decide)⟩ ho.1 (fun u1 k1 hi m1 => bnd_i ?_) (fun u1 k1 hi f1 => bnd_i ?_)
    · rw [k1.1 198 55 (by unfold SXr; omega), e55, nI_1]
      have hK : Kp (fun a k => ¬ (a = 198 ∧ k = 55)) u1 (tI u1 198 55 (nI (n + 1))) := kp_I (kp_r u1) (by omega)
      have kk : Kp (fun a k => SXr a k ∧ ¬ (a = 198 ∧ k = 55)) u' (tI u1 198 55 (nI (n + 1))) := kp_t (kp_m k1 (fun a k h => h.1)) (kp_m hK (fun a k h => h.2))
      refine h1 _ D' (lnx X p') (hs'.trans (if_pos hi)) (ma_K m1 hK (fun a k h => by omega)) ?_ (k_words ho.2.2.1 kk (fun a k h => by unfold DWords at h; unfold SXr; omega)) (kr_t (kr_m ho.2.2.2 (fun a k h => h.1)) (kr_p (kp_m kk (fun a k h => ⟨sxr_rd a k h.1, h.2⟩)))) (t_s _ _ _ _)
      obtain ⟨⟨a1, a2, a3, a4, a5⟩, b, cc, d, e, f, g⟩ := ho.2.1
      have hJ : ∀ a k, a = 238 ∨ a = 239 ∨ a = 240 → (tI u1 198 55 (nI (n + 1))).1 a k = u'.1 a k := fun a k h => kk.1 a k (by unfold SXr; omega)
      refine ⟨⟨?_, ?_, ?_, ?_, ?_⟩, fun x hx => ?_, fun x hx => ?_, fun x hx => ?_, mc2_J e (Nat.le_refl _) hJ, mc2_J f (Nat.le_refl _) hJ, ?_⟩
      · rw [kk.1 _ _ (by unfold SXr; omega)]
        exact a1
      · rw [kk.1 _ _ (by unfold SXr; omega)]
        exact a2
      · rw [kk.1 _ _ (by unfold SXr; omega)]
        exact a3
      · rw [kk.1 _ _ (by unfold SXr; omega)]
        exact a4
      · rw [kk.1 _ _ (by unfold SXr; omega)]
        exact a5
      · rw [kk.1 234 _ (by unfold SXr; omega), kk.1 234 _ (by unfold SXr; omega), kk.1 234 _ (by unfold SXr; omega), kk.2.1 233 (by omega)]
        exact b x hx
      · rw [kk.1 235 _ (by unfold SXr; omega), kk.1 235 _ (by unfold SXr; omega), kk.2.1 233 (by omega)]
        exact cc x hx
      · rw [kk.1 236 _ (by unfold SXr; omega), kk.1 237 _ (by unfold SXr; omega)]
        exact d x hx
      · rw [kk.1 _ _ (by unfold SXr; omega)]
        exact g
    · have hK : ∀ v, Kp (fun a k => ¬ (a = 198 ∧ k = 55)) u1 (tI u1 198 55 v) := fun v => kp_I (kp_r u1) (by omega)
      exact h0 _ _ (hs'.trans (if_neg hi)) (mf_K f1 (hK _) (fun a k h => by omega)) (kr_t (kr_m ho.2.2.2 (fun a k h => h.1)) (kr_t (kr_p (kp_m k1 (fun a k h => sxr_rd a k h.1))) (kr_p (kp_m (hK _) (fun a k h => h.2)))))
  have her : ∀ u' e, r = .error e → RdE X u u' e → sX12_statementTold_p160 Q u' := by
    intro u' e hs he
    unfold sX12_statementTold_p160
    have hK : ∀ v, Kp (fun a k => ¬ (a = 198 ∧ k = 55)) u' (tI u' 198 55 v) := fun v => kp_I (kp_r u') (by omega)
    exact r_asksSignF he.1 (bnd_i (h0 _ e hs (mf_K he.1 (hK _) (fun a k h => by omega)) (kr_t (kr_m he.2 (fun a k h => h.1)) (kr_p (kp_m (hK _) (fun a k h => h.2))))))
  have H5 : ∀ k, wIn X p false (wds 2) = some k → ful D k → r = .error (5, lst X p) := by
    intro k hk hf
    rcases stm_k hr hk with ⟨_, hre⟩ | ⟨hnf, _⟩
    · exact hre
    · exact absurd hf hnf
  have HB : ∀ k, wIn X p false (wds 2) = some k → ¬ ful D k → ∃ q, Bdy X D (lnx X p) k q ∧ r = smR X q := by
    intro k hk hf
    rcases stm_k hr hk with ⟨hf', _⟩ | ⟨_, hB⟩
    · exact absurd hf' hf
    · exact hB
  have hcod : ∀ (s : St) (w : Nat), (w = 0 ∨ w = 1) → wIn X p false (wds 2) = some (5 + w) → RdO X D u s (lnx X p) true → s_X12_codesTold (nI w) (nI (lst X p)) (fun u23 => sX12_statementTold_p160 Q u23) s := by
    intro s w hw hk ho
    by_cases hg : gC D w = []
    · have hnf : ¬ ful D (5 + w) := by
        intro hf
        rcases hf with hf | hf | hf | hf
        · omega
        · omega
        · rcases hw with rfl | rfl
          · exact hf.2 hg
          · omega
        · rcases hw with rfl | rfl
          · omega
          · exact hf.2 hg
      obtain ⟨q, hB, hre⟩ := HB _ hk hnf
      have hC : CoR X D w (lnx X p) q := by
        rcases hw with rfl | rfl
        · exact (bdy_k hB).2.2.2.2.2.1 rfl
        · exact (bdy_k hB).2.2.2.2.2.2 rfl
      exact r_codesT hD1 hw (by omega) ho (fun hne => absurd hg hne) q (fun _ => hC) (fun u' D' p' g' _ hq ho' => hok u' D' p' g' (by rw [hre, hq]) ho') (fun u' e _ hq he => her u' e (by rw [hre, hq]; rfl) he)
    · have hf : ful D (5 + w) := by
        rcases hw with rfl | rfl
        · exact Or.inr (Or.inr (Or.inl ⟨rfl, hg⟩))
        · exact Or.inr (Or.inr (Or.inr ⟨rfl, hg⟩))
      exact r_codesT hD1 hw (by omega) ho (fun _ u' he => her u' _ (H5 _ hk hf) he) (.error (0, 0)) (fun e => absurd e hg) (fun u' D' p' g' e _ _ => absurd e hg) (fun u' e e' _ _ => absurd e' hg)
  refine r_takes (v := 203) (w := [104, 105, 103, 104]) (by omega) (wd_of (q := (203, [104, 105, 103, 104])) hG (by first | decide | (unfold vp_in; decide))) hm (fun s k y m => i_neg (by first | decide | (unfold vp_in; decide)) ?_) (fun s0 k0 b0 n0 => i_pos rfl ?_)
  · have hk : wIn X p false (wds 2) = some 0 := by rw [wIn_w y]; rfl
    obtain ⟨q, hB, hre⟩ := HB 0 hk (fun hf => by unfold ful at hf; omega)
    exact r_high hD1 (ro_K hD (by omega) h k m) ((bdy_k hB).1 rfl) (fun u' D' p' g' hq ho => hok u' D' p' g' (by rw [hre, hq]) ho) (fun u' e hq he => her u' e (by rw [hre, hq]; rfl) he)
  have o0 := ro_K hD (by omega) h k0 b0.1
  refine r_takes (v := 204) (w := [115, 116, 111, 110, 101]) (by omega) (wd_of (q := (204, [115, 116, 111, 110, 101])) o0.2.2.1 (by first | decide | (unfold vp_in; decide))) o0.1 (fun s k y m => i_neg (by first | decide | (unfold vp_in; decide)) ?_) (fun s1 k1 b1 n1 => i_pos rfl ?_)
  · have hk : wIn X p false (wds 2) = some 1 := by rw [wIn_w y]; rfl
    obtain ⟨q, hB, hre⟩ := HB 1 hk (fun hf => by unfold ful at hf; omega)
    exact r_stone hD1 (ro_K hD (by omega) o0 k m) ((bdy_k hB).2.1 rfl) (fun u' D' p' g' hq ho => hok u' D' p' g' (by rw [hre, hq]) ho) (fun u' e hq he => her u' e (by rw [hre, hq]; rfl) he)
  have o1 := ro_K hD (by omega) o0 k1 b1.1
  refine r_takes (v := 205) (w := [115, 111, 117, 114, 99, 101]) (by omega) (wd_of (q := (205, [115, 111, 117, 114, 99, 101])) o1.2.2.1 (by first | decide | (unfold vp_in; decide))) o1.1 (fun s k y m => i_neg (by first | decide | (unfold vp_in; decide)) ?_) (fun s2 k2 b2 n2 => i_pos rfl ?_)
  · have hk : wIn X p false (wds 2) = some 2 := by rw [wIn_w y]; rfl
    obtain ⟨q, hB, hre⟩ := HB 2 hk (fun hf => by unfold ful at hf; omega)
    exact ⟨vp_in_nI (n := 0) (by omega) (by omega), r_source hD1 (ro_K hD (by omega) o1 k m) ((bdy_k hB).2.2.1 rfl) (fun u' D' p' g' hq ho => hok u' D' p' g' (by rw [hre, hq]) ho) (fun u' e hq he => her u' e (by rw [hre, hq]; rfl) he)⟩
  have o2 := ro_K hD (by omega) o1 k2 b2.1
  refine r_takes (v := 206) (w := [102, 97, 114, 109]) (by omega) (wd_of (q := (206, [102, 97, 114, 109])) o2.2.2.1 (by first | decide | (unfold vp_in; decide))) o2.1 (fun s k y m => i_neg (by first | decide | (unfold vp_in; decide)) ?_) (fun s3 k3 b3 n3 => i_pos rfl ?_)
  · have hk : wIn X p false (wds 2) = some 3 := by rw [wIn_w y]; rfl
    have hnf : pf D ≠ 6 → ¬ ful D 3 := fun h6 hf => by unfold ful at hf; omega
    refine r_farm hD1 (by omega) (ro_K hD (by omega) o2 k m) (fun e6 u' he => her u' _ (H5 3 hk (Or.inl ⟨rfl, e6⟩)) he) rfl (fun u' D' p' g' n6 hq ho => hok u' D' p' g' ?_ ho) (fun u' e n6 hq he => her u' e ?_ he)
    · obtain ⟨q, hB, hre⟩ := HB 3 hk (hnf n6)
      rw [hre, (bdy_k hB).2.2.2.1 rfl, hq]
    · obtain ⟨q, hB, hre⟩ := HB 3 hk (hnf n6)
      rw [hre, (bdy_k hB).2.2.2.1 rfl, hq]
      rfl
  have o3 := ro_K hD (by omega) o2 k3 b3.1
  refine r_takes (v := 210) (w := [99, 97, 108, 108, 101, 114]) (by omega) (wd_of (q := (210, [99, 97, 108, 108, 101, 114])) o3.2.2.1 (by first | decide | (unfold vp_in; decide))) o3.1 (fun s k y m => i_neg (by first | decide | (unfold vp_in; decide)) ?_) (fun s4 k4 b4 n4 => i_pos rfl ?_)
  · have hk : wIn X p false (wds 2) = some 4 := by rw [wIn_w y]; rfl
    have hnf : pk D ≠ 5 → ¬ ful D 4 := fun h6 hf => by unfold ful at hf; omega
    refine r_caller hD1 (by omega) (ro_K hD (by omega) o3 k m) (fun e6 u' he => her u' _ (H5 4 hk (Or.inr (Or.inl ⟨rfl, e6⟩))) he) rfl (fun u' D' p' g' n6 hq ho => hok u' D' p' g' ?_ ho) (fun u' e n6 hq he => her u' e ?_ he)
    · obtain ⟨q, hB, hre⟩ := HB 4 hk (hnf n6)
      rw [hre, (bdy_k hB).2.2.2.2.1 rfl, hq]
    · obtain ⟨q, hB, hre⟩ := HB 4 hk (hnf n6)
      rw [hre, (bdy_k hB).2.2.2.2.1 rfl, hq]
      rfl
  have o4 := ro_K hD (by omega) o3 k4 b4.1
  refine r_takes (v := 213) (w := [103, 111, 101, 115]) (by omega) (wd_of (q := (213, [103, 111, 101, 115])) o4.2.2.1 (by first | decide | (unfold vp_in; decide))) o4.1 (fun s k y m => i_neg (by first | decide | (unfold vp_in; decide)) ?_) (fun s5 k5 b5 n5 => i_pos rfl ?_)
  · have hk : wIn X p false (wds 2) = some (5 + 0) := by rw [wIn_w y]; rfl
    exact hcod s 0 (Or.inl rfl) hk (ro_K hD (by omega) o4 k m)
  have o5 := ro_K hD (by omega) o4 k5 b5.1
  refine r_asks (v := 214) (w := [98, 97, 107, 101, 115]) (by omega) (wd_of (q := (214, [98, 97, 107, 101, 115])) o5.2.2.1 (by first | decide | (unfold vp_in; decide))) o5.1 (fun s k y m => ?_) (fun s k n6 f => ?_)
  · have hk : wIn X p false (wds 2) = some (5 + 1) := by rw [wIn_w y]; rfl
    exact hcod s 1 (Or.inr rfl) hk (ro_K hD (by omega) o5 k m)
  · refine r_codesF f (her s _ ?_ (re_K o5.2.2.2 k f))
    have hno : wIn X p false (wds 2) = none := by
      refine wIn_none (fun w hw => ?_)
      have hm : w = [104, 105, 103, 104] ∨ w = [115, 116, 111, 110, 101] ∨ w = [115, 111, 117, 114, 99, 101] ∨ w = [102, 97, 114, 109] ∨ w = [99, 97, 108, 108, 101, 114] ∨ w = [103, 111, 101, 115] ∨ w = [98, 97, 107, 101, 115] := by
        simpa [wds] using hw
      rcases hm with rfl | rfl | rfl | rfl | rfl | rfl | rfl
      · exact n0
      · exact n1
      · exact n2
      · exact n3
      · exact n4
      · exact n5
      · exact n6
    rcases hr with ⟨_, hre⟩ | ⟨k', hk', _⟩
    · exact hre
    · rw [hno] at hk'
      exact absurd hk' (by simp)
