/-! a year: the cells of the way grow wetter -/
theorem min_nI {a b : Nat} {Q : Int32 → St → Prop} {u : St} (ha : a < 10000) (hb : b < 10000) (hQ : Q (nI (min a b)) u) : s_J9_min_7cf53 (nI a) (nI b) Q u := by
  unfold s_J9_min_7cf53
  by_cases h : b < a
  · refine i_pos (nI_lt h (by omega)) ?_
    rw [show min a b = b by omega] at hQ
    exact hQ
  · refine i_neg (nI_nlt (by omega) (by omega)) ?_
    rw [show min a b = a by omega] at hQ
    exact hQ
def wetN (N p : Nat → Nat) : Nat → Nat → Nat
  | 0 => N
  | j + 1 => upN (wetN N p j) (3 + 3 * p j) (min (wetN N p j (3 + 3 * p j) + 1) 99)
theorem wet_vn {P : Pl} {N p : Nat → Nat} (hP : VP P) (hN : VN P N) : ∀ m, (∀ i, i < m → cel P (p i)) → VN P (wetN N p m)
  | 0, _ => hN
  | m + 1, h => by
    have hV := wet_vn hP hN m (fun i hi => h i (by omega))
    have hc := h m (by omega)
    have h36 := cel_lt hP hc
    unfold wetN
    generalize wetN N p m = M at hV
    refine ⟨by rw [upN_n _ (by omega)]; exact hV.1, fun c hc2 => ?_, fun c hc2 h2 => ?_, fun g hg => ?_, fun g hg hg6 => ?_, by rw [upN_n _ (by omega)]; exact hV.2.2.2.2.2.1, fun k hk => by rw [upN_n _ (by omega)]; exact hV.2.2.2.2.2.2 k hk⟩
    · rw [upN_n _ (by omega), upN_n _ (by omega)]
      refine ⟨(hV.2.1 c hc2).1, (hV.2.1 c hc2).2.1, ?_⟩
      by_cases e : c = p m
      · rw [e, upN_s]
        omega
      · rw [upN_n _ (by omega)]
        exact (hV.2.1 c hc2).2.2
    · rw [upN_n _ (by omega)]
      exact hV.2.2.1 c hc2 h2
    · have := hP.2.2.2.2.1
      rw [upN_n _ (by omega)]
      exact hV.2.2.2.1 g hg
    · rw [upN_n _ (by omega)]
      exact hV.2.2.2.2.1 g hg hg6
theorem cLa_wet {u : St} {P : Pl} {N : Nat → Nat} {c x : Nat} (hP : VP P) (h : cLa u 42 P N) (hc : cel P c) : cLa (tI u 45 (pl P c) (nI x)) 42 P (upN N (3 + 3 * c) x) := by
  have h36 := cel_lt hP hc
  refine ⟨by rw [t_n _ _ (by omega), upN_n _ (by omega)]; exact h.1, fun d hd => ?_, fun g hg => ?_, fun q hq hqa => ?_⟩
  · have := h.2.1 d hd
    rw [t_n (a' := 42 + 1) _ _ (by omega), t_n (a' := 42 + 2) _ _ (by omega), upN_n _ (by omega), upN_n _ (by omega)]
    refine ⟨this.1, this.2.1, ?_⟩
    by_cases e : d = c
    · rw [e, upN_s]
      exact t_s _ _ _ _
    · have e2 : pl P d ≠ pl P c := fun g => e (pl_inj hd hc g)
      rw [t_n _ _ (by omega), upN_n _ (by omega)]
      exact this.2.2
  · rw [t_n _ _ (by omega), upN_n _ (by omega)]
    exact h.2.2.1 g hg
  · rw [t_n _ _ (by omega)]
    exact h.2.2.2 q hq hqa
theorem q_wet {P : Pl} {N p : Nat → Nat} {a m : Nat} {v1 : Int32} {Q : Int32 → St → Prop} {u : St} (hP : VP P) (hN : VN P N) (ha : 165 ≤ a) (hm : 0 < m ∧ m ≤ 36) (hc : ∀ i, i < m → cel P (p i)) (h2 : u.1 a 2 = nI (m - 1)) (h3 : ∀ i, i < m → u.1 (a + 1) i = nI (pl P (p i))) (hL : cLa u 42 P N) (hQ : ∀ u', Kp (fun x _ => x ≠ 45) u u' → cLa u' 42 P (wetN N p m) → sX11_passYear_p59 v1 a Q (0 : Int32) u') : sX11_passYear_p8 v1 a Q (0 : Int32) u := by
  unfold sX11_passYear_p8
  refine for_up (fun n i s => sX11_passYear_p8n v1 a Q n i s) m (fun i s => Kp (fun x _ => x ≠ 45) u s ∧ cLa s 42 P (wetN N p i)) ?_ 0 u (by omega) ⟨kp_r u, hL⟩
  rintro n i s hi ⟨hK, hLs⟩ hnext
  show sX11_passYear_p8b v1 a Q (sX11_passYear_p8n v1 a Q n) (nI i) s
  unfold sX11_passYear_p8b
  rw [hK.1 a 2 (by omega), h2]
  by_cases hie : i = m
  · rw [hie] at hLs
    exact i_pos (nI_lt (by omega) (by omega)) (hQ s hK hLs)
  refine i_neg (nI_nlt (by omega) (by omega)) ?_
  have hci := hc i (by omega)
  have hpl := pl_36 hP hci
  have hV := wet_vn hP hN i (fun j hj => hc j (by omega))
  have hcell := (hLs.2.1 _ hci).2.2
  have hb := (hV.2.1 _ hci).2.2
  rw [nI_clamp (by omega), hK.1 (a + 1) i (by omega), h3 i (by omega), nI_clamp (by omega), show s.1 45 (pl P (p i)) = nI (wetN N p i (3 + 3 * p i)) from hcell, nI_1, nI_1]
  refine ⟨vp_in_nI (by omega) (by omega), vp_in_nI (by omega) (by omega), ?_⟩
  refine min_nI (b := 99) (by omega) (by omega) (bnd_i ?_)
  exact hnext (by omega) _ ⟨kp_I hK (by omega), cLa_wet hP hLs hci⟩
theorem r_wet {P : Pl} {N p : Nat → Nat} {m : Nat} {v1 : Int32} {Q : Int32 → St → Prop} {u : St} (hP : VP P) (hN : VN P N) (hm : m ≤ 36) (hc : ∀ i, i < m → cel P (p i)) (hW : WayN u p m) (hL : mLa u N) (hQ : ∀ u', Kp (fun x _ => x ≠ 241) u u' → mLa u' (wetN N p m) → s_X12_wateredSet (fun r3 u4 => s_X12_bits r3 (fun r5 u6 => sX12_yearGoes_p65 v1 r5 Q (0 : Int32) u6) u4) u') : sX12_yearGoes_p7 v1 Q (0 : Int32) u := by
  unfold sX12_yearGoes_p7
  refine for_up (fun n i s => sX12_yearGoes_p7n v1 Q n i s) m (fun i s => Kp (fun x _ => x ≠ 241) u s ∧ mLa s (wetN N p i)) ?_ 0 u (by omega) ⟨kp_r u, hL⟩
  rintro n i s hi ⟨hK, hLs⟩ hnext
  show sX12_yearGoes_p7b v1 Q (sX12_yearGoes_p7n v1 Q n) (nI i) s
  unfold sX12_yearGoes_p7b
  rw [hK.1 198 64 (by omega), hW.1]
  by_cases hie : i = m
  · rw [hie] at hLs ⊢
    exact i_pos (nI_le (Nat.le_refl _) (by omega)) (hQ s hK hLs)
  refine i_neg (nI_ge (by omega) (by omega)) ⟨vp_in_nI (by omega) (by omega), ?_⟩
  have hci := hc i (by omega)
  have h36 := cel_lt hP hci
  have hV := wet_vn hP hN i (fun j hj => hc j (by omega))
  have hb := (hV.2.1 _ hci).2.2
  rw [nI_clamp (by omega), hK.1 242 i (by omega), hW.2.1 i (by omega)]
  refine r_beenOf hLs h36 ?_
  unfold sX12_yearGoes_p49
  rw [nI_1]
  by_cases h99 : 99 ≤ wetN N p i (3 + 3 * p i)
  · have h9 : nI 99 ≤ nI (wetN N p i (3 + 3 * p i)) := nI_le h99 (by omega)
    refine i_pos h9 (hnext (by omega) s ⟨hK, ?_⟩)
    rw [wetN, show min (wetN N p i (3 + 3 * p i) + 1) 99 = wetN N p i (3 + 3 * p i) by omega, upN_id]
    exact hLs
  · have h9 : ¬ nI 99 ≤ nI (wetN N p i (3 + 3 * p i)) := nI_ge (by omega) (by omega)
    refine i_neg h9 ?_
    have e3 : (3 : Int32) + 3 * nI (p i) = nI (3 + 3 * p i) := by
      rw [show (3 : Int32) * nI (p i) = nI (3 * p i) from pk_mul 3 _]
      exact nI_add 3 _
    rw [hK.1 242 i (by omega), hW.2.1 i (by omega), e3, nI_clamp (by omega), hLs _ (by omega), nI_1]
    refine ⟨vp_in_nI (by omega) (by omega), vp_in_nI (by omega) (by omega), bnd_i ?_⟩
    refine hnext (by omega) _ ⟨kp_I hK (by omega), ?_⟩
    rw [wetN, show min (wetN N p i (3 + 3 * p i) + 1) 99 = wetN N p i (3 + 3 * p i) + 1 by omega]
    exact mLa_up hLs
