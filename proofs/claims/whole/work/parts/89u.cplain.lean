/-! ===== the class reads a PLAIN whole ===== -/
def Clr (u : St) (t : Nat) : Prop := (u.1 t 0 = 0 ∧ u.1 t 1 = 0 ∧ u.1 t 2 = 0 ∧ u.1 t 3 = 0 ∧ u.1 t 4 = 0) ∧ (∀ k, k < 36 → u.1 (t + 1) k = 0 ∧ u.1 (t + 2) k = 0 ∧ u.1 (t + 3) k = -1) ∧ u.1 (t + 11) 2 = 0 ∧ u.1 (t + 14) 2 = 0
theorem clr_K {S : Nat → Nat → Prop} {u u' : St} {t : Nat} (h : Clr u t) (hK : Kp S u u') (hS : ∀ a k, t ≤ a → a ≤ t + 14 → S a k) : Clr u' t := by
  obtain ⟨⟨a1, a2, a3, a4, a5⟩, b, c, d⟩ := h
  refine ⟨⟨?_, ?_, ?_, ?_, ?_⟩, fun k hk => ?_, ?_, ?_⟩
  · rw [hK.1 _ _ (hS _ _ (by omega) (by omega))]
    exact a1
  · rw [hK.1 _ _ (hS _ _ (by omega) (by omega))]
    exact a2
  · rw [hK.1 _ _ (hS _ _ (by omega) (by omega))]
    exact a3
  · rw [hK.1 _ _ (hS _ _ (by omega) (by omega))]
    exact a4
  · rw [hK.1 _ _ (hS _ _ (by omega) (by omega))]
    exact a5
  · rw [hK.1 _ _ (hS _ _ (by omega) (by omega)), hK.1 _ _ (hS _ _ (by omega) (by omega)), hK.1 _ _ (hS _ _ (by omega) (by omega))]
    exact b k hk
  · rw [hK.1 _ _ (hS _ _ (by omega) (by omega))]
    exact c
  · rw [hK.1 _ _ (hS _ _ (by omega) (by omega))]
    exact d
theorem sh_dr {t : Nat} (ht : t = 7 ∨ t = 24) : SH[t + 1]? = some (100, 36) ∧ SH[t + 2]? = some (100, 36) ∧ SH[t + 3]? = some (100, 36) ∧ SH[t + 7]? = some (100, 6) := by
  rcases ht with rfl | rfl <;> exact ⟨rfl, rfl, rfl, rfl⟩
theorem c_clear {t : Nat} {u : St} {Q : St → Prop} (ht : t = 7 ∨ t = 24) (hQ : ∀ u', Kp (fun a _ => ¬ (t ≤ a ∧ a ≤ t + 14)) u u' → Clr u' t → Q u') : s_X5_clear t Q u := by
  unfold s_X5_clear
  obtain ⟨g1, g2, g3, g4⟩ := sh_dr ht
  refine bnd_i (bnd_i (bnd_i (bnd_i (bnd_i ?_))))
  have k0 : Kp (fun a _ => a ≠ t) u (tI (tI (tI (tI (tI u t 0 0) t 1 0) t 2 0) t 3 0) t 4 0) := kp_I (kp_I (kp_I (kp_I (kp_I (kp_r u) (by omega)) (by omega)) (by omega)) (by omega)) (by omega)
  have z0 : (tI (tI (tI (tI (tI u t 0 0) t 1 0) t 2 0) t 3 0) t 4 0).1 t 0 = 0 := by rw [t_n _ _ (by omega), t_n _ _ (by omega), t_n _ _ (by omega), t_n _ _ (by omega), t_s]
  have z1 : (tI (tI (tI (tI (tI u t 0 0) t 1 0) t 2 0) t 3 0) t 4 0).1 t 1 = 0 := by rw [t_n _ _ (by omega), t_n _ _ (by omega), t_n _ _ (by omega), t_s]
  have z2 : (tI (tI (tI (tI (tI u t 0 0) t 1 0) t 2 0) t 3 0) t 4 0).1 t 2 = 0 := by rw [t_n _ _ (by omega), t_n _ _ (by omega), t_s]
  have z3 : (tI (tI (tI (tI (tI u t 0 0) t 1 0) t 2 0) t 3 0) t 4 0).1 t 3 = 0 := by rw [t_n _ _ (by omega), t_s]
  have z4 : (tI (tI (tI (tI (tI u t 0 0) t 1 0) t 2 0) t 3 0) t 4 0).1 t 4 = 0 := by rw [t_s]
  generalize tI (tI (tI (tI (tI u t 0 0) t 1 0) t 2 0) t 3 0) t 4 0 = u1 at k0 z0 z1 z2 z3 z4
  refine q_fill g1 (by omega) (fun u2 k2 f2 => q_fill g2 (by omega) (fun u3 k3 f3 => q_fill g3 (by omega) (fun u4 k4 f4 => ?_)))
  unfold s_X0_clear
  refine bnd_i (bnd_i ?_)
  have k5 : Kp (fun a k => ¬ (a = t + 11) ∧ ¬ (a = t + 14)) u4 (tI (tI u4 (t + 11) 2 0) (t + 14) 2 0) := kp_I (kp_I (kp_r u4) (by omega)) (by omega)
  have c5 : ∀ k, (tI (tI u4 (t + 11) 2 0) (t + 14) 2 0).1 t k = u1.1 t k := by
    intro k
    rw [k5.1 _ _ (by omega), k4.1 _ _ (by omega), k3.1 _ _ (by omega), k2.1 _ _ (by omega)]
  refine hQ _ (kp_t (kp_m k0 (fun a k h => by omega)) (kp_t (kp_m k2 (fun a k h => by omega)) (kp_t (kp_m k3 (fun a k h => by omega)) (kp_t (kp_m k4 (fun a k h => by omega)) (kp_m k5 (fun a k h => by omega)))))) ⟨⟨?_, ?_, ?_, ?_, ?_⟩, fun k hk => ⟨?_, ?_, ?_⟩, ?_, ?_⟩
  · rw [c5]
    exact z0
  · rw [c5]
    exact z1
  · rw [c5]
    exact z2
  · rw [c5]
    exact z3
  · rw [c5]
    exact z4
  · rw [k5.1 _ _ (by omega), k4.1 _ _ (by omega), k3.1 _ _ (by omega)]
    exact f2 k hk
  · rw [k5.1 _ _ (by omega), k4.1 _ _ (by omega)]
    exact f3 k hk
  · rw [k5.1 _ _ (by omega)]
    exact f4 k hk
  · rw [t_n _ _ (by omega), t_s]
  · rw [t_s]
theorem cdr_0 {u u' : St} {t c r : Nat} (h : Clr u t) (hK : Kp (fun a k => (t ≤ a ∧ a ≤ t + 14) ∧ ¬ (a = t ∧ k ≤ 1)) u u') (v0 : u'.1 t 0 = nI c) (v1 : u'.1 t 1 = nI r) (hc : c ≤ 6) (hr : r ≤ 6) : cDr u' t (nwD c r) := by
  obtain ⟨⟨a1, a2, a3, a4, a5⟩, b, d, e⟩ := h
  refine ⟨⟨v0, v1, ?_, ?_, ?_⟩, fun x hx => ?_, fun q h1 h2 => ?_, fun f hf => absurd hf (Nat.not_lt_zero _), fun f hf => absurd hf (Nat.not_lt_zero _), ⟨?_, fun i hi => absurd hi (by simp [nwD])⟩, ⟨?_, fun i hi => absurd hi (by simp [nwD])⟩⟩
  · rw [hK.1 _ _ (by omega)]
    exact a3
  · rw [hK.1 _ _ (by omega)]
    exact a4
  · rw [hK.1 _ _ (by omega)]
    exact a5
  · have hp := pl_lt hx
    have h1 : pc (nwD c r) = c := rfl
    have h2 : pr (nwD c r) = r := rfl
    rw [h1, h2] at hp
    have : c * r ≤ 36 := by
      have := Nat.mul_le_mul hc hr
      omega
    have hb := b (pl (nwD c r) x) (by omega)
    rw [hK.1 (t + 1) _ (by omega), hK.1 (t + 2) _ (by omega), hK.1 (t + 3) _ (by omega)]
    exact ⟨hb.1, hb.2.1, hb.2.2⟩
  · rw [hK.1 (t + 2) _ (by omega)]
    exact (b q h1).2.1
  · rw [hK.1 _ _ (by omega)]
    exact d
  · rw [hK.1 _ _ (by omega)]
    exact e
theorem c_sides {X : Tx} {t : Nat} {u0 u : St} {Q : St → Prop} (ht : t = 7 ∨ t = 24) (hr : u.2.2.2.2.2 = t) (hk : Tk u X 0 false) (hc : Clr u t) (hq : Kq (SCd t) u0 u) (h1 : ∀ u' D p, sdR X = .ok (D, p) → CdS X t D u0 u' p false → VD D p → Q u') (h0 : ∀ u' e, sdR X = .error e → CdF X t u0 u' e → Q u') : s_X6_readSides Q u := by
  unfold s_X6_readSides
  have hx : ∀ n, lx X n 0 ≤ X.2 := fun n => (lx_le (Nat.zero_le _) n).2
  have hF : ∀ (s : St) (e : E2) (f : Nat → Nat → Prop), Kp f u s → (∀ a k, SCd t a k ∨ a = t + 11 ∨ a = t + 14 → f a k) → Tf s X e → CdF X t u0 s e := by
    intro s e f hK hS hT
    refine ⟨hT, ⟨0, by omega, ?_⟩, ⟨0, by omega, ?_⟩, kq_t hq (kq_p (kp_m hK (fun a k h => hS a k (Or.inl h)))), by rw [hK.2.2]; exact hr, ht⟩
    · rw [hK.1 _ _ (hS _ _ (by omega))]
      exact hc.2.2.1
    · rw [hK.1 _ _ (hS _ _ (by omega))]
      exact hc.2.2.2
  have sx : ∀ a k, SCd t a k ∨ a = t + 11 ∨ a = t + 14 → SX a k ∧ ¬ (a = t ∧ k ≤ 1) := by
    intro a k h
    rcases h with h | h
    · exact ⟨h.1, fun h' => h.2.1 (by omega)⟩
    · unfold SX
      omega
  refine q_takeWord (v := 0) (w := wPlain) (by omega) rfl hk (fun u1 hi k1 t1 => ?_) (fun u1 hi k1 t1 => ?_)
  · have hw1 : wR X 0 false wPlain = .ok () := if_pos hi
    have e1 : u1.2.2.2.2.2 = t := by rw [k1.2.2]; exact hr
    rw [e1]
    refine q_takeNumber (least := 2) (most := 6) (by omega) (by omega) t1 (fun u2 c hc2 k2 t2 => bnd_i ?_) (fun u2 e he k2 t2 => bnd_i ?_)
    · have k3 : Kp (fun a k => SX a k ∧ ¬ (a = t ∧ k ≤ 1)) u (tI u2 t 0 (nI c)) := kp_I (kp_t (kp_m k1 (fun a k h => h.1)) (kp_m k2 (fun a k h => h.1))) (by omega)
      have z3 : (tI u2 t 0 (nI c)).1 t 0 = nI c := t_s _ _ _ _
      have t3 : Tk (tI u2 t 0 (nI c)) X (lnx X (lnx X 0)) true := tk_K t2 (kp_I (S := fun a _ => a ≠ t) (kp_r u2) (by omega)) (fun a k h => by omega)
      generalize tI u2 t 0 (nI c) = u3 at k3 z3 t3
      refine q_takeWord (v := 1) (w := wBy) (by omega) rfl t3 (fun u4 hi4 k4 t4 => ?_) (fun u4 hi4 k4 t4 => ?_)
      · have hw4 : wR X (lx X 2 0) true wBy = .ok () := if_pos hi4
        have k4' : Kp (fun a k => SX a k ∧ ¬ (a = t ∧ k ≤ 1)) u u4 := kp_t k3 (kp_m k4 (fun a k h => h.1))
        have e4 : u4.2.2.2.2.2 = t := by rw [k4'.2.2]; exact hr
        rw [e4]
        refine q_takeNumber (least := 2) (most := 6) (by omega) (by omega) t4 (fun u5 r hr5 k5 t5 => bnd_i ?_) (fun u5 e he k5 t5 => bnd_i ?_)
        · have k6 : Kp (fun a k => SX a k ∧ ¬ (a = t ∧ k ≤ 1)) u (tI u5 t 1 (nI r)) := kp_I (kp_t k4' (kp_m k5 (fun a k h => h.1))) (by omega)
          have z6 : (tI u5 t 1 (nI r)).1 t 1 = nI r := t_s _ _ _ _
          have y6 : (tI u5 t 1 (nI r)).1 t 0 = nI c := by rw [t_n _ _ (by omega), k5.1 _ _ (by unfold SX; omega), k4.1 _ _ (by unfold SX; omega)]; exact z3
          have t6 : Tk (tI u5 t 1 (nI r)) X (lx X 4 0) true := tk_K t5 (kp_I (S := fun a _ => a ≠ t) (kp_r u5) (by omega)) (fun a k h => by omega)
          generalize tI u5 t 1 (nI r) = u6 at k6 z6 y6 t6
          have hb := nu_ok hc2
          have hb2 := nu_ok hr5
          have hR : sdR X = if isS X (lx X 4 0) true 59 then .ok (nwD c r, lx X 5 0) else .error (1, lst X (lx X 4 0)) := by
            unfold sdR
            rw [hw1]
            show (nuR X (lx X 1 0) true 2 6).bind _ = _
            rw [show nuR X (lx X 1 0) true 2 6 = .ok c from hc2]
            show (wR X (lx X 2 0) true wBy).bind _ = _
            rw [hw4]
            show (nuR X (lx X 3 0) true 2 6).bind _ = _
            rw [show nuR X (lx X 3 0) true 2 6 = .ok r from hr5]
            rfl
          refine q_takeSign (c := 59) t6 (by omega) (fun u7 hi7 k7 t7 => ?_) (fun u7 hi7 k7 t7 => ?_)
          · have k7' : Kp (fun a k => SX a k ∧ ¬ (a = t ∧ k ≤ 1)) u u7 := kp_t k6 (kp_m k7 (fun a k h => h.1))
            have kT : Kp (fun a k => (t ≤ a ∧ a ≤ t + 14) ∧ ¬ (a = t ∧ k ≤ 1)) u u7 := kp_m k7' (fun a k h => ⟨by unfold SX; omega, h.2⟩)
            have hcl : cDr u7 t (nwD c r) := by
              have w0 : u7.1 t 0 = nI c := by rw [k7.1 _ _ (by unfold SX; omega)]; exact y6
              have w1 : u7.1 t 1 = nI r := by rw [k7.1 _ _ (by unfold SX; omega)]; exact z6
              exact cdr_0 hc kT w0 w1 (by omega) (by omega)
            exact h1 u7 _ _ (hR.trans (if_pos hi7)) ⟨t7, hcl, kq_t hq (kq_p (kp_m k7' (fun a k h => sx a k (Or.inl h)))), by rw [k7'.2.2]; exact hr, ht⟩ (vd_0 (by omega) (by omega))
          · exact h0 u7 _ (hR.trans (if_neg hi7)) (hF u7 _ _ (kp_t k6 (kp_m k7 (fun a k h => h.1))) sx t7)
        · have k6 : Kp (fun a k => SX a k ∧ ¬ (a = t ∧ k ≤ 1)) u (tI u5 t 1 (nI 2)) := kp_I (kp_t k4' (kp_m k5 (fun a k h => h.1))) (by omega)
          have t6 : Tf (tI u5 t 1 (nI 2)) X e := tf_K t5 (kp_I (S := fun a _ => a ≠ t) (kp_r u5) (by omega)) (fun a k h => by omega)
          refine q_takeSignF t6 (h0 _ e ?_ (hF _ e _ k6 sx t6))
          unfold sdR
          rw [hw1]
          show (nuR X (lx X 1 0) true 2 6).bind _ = _
          rw [show nuR X (lx X 1 0) true 2 6 = .ok c from hc2]
          show (wR X (lx X 2 0) true wBy).bind _ = _
          rw [hw4]
          show (nuR X (lx X 3 0) true 2 6).bind _ = _
          rw [show nuR X (lx X 3 0) true 2 6 = .error e from he]
          rfl
      · have k4' : Kp (fun a k => SX a k ∧ ¬ (a = t ∧ k ≤ 1)) u u4 := kp_t k3 (kp_m k4 (fun a k h => h.1))
        have e4 : u4.2.2.2.2.2 = t := by rw [k4'.2.2]; exact hr
        rw [e4]
        have k6 : Kp (fun a k => SX a k ∧ ¬ (a = t ∧ k ≤ 1)) u (tI u4 t 1 2) := kp_I k4' (by omega)
        have t6 : Tf (tI u4 t 1 2) X (1, lst X (lx X 2 0)) := tf_K t4 (kp_I (S := fun a _ => a ≠ t) (kp_r u4) (by omega)) (fun a k h => by omega)
        refine q_takeNumberF t4 (bnd_i (q_takeSignF t6 (h0 _ _ ?_ (hF _ _ _ k6 sx t6))))
        unfold sdR
        rw [hw1]
        show (nuR X (lx X 1 0) true 2 6).bind _ = _
        rw [show nuR X (lx X 1 0) true 2 6 = .ok c from hc2]
        show (wR X (lx X 2 0) true wBy).bind _ = _
        rw [show wR X (lx X 2 0) true wBy = .error (1, lst X (lx X 2 0)) from if_neg hi4]
        rfl
    · have k3 : Kp (fun a k => SX a k ∧ ¬ (a = t ∧ k ≤ 1)) u (tI u2 t 0 (nI 2)) := kp_I (kp_t (kp_m k1 (fun a k h => h.1)) (kp_m k2 (fun a k h => h.1))) (by omega)
      have t3 : Tf (tI u2 t 0 (nI 2)) X e := tf_K t2 (kp_I (S := fun a _ => a ≠ t) (kp_r u2) (by omega)) (fun a k h => by omega)
      generalize tI u2 t 0 (nI 2) = u3 at k3 t3
      have e4 : u3.2.2.2.2.2 = t := by rw [k3.2.2]; exact hr
      have k6 : Kp (fun a k => SX a k ∧ ¬ (a = t ∧ k ≤ 1)) u (tI u3 t 1 2) := kp_I k3 (by omega)
      have t6 : Tf (tI u3 t 1 2) X e := tf_K t3 (kp_I (S := fun a _ => a ≠ t) (kp_r u3) (by omega)) (fun a k h => by omega)
      refine q_takeWordF t3 ?_
      rw [e4]
      refine q_takeNumberF t3 (bnd_i (q_takeSignF t6 (h0 _ _ ?_ (hF _ _ _ k6 sx t6))))
      unfold sdR
      rw [hw1]
      show (nuR X (lx X 1 0) true 2 6).bind _ = _
      rw [show nuR X (lx X 1 0) true 2 6 = .error e from he]
      rfl
  · have e1 : u1.2.2.2.2.2 = t := by rw [k1.2.2]; exact hr
    rw [e1]
    have k3 : Kp (fun a k => SX a k ∧ ¬ (a = t ∧ k ≤ 1)) u (tI u1 t 0 2) := kp_I (kp_m k1 (fun a k h => h.1)) (by omega)
    have t3 : Tf (tI u1 t 0 2) X (1, lst X 0) := tf_K t1 (kp_I (S := fun a _ => a ≠ t) (kp_r u1) (by omega)) (fun a k h => by omega)
    refine q_takeNumberF t1 (bnd_i ?_)
    generalize tI u1 t 0 2 = u3 at k3 t3
    have e4 : u3.2.2.2.2.2 = t := by rw [k3.2.2]; exact hr
    have k6 : Kp (fun a k => SX a k ∧ ¬ (a = t ∧ k ≤ 1)) u (tI u3 t 1 2) := kp_I k3 (by omega)
    have t6 : Tf (tI u3 t 1 2) X (1, lst X 0) := tf_K t3 (kp_I (S := fun a _ => a ≠ t) (kp_r u3) (by omega)) (fun a k h => by omega)
    refine q_takeWordF t3 ?_
    rw [e4]
    refine q_takeNumberF t3 (bnd_i (q_takeSignF t6 (h0 _ _ ?_ (hF _ _ _ k6 sx t6))))
    unfold sdR
    rw [show wR X 0 false wPlain = .error (1, lst X 0) from if_neg hi]
    rfl
/-! what was not told -/
def fin (D : Pl) : Pl := (D.1, if D.2.1 = [] then [1000, 46, 2] else D.2.1, if D.2.2 = [] then [41] else D.2.2)
def fi0 (D : Pl) : Pl := (D.1, if D.2.1 = [] then [1000, 46, 2] else D.2.1, D.2.2)
theorem c_addF {X : Tx} {t g : Nat} {e : E2} {v : Int32} {u0 u : St} {Q : St → Prop} (h : CdF X t u0 u e) (hg : g = t + 11 ∨ g = t + 14) (hQ : ∀ u', CdF X t u0 u' e → Q u') : s_X0_add g v Q u := by
  obtain ⟨a, ⟨m, hm, b⟩, ⟨m', hm', c⟩, d, e', f⟩ := id h
  have hn : ∃ n, n ≤ 1600 ∧ u.1 g 2 = nI n := by
    rcases hg with rfl | rfl
    · exact ⟨m, hm, b⟩
    · exact ⟨m', hm', c⟩
  obtain ⟨n, hn, hgn⟩ := hn
  unfold s_X0_add
  rw [hgn]
  by_cases h16 : n = 1600
  · have h1 : nI 1600 ≤ nI n := nI_le (by omega) (by omega)
    exact i_pos h1 (hQ u h)
  · have h1 : ¬ nI 1600 ≤ nI n := nI_ge (by omega) (by omega)
    refine i_neg h1 ⟨vp_in_nI (by omega) (by omega), bnd_i (bnd_i ?_)⟩
    rw [t_n _ _ (by omega), hgn, nI_clamp (by omega), nI_1]
    have hK : Kp (fun a _ => a ≠ g ∧ a ≠ g + 1) u (tI (tI u (g + 1) n v) g 2 (nI (n + 1))) := kp_I (kp_I (kp_r u) (by omega)) (by omega)
    refine hQ _ ⟨tf_K a hK (fun a j h => by omega), ?_, ?_, kq_t d (kq_p (kp_m hK (fun a k h => by unfold SCd at h; omega))), e', f⟩
    · rcases hg with rfl | rfl
      · exact ⟨n + 1, by omega, t_s _ _ _ _⟩
      · refine ⟨m, hm, ?_⟩
        rw [hK.1 _ _ (by omega)]
        exact b
    · rcases hg with rfl | rfl
      · refine ⟨m', hm', ?_⟩
        rw [hK.1 _ _ (by omega)]
        exact c
      · exact ⟨n + 1, by omega, t_s _ _ _ _⟩
theorem c_emptyF {t : Nat} {u : St} {Q : Int32 → St → Prop} (h1 : Q 1 u) (h0 : Q 0 u) : s_X0_isEmpty t Q u := by
  unfold s_X0_isEmpty
  by_cases c : u.1 t 2 = 0
  · exact i_pos c h1
  · exact i_neg c h0
theorem c_missF {X : Tx} {t : Nat} {e : E2} {u0 u : St} {Q : St → Prop} (h : CdF X t u0 u e) (hQ : ∀ u', CdF X t u0 u' e → Q u') : s_X6_addMissingSums Q u := by
  have h50 : ∀ s, CdF X t u0 s e → sX6_addMissingSums_p50 Q s := by
    intro s hs
    unfold sX6_addMissingSums_p50
    refine c_emptyF (i_neg (by first | decide | (unfold vp_in; decide)) ?_) (i_pos rfl (hQ s hs))
    rw [hs.2.2.2.2.1]
    exact c_addF hs (Or.inr rfl) hQ
  unfold s_X6_addMissingSums
  refine c_emptyF (i_neg (by first | decide | (unfold vp_in; decide)) ?_) (i_pos rfl (h50 u h))
  rw [h.2.2.2.2.1]
  refine c_addF h (Or.inl rfl) (fun u1 h1 => ?_)
  rw [h1.2.2.2.2.1]
  refine c_addF h1 (Or.inl rfl) (fun u2 h2 => ?_)
  rw [h2.2.2.2.2.1]
  exact c_addF h2 (Or.inl rfl) h50
/-- the draft when all is read -/
def CdD (t : Nat) (D : Pl) (u0 u : St) : Prop := cDr u t D ∧ Kq (SCd t) u0 u ∧ u.1 1 5 = 0 ∧ u.1 1 6 = -1
theorem c_miss {X : Tx} {t p : Nat} {g : Bool} {D : Pl} {u0 u : St} {Q : St → Prop} (hD : VD D p) (h : CdS X t D u0 u p g) (hQ : ∀ u', CdD t (fin D) u0 u' → Q u') : s_X6_addMissingSums Q u := by
  have ht := h.2.2.2.2
  have hp := h.1.2.1
  have h16 := h.1.1.1
  have hl := hD.2.2.2.2.2.2.2
  have hfi : ∀ E, E = fin D → E = fin D := fun E h => h
  have h50 : ∀ s, cDr s t (fi0 D) → Kq (SCd t) u0 s → s.1 1 5 = 0 → s.1 1 6 = -1 → s.2.2.2.2.2 = t → sX6_addMissingSums_p50 Q s := by
    intro s hs kq e5 e6 er
    unfold sX6_addMissingSums_p50
    rw [er]
    refine c_empty hs.2.2.2.2.2.2 (by show D.2.2.length ≤ 1600; omega) (fun e => i_neg (by first | decide | (unfold vp_in; decide)) ?_) (fun e => i_pos rfl ?_)
    · rw [er]
      have e' : D.2.2 = [] := e
      have hc : cCo s (t + 14) [] := by
        have := hs.2.2.2.2.2.2
        rw [e] at this
        exact this
      refine q_add (t := 41) hc (by simp) (fun s' k c => hQ s' ⟨?_, kq_t kq (kq_p (kp_m k (fun a j h => by unfold SCd at h; omega))), by rw [k.1 1 5 (by omega)]; exact e5, by rw [k.1 1 6 (by omega)]; exact e6⟩)
      have := cdr_c (w := 1) (c := [41]) hs (Or.inr rfl) (kp_m k (fun a j h => by omega)) c
      have ef : fin D = sC (fi0 D) 1 [41] := by
        show (D.1, (if D.2.1 = [] then [1000, 46, 2] else D.2.1), (if D.2.2 = [] then [41] else D.2.2)) = (D.1, (if D.2.1 = [] then [1000, 46, 2] else D.2.1), [41])
        first | refine i_pos e' ?_ | rw [if_pos e']
        try (with_reducible rfl)
      rw [ef]
      exact this
    · have e' : D.2.2 ≠ [] := e
      have ef : fin D = fi0 D := by
        unfold fin fi0
        first | refine i_neg e' ?_ | rw [if_neg e']
        try (with_reducible rfl)
      rw [← ef] at hs
      exact hQ s ⟨hs, kq, e5, e6⟩
  unfold s_X6_addMissingSums
  rw [h.2.2.2.1]
  refine c_empty h.2.1.2.2.2.2.2.1 (by omega) (fun e => i_neg (by first | decide | (unfold vp_in; decide)) ?_) (fun e => i_pos rfl ?_)
  · have hc : cCo u (t + 11) [] := by
      have := h.2.1.2.2.2.2.2.1
      rw [e] at this
      exact this
    rw [h.2.2.2.1]
    refine q_add (t := 1000) hc (by simp) (fun u1 k1 c1 => ?_)
    rw [show u1.2.2.2.2.2 = t by rw [k1.2.2]; exact h.2.2.2.1]
    refine q_add (t := 46) c1 (by simp) (fun u2 k2 c2 => ?_)
    rw [show u2.2.2.2.2.2 = t by rw [k2.2.2, k1.2.2]; exact h.2.2.2.1]
    refine q_add (t := 2) c2 (by simp) (fun u3 k3 c3 => ?_)
    have k : Kp (fun a _ => a ≠ t + 11 ∧ a ≠ t + 11 + 1) u u3 := kp_t k1 (kp_t k2 k3)
    refine h50 u3 ?_ (kq_t h.2.2.1 (kq_p (kp_m k (fun a j h => by unfold SCd at h; omega)))) (by rw [k.1 1 5 (by omega)]; exact h.1.2.2.2.2.2.1) (by rw [k.1 1 6 (by omega)]; exact h.1.2.2.2.2.2.2) (by rw [k.2.2]; exact h.2.2.2.1)
    have := cdr_c (w := 0) (c := [1000, 46, 2]) h.2.1 (Or.inl rfl) (kp_m k (fun a j h => by omega)) c3
    have ef : fi0 D = sC D 0 [1000, 46, 2] := by
      unfold fi0 sC
      first | refine i_pos rfl ?_ | rw [if_pos rfl]
      first | refine i_pos e ?_ | rw [if_pos e]
      try (with_reducible rfl)
    rw [ef]
    exact this
  · have ef : fi0 D = D := by
      unfold fi0
      first | refine i_neg e ?_ | rw [if_neg e]
      try (with_reducible rfl)
    exact h50 u (by rw [ef]; exact h.2.1) h.2.2.1 h.1.2.2.2.2.2.1 h.1.2.2.2.2.2.2 h.2.2.2.1
theorem c_more {X : Tx} {p : Nat} {u : St} {Q : Int32 → St → Prop} (h : Tk u X p false) (h1 : lkd X p false ≠ 0 → Q 1 u) (h0 : lkd X p false = 0 → Q 0 u) : s_X6_hasMore Q u := by
  unfold s_X6_hasMore
  have hr := lkd_r X p false
  rw [h.2.2.1]
  by_cases c : lkd X p false = 0
  · exact i_pos (by rw [c]; rfl) (h0 c)
  · exact i_neg (x_ne (k := 0) (by omega) (by omega) c) (i_neg (x_ne (k := 5) (by omega) (by omega) (by omega)) (h1 c))
theorem c_moreF {X : Tx} {e : E2} {u : St} {Q : Int32 → St → Prop} (h : Tf u X e) (h0 : Q 0 u) : s_X6_hasMore Q u := by
  unfold s_X6_hasMore
  rw [h.2.1]
  exact i_neg (by first | decide | (unfold vp_in; decide)) (i_pos rfl h0)
theorem c_loop {X : Tx} {t p0 : Nat} {D0 : Pl} {u0 u : St} {Q : Int32 → St → Prop} (hD0 : VD D0 p0) (hs0 : CdS X t D0 u0 u p0 false) (h1 : ∀ u' D cnt p, cnt ≤ 80 → (∃ n, Rp X n 1 D0 p0 (.ok (D, cnt))) → VD D p → p ≤ 1600 → CdD t (fin D) u0 u' → Q (nI cnt) u') (h0 : ∀ u' e r, (∃ n, Rp X n 1 D0 p0 (.error e)) → CdF X t u0 u' e → Q r u') : sX6_readPlain_p25 Q (1 : Int32) u := by
  unfold sX6_readPlain_p25
  have hF : ∀ s cnt e, (∃ n, Rp X n 1 D0 p0 (.error e)) → CdF X t u0 s e → sX6_readPlain_p48 cnt Q s := by
    intro s cnt e hr hf
    unfold sX6_readPlain_p48
    refine c_moreF hf.1 (i_pos rfl ?_)
    unfold sX6_readPlain_p70
    exact c_missF hf (fun u' h' => h0 u' e _ hr h')
  refine lpx (fun n (s : Int32 × St) => sX6_readPlain_p25n Q n s.1 s.2) (fun k s => (∃ cnt D p, s.1 = nI cnt ∧ 1 ≤ cnt ∧ cnt ≤ 80 ∧ k = 81 - cnt ∧ CdS X t D u0 s.2 p false ∧ VD D p ∧ ∀ r, (∃ n, Rp X n cnt D p r) → ∃ n, Rp X n 1 D0 p0 r) ∨ (k = 0 ∧ ∃ cnt e, cnt ≤ 80 ∧ s.1 = nI cnt ∧ CdF X t u0 s.2 e ∧ ∃ n, Rp X n 1 D0 p0 (.error e))) ?_ 80 ((1 : Int32), u) (Or.inl ⟨1, D0, p0, rfl, by omega, by omega, rfl, hs0, hD0, fun r h => h⟩)
  rintro n k ⟨v, s⟩ hI hK
  show sX6_readPlain_p25b Q (sX6_readPlain_p25n Q n) v s
  unfold sX6_readPlain_p25b
  rcases hI with ⟨cnt, D, p, hv, c1, c80, hk, hS, hD, hch⟩ | ⟨hk, cnt, e, c80, hv, hf, hr⟩
  · have hv : v = nI cnt := hv
    have hS : CdS X t D u0 s p false := hS
    have ht := hS.2.2.2.2
    have hp := hS.1.2.1
    have h16 := hS.1.1.1
    have hl := lst_p hp
    subst hv
    have hend : lkd X p false = 0 → sX6_readPlain_p48 (nI cnt) Q s := by
      intro hz
      unfold sX6_readPlain_p48
      refine c_more hS.1 (fun h => absurd hz h) (fun _ => i_pos rfl ?_)
      unfold sX6_readPlain_p70
      exact c_miss hD hS (fun u' h' => h1 u' D cnt p c80 (hch _ ⟨1, Or.inl ⟨hz, rfl⟩⟩) hD (by omega) h')
    by_cases c : cnt = 80
    · have h80 : nI 80 ≤ nI cnt := nI_le (by omega) (by omega)
      refine i_pos h80 ?_
      by_cases hz : lkd X p false = 0
      · exact hend hz
      · unfold sX6_readPlain_p48
        refine c_more hS.1 (fun _ => i_neg (by first | decide | (unfold vp_in; decide)) ?_) (fun h => absurd h hz)
        rw [hS.1.2.2.2.1]
        refine q_fail (f := 5) hS.1 (by omega) (by omega) (fun u2 k2 t2 => ?_)
        have s2 := ce_K hS.2.1 hS.2.2.1 hS.2.2.2.1 ht k2 t2 (dft_SX ht) (fun a k h => h.1)
        unfold sX6_readPlain_p70
        exact c_missF (cf_of hD (by omega) s2) (fun u' h' => h0 u' _ _ (hch _ ⟨1, Or.inr (Or.inl ⟨hz, c, rfl⟩)⟩) h')
    · have h80 : ¬ nI 80 ≤ nI cnt := nI_ge (by omega) (by omega)
      refine i_neg h80 (c_more hS.1 (fun hz => i_neg (by first | decide | (unfold vp_in; decide)) ?_) (fun hz => i_pos rfl (hend hz)))
      refine c_statement hD hS (fun u' D' p' hst s' v' => ?_) (fun u' e hst s' => ?_)
      · rw [nI_1]
        refine hK (81 - (cnt + 1)) (nI (cnt + 1), u') (by omega) (Or.inl ⟨cnt + 1, D', p', rfl, by omega, by omega, rfl, s', v', fun r hr => ?_⟩)
        obtain ⟨m, hm⟩ := hr
        exact hch r ⟨m + 1, Or.inr (Or.inr ⟨hz, c, Or.inr ⟨D', p', hst, v', hm⟩⟩)⟩
      · rw [nI_1]
        exact hK 0 (nI (cnt + 1), u') (by omega) (Or.inr ⟨rfl, cnt + 1, e, by omega, rfl, s', hch _ ⟨1, Or.inr (Or.inr ⟨hz, c, Or.inl ⟨e, hst, rfl⟩⟩)⟩⟩)
  · have hv : v = nI cnt := hv
    have hf : CdF X t u0 s e := hf
    subst hv
    by_cases c : cnt = 80
    · have h80 : nI 80 ≤ nI cnt := nI_le (by omega) (by omega)
      exact i_pos h80 (hF s _ e hr hf)
    · have h80 : ¬ nI 80 ≤ nI cnt := nI_ge (by omega) (by omega)
      exact i_neg h80 (c_moreF hf.1 (i_pos rfl (hF s _ e hr hf)))
theorem c_readPlain {X : Tx} {t : Nat} {u : St} {Q : Int32 → St → Prop} (ht : t = 7 ∨ t = 24) (hT : Txt u X) (h1 : ∀ u' D cnt p, cnt ≤ 80 → PlT X (.ok (D, cnt)) → VD D p → p ≤ 1600 → CdD t (fin D) (tD4 u t) u' → Q (nI cnt) u') (h0 : ∀ u' e r, PlT X (.error e) → CdF X t (tD4 u t) u' e → Q r u') : s_X6_readPlain t Q u := by
  unfold s_X6_readPlain
  refine bnd_i ?_
  show s_X5_clear t _ (tD4 u t)
  have hT4 : Txt (tD4 u t) X := hT
  have r4 : (tD4 u t).2.2.2.2.2 = t := rfl
  generalize tD4 u t = z at h1 h0 hT4 r4
  refine c_clear ht (fun u1 k1 c1 => q_rewind (txt_K hT4 k1 (by omega) (fun k => by omega)) (fun u2 k2 t2 => ?_))
  have c2 : Clr u2 t := clr_K c1 k2 (fun a k h1 h2 => by unfold SX; omega)
  have kz : Kp (SCd t) z u2 := kp_t (kp_m k1 (fun a k h => by unfold SCd at h; omega)) (kp_m k2 (fun a k h => h.1))
  refine c_sides ht (by rw [kz.2.2]; exact r4) t2 c2 (kq_p kz) (fun u3 D p hsd s3 v3 => ?_) (fun u3 e hsd f3 => ?_)
  · exact c_loop v3 s3 (fun u' D' cnt p' hc hr hv hp hd => h1 u' D' cnt p' hc (Or.inr ⟨D, p, hsd, v3, hr⟩) hv hp hd) (fun u' e r hr hf => h0 u' e r (Or.inr ⟨D, p, hsd, v3, hr⟩) hf)
  · unfold sX6_readPlain_p25
    refine ⟨1, ?_⟩
    show sX6_readPlain_p25b Q _ 1 u3
    unfold sX6_readPlain_p25b
    refine i_neg (by first | decide | (unfold vp_in; decide)) (c_moreF f3.1 (i_pos rfl ?_))
    unfold sX6_readPlain_p48
    refine c_moreF f3.1 (i_pos rfl ?_)
    unfold sX6_readPlain_p70
    exact c_missF f3 (fun u' h' => h0 u' e _ (Or.inl ⟨e, hsd, rfl⟩) h')
