/-! a year: the cells of the way grow wetter -/
theorem min_nI {a b : Nat} {Q : Int32 → St → Prop} {u : St} (ha : a < 10000) (hb : b < 10000) (hQ : Q (nI (min a b)) u) : s_J9_min_7cf53 (nI a) (nI b) Q u := by
  unfold s_J9_min_7cf53
  by_cases h : b < a
  · refine i_pos (nI_lt h (by omega)) ?_
    rw [show min a b = b by omega] at hQ
    exact hQ
  · refine i_neg (nI_nlt (by omega) (by omega)) ?_
    rw [show min a b = a by omega] at hQ
    exact hQ
def wetN (N p : Nat → Nat) : Nat → Nat → Nat
  | 0 => N
  | j + 1 => upN (wetN N p j) (3 + 3 * p j) (min (wetN N p j (3 + 3 * p j) + 1) 99)
theorem wet_vn {P : Pl} {N p : Nat → Nat} (hP : VP P) (hN : VN P N) : ∀ m, (∀ i, i < m → cel P (p i)) → VN P (wetN N p m)
  | 0, _ => hN
  | m + 1, h => by
    have hV := wet_vn hP hN m (fun i hi => h i (by omega))
    have hc := h m (by omega)
    have h36 := cel_lt hP hc
    unfold wetN
    generalize wetN N p m = M at hV
    refine ⟨by rw [upN_n _ (by omega)]; exact hV.1, fun c hc2 => ?_, fun c hc2 h2 => ?_, fun g hg => ?_, fun g hg hg6 => ?_, by rw [upN_n _ (by omega)]; exact hV.2.2.2.2.2.1, fun k hk => by rw [upN_n _ (by omega)]; exact hV.2.2.2.2.2.2 k hk⟩
    · rw [upN_n _ (by omega), upN_n _ (by omega)]
      refine ⟨(hV.2.1 c hc2).1, (hV.2.1 c hc2).2.1, ?_⟩
      by_cases e : c = p m
      · rw [e, upN_s]
        omega
      · rw [upN_n _ (by omega)]
        exact (hV.2.1 c hc2).2.2
    · rw [upN_n _ (by omega)]
      exact hV.2.2.1 c hc2 h2
    · have := hP.2.2.2.2.1
      rw [upN_n _ (by omega)]
      exact hV.2.2.2.1 g hg
    · rw [upN_n _ (by omega)]
      exact hV.2.2.2.2.1 g hg hg6
theorem cLa_wet {u : St} {P : Pl} {N : Nat → Nat} {c x : Nat} (hP : VP P) (h : cLa u 42 P N) (hc : cel P c) : cLa (tI u 45 (pl P c) (nI x)) 42 P (upN N (3 + 3 * c) x) := by
  have h36 := cel_lt hP hc
  refine ⟨by rw [t_n _ _ (by omega), upN_n _ (by omega)]; exact h.1, fun d hd => ?_, fun g hg => ?_, fun q hq hqa => ?_⟩
  · have := h.2.1 d hd
    rw [t_n (a' := 42 + 1) _ _ (by omega), t_n (a' := 42 + 2) _ _ (by omega), upN_n _ (by omega), upN_n _ (by omega)]
    refine ⟨this.1, this.2.1, ?_⟩
    by_cases e : d = c
    · rw [e, upN_s]
      exact t_s _ _ _ _
    · have e2 : pl P d ≠ pl P c := fun g => e (pl_inj hd hc g)
      rw [t_n _ _ (by omega), upN_n _ (by omega)]
      exact this.2.2
  · rw [t_n _ _ (by omega), upN_n _ (by omega)]
    exact h.2.2.1 g hg
  · rw [t_n _ _ (by omega)]
    exact h.2.2.2 q hq hqa
