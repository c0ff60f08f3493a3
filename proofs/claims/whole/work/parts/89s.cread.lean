/-! ===== the class reads a PLAIN: its draft, the readers of a statement ===== -/
def cDr (u : St) (t : Nat) (D : Pl) : Prop := (u.1 t 0 = nI (pc D) ∧ u.1 t 1 = nI (pr D) ∧ u.1 t 2 = nI (ps D) ∧ u.1 t 3 = nI (pf D) ∧ u.1 t 4 = nI (pk D))
  ∧ (∀ c, cel D c → u.1 (t + 1) (pl D c) = nI (D.1 5 c) ∧ u.1 (t + 2) (pl D c) = nI (D.1 6 c) ∧ u.1 (t + 3) (pl D c) = oI (fAt D c))
  ∧ (∀ q, q < 36 → pc D * pr D ≤ q → u.1 (t + 2) q = 0)
  ∧ (∀ f, f < pf D → u.1 (t + 4) f = nI (nmC (fnm D f)) ∧ u.1 (t + 5) f = nI (pl D (fce D f)) ∧ u.1 (t + 6) f = nI (fda D f) ∧ u.1 (t + 7) f = nI (D.1 7 f))
  ∧ (∀ c, c < pk D → u.1 (t + 8) c = nI (nmC (cnm D c)) ∧ u.1 (t + 9) c = nI (cbo D c) ∧ u.1 (t + 10) c = nI (cki D c))
  ∧ cCo u (t + 11) D.2.1 ∧ cCo u (t + 14) D.2.2
def Dft (t : Nat) (D : Pl) (a k : Nat) : Prop := (a = t ∧ k ≤ 4) ∨ (t + 1 ≤ a ∧ a ≤ t + 3) ∨ (t + 4 ≤ a ∧ a ≤ t + 7 ∧ k < pf D) ∨ (t + 8 ≤ a ∧ a ≤ t + 10 ∧ k < pk D) ∨ a = t + 11 ∨ a = t + 12 ∨ a = t + 14 ∨ a = t + 15
theorem cdr_K {S : Nat → Nat → Prop} {u u' : St} {t : Nat} {D : Pl} (h : cDr u t D) (hK : Kp S u u') (hS : ∀ a k, Dft t D a k → S a k) : cDr u' t D := by
  obtain ⟨⟨a1, a2, a3, a4, a5⟩, b, c, d, e, f, g⟩ := h
  refine ⟨⟨?_, ?_, ?_, ?_, ?_⟩, fun x hx => ?_, fun q h1 h2 => ?_, fun x hx => ?_, fun x hx => ?_, cco_K f hK (fun a k h => hS _ _ (by unfold Dft; omega)), cco_K g hK (fun a k h => hS _ _ (by unfold Dft; omega))⟩
  · rw [hK.1 _ _ (hS _ _ (by unfold Dft; omega))]
    exact a1
  · rw [hK.1 _ _ (hS _ _ (by unfold Dft; omega))]
    exact a2
  · rw [hK.1 _ _ (hS _ _ (by unfold Dft; omega))]
    exact a3
  · rw [hK.1 _ _ (hS _ _ (by unfold Dft; omega))]
    exact a4
  · rw [hK.1 _ _ (hS _ _ (by unfold Dft; omega))]
    exact a5
  · rw [hK.1 (t + 1) _ (hS _ _ (by unfold Dft; omega)), hK.1 (t + 2) _ (hS _ _ (by unfold Dft; omega)), hK.1 (t + 3) _ (hS _ _ (by unfold Dft; omega))]
    exact b x hx
  · rw [hK.1 (t + 2) _ (hS _ _ (by unfold Dft; omega))]
    exact c q h1 h2
  · rw [hK.1 (t + 4) _ (hS _ _ (by unfold Dft; omega)), hK.1 (t + 5) _ (hS _ _ (by unfold Dft; omega)), hK.1 (t + 6) _ (hS _ _ (by unfold Dft; omega)), hK.1 (t + 7) _ (hS _ _ (by unfold Dft; omega))]
    exact d x hx
  · rw [hK.1 (t + 8) _ (hS _ _ (by unfold Dft; omega)), hK.1 (t + 9) _ (hS _ _ (by unfold Dft; omega)), hK.1 (t + 10) _ (hS _ _ (by unfold Dft; omega))]
    exact e x hx
theorem cdr_h {u u' : St} {t c h : Nat} {D : Pl} (hC : cDr u t D) (hc : cel D c) (hK : Kp (fun a k => ¬ (a = t + 1 ∧ k = pl D c)) u u') (hv : u'.1 (t + 1) (pl D c) = nI h) : cDr u' t (s0 D 5 c h) := by
  have hC2 : (∀ x, cel D x → x ≠ c → u'.1 (t + 1) (pl D x) = nI (D.1 5 x)) := by
    intro x hx hxc
    rw [hK.1 (t + 1) (pl D x) (fun hh => hxc (pl_inj hx hc hh.2))]
    exact (hC.2.1 x hx).1
  obtain ⟨⟨a1, a2, a3, a4, a5⟩, b, c', d, e, f, g⟩ := hC
  refine ⟨⟨?_, ?_, ?_, ?_, ?_⟩, fun x hx => ⟨?_, ?_, ?_⟩, fun q h1 h2 => ?_, fun x hx => ?_, fun x hx => ?_, cco_K f hK (fun a k h => by omega), cco_K g hK (fun a k h => by omega)⟩
  · rw [hK.1 _ _ (by omega)]
    exact a1
  · rw [hK.1 _ _ (by omega)]
    exact a2
  · rw [hK.1 _ _ (by omega)]
    exact a3
  · rw [hK.1 _ _ (by omega)]
    exact a4
  · rw [hK.1 _ _ (by omega)]
    exact a5
  · show u'.1 (t + 1) (pl D x) = nI ((s0 D 5 c h).1 5 x)
    by_cases q : x = c
    · rw [q, s0_s]
      exact hv
    · rw [s0_n (by omega)]
      exact hC2 x hx q
  · show u'.1 (t + 2) (pl D x) = nI (D.1 6 x)
    rw [hK.1 (t + 2) _ (by omega)]
    exact (b x hx).2.1
  · show u'.1 (t + 3) (pl D x) = oI (fAt D x)
    rw [hK.1 (t + 3) _ (by omega)]
    exact (b x hx).2.2
  · rw [hK.1 (t + 2) _ (by omega)]
    exact c' q h1 h2
  · rw [hK.1 (t + 4) _ (by omega), hK.1 (t + 5) _ (by omega), hK.1 (t + 6) _ (by omega), hK.1 (t + 7) _ (by omega), s0_f (by omega)]
    exact d x hx
  · rw [hK.1 (t + 8) _ (by omega), hK.1 (t + 9) _ (by omega), hK.1 (t + 10) _ (by omega), s0_c (by omega)]
    exact e x hx
theorem cdr_s {u u' : St} {t c : Nat} {D : Pl} (hC : cDr u t D) (hc : cel D c) (hK : Kp (fun a k => ¬ (a = t + 2 ∧ k = pl D c)) u u') (hv : u'.1 (t + 2) (pl D c) = nI 1) : cDr u' t (s0 D 6 c 1) := by
  have hC2 : (∀ x, cel D x → x ≠ c → u'.1 (t + 2) (pl D x) = nI (D.1 6 x)) := by
    intro x hx hxc
    rw [hK.1 (t + 2) (pl D x) (fun hh => hxc (pl_inj hx hc hh.2))]
    exact (hC.2.1 x hx).2.1
  have hpl := pl_lt hc
  obtain ⟨⟨a1, a2, a3, a4, a5⟩, b, c', d, e, f, g⟩ := hC
  refine ⟨⟨?_, ?_, ?_, ?_, ?_⟩, fun x hx => ⟨?_, ?_, ?_⟩, fun q h1 h2 => ?_, fun x hx => ?_, fun x hx => ?_, cco_K f hK (fun a k h => by omega), cco_K g hK (fun a k h => by omega)⟩
  · rw [hK.1 _ _ (by omega)]
    exact a1
  · rw [hK.1 _ _ (by omega)]
    exact a2
  · rw [hK.1 _ _ (by omega)]
    exact a3
  · rw [hK.1 _ _ (by omega)]
    exact a4
  · rw [hK.1 _ _ (by omega)]
    exact a5
  · show u'.1 (t + 1) (pl D x) = nI (D.1 5 x)
    rw [hK.1 (t + 1) _ (by omega)]
    exact (b x hx).1
  · show u'.1 (t + 2) (pl D x) = nI ((s0 D 6 c 1).1 6 x)
    by_cases q : x = c
    · rw [q, s0_s]
      exact hv
    · rw [s0_n (by omega)]
      exact hC2 x hx q
  · show u'.1 (t + 3) (pl D x) = oI (fAt D x)
    rw [hK.1 (t + 3) _ (by omega)]
    exact (b x hx).2.2
  · have h2' : pc D * pr D ≤ q := h2
    rw [hK.1 (t + 2) _ (by omega)]
    exact c' q h1 h2
  · rw [hK.1 (t + 4) _ (by omega), hK.1 (t + 5) _ (by omega), hK.1 (t + 6) _ (by omega), hK.1 (t + 7) _ (by omega), s0_f (by omega)]
    exact d x hx
  · rw [hK.1 (t + 8) _ (by omega), hK.1 (t + 9) _ (by omega), hK.1 (t + 10) _ (by omega), s0_c (by omega)]
    exact e x hx
theorem cdr_so {u u' : St} {t x : Nat} {D : Pl} (hC : cDr u t D) (hK : Kp (fun a k => ¬ (a = t ∧ k = 2)) u u') (hv : u'.1 t 2 = nI x) : cDr u' t (s0 D 0 2 x) := by
  obtain ⟨⟨a1, a2, a3, a4, a5⟩, b, c', d, e, f, g⟩ := hC
  refine ⟨⟨?_, ?_, ?_, ?_, ?_⟩, fun x hx => ⟨?_, ?_, ?_⟩, fun q h1 h2 => ?_, fun x hx => ?_, fun x hx => ?_, cco_K f hK (fun a k h => by omega), cco_K g hK (fun a k h => by omega)⟩
  · rw [hK.1 _ _ (by omega)]
    exact a1
  · rw [hK.1 _ _ (by omega)]
    exact a2
  · exact hv
  · rw [hK.1 _ _ (by omega)]
    exact a4
  · rw [hK.1 _ _ (by omega)]
    exact a5
  · show u'.1 (t + 1) (pl D x) = nI (D.1 5 x)
    rw [hK.1 (t + 1) _ (by omega)]
    exact (b x hx).1
  · show u'.1 (t + 2) (pl D x) = nI (D.1 6 x)
    rw [hK.1 (t + 2) _ (by omega)]
    exact (b x hx).2.1
  · show u'.1 (t + 3) (pl D x) = oI (fAt D x)
    rw [hK.1 (t + 3) _ (by omega)]
    exact (b x hx).2.2
  · rw [hK.1 (t + 2) _ (by omega)]
    exact c' q h1 h2
  · rw [hK.1 (t + 4) _ (by omega), hK.1 (t + 5) _ (by omega), hK.1 (t + 6) _ (by omega), hK.1 (t + 7) _ (by omega), s0_f (by omega)]
    exact d x hx
  · rw [hK.1 (t + 8) _ (by omega), hK.1 (t + 9) _ (by omega), hK.1 (t + 10) _ (by omega), s0_c (by omega)]
    exact e x hx
theorem cdr_f {u u' : St} {t c d i : Nat} {l : Nat → Nat} {D D' : Pl} (hC : cDr u t D) (h6 : pf D < 6) (hk5 : pk D ≤ 5) (hc : cel D c) (ha : fAt D c = none) (hK : Kp (fun a k => ¬ (t + 4 ≤ a ∧ a ≤ t + 7 ∧ k = pf D) ∧ ¬ (a = t + 3 ∧ k = pl D c) ∧ ¬ (a = t ∧ k = 3)) u u') (v4 : u'.1 (t + 4) (pf D) = nI (nmC l)) (v5 : u'.1 (t + 5) (pf D) = nI (pl D c)) (v6 : u'.1 (t + 6) (pf D) = nI d) (v7 : u'.1 (t + 7) (pf D) = nI i) (v3 : u'.1 (t + 3) (pl D c) = nI (pf D)) (v0 : u'.1 t 3 = nI (pf D + 1)) (h : D' = nwF D l c d i) : cDr u' t D' := by
  obtain ⟨⟨a1, a2, a3, a4, a5⟩, b, c', d', e, f, g⟩ := hC
  obtain ⟨⟨n1, n2, n3, n4, n5⟩, e1, e2, e7, e20, es, e30, ec⟩ := nwF_e h
  have hpl : ∀ x, pl D' x = pl D x := fun x => by unfold pl; rw [n1]
  have hfa : ∀ x, fAt D' x = (fAt D x).or (if c = x then some (pf D) else none) := by
    intro x
    unfold fAt
    rw [n4]
    show (fAtN (fce D') x (pf D)).or (if fce D' (pf D) = x then some (pf D) else none) = _
    have : ∀ n, n ≤ pf D → fAtN (fce D') x n = fAtN (fce D) x n := by
      intro n
      induction n with
      | zero => exact fun _ => rfl
      | succ n ih =>
        intro hn
        show (fAtN (fce D') x n).or (if fce D' n = x then some n else none) = (fAtN (fce D) x n).or (if fce D n = x then some n else none)
        have en : fce D' n = fce D n := by
          rw [e1 n]
          exact if_neg (show ¬ n = pf D by omega)
        rw [ih (by omega), en]
    rw [this _ (Nat.le_refl _), e1 (pf D)]
    first | refine i_pos rfl ?_ | rw [if_pos rfl]
    try (with_reducible rfl)
  refine ⟨⟨?_, ?_, ?_, ?_, ?_⟩, fun x hx => ?_, fun q h1 h2 => ?_, fun x hx => ?_, fun x hx => ?_, by rw [ec]; exact cco_K f hK (fun a k h => by omega), by rw [ec]; exact cco_K g hK (fun a k h => by omega)⟩
  · rw [hK.1 _ _ (by omega), n1]
    exact a1
  · rw [hK.1 _ _ (by omega), n2]
    exact a2
  · rw [hK.1 _ _ (by omega), n3]
    exact a3
  · rw [n4]
    exact v0
  · rw [hK.1 _ _ (by omega), n5]
    exact a5
  · have hx' : cel D x := (cel_c n1 n2).mp hx
    rw [hpl, hK.1 (t + 1) _ (by omega), hK.1 (t + 2) _ (by omega), (es x).2.2.1, (es x).2.2.2, hfa]
    refine ⟨(b x hx').1, (b x hx').2.1, ?_⟩
    by_cases q : x = c
    · rw [q, ha]
      first | refine i_pos rfl ?_ | rw [if_pos rfl]
      try (with_reducible rfl)
      exact v3
    · rw [hK.1 (t + 3) (pl D x) ⟨by omega, fun hh => q (pl_inj hx' hc hh.2), by omega⟩]
      first | refine i_neg (fun h => q h.symm) ?_ | rw [if_neg (fun h => q h.symm)]
      rw [Option.or_none]
      exact (b x hx').2.2
  · rw [n1, n2] at h2
    rw [hK.1 (t + 2) _ (by omega)]
    exact c' q h1 h2
  · rw [n4] at hx
    rw [e20, e1, e2, e7, hpl]
    by_cases q : x = pf D
    · first | refine i_pos q ?_ | rw [if_pos q]
      first | refine i_pos q ?_ | rw [if_pos q]
      first | refine i_pos q ?_ | rw [if_pos q]
      first | refine i_pos q ?_ | rw [if_pos q]
      rw [q]
      exact ⟨v4, v5, v6, v7⟩
    · first | refine i_neg q ?_ | rw [if_neg q]
      first | refine i_neg q ?_ | rw [if_neg q]
      first | refine i_neg q ?_ | rw [if_neg q]
      first | refine i_neg q ?_ | rw [if_neg q]
      rw [hK.1 (t + 4) _ (by omega), hK.1 (t + 5) _ (by omega), hK.1 (t + 6) _ (by omega), hK.1 (t + 7) _ (by omega)]
      exact d' x (by omega)
  · rw [n5] at hx
    rw [(es x).1, (es x).2.1, e30 x (by omega) (by omega), hK.1 (t + 8) _ (by omega), hK.1 (t + 9) _ (by omega), hK.1 (t + 10) _ (by omega)]
    exact e x hx
theorem cdr_k {u u' : St} {t b k : Nat} {l : Nat → Nat} {D D' : Pl} (hC : cDr u t D) (h6 : pf D ≤ 6) (hK : Kp (fun x j => ¬ (t + 8 ≤ x ∧ x ≤ t + 10 ∧ j = pk D) ∧ ¬ (x = t ∧ j = 4)) u u') (v8 : u'.1 (t + 8) (pk D) = nI (nmC l)) (v9 : u'.1 (t + 9) (pk D) = nI b) (v10 : u'.1 (t + 10) (pk D) = nI k) (v0 : u'.1 t 4 = nI (pk D + 1)) (h : D' = nwK D l b k) : cDr u' t D' := by
  obtain ⟨⟨a1, a2, a3, a4, a5⟩, b', c', d', e, f, g⟩ := hC
  obtain ⟨⟨n1, n2, n3, n4, n5⟩, e3, e4, e30, es, e20, ec⟩ := nwK_e h
  have hpl : ∀ x, pl D' x = pl D x := fun x => by unfold pl; rw [n1]
  have hfa : ∀ x, fAt D' x = fAt D x := by
    intro x
    unfold fAt
    rw [n4]
    have : fce D' = fce D := by
      funext j
      exact (es j).1
    rw [this]
  refine ⟨⟨?_, ?_, ?_, ?_, ?_⟩, fun x hx => ?_, fun q h1 h2 => ?_, fun x hx => ?_, fun x hx => ?_, by rw [ec]; exact cco_K f hK (fun a k h => by omega), by rw [ec]; exact cco_K g hK (fun a k h => by omega)⟩
  · rw [hK.1 _ _ (by omega), n1]
    exact a1
  · rw [hK.1 _ _ (by omega), n2]
    exact a2
  · rw [hK.1 _ _ (by omega), n3]
    exact a3
  · rw [hK.1 _ _ (by omega), n4]
    exact a4
  · rw [n5]
    exact v0
  · have hx' : cel D x := (cel_c n1 n2).mp hx
    rw [hpl, hK.1 (t + 1) _ (by omega), hK.1 (t + 2) _ (by omega), hK.1 (t + 3) _ (by omega), (es x).2.2.1, (es x).2.2.2.1, hfa]
    exact b' x hx'
  · rw [n1, n2] at h2
    rw [hK.1 (t + 2) _ (by omega)]
    exact c' q h1 h2
  · rw [n4] at hx
    rw [e20 x (by omega), (es x).1, (es x).2.1, (es x).2.2.2.2, hpl, hK.1 (t + 4) _ (by omega), hK.1 (t + 5) _ (by omega), hK.1 (t + 6) _ (by omega), hK.1 (t + 7) _ (by omega)]
    exact d' x (by omega)
  · rw [n5] at hx
    rw [e3, e4, e30]
    by_cases q : x = pk D
    · first | refine i_pos q ?_ | rw [if_pos q]
      first | refine i_pos q ?_ | rw [if_pos q]
      first | refine i_pos q ?_ | rw [if_pos q]
      rw [q]
      exact ⟨v8, v9, v10⟩
    · first | refine i_neg q ?_ | rw [if_neg q]
      first | refine i_neg q ?_ | rw [if_neg q]
      first | refine i_neg q ?_ | rw [if_neg q]
      rw [hK.1 (t + 8) _ (by omega), hK.1 (t + 9) _ (by omega), hK.1 (t + 10) _ (by omega)]
      exact e x (by omega)
theorem cdr_c {u u' : St} {t w : Nat} {c : List Nat} {D : Pl} (hC : cDr u t D) (hw : w = 0 ∨ w = 1) (hK : Kp (fun x j => x ≠ t + 11 + 3 * w ∧ x ≠ t + 12 + 3 * w ∧ (t ≤ x ∧ x ≤ t + 15)) u u') (hv : cCo u' (t + 11 + 3 * w) c) : cDr u' t (sC D w c) := by
  obtain ⟨⟨a1, a2, a3, a4, a5⟩, b, c', d, e, f, g⟩ := hC
  have hco : cCo u' (t + 11) (sC D w c).2.1 ∧ cCo u' (t + 14) (sC D w c).2.2 := by
    rcases hw with rfl | rfl
    · exact ⟨hv, cco_K g hK (fun a k h => by omega)⟩
    · exact ⟨cco_K f hK (fun a k h => by omega), hv⟩
  have hD1 : (sC D w c).1 = D.1 := by
    rcases hw with rfl | rfl <;> rfl
  have k0 : ∀ a k, t ≤ a → a ≤ t + 10 → u'.1 a k = u.1 a k := fun a k h1 h2 => hK.1 a k (by omega)
  generalize hE : sC D w c = E at hco hD1
  have q0 : pc E = pc D ∧ pr E = pr D ∧ ps E = ps D ∧ pf E = pf D ∧ pk E = pk D := by
    unfold pc pr ps pf pk
    rw [hD1]
    exact ⟨rfl, rfl, rfl, rfl, rfl⟩
  have q1 : fce E = fce D ∧ fda E = fda D ∧ fnm E = fnm D ∧ cbo E = cbo D ∧ cki E = cki D ∧ cnm E = cnm D := by
    unfold fce fda fnm cbo cki cnm
    rw [hD1]
    exact ⟨rfl, rfl, rfl, rfl, rfl, rfl⟩
  have q2 : ∀ x, cel E x ↔ cel D x := fun x => cel_c q0.1 q0.2.1
  have q3 : ∀ x, pl E x = pl D x := fun x => by unfold pl; rw [q0.1]
  have q4 : ∀ x, fAt E x = fAt D x := fun x => by unfold fAt; rw [q0.2.2.2.1, q1.1]
  refine ⟨⟨?_, ?_, ?_, ?_, ?_⟩, fun x hx => ?_, fun q h1 h2 => ?_, fun x hx => ?_, fun x hx => ?_, hco⟩
  · rw [k0 _ _ (by omega) (by omega), q0.1]
    exact a1
  · rw [k0 _ _ (by omega) (by omega), q0.2.1]
    exact a2
  · rw [k0 _ _ (by omega) (by omega), q0.2.2.1]
    exact a3
  · rw [k0 _ _ (by omega) (by omega), q0.2.2.2.1]
    exact a4
  · rw [k0 _ _ (by omega) (by omega), q0.2.2.2.2]
    exact a5
  · rw [q3, q4, hD1, k0 _ _ (by omega) (by omega), k0 _ _ (by omega) (by omega), k0 _ _ (by omega) (by omega)]
    exact b x ((q2 x).mp hx)
  · rw [q0.1, q0.2.1] at h2
    rw [k0 _ _ (by omega) (by omega)]
    exact c' q h1 h2
  · rw [q0.2.2.2.1] at hx
    rw [q1.1, q1.2.1, q1.2.2.1, q3, hD1, k0 _ _ (by omega) (by omega), k0 _ _ (by omega) (by omega), k0 _ _ (by omega) (by omega), k0 _ _ (by omega) (by omega)]
    exact d x hx
  · rw [q0.2.2.2.2] at hx
    rw [q1.2.2.2.1, q1.2.2.2.2.1, q1.2.2.2.2.2, k0 _ _ (by omega) (by omega), k0 _ _ (by omega) (by omega), k0 _ _ (by omega) (by omega)]
    exact e x hx
/-! frames -/
def SCd (t a k : Nat) : Prop := SX a k ∧ ¬ (t ≤ a ∧ a ≤ t + 16) ∧ a ≠ 6 ∧ ¬ (a = 41 ∧ k = 3)
def Kq (S : Nat → Nat → Prop) (u u' : St) : Prop := ∃ gc, Kp S (tD3 u gc) u'
theorem kq_p {S : Nat → Nat → Prop} {u v : St} (h : Kp S u v) : Kq S u v := ⟨u.2.2.2.2.1, h⟩
theorem kq_t {S : Nat → Nat → Prop} {u v w : St} (h : Kq S u v) (h2 : Kq S v w) : Kq S u w := by
  obtain ⟨g1, k1⟩ := h
  obtain ⟨g2, k2⟩ := h2
  refine ⟨g2, fun a k hs => (k2.1 a k hs).trans (k1.1 a k hs), fun a ha => (k2.2.1 a ha).trans (k1.2.1 a ha), ?_⟩
  rw [k2.2.2]
  show (v.2.2.1, v.2.2.2.1, g2, v.2.2.2.2.2) = (u.2.2.1, u.2.2.2.1, g2, u.2.2.2.2.2)
  rw [k1.2.2]
  rfl
theorem kq_m {S T : Nat → Nat → Prop} {u v : St} (h : Kq S u v) (hs : ∀ a k, T a k → S a k) : Kq T u v := by
  obtain ⟨g, k⟩ := h
  exact ⟨g, kp_m k hs⟩
theorem kq_r {S : Nat → Nat → Prop} {u v : St} (h : Kq S u v) : v.2.2.2.2.2 = u.2.2.2.2.2 ∧ v.2.2.1 = u.2.2.1 ∧ v.2.2.2.1 = u.2.2.2.1 := by
  obtain ⟨g, k⟩ := h
  rw [k.2.2]
  exact ⟨rfl, rfl, rfl⟩
/-- reading goes on; behind a fault, the draft still as it was; behind a fault -/
def CdS (X : Tx) (t : Nat) (D : Pl) (u0 u : St) (p : Nat) (g : Bool) : Prop := Tk u X p g ∧ cDr u t D ∧ Kq (SCd t) u0 u ∧ u.2.2.2.2.2 = t ∧ (t = 7 ∨ t = 24)
def CdE (X : Tx) (t : Nat) (D : Pl) (u0 u : St) (e : E2) : Prop := Tf u X e ∧ cDr u t D ∧ Kq (SCd t) u0 u ∧ u.2.2.2.2.2 = t ∧ (t = 7 ∨ t = 24)
def CdF (X : Tx) (t : Nat) (u0 u : St) (e : E2) : Prop := Tf u X e ∧ (∃ m, m ≤ 1600 ∧ u.1 (t + 11) 2 = nI m) ∧ (∃ m, m ≤ 1600 ∧ u.1 (t + 14) 2 = nI m) ∧ Kq (SCd t) u0 u ∧ u.2.2.2.2.2 = t ∧ (t = 7 ∨ t = 24)
theorem cs_K {S : Nat → Nat → Prop} {X : Tx} {t p p' : Nat} {g g' : Bool} {D : Pl} {u0 u u' : St} (h : CdS X t D u0 u p g) (hK : Kp S u u') (hk : Tk u' X p' g') (hS : ∀ a k, Dft t D a k → S a k) (hS2 : ∀ a k, SCd t a k → S a k) : CdS X t D u0 u' p' g' := ⟨hk, cdr_K h.2.1 hK hS, kq_t h.2.2.1 (kq_p (kp_m hK hS2)), by rw [hK.2.2]; exact h.2.2.2.1, h.2.2.2.2⟩
theorem ce_K {S : Nat → Nat → Prop} {X : Tx} {t : Nat} {e : E2} {D : Pl} {u0 u u' : St} (hd : cDr u t D) (hq : Kq (SCd t) u0 u) (hr : u.2.2.2.2.2 = t) (ht : t = 7 ∨ t = 24) (hK : Kp S u u') (hk : Tf u' X e) (hS : ∀ a k, Dft t D a k → S a k) (hS2 : ∀ a k, SCd t a k → S a k) : CdE X t D u0 u' e := ⟨hk, cdr_K hd hK hS, kq_t hq (kq_p (kp_m hK hS2)), by rw [hK.2.2]; exact hr, ht⟩
theorem dft_SX {t : Nat} {D : Pl} (ht : t = 7 ∨ t = 24) : ∀ a k, Dft t D a k → SX a k := fun a k h => by unfold Dft at h; unfold SX; omega
theorem cs_word {X : Tx} {t p v : Nat} {g : Bool} {w : List Nat} {D : Pl} {u0 u : St} {Q : St → Prop} (hv : v < 19) (hw : wds v = [w]) (h : CdS X t D u0 u p g) (h1 : ∀ u', wR X p g w = .ok () → CdS X t D u0 u' (lnx X p) true → Q u') (h0 : ∀ u', wR X p g w = .error (1, lst X p) → CdE X t D u0 u' (1, lst X p) → Q u') : s_X9_takeWord v Q u := by
  refine q_takeWord hv hw h.1 (fun u' hi k t' => h1 u' (if_pos hi) (cs_K h k t' (dft_SX h.2.2.2.2) (fun a k h => h.1))) (fun u' hi k t' => h0 u' (if_neg hi) (ce_K h.2.1 h.2.2.1 h.2.2.2.1 h.2.2.2.2 k t' (dft_SX h.2.2.2.2) (fun a k h => h.1)))
theorem cs_num {X : Tx} {t p a b : Nat} {g : Bool} {D : Pl} {u0 u : St} {Q : Int32 → St → Prop} (ha : a < 100000) (hb : b < 100000) (h : CdS X t D u0 u p g) (h1 : ∀ u' v, nuR X p g a b = .ok v → CdS X t D u0 u' (lnx X p) true → Q (nI v) u') (h0 : ∀ u' e, nuR X p g a b = .error e → CdE X t D u0 u' e → Q (nI a) u') : s_X9_takeNumber (nI a) (nI b) Q u := by
  refine q_takeNumber ha hb h.1 (fun u' v hi k t' => h1 u' v hi (cs_K h k t' (dft_SX h.2.2.2.2) (fun a k h => h.1))) (fun u' e hi k t' => h0 u' e hi (ce_K h.2.1 h.2.2.1 h.2.2.2.1 h.2.2.2.2 k t' (dft_SX h.2.2.2.2) (fun a k h => h.1)))
/-- a store where the draft does not reach -/
theorem cs_I {X : Tx} {t p x j : Nat} {g : Bool} {v : Int32} {D : Pl} {u0 u : St} (h : CdS X t D u0 u p g) (h1 : ¬ Dft t D x j) (h2 : ¬ SCd t x j) (h3 : x ≠ 1 ∧ x ≠ 2) : CdS X t D u0 (tI u x j v) p g := by
  have hK : Kp (fun a k => ¬ (a = x ∧ k = j)) u (tI u x j v) := kp_I (kp_r u) (by omega)
  exact cs_K h hK (tk_K h.1 hK (fun a k h => by omega)) (fun a k hd he => h1 (by rw [← he.1, ← he.2]; exact hd)) (fun a k hd he => h2 (by rw [← he.1, ← he.2]; exact hd))
theorem ce_I {X : Tx} {t x j : Nat} {e : E2} {v : Int32} {D : Pl} {u0 u : St} (h : CdE X t D u0 u e) (h1 : ¬ Dft t D x j) (h2 : ¬ SCd t x j) (h3 : x ≠ 1 ∧ x ≠ 2) : CdE X t D u0 (tI u x j v) e := by
  have hK : Kp (fun a k => ¬ (a = x ∧ k = j)) u (tI u x j v) := kp_I (kp_r u) (by omega)
  exact ce_K h.2.1 h.2.2.1 h.2.2.2.1 h.2.2.2.2 hK (tf_K h.1 hK (fun a k h => by omega)) (fun a k hd he => h1 (by rw [← he.1, ← he.2]; exact hd)) (fun a k hd he => h2 (by rw [← he.1, ← he.2]; exact hd))
theorem cf_of {X : Tx} {t p : Nat} {e : E2} {D : Pl} {u0 u : St} (hD : VD D p) (hp : p ≤ 1600) (h : CdE X t D u0 u e) : CdF X t u0 u e := by
  have hl := hD.2.2.2.2.2.2.2
  exact ⟨h.1, ⟨_, by omega, h.2.1.2.2.2.2.2.1.1⟩, ⟨_, by omega, h.2.1.2.2.2.2.2.2.1⟩, h.2.2⟩
theorem cf_I {X : Tx} {t x j : Nat} {e : E2} {v : Int32} {u0 u : St} (h : CdF X t u0 u e) (hx : (t ≤ x ∧ x ≤ t + 10)) : CdF X t u0 (tI u x j v) e := by
  obtain ⟨a, ⟨m, hm, b⟩, ⟨m', hm', c⟩, d, e', f⟩ := h
  have hK : Kp (fun a k => ¬ (a = x ∧ k = j)) u (tI u x j v) := kp_I (kp_r u) (by omega)
  refine ⟨tf_K a hK (fun a k h => by omega), ⟨m, hm, ?_⟩, ⟨m', hm', ?_⟩, kq_t d (kq_p (kp_m hK (fun a k h => ?_))), e', f⟩
  · rw [hK.1 _ _ (by omega)]
    exact b
  · rw [hK.1 _ _ (by omega)]
    exact c
  · unfold SCd at h
    omega
/-! a place, a name -/
theorem c_place {X : Tx} {t p : Nat} {D : Pl} {u0 u : St} {Q : Int32 → St → Prop} (h2 : 2 ≤ pc D ∧ pc D ≤ 6 ∧ 2 ≤ pr D ∧ pr D ≤ 6) (h : CdS X t D u0 u p true) (h1 : ∀ u' c, plR X D p = .ok c → CdS X t D u0 u' (lx X 2 p) true → u'.1 41 3 = nI (lst X (lnx X p)) → cel D c → Q (nI (pl D c)) u') (h0 : ∀ u' e c, plR X D p = .error e → CdE X t D u0 u' e → c < 36 → Q (nI c) u') : s_X6_readPlace Q u := by
  unfold s_X6_readPlace
  have ht := h.2.2.2.2
  have n41 : ¬ Dft t D 41 3 := by
    unfold Dft
    omega
  have n41' : ¬ SCd t 41 3 := by
    unfold SCd
    omega
  rw [h.2.2.2.1, h.2.1.1.1, show nI (pc D) - 1 = nI (pc D - 1) from pk_sub (b := 1) (by omega)]
  refine cs_num (a := 0) (by omega) (by omega) h (fun u1 x hx s1 => bnd_i ?_) (fun u1 e he s1 => bnd_i ?_)
  · have z3 : (tI u1 41 3 (u1.1 1 3)).1 41 3 = nI (lst X (lnx X p)) := by
      rw [t_s]
      exact s1.1.2.2.2.1
    have s2 := cs_I (v := u1.1 1 3) s1 n41 n41' (by omega)
    generalize tI u1 41 3 (u1.1 1 3) = u2 at z3 s2
    rw [s2.2.2.2.1, s2.2.1.1.2.1, show nI (pr D) - 1 = nI (pr D - 1) from pk_sub (b := 1) (by omega)]
    refine q_takeNumber (least := 0) (by omega) (by omega) s2.1 (fun u3 y hy k3 t3 => ?_) (fun u3 e he k3 t3 => ?_)
    · have s3 := cs_K s2 k3 t3 (dft_SX ht) (fun a k h => h.1)
      have hpl := pl_ok hx hy h2
      rw [s3.2.2.2.1, s3.2.1.1.1, pk_mul, nI_add, ← hpl.2.1]
      refine h1 u3 (x + 6 * y) ?_ s3 (by rw [k3.1 41 3 (by unfold SX; omega)]; exact z3) hpl.1
      unfold plR
      rw [hx]
      show (nuR X (lnx X p) true 0 (pr D - 1)).bind _ = _
      rw [hy]
      rfl
    · have s3 := ce_K s2.2.1 s2.2.2.1 s2.2.2.2.1 ht k3 t3 (dft_SX ht) (fun a k h => h.1)
      have hb := nu_ok hx
      rw [s3.2.2.2.1, s3.2.1.1.1, pk_mul, nI_add]
      refine h0 u3 e _ ?_ s3 (by omega)
      unfold plR
      rw [hx]
      show (nuR X (lnx X p) true 0 (pr D - 1)).bind _ = _
      rw [he]
      rfl
  · have s2 := ce_I (v := u1.1 1 3) s1 n41 n41' (by omega)
    generalize tI u1 41 3 (u1.1 1 3) = u2 at s2
    refine q_takeNumberF s2.1 ?_
    rw [s2.2.2.2.1, s2.2.1.1.1, show (0 : Int32) * nI (pc D) + nI 0 = nI (0 * pc D + 0) by rw [← nI_add, ← pk_mul]; rfl]
    refine h0 u2 e _ ?_ s2 (by omega)
    unfold plR
    rw [he]
    rfl
theorem fAtN_n {g : Nat → Nat} {c n : Nat} (h : ∀ f, f < n → g f ≠ c) : fAtN g c n = none := by
  cases e : fAtN g c n with
  | none => rfl
  | some f =>
    have := fAtN_some e
    exact absurd this.2 (h f this.1)
theorem fAtN_y {g : Nat → Nat} {c n f : Nat} (h1 : f < n) (h : g f = c) : (fAtN g c n).isSome = true := by
  cases e : fAtN g c n with
  | none => exact absurd h (fAtN_none e f h1)
  | some f => rfl
theorem c_isNamed {t p n : Nat} {l : Nat → Nat} {D : Pl} {u : St} {Q : Int32 → St → Prop} (hd : cDr u t D) (hD : VD D p) (hn : nmC l = n) (hb : n < 1073741824) (h1 : nmd D l = true → Q 1 u) (h0 : nmd D l = false → Q 0 u) : s_X5_isNamed t (nI n) Q u := by
  unfold s_X5_isNamed sX5_isNamed_p2
  have b6 := hD.1.2.2.2.2.2.1
  have b5 := hD.1.2.2.2.2.2.2
  refine for_up (sX5_isNamed_p2n t (nI n) Q) (pf D) (fun i s => s = u ∧ ∀ f, f < i → nmC (fnm D f) ≠ n) (fun m i s hi hI hK => ?_) 0 u (Nat.zero_le _) ⟨rfl, fun f hf => absurd hf (by omega)⟩
  obtain ⟨rfl, hI⟩ := hI
  show sX5_isNamed_p2b t (nI n) Q (sX5_isNamed_p2n t (nI n) Q m) (nI i) s
  unfold sX5_isNamed_p2b
  rw [hd.1.2.2.2.1]
  by_cases c : i = pf D
  · rw [c]
    refine i_pos (nI_le (Nat.le_refl _) (by omega)) ?_
    unfold sX5_isNamed_p30
    refine for_up (sX5_isNamed_p30n t (nI n) Q) (pk D) (fun i s' => s' = s ∧ ∀ f, f < i → nmC (cnm D f) ≠ n) (fun m i s' hi hI2 hK2 => ?_) 0 s (Nat.zero_le _) ⟨rfl, fun f hf => absurd hf (by omega)⟩
    obtain ⟨rfl, hI2⟩ := hI2
    show sX5_isNamed_p30b t (nI n) Q (sX5_isNamed_p30n t (nI n) Q m) (nI i) s'
    unfold sX5_isNamed_p30b
    rw [hd.1.2.2.2.2]
    by_cases c2 : i = pk D
    · rw [c2]
      refine i_pos (nI_le (Nat.le_refl _) (by omega)) (h0 ?_)
      unfold nmd
      rw [hn, fAtN_n (fun f hf => hI f (by omega)), fAtN_n (fun f hf => hI2 f (by omega))]
      rfl
    · refine i_neg (nI_ge (by omega) (by omega)) ⟨vp_in_nI (by omega) (by omega), ?_⟩
      have hv := hD.2.2.2.1 i (by omega)
      have hlt := nmC_lt hv.2.2.1
      rw [nI_clamp (by omega), (hd.2.2.2.2.1 i (by omega)).1]
      by_cases c3 : nmC (cnm D i) = n
      · refine i_pos (by rw [c3]) (h1 ?_)
        unfold nmd
        rw [hn, fAtN_y (g := fun c => nmC (cnm D c)) (f := i) (by omega) c3, Bool.or_true]
      · refine i_neg (x_ne (by omega) (by omega) c3) ?_
        rw [nI_1]
        refine hK2 (by omega) _ ⟨rfl, fun f hf => ?_⟩
        by_cases e : f = i
        · rw [e]
          exact c3
        · exact hI2 f (by omega)
  · refine i_neg (nI_ge (by omega) (by omega)) ⟨vp_in_nI (by omega) (by omega), ?_⟩
    have hv := hD.2.1 i (by omega)
    have hlt := nmC_lt hv.2.2.2.1
    rw [nI_clamp (by omega), (hd.2.2.2.1 i (by omega)).1]
    by_cases c3 : nmC (fnm D i) = n
    · refine i_pos (by rw [c3]) (h1 ?_)
      unfold nmd
      rw [hn, fAtN_y (g := fun f => nmC (fnm D f)) (f := i) (by omega) c3, Bool.true_or]
    · refine i_neg (x_ne (by omega) (by omega) c3) ?_
      rw [nI_1]
      refine hK (by omega) _ ⟨rfl, fun f hf => ?_⟩
      by_cases e : f = i
      · rw [e]
        exact c3
      · exact hI f (by omega)
theorem c_newName {X : Tx} {t p q : Nat} {D : Pl} {u0 u : St} {Q : Int32 → St → Prop} (hD : VD D q) (h : CdS X t D u0 u p true) (h1 : ∀ u', nnR X D p = .ok () → CdS X t D u0 u' (lx X 1 p) true → NmV (lln X p) → Q (nI (nmC (lln X p))) u') (h0 : ∀ u' e r, nnR X D p = .error e → CdE X t D u0 u' e → Q r u') : s_X6_readNewName Q u := by
  unfold s_X6_readNewName
  have ht := h.2.2.2.2
  have hl := lst_p h.1.2.1
  have h16 := h.1.1.1
  refine q_takeName h.1 (fun u1 hi k1 t1 => ?_) (fun u1 e hi k1 t1 => ?_)
  · have s1 := cs_K h k1 t1 (dft_SX ht) (fun a k h => h.1)
    have hv := (na_ok h.1.2.1 hi).1
    rw [s1.2.2.2.1]
    refine c_isNamed s1.2.1 hD rfl (nmC_lt hv.1) (fun hn => i_neg (by first | decide | (unfold vp_in; decide)) ?_) (fun hn => i_pos rfl (h1 u1 ?_ s1 hv))
    · rw [h.1.2.2.2.1]
      refine q_fail (f := 3) s1.1 (by omega) (by omega) (fun u2 k2 t2 => h0 u2 _ _ ?_ (ce_K s1.2.1 s1.2.2.1 s1.2.2.2.1 ht k2 t2 (dft_SX ht) (fun a k h => h.1)))
      unfold nnR
      rw [hi]
      show (if nmd D (lln X p) = true then _ else _) = _
      exact if_pos hn
    · unfold nnR
      rw [hi]
      show (if nmd D (lln X p) = true then _ else _) = _
      exact if_neg (by rw [hn]; simp)
  · have s1 := ce_K h.2.1 h.2.2.1 h.2.2.2.1 ht k1 t1 (dft_SX ht) (fun a k h => h.1)
    have hr : nnR X D p = .error e := by
      unfold nnR
      rw [hi]
      rfl
    rw [s1.2.2.2.1]
    exact c_isNamed (n := 0) (l := fun _ => 0) s1.2.1 hD rfl (by omega) (fun _ => i_neg (by first | decide | (unfold vp_in; decide)) (q_failF s1.1 (h0 u1 _ _ hr s1))) (fun _ => i_pos rfl (h0 u1 _ _ hr s1))
