/-! ===== the reference: a PLAIN stands ===== -/
def Kz (S : Nat → Nat → Prop) (u u' : St) : Prop := (∀ a k, S a k → u'.1 a k = u.1 a k) ∧ (∀ a, a ≠ 284 → a ≠ 233 → u'.2.1 a = u.2.1 a) ∧ u'.2.2 = u.2.2
theorem kz_r {S : Nat → Nat → Prop} {u v : St} (h : Kr S u v) : Kz S u v := ⟨h.1, h.2.1, h.2.2.2⟩
theorem kz_p {S : Nat → Nat → Prop} {u v : St} (h : Kp S u v) : Kz S u v := kz_r (kr_p h)
theorem kz_t {S : Nat → Nat → Prop} {u v w : St} (h : Kz S u v) (h2 : Kz S v w) : Kz S u w := ⟨fun a k hs => (h2.1 a k hs).trans (h.1 a k hs), fun a x y => (h2.2.1 a x y).trans (h.2.1 a x y), h2.2.2.trans h.2.2⟩
theorem kz_m {S T : Nat → Nat → Prop} {u v : St} (h : Kz S u v) (hs : ∀ a k, T a k → S a k) : Kz T u v := ⟨fun a k x => h.1 a k (hs a k x), h.2⟩
def lnN (D : Pl) : Nat → Nat := fun k => if k = 0 then 0 else if k < 109 then (if (k - 1) % 3 = 0 then D.1 5 ((k - 1) / 3) else if (k - 1) % 3 = 1 then D.1 6 ((k - 1) / 3) else 0) else if k < 109 + pf D then D.1 7 (k - 109) else 0
theorem r_st279 {D : Pl} {u : St} {Q : St → Prop} (h6 : pf D ≤ 6) (hf : u.1 232 0 = nI (pf D)) (hp : ∀ f, f < pf D → u.1 234 (3 * f + 2) = nI (D.1 7 f)) (hL : ∀ k, k < 236 → u.1 241 k = nI (if k < 109 then lnN D k else 0)) (hQ : ∀ u', Kp (fun a k => a ≠ 241 ∧ ¬ (a = 198 ∧ (k = 78 ∨ k = 74))) u u' → mLa u' (lnN D) → u'.1 198 78 = 0 → u'.1 198 74 = 0 → Q u') : sX12_stands_p279 Q (0 : Int32) u := by
  unfold sX12_stands_p279
  refine for_up (sX12_stands_p279n Q) (pf D) (fun i s => Kp (fun a _ => a ≠ 241) u s ∧ ∀ k, k < 236 → s.1 241 k = nI (if k < 109 + i then lnN D k else 0)) (fun n i s hi hI hK => ?_) 0 u (Nat.zero_le _) ⟨kp_r u, hL⟩
  obtain ⟨kI, hI⟩ := hI
  show sX12_stands_p279b Q (sX12_stands_p279n Q n) (nI i) s
  unfold sX12_stands_p279b
  refine ⟨vp_in_nI (n := 0) (by omega) (by omega), ?_⟩
  rw [show ((0 : Int32)).toNatClampNeg = 0 by first | decide | (unfold vp_in; decide), kI.1 232 0 (by omega), hf]
  by_cases c : i = pf D
  · refine i_pos (nI_le (by omega) (by omega)) (bnd_i (bnd_i ?_))
    have hK2 : Kp (fun a k => ¬ (a = 198 ∧ (k = 78 ∨ k = 74))) s (tI (tI s 198 78 0) 198 74 0) := kp_I (kp_I (kp_r s) (by omega)) (by omega)
    refine hQ _ (kp_t (kp_m kI (fun a k h => h.1)) (kp_m hK2 (fun a k h => h.2))) (fun k hk => ?_) (by rw [t_n _ _ (by omega), t_s]) (t_s _ _ _ _)
    rw [hK2.1 241 k (by omega), hI k hk]
    by_cases q : k < 109 + i
    · first | refine i_pos q ?_ | rw [if_pos q]
      try (with_reducible rfl)
    · first | refine i_neg q ?_ | rw [if_neg q]
      try (with_reducible rfl)
      unfold lnN
      first | refine i_neg (by omega) ?_ | rw [if_neg (by omega)]
      first | refine i_neg (by omega) ?_ | rw [if_neg (by omega)]
      first | refine i_neg (by omega) ?_ | rw [if_neg (by omega)]
      try (with_reducible rfl)
  · refine i_neg (nI_ge (by omega) (by omega)) ?_
    rw [show (3 : Int32) * nI i = nI (3 * i) from pk_mul 3 i, show nI (3 * i) + 2 = nI (3 * i + 2) from nI_add _ 2, show (109 : Int32) + nI i = nI (109 + i) from nI_add 109 i]
    refine ⟨vp_in_nI (by omega) (by omega), vp_in_nI (by omega) (by omega), bnd_i ?_⟩
    rw [nI_clamp (by omega), nI_clamp (by omega), kI.1 234 _ (by omega), hp i (by omega), nI_1]
    refine hK (by omega) _ ⟨kp_I kI (by omega), fun k hk => ?_⟩
    by_cases q : k = 109 + i
    · rw [q, t_s]
      first | refine i_pos (by omega) ?_ | rw [if_pos (by omega)]
      try (with_reducible rfl)
      unfold lnN
      first | refine i_neg (by omega) ?_ | rw [if_neg (by omega)]
      first | refine i_neg (by omega) ?_ | rw [if_neg (by omega)]
      first | refine i_pos (by omega) ?_ | rw [if_pos (by omega)]
      rw [show 109 + i - 109 = i by omega]
    · rw [t_n _ _ (by omega), hI k hk]
      by_cases q2 : k < 109 + i
      · first | refine i_pos q2 ?_ | rw [if_pos q2]
        first | refine i_pos (by omega) ?_ | rw [if_pos (by omega)]
        try (with_reducible rfl)
      · first | refine i_neg q2 ?_ | rw [if_neg q2]
        first | refine i_neg (by omega) ?_ | rw [if_neg (by omega)]
        try (with_reducible rfl)
theorem r_st225 {D : Pl} {u : St} {Q : St → Prop} (hc : ∀ c, c < 36 → u.1 236 c = nI (D.1 5 c) ∧ u.1 237 c = nI (D.1 6 c) ∧ D.1 6 c ≤ 1) (hL : ∀ k, k < 236 → u.1 241 k = 0) (hQ : ∀ u', Kp (fun a _ => a ≠ 241) u u' → (∀ k, k < 236 → u'.1 241 k = nI (if k < 109 then lnN D k else 0)) → sX12_stands_p279 Q (0 : Int32) u') : sX12_stands_p225 Q (0 : Int32) u := by
  unfold sX12_stands_p225
  refine for_up (sX12_stands_p225n Q) 36 (fun i s => Kp (fun a _ => a ≠ 241) u s ∧ ∀ k, k < 236 → s.1 241 k = nI (if k < 1 + 3 * i then lnN D k else 0)) (fun n i s hi hI hK => ?_) 0 u (Nat.zero_le _) ⟨kp_r u, fun k hk => ?_⟩
  · obtain ⟨kI, hI⟩ := hI
    show sX12_stands_p225b Q (sX12_stands_p225n Q n) (nI i) s
    unfold sX12_stands_p225b
    by_cases c : i = 36
    · subst c
      have h36 : nI 36 ≤ nI 36 := nI_le (by omega) (by omega)
      exact i_pos h36 (hQ s kI hI)
    · have h36 : ¬ nI 36 ≤ nI i := nI_ge (by omega) (by omega)
      refine i_neg h36 ⟨vp_in_nI (by omega) (by omega), ?_⟩
      have hci := hc i (by omega)
      rw [show (3 : Int32) * nI i = nI (3 * i) from pk_mul 3 i, show (1 : Int32) + nI (3 * i) = nI (1 + 3 * i) from nI_add 1 _, show (2 : Int32) + nI (3 * i) = nI (2 + 3 * i) from nI_add 2 _]
      refine ⟨vp_in_nI (by omega) (by omega), bnd_i ⟨vp_in_nI (by omega) (by omega), ?_⟩⟩
      rw [nI_clamp (by omega), nI_clamp (by omega), kI.1 236 i (by omega), hci.1]
      rw [show (tI s 241 (1 + 3 * i) (nI (D.1 5 i))).1 237 i = nI (D.1 6 i) by rw [t_n _ _ (by omega), kI.1 237 i (by omega)]; exact hci.2.1]
      have hgo : ∀ x : Int32, x = nI (D.1 6 i) → sX12_stands_p270 (nI i) x (nI (2 + 3 * i)) Q (sX12_stands_p225n Q n) (tI s 241 (1 + 3 * i) (nI (D.1 5 i))) := by
        intro x hx
        unfold sX12_stands_p270
        refine ⟨vp_in_nI (by omega) (by omega), bnd_i ?_⟩
        rw [nI_clamp (by omega), nI_1, hx]
        refine hK (by omega) _ ⟨kp_I (kp_I kI (by omega)) (by omega), fun k hk => ?_⟩
        by_cases q1 : k = 2 + 3 * i
        · rw [q1, t_s]
          first | refine i_pos (by omega) ?_ | rw [if_pos (by omega)]
          try (with_reducible rfl)
          unfold lnN
          first | refine i_neg (by omega) ?_ | rw [if_neg (by omega)]
          first | refine i_pos (by omega) ?_ | rw [if_pos (by omega)]
          first | refine i_neg (by omega) ?_ | rw [if_neg (by omega)]
          first | refine i_pos (by omega) ?_ | rw [if_pos (by omega)]
          rw [show (2 + 3 * i - 1) / 3 = i by omega]
        · rw [t_n _ _ (by omega)]
          by_cases q2 : k = 1 + 3 * i
          · rw [q2, t_s]
            first | refine i_pos (by omega) ?_ | rw [if_pos (by omega)]
            try (with_reducible rfl)
            unfold lnN
            first | refine i_neg (by omega) ?_ | rw [if_neg (by omega)]
            first | refine i_pos (by omega) ?_ | rw [if_pos (by omega)]
            first | refine i_pos (by omega) ?_ | rw [if_pos (by omega)]
            rw [show (1 + 3 * i - 1) / 3 = i by omega]
          · rw [t_n _ _ (by omega), hI k hk]
            by_cases q3 : k < 1 + 3 * i
            · first | refine i_pos q3 ?_ | rw [if_pos q3]
              first | refine i_pos (by omega) ?_ | rw [if_pos (by omega)]
              try (with_reducible rfl)
            · first | refine i_neg q3 ?_ | rw [if_neg q3]
              try (with_reducible rfl)
              by_cases q4 : k = 3 + 3 * i
              · rw [q4]
                first | refine i_pos (by omega) ?_ | rw [if_pos (by omega)]
                try (with_reducible rfl)
                unfold lnN
                first | refine i_neg (by omega) ?_ | rw [if_neg (by omega)]
                first | refine i_pos (by omega) ?_ | rw [if_pos (by omega)]
                first | refine i_neg (by omega) ?_ | rw [if_neg (by omega)]
                first | refine i_neg (by omega) ?_ | rw [if_neg (by omega)]
                try (with_reducible rfl)
              · first | refine i_neg (by omega) ?_ | rw [if_neg (by omega)]
                try (with_reducible rfl)
      by_cases c1 : D.1 6 i = 0
      · exact i_pos (by rw [c1]; rfl) (hgo 0 (by rw [c1]; rfl))
      · have c2 : D.1 6 i = 1 := by omega
        exact i_neg (by rw [c2]; decide) (hgo 1 (by rw [c2]; rfl))
  · rw [hL k hk]
    by_cases q : k < 1 + 3 * 0
    · first | refine i_pos q ?_ | rw [if_pos q]
      try (with_reducible rfl)
      unfold lnN
      first | refine i_pos (by omega) ?_ | rw [if_pos (by omega)]
      try (with_reducible rfl)
      rfl
    · first | refine i_neg q ?_ | rw [if_neg q]
      try (with_reducible rfl)
      rfl
theorem r_st203 {u : St} {Q : St → Prop} (hQ : ∀ u', Kp (fun a _ => a ≠ 241) u u' → (∀ k, k < 236 → u'.1 241 k = 0) → sX12_stands_p225 Q (0 : Int32) u') : sX12_stands_p203 Q (0 : Int32) u := by
  unfold sX12_stands_p203
  refine for_up (sX12_stands_p203n Q) 236 (fun i s => Kp (fun a _ => a ≠ 241) u s ∧ ∀ k, k < i → s.1 241 k = 0) (fun n i s hi hI hK => ?_) 0 u (Nat.zero_le _) ⟨kp_r u, fun k hk => absurd hk (by omega)⟩
  obtain ⟨kI, hI⟩ := hI
  show sX12_stands_p203b Q (sX12_stands_p203n Q n) (nI i) s
  unfold sX12_stands_p203b
  by_cases c : i = 236
  · subst c
    have h36 : nI 236 ≤ nI 236 := nI_le (by omega) (by omega)
    exact i_pos h36 (hQ s kI hI)
  · have h36 : ¬ nI 236 ≤ nI i := nI_ge (by omega) (by omega)
    refine i_neg h36 ⟨vp_in_nI (by omega) (by omega), bnd_i ?_⟩
    rw [nI_clamp (by omega), nI_1]
    refine hK (by omega) _ ⟨kp_I kI (by omega), fun k hk => ?_⟩
    by_cases q : k = i
    · rw [q, t_s]
    · rw [t_n _ _ (by omega)]
      exact hI k (by omega)
theorem r_st171 {m : Nat} {u : St} {Q : St → Prop} (hm : m ≤ 1600) (hc : u.1 198 54 = nI m) (hQ : ∀ u', Kp (fun a k => ¬ (a = 240 ∧ 1600 ≤ k)) u u' → (∀ k, k < m → u'.1 240 (1600 + k) = u.1 240 k) → sX12_stands_p203 Q (0 : Int32) u') : sX12_stands_p171 Q (0 : Int32) u := by
  unfold sX12_stands_p171
  refine for_up (sX12_stands_p171n Q) m (fun i s => Kp (fun a k => ¬ (a = 240 ∧ 1600 ≤ k)) u s ∧ ∀ k, k < i → s.1 240 (1600 + k) = u.1 240 k) (fun n i s hi hI hK => ?_) 0 u (Nat.zero_le _) ⟨kp_r u, fun k hk => absurd hk (by omega)⟩
  obtain ⟨kI, hI⟩ := hI
  show sX12_stands_p171b Q (sX12_stands_p171n Q n) (nI i) s
  unfold sX12_stands_p171b
  rw [kI.1 198 54 (by omega), hc]
  by_cases c : i = m
  · rw [c] at hI ⊢
    exact i_pos (nI_le (by omega) (by omega)) (hQ s kI hI)
  · rw [show (1600 : Int32) + nI i = nI (1600 + i) from nI_add 1600 i]
    refine i_neg (nI_ge (by omega) (by omega)) ⟨vp_in_nI (by omega) (by omega), vp_in_nI (by omega) (by omega), bnd_i ?_⟩
    rw [nI_clamp (by omega), nI_clamp (by omega), nI_1, kI.1 240 i (by omega)]
    refine hK (by omega) _ ⟨kp_I kI (by omega), fun k hk => ?_⟩
    by_cases q : k = i
    · rw [q, t_s]
    · rw [t_n _ _ (by omega)]
      exact hI k (by omega)
theorem r_st142 {u : St} {Q : St → Prop} (hQ : ∀ u', Kp (fun a k => ¬ (a = 235 ∧ 10 ≤ k)) u u' → (∀ k, k < 10 → u'.1 235 (10 + k) = u.1 235 k) → sX12_stands_p171 Q (0 : Int32) u') : sX12_stands_p142 Q (0 : Int32) u := by
  unfold sX12_stands_p142
  refine for_up (sX12_stands_p142n Q) 10 (fun i s => Kp (fun a k => ¬ (a = 235 ∧ 10 ≤ k)) u s ∧ ∀ k, k < i → s.1 235 (10 + k) = u.1 235 k) (fun n i s hi hI hK => ?_) 0 u (Nat.zero_le _) ⟨kp_r u, fun k hk => absurd hk (by omega)⟩
  obtain ⟨kI, hI⟩ := hI
  show sX12_stands_p142b Q (sX12_stands_p142n Q n) (nI i) s
  unfold sX12_stands_p142b
  by_cases c : i = 10
  · subst c
    have h36 : nI 10 ≤ nI 10 := nI_le (by omega) (by omega)
    exact i_pos h36 (hQ s kI hI)
  · have h36 : ¬ nI 10 ≤ nI i := nI_ge (by omega) (by omega)
    rw [show (10 : Int32) + nI i = nI (10 + i) from nI_add 10 i]
    refine i_neg h36 ⟨vp_in_nI (by omega) (by omega), vp_in_nI (by omega) (by omega), bnd_i ?_⟩
    rw [nI_clamp (by omega), nI_clamp (by omega), nI_1, kI.1 235 i (by omega)]
    refine hK (by omega) _ ⟨kp_I kI (by omega), fun k hk => ?_⟩
    by_cases q : k = i
    · rw [q, t_s]
    · rw [t_n _ _ (by omega)]
      exact hI k (by omega)
theorem r_st113 {u : St} {Q : St → Prop} (hQ : ∀ u', Kp (fun a k => ¬ (a = 234 ∧ 18 ≤ k)) u u' → (∀ k, k < 18 → u'.1 234 (18 + k) = u.1 234 k) → sX12_stands_p142 Q (0 : Int32) u') : sX12_stands_p113 Q (0 : Int32) u := by
  unfold sX12_stands_p113
  refine for_up (sX12_stands_p113n Q) 18 (fun i s => Kp (fun a k => ¬ (a = 234 ∧ 18 ≤ k)) u s ∧ ∀ k, k < i → s.1 234 (18 + k) = u.1 234 k) (fun n i s hi hI hK => ?_) 0 u (Nat.zero_le _) ⟨kp_r u, fun k hk => absurd hk (by omega)⟩
  obtain ⟨kI, hI⟩ := hI
  show sX12_stands_p113b Q (sX12_stands_p113n Q n) (nI i) s
  unfold sX12_stands_p113b
  by_cases c : i = 18
  · subst c
    have h36 : nI 18 ≤ nI 18 := nI_le (by omega) (by omega)
    exact i_pos h36 (hQ s kI hI)
  · have h36 : ¬ nI 18 ≤ nI i := nI_ge (by omega) (by omega)
    rw [show (18 : Int32) + nI i = nI (18 + i) from nI_add 18 i]
    refine i_neg h36 ⟨vp_in_nI (by omega) (by omega), vp_in_nI (by omega) (by omega), bnd_i ?_⟩
    rw [nI_clamp (by omega), nI_clamp (by omega), nI_1, kI.1 234 i (by omega)]
    refine hK (by omega) _ ⟨kp_I kI (by omega), fun k hk => ?_⟩
    by_cases q : k = i
    · rw [q, t_s]
    · rw [t_n _ _ (by omega)]
      exact hI k (by omega)
theorem r_st84 {u : St} {Q : St → Prop} (hQ : ∀ u', u'.1 = u.1 → u'.2.2 = u.2.2 → (∀ a, a ≠ 233 → u'.2.1 a = u.2.1 a) → (∀ k, k < 16 → u'.2.1 233 (16 + k) = u.2.1 233 k) → sX12_stands_p113 Q (0 : Int32) u') : sX12_stands_p84 Q (0 : Int32) u := by
  unfold sX12_stands_p84
  refine for_up (sX12_stands_p84n Q) 16 (fun i s => s.1 = u.1 ∧ s.2.2 = u.2.2 ∧ (∀ a, a ≠ 233 → s.2.1 a = u.2.1 a) ∧ (∀ k, k < 16 → s.2.1 233 k = u.2.1 233 k) ∧ ∀ k, k < i → s.2.1 233 (16 + k) = u.2.1 233 k) (fun n i s hi hI hK => ?_) 0 u (Nat.zero_le _) ⟨rfl, rfl, fun _ _ => rfl, fun _ _ => rfl, fun k hk => absurd hk (by omega)⟩
  obtain ⟨i1, i2, i3, i4, i5⟩ := hI
  show sX12_stands_p84b Q (sX12_stands_p84n Q n) (nI i) s
  unfold sX12_stands_p84b
  by_cases c : i = 16
  · subst c
    have h36 : nI 16 ≤ nI 16 := nI_le (by omega) (by omega)
    exact i_pos h36 (hQ s i1 i2 i3 i5)
  · have h36 : ¬ nI 16 ≤ nI i := nI_ge (by omega) (by omega)
    rw [show (16 : Int32) + nI i = nI (16 + i) from nI_add 16 i]
    refine i_neg h36 ⟨vp_in_nI (by omega) (by omega), vp_in_nI (by omega) (by omega), bnd_i ?_⟩
    rw [nI_clamp (by omega), nI_clamp (by omega), nI_1, i4 i (by omega)]
    refine hK (by omega) _ ⟨i1, i2, fun a ha => ?_, fun k hk => ?_, fun k hk => ?_⟩
    · rw [← i3 a ha]
      funext j
      show (if a = 233 ∧ j = 16 + i then _ else s.2.1 a j) = _
      first | refine i_neg (by omega) ?_ | rw [if_neg (by omega)]
      try (with_reducible rfl)
    · show (if 233 = 233 ∧ k = 16 + i then _ else s.2.1 233 k) = _
      first | refine i_neg (by omega) ?_ | rw [if_neg (by omega)]
      try (with_reducible rfl)
      exact i4 k hk
    · show (if 233 = 233 ∧ 16 + k = 16 + i then _ else s.2.1 233 (16 + k)) = _
      by_cases q : k = i
      · first | refine i_pos (by omega) ?_ | rw [if_pos (by omega)]
        rw [q]
      · first | refine i_neg (by omega) ?_ | rw [if_neg (by omega)]
        try (with_reducible rfl)
        exact i5 k (by omega)
def S4 (a : Nat) : Prop := a = 231 ∨ a = 232 ∨ a = 238 ∨ a = 239
theorem r_st15 {u : St} {Q : St → Prop} (hQ : ∀ u', Kp (fun a k => ¬ (S4 a ∧ 2 ≤ k)) u u' → (∀ a k, S4 a → k < 2 → u'.1 a (2 + k) = u.1 a k) → sX12_stands_p84 Q (0 : Int32) u') : sX12_stands_p15 Q (0 : Int32) u := by
  unfold sX12_stands_p15
  refine for_up (sX12_stands_p15n Q) 2 (fun i s => Kp (fun a k => ¬ (S4 a ∧ 2 ≤ k)) u s ∧ ∀ a k, S4 a → k < i → s.1 a (2 + k) = u.1 a k) (fun n i s hi hI hK => ?_) 0 u (Nat.zero_le _) ⟨kp_r u, fun a k _ hk => absurd hk (by omega)⟩
  obtain ⟨kI, hI⟩ := hI
  show sX12_stands_p15b Q (sX12_stands_p15n Q n) (nI i) s
  unfold sX12_stands_p15b
  by_cases c : i = 2
  · subst c
    have h36 : nI 2 ≤ nI 2 := nI_le (by omega) (by omega)
    exact i_pos h36 (hQ s kI hI)
  · have h36 : ¬ nI 2 ≤ nI i := nI_ge (by omega) (by omega)
    have v1 : vp_in (nI i) 4 := vp_in_nI (by omega) (by omega)
    have v2 : vp_in (nI (2 + i)) 4 := vp_in_nI (by omega) (by omega)
    rw [show (2 : Int32) + nI i = nI (2 + i) from nI_add 2 i]
    refine i_neg h36 ⟨v1, v2, bnd_i ⟨v1, v2, bnd_i ⟨v1, v2, bnd_i ⟨v1, v2, bnd_i ?_⟩⟩⟩⟩
    rw [nI_clamp (by omega), nI_clamp (by omega), nI_1]
    have hs : ∀ a, S4 a → s.1 a i = u.1 a i := fun a ha => kI.1 a i (by omega)
    have e1 := hs 231 (by unfold S4; omega)
    have e2 : (tI s 231 (2 + i) (s.1 231 i)).1 232 i = u.1 232 i := by
      rw [t_n _ _ (by omega)]
      exact hs 232 (by unfold S4; omega)
    rw [e1] at e2
    rw [e1, e2]
    have e3 : (tI (tI s 231 (2 + i) (u.1 231 i)) 232 (2 + i) (u.1 232 i)).1 238 i = u.1 238 i := by
      rw [t_n _ _ (by omega), t_n _ _ (by omega)]
      exact hs 238 (by unfold S4; omega)
    rw [e3]
    have e4 : (tI (tI (tI s 231 (2 + i) (u.1 231 i)) 232 (2 + i) (u.1 232 i)) 238 (2 + i) (u.1 238 i)).1 239 i = u.1 239 i := by
      rw [t_n _ _ (by omega), t_n _ _ (by omega), t_n _ _ (by omega)]
      exact hs 239 (by unfold S4; omega)
    rw [e4]
    refine hK (by omega) _ ⟨kp_I (kp_I (kp_I (kp_I kI (by unfold S4; omega)) (by unfold S4; omega)) (by unfold S4; omega)) (by unfold S4; omega), fun a k ha hk => ?_⟩
    by_cases q : k = i
    · subst q
      rcases ha with rfl | rfl | rfl | rfl
      · rw [t_n _ _ (by omega), t_n _ _ (by omega), t_n _ _ (by omega), t_s]
      · rw [t_n _ _ (by omega), t_n _ _ (by omega), t_s]
      · rw [t_n _ _ (by omega), t_s]
      · rw [t_s]
    · rw [t_n _ _ (by omega), t_n _ _ (by omega), t_n _ _ (by omega), t_n _ _ (by omega)]
      exact hI a k ha (by omega)
def SSt (a k : Nat) : Prop := ¬ (a = 198 ∧ (k = 56 ∨ k = 44 ∨ k = 78 ∨ k = 74)) ∧ ¬ (S4 a ∧ 2 ≤ k) ∧ ¬ (a = 234 ∧ 18 ≤ k) ∧ ¬ (a = 235 ∧ 10 ≤ k) ∧ ¬ (a = 240 ∧ 1600 ≤ k) ∧ a ≠ 241
theorem r_stands {D : Pl} {p : Nat} {u : St} {Q : St → Prop} (hD : VD D p) (hp : p ≤ 1600) (hM : mDr u D) (hQ : ∀ u', Kz SSt u u' → mPl u' (fin D) → mLa u' (lnN D) → u'.1 198 78 = 0 → u'.1 198 74 = 0 → Q u') : s_X12_stands Q u := by
  unfold s_X12_stands
  have hb := hD.1
  have hlD := hD.2.2.2.2.2.2.2
  obtain ⟨⟨a1, a2, a3, a4, a5⟩, mf, mk, mc, g0, g1, g54⟩ := hM
  refine bnd_i (bnd_i ?_)
  have k0 : Kp (fun a k => ¬ (a = 198 ∧ (k = 56 ∨ k = 44))) u (tI (tI u 198 56 1) 198 44 ((tI u 198 56 1).1 198 43)) := kp_I (kp_I (kp_r u) (by omega)) (by omega)
  have z56 : (tI (tI u 198 56 1) 198 44 ((tI u 198 56 1).1 198 43)).1 198 56 = 1 := by rw [t_n _ _ (by omega), t_s]
  have z44 : (tI (tI u 198 56 1) 198 44 ((tI u 198 56 1).1 198 43)).1 198 44 = nI (ps D) := by
    rw [t_s, t_n _ _ (by omega)]
    exact a3
  generalize (tI (tI u 198 56 1) 198 44 ((tI u 198 56 1).1 198 43)) = u1 at k0 z56 z44
  refine r_st15 (fun u2 k2 v2 => r_st84 (fun u3 i3 r3 l3 n3 => r_st113 (fun u4 k4 v4 => r_st142 (fun u5 k5 v5 => ?_))))
  have k3 : Kz (fun _ _ => True) u2 u3 := ⟨fun a k _ => by rw [i3], fun a _ h => l3 a h, r3⟩
  have kA : Kz (fun a k => ¬ (a = 198 ∧ (k = 56 ∨ k = 44)) ∧ ¬ (S4 a ∧ 2 ≤ k)) u u3 := kz_t (kz_p (kp_m k0 (fun a k h => h.1))) (kz_t (kz_p (kp_m k2 (fun a k h => h.2))) (kz_m k3 (fun a k h => trivial)))
  have kB : Kp (fun a k => ¬ (a = 234 ∧ 18 ≤ k) ∧ ¬ (a = 235 ∧ 10 ≤ k)) u3 u5 := kp_t (kp_m k4 (fun a k h => h.1)) (kp_m k5 (fun a k h => h.2))
  have kC : Kz (fun a k => ¬ (a = 198 ∧ (k = 56 ∨ k = 44)) ∧ ¬ (S4 a ∧ 2 ≤ k) ∧ ¬ (a = 234 ∧ 18 ≤ k) ∧ ¬ (a = 235 ∧ 10 ≤ k)) u u5 := kz_t (kz_m kA (fun a k h => ⟨h.1, h.2.1⟩)) (kz_p (kp_m kB (fun a k h => h.2.2)))
  have hn4 : ∀ a, ¬ S4 a → ∀ k, ¬ (S4 a ∧ 2 ≤ k) := fun a h k h' => h h'.1
  have s240 : ¬ S4 240 := by unfold S4; omega
  have s198 : ¬ S4 198 := by unfold S4; omega
  have s234 : ¬ S4 234 := by unfold S4; omega
  have s235 : ¬ S4 235 := by unfold S4; omega
  have s236 : ¬ S4 236 := by unfold S4; omega
  have s237 : ¬ S4 237 := by unfold S4; omega
  refine r_st171 (m := D.2.1.length + D.2.2.length) (by omega) (by rw [kC.1 198 54 ⟨by omega, hn4 _ s198 _, by omega, by omega⟩]; exact g54) (fun u6 k6 v6 => r_st203 (fun u7 k7 v7 => ?_))
  have kD : Kz (fun a k => ¬ (a = 198 ∧ (k = 56 ∨ k = 44)) ∧ ¬ (S4 a ∧ 2 ≤ k) ∧ ¬ (a = 234 ∧ 18 ≤ k) ∧ ¬ (a = 235 ∧ 10 ≤ k) ∧ ¬ (a = 240 ∧ 1600 ≤ k) ∧ a ≠ 241) u u7 := kz_t (kz_m kC (fun a k h => ⟨h.1, h.2.1, h.2.2.1, h.2.2.2.1⟩)) (kz_t (kz_p (kp_m k6 (fun a k h => h.2.2.2.2.1))) (kz_p (kp_m k7 (fun a k h => h.2.2.2.2.2))))
  refine r_st225 (D := D) (fun c hc => ⟨?_, ?_, (hD.2.2.2.2.1 c).2.1⟩) v7 (fun u8 k8 v8 => ?_)
  · rw [kD.1 236 c ⟨by omega, hn4 _ s236 _, by omega, by omega, by omega, by omega⟩]
    exact (mc c hc).1
  · rw [kD.1 237 c ⟨by omega, hn4 _ s237 _, by omega, by omega, by omega, by omega⟩]
    exact (mc c hc).2
  have kE : Kz (fun a k => ¬ (a = 198 ∧ (k = 56 ∨ k = 44)) ∧ ¬ (S4 a ∧ 2 ≤ k) ∧ ¬ (a = 234 ∧ 18 ≤ k) ∧ ¬ (a = 235 ∧ 10 ≤ k) ∧ ¬ (a = 240 ∧ 1600 ≤ k) ∧ a ≠ 241) u u8 := kz_t kD (kz_p (kp_m k8 (fun a k h => h.2.2.2.2.2)))
  refine r_st279 (D := D) (by omega) (by rw [kE.1 232 0 ⟨by omega, by omega, by omega, by omega, by omega, by omega⟩]; exact a4) (fun f hf => by rw [kE.1 234 _ ⟨by omega, hn4 _ s234 _, by omega, by omega, by omega, by omega⟩]; exact (mf f hf).2.2.1) v8 (fun u9 k9 hL e78 e74 => ?_)
  -- from behind each loop to the end
  have k59 : Kp (fun a k => ¬ (a = 240 ∧ 1600 ≤ k) ∧ a ≠ 241 ∧ ¬ (a = 198 ∧ (k = 78 ∨ k = 74))) u5 u9 := kp_t (kp_m k6 (fun a k h => h.1)) (kp_t (kp_m k7 (fun a k h => h.2.1)) (kp_t (kp_m k8 (fun a k h => h.2.1)) (kp_m k9 (fun a k h => ⟨h.2.1, h.2.2⟩))))
  have k39 : Kp (fun a k => ¬ (a = 234 ∧ 18 ≤ k) ∧ ¬ (a = 235 ∧ 10 ≤ k) ∧ ¬ (a = 240 ∧ 1600 ≤ k) ∧ a ≠ 241 ∧ ¬ (a = 198 ∧ (k = 78 ∨ k = 74))) u3 u9 := kp_t (kp_m kB (fun a k h => ⟨h.1, h.2.1⟩)) (kp_m k59 (fun a k h => h.2.2))
  have k69 : Kp (fun a k => a ≠ 241 ∧ ¬ (a = 198 ∧ (k = 78 ∨ k = 74))) u6 u9 := kp_t (kp_m k7 (fun a k h => h.1)) (kp_t (kp_m k8 (fun a k h => h.1)) k9)
  have e12 : ∀ k, k = 56 ∨ k = 44 → u9.1 198 k = u1.1 198 k := by
    intro k hk
    rw [k39.1 198 k (by omega), i3, k2.1 198 k (hn4 _ s198 _)]
  have e4 : ∀ a k, S4 a → k < 2 → u9.1 a (2 + k) = u.1 a k := by
    intro a k ha hk
    have ha' := ha
    unfold S4 at ha'
    rw [k39.1 a (2 + k) (by omega), i3, v2 a k ha hk, k0.1 a k (by omega)]
  have e34 : ∀ k, k < 18 → u9.1 234 (18 + k) = u.1 234 k := by
    intro k hk
    rw [k59.1 234 _ (by omega), k5.1 234 _ (by omega), v4 k hk, i3, k2.1 234 k (hn4 _ s234 _), k0.1 234 k (by omega)]
  have e35 : ∀ k, k < 10 → u9.1 235 (10 + k) = u.1 235 k := by
    intro k hk
    rw [k59.1 235 _ (by omega), v5 k hk, k4.1 235 _ (by omega), i3, k2.1 235 k (hn4 _ s235 _), k0.1 235 k (by omega)]
  have e40 : ∀ k, k < D.2.1.length + D.2.2.length → u9.1 240 (1600 + k) = u.1 240 k := by
    intro k hk
    rw [k69.1 240 _ (by omega), v6 k hk, kC.1 240 k ⟨by omega, hn4 _ s240 _, by omega, by omega⟩]
  have el : ∀ k, k < 16 → u9.2.1 233 (16 + k) = u.2.1 233 k := by
    intro k hk
    rw [k39.2.1 233 (by omega), n3 k hk, k2.2.1 233 (by omega), k0.2.1 233 (by omega)]
  have hmc : ∀ w c dfl, w < 2 → mC2 u w (D.2.1.length + D.2.2.length) c → mCo u9 w dfl (if c = [] then dfl else c) := by
    intro w c dfl hw h
    rcases h with ⟨h1, h2⟩ | ⟨h1, fr, h2, h3, h4, h5⟩
    · exact Or.inl ⟨by rw [e4 238 w (by unfold S4; omega) hw]; exact h1, if_pos h2⟩
    · first | refine i_neg h1 ?_ | rw [if_neg h1]
      try (with_reducible rfl)
      refine Or.inr ⟨fr, by rw [e4 238 w (by unfold S4; omega) hw]; exact h2, by rw [e4 239 w (by unfold S4; omega) hw]; exact h3, by omega, fun i hi => ?_⟩
      rw [e40 _ (by omega)]
      exact h5 i hi
  refine hQ u9 ?_ ⟨⟨?_, ?_, ?_, ?_, ?_, ?_⟩, fun f hf => ?_, fun c hc => ?_, fun _ => ⟨hmc 0 D.2.1 [1000, 46, 2] (by omega) g0, hmc 1 D.2.2 [41] (by omega) g1⟩⟩ hL e78 e74
  · exact kz_t (kz_m kE (fun a k h => ⟨fun h' => h.1 (by omega), h.2.1, h.2.2.1, h.2.2.2.1, h.2.2.2.2.1, h.2.2.2.2.2⟩)) (kz_p (kp_m k9 (fun a k h => ⟨h.2.2.2.2.2, fun h' => h.1 (by omega)⟩)))
  · rw [e12 56 (by omega), z56]
    have : pc (fin D) ≠ 0 := by
      show pc D ≠ 0
      omega
    first | refine i_neg this ?_ | rw [if_neg this]
    try (with_reducible rfl)
  · rw [e12 44 (by omega)]
    exact z44
  · rw [e4 231 0 (by unfold S4; omega) (by omega)]
    exact a1
  · rw [e4 231 1 (by unfold S4; omega) (by omega)]
    exact a2
  · rw [e4 232 0 (by unfold S4; omega) (by omega)]
    exact a4
  · rw [e4 232 1 (by unfold S4; omega) (by omega)]
    exact a5
  · have hf' : f < pf D := hf
    rw [show 19 + 3 * f = 18 + (3 * f + 1) by omega, e34 _ (by omega), e34 _ (by omega), el f (by omega)]
    exact ⟨(mf f hf').1, (mf f hf').2.1, (mf f hf').2.2.2⟩
  · have hc' : c < pk D := hc
    rw [show 11 + 2 * c = 10 + (2 * c + 1) by omega, show 24 + c = 16 + (8 + c) by omega, e35 _ (by omega), e35 _ (by omega), el _ (by omega)]
    exact mk c hc'
