/-! ===== mill ===== -/
noncomputable def onw (P : Pl) (N : Nat → Nat) (k c : Nat) : Nat := if (stp (wp P N k) (wm P N k) c).isSome = true ∧ c ≠ ps P then 1 else 0
noncomputable def ctm (P : Pl) (N : Nat → Nat) (c : Nat) : Nat → Nat
  | 0 => 0
  | j + 1 => ctm P N c j + onw P N j c
theorem onw_le (P : Pl) (N : Nat → Nat) (k c : Nat) : onw P N k c ≤ 1 := by
  unfold onw
  split <;> omega
theorem ctm_le (P : Pl) (N : Nat → Nat) (c : Nat) : ∀ j, ctm P N c j ≤ j
  | 0 => by
    unfold ctm
    omega
  | j + 1 => by
    have h1 := ctm_le P N c j
    have h2 := onw_le P N j c
    unfold ctm
    omega
theorem ctm_ps (P : Pl) (N : Nat → Nat) : ∀ j, ctm P N (ps P) j = 0
  | 0 => rfl
  | j + 1 => by
    have h1 := ctm_ps P N j
    have h2 : onw P N j (ps P) = 0 := by
      unfold onw
      first | refine i_neg (fun h => h.2 rfl) ?_ | rw [if_neg (fun h => h.2 rfl)]
      try (with_reducible rfl)
    show ctm P N (ps P) j + onw P N j (ps P) = 0
    omega
theorem q_through {P : Pl} {N : Nat → Nat} {c : Nat} {Q : Int32 → St → Prop} {u : St} (hC : Ctx u P N) (hc : cel P c) (hcs : c ≠ ps P) (hQ : ∀ u', Ctx u' P N → Q (nI (ctm P N c (pk P))) u') : s_X11_waysThrough (nI (pl P c)) Q u := by
  have hP := ctx_vp hC
  have hpk := hP.2.2.2.2.2.1
  have h36 := pl_36 hP hc
  unfold s_X11_waysThrough sX11_waysThrough_p4
  have key := for_up (fun m i (s : Int32 × St) => sX11_waysThrough_p4n (nI (pl P c)) Q m s.1 i s.2) (pk P) (fun i s => Ctx s.2 P N ∧ s.1 = nI (ctm P N c i)) ?_ 0 (0, u) (by omega) ⟨hC, rfl⟩
  · exact key
  rintro m i ⟨a, s⟩ hi ⟨hCs, rfl⟩ hnext
  simp only at hCs
  show sX11_waysThrough_p4b (nI (pl P c)) Q (sX11_waysThrough_p4n (nI (pl P c)) Q m) (nI (ctm P N c i)) (nI i) s
  unfold sX11_waysThrough_p4b
  rw [(ctx_c hCs).1.2.2.2.2]
  by_cases he : i = pk P
  · first | refine i_pos (by rw [he]; exact nI_le (Nat.le_refl _) (by omega)) ?_ | rw [if_pos (by rw [he]; exact nI_le (Nat.le_refl _) (by omega))]
    rw [he]
    exact hQ s hCs
  first | refine i_neg (nI_ge (by omega) (by omega)) ?_ | rw [if_neg (nI_ge (by omega) (by omega))]
  try (with_reducible rfl)
  refine q_wayOf hCs (fun k u3 hk e hC3 hW3 _ => ?_) (fun hn => absurd ⟨i, by omega, rfl⟩ hn)
  rw [nI_eq (by omega) (by omega)] at e
  subst e
  have hw := w_cel hP (pk_pc hP hk) hW3.1
  have hle := ctm_le P N c i
  rw [nI_clamp (by omega), hW3.2.2.2.1 c hc]
  refine ⟨vp_in_nI h36 (by omega), ?_⟩
  have hgo : ∀ x, x = ctm P N c (i + 1) → sX11_waysThrough_p32 (nI (pl P c)) (nI x) (nI i) Q (sX11_waysThrough_p4n (nI (pl P c)) Q m) u3 := by
    rintro x rfl
    show sX11_waysThrough_p4n (nI (pl P c)) Q m (nI (ctm P N c (i + 1))) (nI i + 1) u3
    rw [nI_1]
    exact hnext (by omega) (nI (ctm P N c (i + 1)), u3) ⟨hC3, rfl⟩
  cases est : stp (wp P N i) (wm P N i) c with
  | none =>
    first | refine i_pos (by rfl) ?_ | rw [if_pos (by rfl)]
    try (with_reducible rfl)
    refine hgo _ ?_
    show _ = ctm P N c i + onw P N i c
    unfold onw
    rw [est]
    first | refine i_neg (by simp) ?_ | rw [if_neg (by simp)]
    try (with_reducible rfl)
    rfl
  | some j =>
    have hj := (stp_some est).1
    rw [show oI (some j) = nI j from rfl]
    first | refine i_neg (by rw [x_ne1 (by omega)]; exact id) ?_ | rw [if_neg (by rw [x_ne1 (by omega)]; exact id)]
    rw [nI_1]
    refine hgo _ ?_
    show _ = ctm P N c i + onw P N i c
    unfold onw
    rw [est]
    first | refine i_pos ⟨rfl, hcs⟩ ?_ | rw [if_pos ⟨rfl, hcs⟩]
    try (with_reducible rfl)
def hhw (p : Nat → Nat) (c : Nat) : Nat → Nat
  | 0 => 0
  | i + 1 => hhw p c i + (if 1 ≤ i ∧ p i = c then 1 else 0)
theorem hhw_stp {p : Nat → Nat} {c : Nat} : ∀ m, (∀ i j, i < j → j < m → p i ≠ p j) → hhw p c m = (match stp p m c with | none => 0 | some j => if 1 ≤ j then 1 else 0)
  | 0, _ => rfl
  | m + 1, hd => by
    have ih := hhw_stp (p := p) (c := c) m (fun i j h1 h2 => hd i j h1 (by omega))
    unfold hhw stp
    by_cases e : p m = c
    · have hn : stp p m c = none := stp_none.mpr (fun j hj h => hd j m hj (by omega) (by rw [h, e]))
      rw [hn] at ih
      simp only at ih
      rw [ih]
      first | refine i_pos e ?_ | rw [if_pos e]
      try (with_reducible rfl)
      simp only
      by_cases h1 : 1 ≤ m
      · first | refine i_pos ⟨h1, e⟩ ?_ | rw [if_pos ⟨h1, e⟩]
        first | refine i_pos h1 ?_ | rw [if_pos h1]
        try (with_reducible rfl)
      · first | refine i_neg (fun h => h1 h.1) ?_ | rw [if_neg (fun h => h1 h.1)]
        first | refine i_neg h1 ?_ | rw [if_neg h1]
        try (with_reducible rfl)
    · first | refine i_neg e ?_ | rw [if_neg e]
      first | refine i_neg (fun h => e h.2) ?_ | rw [if_neg (fun h => e h.2)]
      rw [Nat.add_zero]
      exact ih
theorem hhw_on {P : Pl} {N : Nat → Nat} {k c : Nat} (hP : VP P) (h0 : pc P ≠ 0) (h : IsWay P N k (wp P N k) (wm P N k)) : hhw (wp P N k) c (wm P N k) = onw P N k c := by
  have hw := w_cel hP h0 h
  rw [hhw_stp _ hw.2.2]
  unfold onw
  cases e : stp (wp P N k) (wm P N k) c with
  | none => rw [if_neg (by simp)]
  | some j =>
    have hj := stp_some e
    have hp0 := w_0 h (by omega)
    simp only
    by_cases h1 : 1 ≤ j
    · have hh : (some j).isSome = true ∧ c ≠ ps P := ⟨rfl, fun ec => hw.2.2 0 j (by omega) hj.1 (by rw [hp0, hj.2, ec])⟩
      first | refine i_pos h1 ?_ | rw [if_pos h1]
      first | refine i_pos hh ?_ | rw [if_pos hh]
      try (with_reducible rfl)
    · have hh : ¬ ((some j).isSome = true ∧ c ≠ ps P) := fun hh => hh.2 (by rw [← hj.2, show j = 0 by omega, hp0])
      first | refine i_neg h1 ?_ | rw [if_neg h1]
      first | refine i_neg hh ?_ | rw [if_neg hh]
      try (with_reducible rfl)
/-- the first cell of those with the most -/
def MlB (f : Nat → Nat) (D : Nat → Prop) : Option Nat → Prop
  | none => ∀ d, D d → f d = 0
  | some b => D b ∧ 0 < f b ∧ (∀ d, D d → f d ≤ f b) ∧ ∀ d, D d → d < b → f d < f b
theorem mlb_u {f : Nat → Nat} {D : Nat → Prop} {r r' : Option Nat} (h : MlB f D r) (h' : MlB f D r') : r = r' := by
  cases r with
  | none =>
    cases r' with
    | none => rfl
    | some b =>
      have := h b h'.1
      have := h'.2.1
      omega
  | some a =>
    cases r' with
    | none =>
      have := h' a h.1
      have := h.2.1
      omega
    | some b =>
      by_cases h1 : a < b
      · have a1 := h'.2.2.2 a h.1 h1
        have a2 := h.2.2.1 b h'.1
        omega
      · by_cases h2 : b < a
        · have a1 := h.2.2.2 b h'.1 h2
          have a2 := h'.2.2.1 a h.1
          omega
        · rw [show a = b by omega]
/-- one more cell, behind all others -/
theorem mlb_s {f : Nat → Nat} {D D' : Nat → Prop} {r : Option Nat} {x : Nat} (h : MlB f D r) (hx : ∀ d, D d → d < x) (hD : ∀ d, D' d ↔ D d ∨ d = x) : (f x = 0 → MlB f D' r) ∧ (∀ b, r = some b → f x ≤ f b → MlB f D' (some b)) ∧ (0 < f x → (∀ b, r = some b → f b < f x) → MlB f D' (some x)) := by
  refine ⟨fun h0 => ?_, fun b hb hle => ?_, fun hp hb => ?_⟩
  · cases r with
    | none =>
      intro d hd
      rcases (hD d).mp hd with h1 | rfl
      · exact h d h1
      · exact h0
    | some b =>
      refine ⟨(hD b).mpr (Or.inl h.1), h.2.1, fun d hd => ?_, fun d hd hlt => ?_⟩
      · rcases (hD d).mp hd with h1 | rfl
        · exact h.2.2.1 d h1
        · omega
      · rcases (hD d).mp hd with h1 | rfl
        · exact h.2.2.2 d h1 hlt
        · have := hx b h.1
          omega
  · subst hb
    refine ⟨(hD b).mpr (Or.inl h.1), h.2.1, fun d hd => ?_, fun d hd hlt => ?_⟩
    · rcases (hD d).mp hd with h1 | rfl
      · exact h.2.2.1 d h1
      · exact hle
    · rcases (hD d).mp hd with h1 | rfl
      · exact h.2.2.2 d h1 hlt
      · have := hx b h.1
        omega
  · refine ⟨(hD x).mpr (Or.inr rfl), hp, fun d hd => ?_, fun d hd hlt => ?_⟩
    · rcases (hD d).mp hd with h1 | rfl
      · cases r with
        | none =>
          have := h d h1
          omega
        | some b =>
          have a1 := h.2.2.1 d h1
          have a2 := hb b rfl
          omega
      · exact Nat.le_refl _
    · rcases (hD d).mp hd with h1 | rfl
      · cases r with
        | none =>
          have := h d h1
          omega
        | some b =>
          have a1 := h.2.2.1 d h1
          have a2 := hb b rfl
          omega
      · omega
theorem call_mill (v : Int32) : Call (s_X11_mill v) (s_X12_mill v) := by
  rintro u ⟨P, N, hC⟩
  have hC : Ctx u P N := hC
  have hP := ctx_vp hC
  have hN := ctx_vn hC
  have hpk := hP.2.2.2.2.2.1
  have har := area_le hP
  have h6 := hP.1
  -- the reference
  have href : ∀ (z : St) (q : Option Nat) (r : Int32), Ctx z P N → MlB (fun c => ctm P N c (pk P)) (cel P) q → (q = none → r = -1) → (∀ b, q = some b → v = 0 → r = nI (b % 6)) → (∀ b, q = some b → v = 1 → r = nI (b / 6)) → (∀ b, q = some b → v = 2 → r = nI (ctm P N b (pk P))) → ((¬ ∃ x, x < 3 ∧ v = nI x) → r = -1) → s_X12_mill v (fun r2 u2 => r = r2 ∧ Inv u2) z := by
    intro z q r hz hq q0 q1 q2 q3 q4
    unfold s_X12_mill
    refine r_hasWay hP hN (ctx_m hz) (ctx_n hz) (fun hp0 hs => ?_) (fun hno => ?_)
    · first | refine i_neg (by first | decide | (unfold vp_in; decide)) ?_ | rw [if_neg (by first | decide | (unfold vp_in; decide))]
      try (with_reducible rfl)
      refine r_three (fun x hx ex => ?_) (fun hn => ?_)
      · first | refine i_neg (by first | decide | (unfold vp_in; decide)) ?_ | rw [if_neg (by first | decide | (unfold vp_in; decide))]
        try (with_reducible rfl)
        unfold sX12_mill_p23
        refine for_up (fun n i s => sX12_mill_p23n v (fun r2 u2 => r = r2 ∧ Inv u2) n i s) 36 (fun i s => Kp (fun a _ => a ≠ 251) z s ∧ ∀ c, c < i → s.1 251 c = nI 0) ?_ 0 z (by omega) ⟨kp_r z, fun c hc => absurd hc (by omega)⟩
        rintro n i s hi ⟨hKs, h0⟩ hnext
        show sX12_mill_p23b v (fun r2 u2 => r = r2 ∧ Inv u2) (sX12_mill_p23n v (fun r2 u2 => r = r2 ∧ Inv u2) n) (nI i) s
        unfold sX12_mill_p23b
        by_cases h36 : i = 36
        · subst h36
          first | refine i_pos (nI_le (a := 36) (Nat.le_refl _) (by omega)) ?_ | rw [if_pos (nI_le (a := 36) (Nat.le_refl _) (by omega))]
          try (with_reducible rfl)
          have hCs : Ctx s P N := ctx_SM hz (kp_m hKs (fun a k h => by unfold SM at h; omega))
          unfold sX12_mill_p44
          refine for_up (fun n i s => sX12_mill_p44n v (fun r2 u2 => r = r2 ∧ Inv u2) n i s) (pk P) (fun i s => Ctx s P N ∧ (∀ j, j < i → IsWay P N j (wp P N j) (wm P N j)) ∧ ∀ c, c < 36 → s.1 251 c = nI (ctm P N c i)) ?_ 0 s (by omega) ⟨hCs, fun j hj => absurd hj (by omega), h0⟩
          rintro n2 k s2 hk ⟨hC2, hways, hct⟩ hnext2
          show sX12_mill_p44b v (fun r2 u2 => r = r2 ∧ Inv u2) (sX12_mill_p44n v (fun r2 u2 => r = r2 ∧ Inv u2) n2) (nI k) s2
          unfold sX12_mill_p44b
          refine r_callerMany (ctx_m hC2) ?_
          by_cases hke : k = pk P
          · first | refine i_pos (by rw [hke]; exact nI_le (Nat.le_refl _) (by omega)) ?_ | rw [if_pos (by rw [hke]; exact nI_le (Nat.le_refl _) (by omega))]
            try (with_reducible rfl)
            rw [hke] at hct
            have hI2 := inv_of hC2
            -- the ways are there, so the counts are 0 beside the cells
            unfold sX12_mill_p98
            have key := for_up (fun n i (s : Int32 × St) => sX12_mill_p98n v (fun r2 u2 => r = r2 ∧ Inv u2) n s.1 i s.2) 36 (fun i s => s.2 = s2 ∧ ∃ q' : Option Nat, s.1 = oI q' ∧ MlB (fun c => ctm P N c (pk P)) (fun d => cel P d ∧ d < i) q') ?_ 0 (-1, s2) (by omega) ⟨rfl, none, rfl, fun d hd => absurd hd.2 (by omega)⟩
            · exact key
            rintro n3 c ⟨a, s3⟩ hc ⟨rfl, q', rfl, hq'⟩ hnext3
            show sX12_mill_p98b v (fun r2 u2 => r = r2 ∧ Inv u2) (sX12_mill_p98n v (fun r2 u2 => r = r2 ∧ Inv u2) n3) (oI q') (nI c) s3
            unfold sX12_mill_p98b
            by_cases hc36 : c = 36
            · subst hc36
              first | refine i_pos (nI_le (a := 36) (Nat.le_refl _) (by omega)) ?_ | rw [if_pos (nI_le (a := 36) (Nat.le_refl _) (by omega))]
              try (with_reducible rfl)
              have hqq : q = q' := mlb_u (D := cel P) hq (by
                cases q' with
                | none => exact fun d hd => hq' d ⟨hd, cel_lt hP hd⟩
                | some b => exact ⟨hq'.1.1, hq'.2.1, fun d hd => hq'.2.2.1 d ⟨hd, cel_lt hP hd⟩, fun d hd hlt => hq'.2.2.2 d ⟨hd, cel_lt hP hd⟩ hlt⟩)
              subst hqq
              cases q with
              | none =>
                first | refine i_pos (by rfl) ?_ | rw [if_pos (by rfl)]
                try (with_reducible rfl)
                exact ⟨q0 rfl, hI2⟩
              | some b =>
                have hb36 := cel_lt hP hq.1
                rw [show oI (some b) = nI b from rfl]
                first | refine i_neg (by rw [x_ne1 (by omega)]; exact id) ?_ | rw [if_neg (by rw [x_ne1 (by omega)]; exact id)]
                try (with_reducible rfl)
                by_cases v0 : v = 0
                · first | refine i_pos v0 ?_ | rw [if_pos v0]
                  rw [show nI b - nI b / 6 * 6 = nI (b % 6) from pk_rem (d := 6) (by omega) (by omega) (by omega)]
                  exact ⟨q1 b rfl v0, hI2⟩
                first | refine i_neg v0 ?_ | rw [if_neg v0]
                try (with_reducible rfl)
                by_cases v1 : v = 1
                · first | refine i_pos v1 ?_ | rw [if_pos v1]
                  rw [show nI b / 6 = nI (b / 6) from pk_div (d := 6) (by omega) (by omega) (by omega)]
                  exact ⟨q2 b rfl v1, hI2⟩
                first | refine i_neg v1 ?_ | rw [if_neg v1]
                rw [nI_clamp (by omega), hct b hb36]
                have hx2 : x = 2 := by
                  by_cases e0 : x = 0
                  · exact absurd (by rw [ex, e0]; rfl) v0
                  · by_cases e1 : x = 1
                    · exact absurd (by rw [ex, e1]; rfl) v1
                    · omega
                exact ⟨vp_in_nI hb36 (by omega), q3 b rfl (by rw [ex, hx2]; rfl), hI2⟩
            have hcl : c < 36 := by omega
            have hle := ctm_le P N c (pk P)
            first | refine i_neg (nI_ge (b := 36) (by omega) (by omega)) ?_ | rw [if_neg (nI_ge (b := 36) (by omega) (by omega))]
            rw [nI_clamp (by omega), hct c hcl]
            refine ⟨vp_in_nI hcl (by omega), ?_⟩
            have hnonc : ¬ cel P c → ctm P N c (pk P) = 0 := by
              intro hnc
              have hall : ∀ j, j ≤ pk P → ctm P N c j = 0 := by
                intro j
                induction j with
                | zero => exact fun _ => rfl
                | succ j ih =>
                  intro hj
                  have h1 := ih (by omega)
                  have hwj := w_cel hP hp0 (hways j (by omega))
                  have h2 : onw P N j c = 0 := by
                    unfold onw
                    refine if_neg (fun hh => ?_)
                    cases est : stp (wp P N j) (wm P N j) c with
                    | none => rw [est] at hh; exact absurd hh.1 (by simp)
                    | some y =>
                      have hy := stp_some est
                      have := hwj.2.1 y hy.1
                      rw [hy.2] at this
                      exact hnc this
                  show ctm P N c j + onw P N j c = 0
                  omega
              exact hall _ (Nat.le_refl _)
            have hgo : ∀ (q2 : Option Nat), MlB (fun c => ctm P N c (pk P)) (fun d => cel P d ∧ d < c + 1) q2 → sX12_mill_p98n v (fun r2 u2 => r = r2 ∧ Inv u2) n3 (oI q2) (nI c + 1) s3 := by
              intro q2 h2
              rw [nI_1]
              exact hnext3 (by omega) (oI q2, s3) ⟨rfl, q2, rfl, h2⟩
            by_cases hcc : cel P c
            · have hst := mlb_s (D' := fun d => cel P d ∧ d < c + 1) (x := c) hq' (fun d hd => hd.2) (fun d => by
                constructor
                · rintro ⟨a, b⟩
                  by_cases e : d = c
                  · exact Or.inr e
                  · exact Or.inl ⟨a, by omega⟩
                · rintro (⟨a, b⟩ | rfl)
                  · exact ⟨a, by omega⟩
                  · exact ⟨hcc, by omega⟩)
              by_cases hz0 : ctm P N c (pk P) = 0
              · rw [hz0]
                first | refine i_pos (by rfl) ?_ | rw [if_pos (by rfl)]
                try (with_reducible rfl)
                exact hgo q' (hst.1 hz0)
              first | refine i_neg (nI_nle (by omega) (by omega)) ?_ | rw [if_neg (nI_nle (by omega) (by omega))]
              try (with_reducible rfl)
              cases q' with
              | none =>
                first | refine i_pos (by rfl) ?_ | rw [if_pos (by rfl)]
                try (with_reducible rfl)
                exact hgo (some c) (hst.2.2 (by omega) (fun b hb => absurd hb (by simp)))
              | some b =>
                have hb36 := cel_lt hP hq'.1.1
                have hleb := ctm_le P N b (pk P)
                rw [show oI (some b) = nI b from rfl]
                first | refine i_neg (by rw [x_ne1 (by omega)]; exact id) ?_ | rw [if_neg (by rw [x_ne1 (by omega)]; exact id)]
                rw [nI_clamp (by omega), hct b hb36]
                refine ⟨vp_in_nI hb36 (by omega), ?_⟩
                by_cases hlb : ctm P N c (pk P) ≤ ctm P N b (pk P)
                · first | refine i_pos (nI_le hlb (by omega)) ?_ | rw [if_pos (nI_le hlb (by omega))]
                  try (with_reducible rfl)
                  exact hgo (some b) (hst.2.1 b rfl hlb)
                · first | refine i_neg (nI_ge (by omega) (by omega)) ?_ | rw [if_neg (nI_ge (by omega) (by omega))]
                  try (with_reducible rfl)
                  exact hgo (some c) (hst.2.2 (by omega) (fun b' hb' => by rw [← Option.some.inj hb']; omega))
            · rw [hnonc hcc]
              first | refine i_pos (by rfl) ?_ | rw [if_pos (by rfl)]
              try (with_reducible rfl)
              refine hgo q' ?_
              have hDD : ∀ d, (cel P d ∧ d < c + 1) ↔ (cel P d ∧ d < c) := by
                intro d
                constructor
                · rintro ⟨a, b⟩
                  refine ⟨a, ?_⟩
                  by_cases e : d = c
                  · rw [e] at a
                    exact absurd a hcc
                  · omega
                · rintro ⟨a, b⟩
                  exact ⟨a, by omega⟩
              cases q' with
              | none => exact fun d hd => hq' d ((hDD d).mp hd)
              | some b => exact ⟨(hDD b).mpr hq'.1, hq'.2.1, fun d hd => hq'.2.2.1 d ((hDD d).mp hd), fun d hd hlt => hq'.2.2.2 d ((hDD d).mp hd) hlt⟩
          · first | refine i_neg (nI_ge (by omega) (by omega)) ?_ | rw [if_neg (nI_ge (by omega) (by omega))]
            try (with_reducible rfl)
            refine r_lays hC2 (k := k) (by omega) (fun u11 hW hN11 hC11 hK11 => ?_)
            have hw := w_cel hP hp0 hW
            have hmk : wm P N k ≠ 0 := fun e => hs ((w_zero hW).mp e)
            unfold sX12_mill_p59
            refine for_up (fun n i s => sX12_mill_p59n v (nI k) (fun r2 u2 => r = r2 ∧ Inv u2) (sX12_mill_p44n v (fun r2 u2 => r = r2 ∧ Inv u2) n2) n i s) (wm P N k) (fun i s => 1 ≤ i ∧ Kp (fun a _ => a ≠ 251) u11 s ∧ ∀ c, c < 36 → s.1 251 c = nI (ctm P N c k + hhw (wp P N k) c i)) ?_ 1 u11 (by omega) ⟨by omega, kp_r u11, fun c hc => by
              rw [hK11.1 251 c (by unfold SW; omega), hct c hc]
              show _ = nI (ctm P N c k + (0 + (if 1 ≤ 0 ∧ wp P N k 0 = c then 1 else 0)))
              first | refine i_neg (by omega) ?_ | rw [if_neg (by omega)]
              try (with_reducible rfl)
              rfl⟩
            rintro n4 i4 s4 hi4 ⟨h14, hK4, hc4⟩ hnext4
            show sX12_mill_p59b v (nI k) (fun r2 u2 => r = r2 ∧ Inv u2) (sX12_mill_p44n v (fun r2 u2 => r = r2 ∧ Inv u2) n2) (sX12_mill_p59n v (nI k) (fun r2 u2 => r = r2 ∧ Inv u2) (sX12_mill_p44n v (fun r2 u2 => r = r2 ∧ Inv u2) n2) n4) (nI i4) s4
            unfold sX12_mill_p59b
            rw [hK4.1 198 64 (by omega), hN11.1]
            by_cases hie : i4 = wm P N k
            · first | refine i_pos (by rw [hie]; exact nI_le (Nat.le_refl _) (by omega)) ?_ | rw [if_pos (by rw [hie]; exact nI_le (Nat.le_refl _) (by omega))]
              rw [nI_1]
              refine hnext2 (by omega) s4 ⟨ctx_SM hC11 (kp_m hK4 (fun a k h => by unfold SM at h; omega)), fun j hj => ?_, fun c hc => ?_⟩
              · by_cases ej : j = k
                · rw [ej]
                  exact hW
                · exact hways j (by omega)
              · rw [hc4 c hc, hie, hhw_on hP hp0 hW]
                rfl
            · have hcel4 := cel_lt hP (hw.2.1 i4 (by omega))
              first | refine i_neg (nI_ge (by omega) (by omega)) ?_ | rw [if_neg (nI_ge (by omega) (by omega))]
              rw [nI_clamp (by omega), hK4.1 242 i4 (by omega), hN11.2.1 i4 (by omega), nI_clamp (by omega), hc4 _ hcel4, nI_1]
              refine ⟨vp_in_nI (by omega) (by omega), vp_in_nI hcel4 (by omega), ?_⟩
              simp only [bnd]
              rw [nI_1]
              refine hnext4 (by omega) _ ⟨by omega, kp_I hK4 (by omega), fun c hc => ?_⟩
              by_cases ec : c = wp P N k i4
              · rw [ec, t_s]
                show _ = nI (ctm P N (wp P N k i4) k + (hhw (wp P N k) (wp P N k i4) i4 + (if 1 ≤ i4 ∧ wp P N k i4 = wp P N k i4 then 1 else 0)))
                first | refine i_pos ⟨h14, rfl⟩ ?_ | rw [if_pos ⟨h14, rfl⟩]
                try (with_reducible rfl)
                rfl
              · rw [t_n _ _ (by omega), hc4 c hc]
                show _ = nI (ctm P N c k + (hhw (wp P N k) c i4 + (if 1 ≤ i4 ∧ wp P N k i4 = c then 1 else 0)))
                first | refine i_neg (fun h => ec h.2.symm) ?_ | rw [if_neg (fun h => ec h.2.symm)]
                try (with_reducible rfl)
                rfl
        · first | refine i_neg (nI_ge (b := 36) (by omega) (by omega)) ?_ | rw [if_neg (nI_ge (b := 36) (by omega) (by omega))]
          rw [nI_clamp (by omega)]
          refine ⟨vp_in_nI (by omega) (by omega), ?_⟩
          simp only [bnd]
          rw [nI_1]
          refine hnext (by omega) _ ⟨kp_I hKs (by omega), fun c hc => ?_⟩
          by_cases ec : c = i
          · rw [ec, t_s]
            rfl
          · rw [t_n _ _ (by omega)]
            exact h0 c (by omega)
      · first | refine i_pos rfl ?_ | rw [if_pos rfl]
        try (with_reducible rfl)
        exact ⟨q4 hn, inv_of hz⟩
    · first | refine i_pos rfl ?_ | rw [if_pos rfl]
      try (with_reducible rfl)
      refine ⟨q0 ?_, inv_of hz⟩
      have hz0 : ∀ c j, j ≤ pk P → ctm P N c j = 0 := by
        intro c j
        induction j with
        | zero => exact fun _ => rfl
        | succ j ih =>
          intro hj
          have h1 := ih (by omega)
          have hp0 := pk_pc hP (k := j) (by omega)
          have hs1 : N (2 + 3 * ps P) = 1 := by
            by_cases e : N (2 + 3 * ps P) = 1
            · exact e
            · exact absurd ⟨hp0, e⟩ hno
          have hway : IsWay P N j (fun _ => 0) 0 := ⟨fun i hi => absurd hi (by omega), by unfold Nx; rw [if_pos rfl, if_pos hs1]⟩
          have hm := (w_spec hway).2.1
          have h2 : onw P N j c = 0 := by
            unfold onw
            rw [hm]
            exact if_neg (by simp [stp])
          show ctm P N c j + onw P N j c = 0
          omega
      cases q with
      | none => rfl
      | some b =>
        have h1 := hq.2.1
        have h2 := hz0 b (pk P) (Nat.le_refl _)
        simp only at h1
        omega
  -- the class
  unfold s_X11_mill sX11_mill_p7
  have key := for_up (fun n i (s : Int32 × Int32 × St) => sX11_mill_p7n v (fun r u1 => s_X12_mill v (fun r2 u2 => r = r2 ∧ Inv u2) u1) n s.1 s.2.1 i s.2.2) (pc P * pr P) (fun i s => Ctx s.2.2 P N ∧ ∃ q : Option Nat, s.1 = oI (q.map (pl P)) ∧ (q = none → s.2.1 = nI 0) ∧ (∀ b, q = some b → s.2.1 = nI (ctm P N b (pk P))) ∧ MlB (fun c => ctm P N c (pk P)) (fun d => cel P d ∧ pl P d < i) q) ?_ 0 (-1, 0, u) (by omega) ⟨hC, none, rfl, fun _ => rfl, fun b hb => absurd hb (by simp), fun d hd => absurd hd.2 (by omega)⟩
  · exact key
  rintro n i ⟨a, b, s⟩ hi ⟨hCs, q, rfl, hqn, hqs, hq⟩ hnext
  simp only at hCs hqn hqs
  show sX11_mill_p7b v (fun r u1 => s_X12_mill v (fun r2 u2 => r = r2 ∧ Inv u2) u1) (sX11_mill_p7n v (fun r u1 => s_X12_mill v (fun r2 u2 => r = r2 ∧ Inv u2) u1) n) (oI (q.map (pl P))) b (nI i) s
  unfold sX11_mill_p7b s_X5_places
  have hTs := ctx_c hCs
  dsimp only
  rw [hTs.1.1, hTs.1.2.1, pk_mul]
  by_cases hie : i = pc P * pr P
  · first | refine i_pos (by rw [hie]; exact nI_le (Nat.le_refl _) (by omega)) ?_ | rw [if_pos (by rw [hie]; exact nI_le (Nat.le_refl _) (by omega))]
    try (with_reducible rfl)
    have hqf : MlB (fun c => ctm P N c (pk P)) (cel P) q := by
      rw [hie] at hq
      cases q with
      | none => exact fun d hd => hq d ⟨hd, pl_lt hd⟩
      | some b => exact ⟨hq.1.1, hq.2.1, fun d hd => hq.2.2.1 d ⟨hd, pl_lt hd⟩, fun d hd hlt => hq.2.2.2 d ⟨hd, pl_lt hd⟩ hlt⟩
    have hpart : ∀ (hv2 : q = none ∨ v ≠ 2), sX11_mill_p75 v (oI (q.map (pl P))) (fun r u1 => s_X12_mill v (fun r2 u2 => r = r2 ∧ Inv u2) u1) s := by
      intro hv2
      unfold sX11_mill_p75
      refine q_placePart hP hTs (fun c hc => ?_) (fun hno => ?_) (fun c hc e0 => ?_) (fun c hc e1 => ?_) (fun n0 n1 => ?_)
      · cases q with
        | none => exact absurd hc (by simp)
        | some b => rw [← Option.some.inj hc]; exact hqf.1
      · exact href s q _ hCs hqf (fun _ => rfl) (fun b hb => by rw [hno] at hb; exact absurd hb (by simp)) (fun b hb => by rw [hno] at hb; exact absurd hb (by simp)) (fun b hb => by rw [hno] at hb; exact absurd hb (by simp)) (fun _ => rfl)
      · exact href s q _ hCs hqf (fun h => by rw [h] at hc; exact absurd hc (by simp)) (fun b hb _ => by rw [hb] at hc; rw [Option.some.inj hc]) (fun b hb h => by rw [e0] at h; exact absurd h (by first | decide | (unfold vp_in; decide))) (fun b hb h => by rw [e0] at h; exact absurd h (by first | decide | (unfold vp_in; decide))) (fun h => absurd ⟨0, by omega, e0⟩ h)
      · exact href s q _ hCs hqf (fun h => by rw [h] at hc; exact absurd hc (by simp)) (fun b hb h => by rw [e1] at h; exact absurd h (by first | decide | (unfold vp_in; decide))) (fun b hb _ => by rw [hb] at hc; rw [Option.some.inj hc]) (fun b hb h => by rw [e1] at h; exact absurd h (by first | decide | (unfold vp_in; decide))) (fun h => absurd ⟨1, by omega, e1⟩ h)
      · exact href s q _ hCs hqf (fun _ => rfl) (fun b hb h => absurd h n0) (fun b hb h => absurd h n1) (fun b hb h => by
          rcases hv2 with h2 | h2
          · rw [h2] at hb
            exact absurd hb (by simp)
          · exact absurd h h2) (fun _ => rfl)
    by_cases hv2 : v = 2
    · first | refine i_pos hv2 ?_ | rw [if_pos hv2]
      try (with_reducible rfl)
      cases q with
      | none =>
        first | refine i_pos (by rfl) ?_ | rw [if_pos (by rfl)]
        try (with_reducible rfl)
        exact hpart (Or.inl rfl)
      | some x =>
        have h36 := pl_36 hP hqf.1
        rw [show oI (Option.map (pl P) (some x)) = nI (pl P x) from rfl]
        first | refine i_neg (by rw [x_ne1 (by omega)]; exact id) ?_ | rw [if_neg (by rw [x_ne1 (by omega)]; exact id)]
        rw [hqs x rfl]
        exact href s (some x) _ hCs hqf (fun h => absurd h (by simp)) (fun b hb h => by rw [hv2] at h; exact absurd h (by first | decide | (unfold vp_in; decide))) (fun b hb h => by rw [hv2] at h; exact absurd h (by first | decide | (unfold vp_in; decide))) (fun b hb _ => by rw [← Option.some.inj hb]) (fun h => absurd ⟨2, by omega, hv2⟩ h)
    · first | refine i_neg hv2 ?_ | rw [if_neg hv2]
      try (with_reducible rfl)
      exact hpart (Or.inr hv2)
  first | refine i_neg (nI_ge (by omega) (by omega)) ?_ | rw [if_neg (nI_ge (by omega) (by omega))]
  rw [hTs.1.2.2.1]
  have hil : i < pc P * pr P := by omega
  have hpc0 : pc P ≠ 0 := by
    intro e
    rw [e] at hil
    omega
  have hv0 := hP.2.2.2.1 hpc0
  obtain ⟨hcc, hc1, hc2⟩ := ce_cel hP hil
  have hpl := pl_ce hP hil
  generalize ce P i = c at hcc hc1 hc2 hpl
  have hplps : pl P (ps P) = ps P := by
    unfold pl
    rw [show ps P / 6 = 0 by omega]
    omega
  have hsrc : cel P (ps P) := by
    unfold cel
    omega
  have hst := mlb_s (D' := fun d => cel P d ∧ pl P d < i + 1) (x := c) hq (fun d hd => by
      by_cases e : d < c
      · exact e
      · by_cases e2 : d = c
        · have := hd.2
          rw [e2, hpl] at this
          omega
        · have := pl_mono hcc hd.1 (by omega)
          have := hd.2
          omega) (fun d => by
      constructor
      · rintro ⟨a1, a2⟩
        by_cases e : pl P d = i
        · exact Or.inr (pl_inj a1 hcc (by rw [e, hpl]))
        · exact Or.inl ⟨a1, by omega⟩
      · rintro (⟨a1, a2⟩ | rfl)
        · exact ⟨a1, by omega⟩
        · exact ⟨hcc, by omega⟩)
  have hlec := ctm_le P N c (pk P)
  have h41 : ∀ (s2 : St), Ctx s2 P N → sX11_mill_p41 v (oI (q.map (pl P))) b (nI i) (nI (ctm P N c (pk P))) (fun r u1 => s_X12_mill v (fun r2 u2 => r = r2 ∧ Inv u2) u1) (sX11_mill_p7n v (fun r u1 => s_X12_mill v (fun r2 u2 => r = r2 ∧ Inv u2) u1) n) s2 := by
    intro s2 hC2
    have hkeep : MlB (fun c => ctm P N c (pk P)) (fun d => cel P d ∧ pl P d < i + 1) q → sX11_mill_p55 v (oI (q.map (pl P))) b (nI i) (fun r u1 => s_X12_mill v (fun r2 u2 => r = r2 ∧ Inv u2) u1) (sX11_mill_p7n v (fun r u1 => s_X12_mill v (fun r2 u2 => r = r2 ∧ Inv u2) u1) n) s2 := by
      intro h
      show sX11_mill_p7n v (fun r u1 => s_X12_mill v (fun r2 u2 => r = r2 ∧ Inv u2) u1) n (oI (q.map (pl P))) b (nI i + 1) s2
      rw [nI_1]
      exact hnext (by omega) (oI (q.map (pl P)), b, s2) ⟨hC2, q, rfl, hqn, hqs, h⟩
    have htake : MlB (fun c => ctm P N c (pk P)) (fun d => cel P d ∧ pl P d < i + 1) (some c) → sX11_mill_p55 v (nI i) (nI (ctm P N c (pk P))) (nI i) (fun r u1 => s_X12_mill v (fun r2 u2 => r = r2 ∧ Inv u2) u1) (sX11_mill_p7n v (fun r u1 => s_X12_mill v (fun r2 u2 => r = r2 ∧ Inv u2) u1) n) s2 := by
      intro h
      show sX11_mill_p7n v (fun r u1 => s_X12_mill v (fun r2 u2 => r = r2 ∧ Inv u2) u1) n (nI i) (nI (ctm P N c (pk P))) (nI i + 1) s2
      rw [nI_1]
      refine hnext (by omega) (nI i, nI (ctm P N c (pk P)), s2) ⟨hC2, some c, ?_, fun h => absurd h (by simp), fun b' hb' => by rw [← Option.some.inj hb'], h⟩
      show nI i = nI (pl P c)
      rw [hpl]
    unfold sX11_mill_p41
    cases q with
    | none =>
      rw [hqn rfl]
      by_cases h0 : ctm P N c (pk P) = 0
      · first | refine i_pos (by rw [h0]; exact nI_le (Nat.le_refl _) (by omega)) ?_ | rw [if_pos (by rw [h0]; exact nI_le (Nat.le_refl _) (by omega))]
        rw [← hqn rfl]
        exact hkeep (hst.1 h0)
      · first | refine i_neg (nI_ge (by omega) (by omega)) ?_ | rw [if_neg (nI_ge (by omega) (by omega))]
        try (with_reducible rfl)
        exact htake (hst.2.2 (by omega) (fun b' hb' => absurd hb' (by simp)))
    | some x =>
      have hlex := ctm_le P N x (pk P)
      rw [hqs x rfl]
      by_cases hle : ctm P N c (pk P) ≤ ctm P N x (pk P)
      · first | refine i_pos (nI_le hle (by omega)) ?_ | rw [if_pos (nI_le hle (by omega))]
        rw [← hqs x rfl]
        exact hkeep (hst.2.1 x rfl hle)
      · first | refine i_neg (nI_ge (by omega) (by omega)) ?_ | rw [if_neg (nI_ge (by omega) (by omega))]
        try (with_reducible rfl)
        exact htake (hst.2.2 (by omega) (fun b' hb' => by rw [← Option.some.inj hb']; omega))
  first | rw [ite_c (nI_eq (by omega) (by omega))] | rw [nI_eq (by omega) (by omega)]
  try (with_reducible rfl)
  by_cases hps : i = ps P
  · first | refine i_pos hps ?_ | rw [if_pos hps]
    try (with_reducible rfl)
    have hcps : c = ps P := pl_inj hcc hsrc (by rw [hpl, hplps, hps])
    have e0 : ctm P N c (pk P) = 0 := by
      rw [hcps]
      exact ctm_ps P N _
    have := h41 s hCs
    rw [e0] at this
    exact this
  · first | refine i_neg hps ?_ | rw [if_neg hps]
    rw [← hpl]
    refine q_through hCs hcc (fun e => hps (by rw [← hpl, e, hplps])) (fun u6 hC6 => ?_)
    rw [hpl]
    exact h41 u6 hC6
