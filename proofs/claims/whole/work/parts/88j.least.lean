/-! ===== LED ways: the reference; least, dry ===== -/
def Bt (v : Int32) (p : Prop) : Prop := (v = 1 ∧ p) ∨ (v = 0 ∧ ¬ p)
def Mk (z : St) (a n : Nat) (p : Nat → Prop) : Prop := ∀ x, x < n → Bt (z.1 a x) (p x)
theorem mk_c {z : St} {a n : Nat} {p p' : Nat → Prop} (h : Mk z a n p) (he : ∀ x, x < n → (p x ↔ p' x)) : Mk z a n p' := by
  intro x hx
  rcases h x hx with ⟨h1, h2⟩ | ⟨h1, h2⟩
  · exact Or.inl ⟨h1, (he x hx).mp h2⟩
  · exact Or.inr ⟨h1, fun h3 => h2 ((he x hx).mpr h3)⟩
theorem mk_up {z : St} {a n y : Nat} {p : Nat → Prop} (h : Mk z a n p) : Mk (tI z a y 1) a n (fun x => p x ∨ x = y) := by
  intro x hx
  by_cases e : x = y
  · rw [e, t_s]
    exact Or.inl ⟨rfl, Or.inr rfl⟩
  · rw [t_n _ _ (Or.inr e)]
    rcases h x hx with ⟨h1, h2⟩ | ⟨h1, h2⟩
    · exact Or.inl ⟨h1, Or.inl h2⟩
    · refine Or.inr ⟨h1, ?_⟩
      rintro (h3 | h3)
      · exact h2 h3
      · exact e h3
theorem mk_K {S : Nat → Nat → Prop} {z z' : St} {a n : Nat} {p : Nat → Prop} (h : Mk z a n p) (hK : Kp S z z') (hS : ∀ k, S a k) : Mk z' a n p := by
  intro x hx
  rw [hK.1 a x (hS x)]
  exact h x hx
theorem nar_1 : vp_nar .boolean (1 : Int32) = 1 := by first | decide | (unfold vp_in; decide)
theorem nar_0 : vp_nar .boolean (0 : Int32) = 0 := by first | decide | (unfold vp_in; decide)
def SLr (a k : Nat) : Prop := ¬ (245 ≤ a ∧ a ≤ 247)
/-- what the reference holds when it has gone so many steps -/
def LedR (P : Pl) (N : Nat → Nat) (st : Nat) (z : St) : Prop := Mk z 245 2304 (fun x => Lr P N st (x / 64) (x % 64)) ∧ Mk z 247 64 (fun T => ∃ st', st' ≤ st ∧ ∃ c, Lr P N st' c T)
theorem r_setBehind {P : Pl} {T c st : Nat} {Q : Int32 → St → Prop} {u : St} (hP : VP P) (hM : mPl u P) (hc : c < 36) (hst : st ≤ 1000) (hQ : Q (nI (beh P T c st)) u) : s_X12_setBehind (nI T) (nI c) (nI st) Q u := by
  have h6 := hP.2.2.2.2.1
  unfold s_X12_setBehind
  refine r_farmAt hP hM hc ?_
  unfold beh at hQ
  cases e : fAt P c with
  | none =>
    rw [e] at hQ
    exact i_pos rfl hQ
  | some f =>
    rw [e] at hQ
    have hf := (fAt_some e).1
    have hd40 := (hP.2.2.2.2.2.2.1 f hf).2.2
    rw [show oI (some f) = nI f from rfl]
    refine i_neg (by rw [x_ne1 (by omega)]; exact id) ?_
    refine r_dayOf hP hM hf ?_
    simp only at hQ
    by_cases hd : st ≤ fda P f
    · rw [if_pos hd] at hQ
      refine i_neg (nI_nlt (by omega) (by omega)) ?_
      rw [x_shl f (by omega), x_or]
      exact hQ
    · rw [if_neg hd] at hQ
      exact i_pos (nI_lt (by omega) (by omega)) hQ
theorem r_isBegun {P : Pl} {N : Nat → Nat} {Q : Int32 → St → Prop} {u : St} (hP : VP P) (hN : VN P N) (hM : mPl u P) (hL : mLa u N) (h1 : ∀ u', pc P ≠ 0 → N (2 + 3 * ps P) ≠ 1 → Kp SLr u u' → LedR P N 0 u' → Q 1 u') (h2 : ∀ u', ¬ (pc P ≠ 0 ∧ N (2 + 3 * ps P) ≠ 1) → Kp SLr u u' → Q 0 u') : s_X12_isBegun Q u := by
  unfold s_X12_isBegun sX12_isBegun_p2
  refine for_up (fun m i s => sX12_isBegun_p2n Q m i s) 2304 (fun i s => Kp SLr u s ∧ ∀ x, x < i → s.1 245 x = 0) ?_ 0 u (by omega) ⟨kp_r u, fun x hx => absurd hx (by omega)⟩
  rintro m i s hi ⟨hK, h0⟩ hnext
  show sX12_isBegun_p2b Q (sX12_isBegun_p2n Q m) (nI i) s
  unfold sX12_isBegun_p2b
  by_cases hie : i = 2304
  · have hie' : nI 2304 ≤ nI i := nI_le (by omega) (by omega)
    refine i_pos hie' ?_
    unfold sX12_isBegun_p24
    refine for_up (fun m i s => sX12_isBegun_p24n Q m i s) 64 (fun i s => Kp SLr u s ∧ (∀ x, x < 2304 → s.1 245 x = 0) ∧ ∀ x, x < i → s.1 247 x = 0) ?_ 0 s (by omega) ⟨hK, fun x hx => h0 x (by omega), fun x hx => absurd hx (by omega)⟩
    rintro m2 i2 s2 hi2 ⟨hK2, h02, h72⟩ hnext2
    show sX12_isBegun_p24b Q (sX12_isBegun_p24n Q m2) (nI i2) s2
    unfold sX12_isBegun_p24b
    rw [nar_1, nar_0]
    by_cases hie2 : i2 = 64
    · have hie2' : nI 64 ≤ nI i2 := nI_le (by omega) (by omega)
      refine i_pos hie2' ?_
      have hM2 : mPl s2 P := mPl_K hM hK2 (fun x k h => by unfold SLr; omega)
      have hL2 : mLa s2 N := mLa_K hL hK2 (fun k => by unfold SLr; omega)
      refine r_hasWay hP hN hM2 hL2 (fun g0 g1 => ?_) (fun g => i_pos rfl (h2 s2 g hK2))
      refine i_neg (by first | decide | (unfold vp_in; decide)) ?_
      have hpc := ps_cel hP g0
      have h36 := cel_lt hP hpc
      have hbl := beh_lt (T := 0) (c := ps P) (st := 0) hP (by omega)
      rw [hM2.1.2.1]
      refine r_setBehind (T := 0) (st := 0) hP hM2 h36 (by omega) ?_
      rw [hM2.1.2.1, show (64 : Int32) * nI (ps P) = nI (64 * ps P) from pk_mul 64 _, nI_add, nI_clamp (by omega), nI_clamp (by omega)]
      refine ⟨vp_in_nI (by omega) (by omega), bnd_i ⟨vp_in_nI (by omega) (by omega), bnd_i ?_⟩⟩
      refine h1 _ g0 g1 (kp_I (kp_I hK2 (by unfold SLr; omega)) (by unfold SLr; omega)) ⟨?_, ?_⟩
      · have hm : Mk s2 245 2304 (fun _ => False) := fun x hx => Or.inr ⟨h02 x hx, id⟩
        refine mk_K (S := fun a _ => a ≠ 247) (mk_c (mk_up (y := 64 * ps P + beh P 0 (ps P) 0) hm) (fun x hx => ?_)) (kp_I (kp_r _) (by omega)) (fun k => by omega)
        constructor
        · rintro (h | h)
          · exact h.elim
          · exact ⟨g0, g1, by omega, by omega⟩
        · rintro ⟨_, _, h3, h4⟩
          exact Or.inr (by omega)
      · have hm : Mk (tI s2 245 (64 * ps P + beh P 0 (ps P) 0) 1) 247 64 (fun _ => False) := fun x hx => Or.inr ⟨by rw [t_n _ _ (by omega)]; exact h72 x (by omega), id⟩
        refine mk_c (mk_up (y := beh P 0 (ps P) 0) hm) (fun x hx => ?_)
        constructor
        · rintro (h | h)
          · exact h.elim
          · exact ⟨0, Nat.le_refl _, ps P, g0, g1, rfl, h⟩
        · rintro ⟨st', hst', c, _, _, h3⟩
          rw [show st' = 0 by omega] at h3
          exact Or.inr h3.2
    · have hie2' : ¬ nI 64 ≤ nI i2 := nI_ge (by omega) (by omega)
      refine i_neg hie2' ⟨vp_in_nI (by omega) (by omega), bnd_i ?_⟩
      rw [nI_clamp (by omega), nI_1]
      refine hnext2 (by omega) _ ⟨kp_I hK2 (by unfold SLr; omega), fun x hx => by rw [t_n _ _ (by omega)]; exact h02 x hx, fun x hx => ?_⟩
      by_cases e : x = i2
      · rw [e, t_s]
      · rw [t_n _ _ (by omega)]
        exact h72 x (by omega)
  · have hie' : ¬ nI 2304 ≤ nI i := nI_ge (by omega) (by omega)
    refine i_neg hie' ⟨vp_in_nI (by omega) (by omega), bnd_i ?_⟩
    rw [nI_clamp (by omega), nI_1, nar_0]
    refine hnext (by omega) _ ⟨kp_I hK (by unfold SLr; omega), fun x hx => ?_⟩
    by_cases e : x = i
    · rw [e, t_s]
    · rw [t_n _ _ (by omega)]
      exact h0 x (by omega)
theorem sg_on : ∀ i, i < 4 → ∃ j, j < 4 ∧ sg j = i := by first | decide | (unfold vp_in; decide)
theorem sg_lt : ∀ i, i < 4 → sg i < 4 := by first | decide | (unfold vp_in; decide)
/-- from state k a step goes to cell d -/
def Gt (P : Pl) (N : Nat → Nat) (st k d : Nat) : Prop := Lr P N st (k / 64) (k % 64) ∧ Flw P N (k / 64) d
def gs (P : Pl) (st k d : Nat) : Nat := beh P (k % 64) d (st + 1)
theorem r_sides {P : Pl} {N : Nat → Nat} {st k : Nat} {Q : St → Prop} {K24 : Int32 → St → Prop} {p6 p7 : Nat → Prop} {u z : St} (hP : VP P) (hN : VN P N) (hst : st + 1 ≤ 40) (hM : mPl u P) (hL : mLa u N) (hk : k < 2304) (hl : Lr P N st (k / 64) (k % 64)) (hK : Kp (fun a _ => a ≠ 246 ∧ a ≠ 247) u z) (h6 : Mk z 246 2304 p6) (h7 : Mk z 247 64 p7)
    (hnext : ∀ z', Kp (fun a _ => a ≠ 246 ∧ a ≠ 247) u z' → Mk z' 246 2304 (fun x => p6 x ∨ ∃ d, Gt P N st k d ∧ x = 64 * d + gs P st k d) → Mk z' 247 64 (fun x => p7 x ∨ ∃ d, Gt P N st k d ∧ x = gs P st k d) → K24 (nI (k + 1)) z') : sX12_stepGoes_p51 (nI (st + 1)) (nI k) (nI (k / 64)) Q K24 (0 : Int32) z := by
  have hok := rr_ok hP hl.1 hl.2.2
  have hc36 := cel_lt hP hok.1
  unfold sX12_stepGoes_p51
  refine for_up (fun m i s => sX12_stepGoes_p51n (nI (st + 1)) (nI k) (nI (k / 64)) Q K24 m i s) 4 (fun i s => Kp (fun a _ => a ≠ 246 ∧ a ≠ 247) u s ∧ Mk s 246 2304 (fun x => p6 x ∨ ∃ d, (Gt P N st k d ∧ ∃ i', i' < i ∧ nb P (k / 64) (sg i') = some d) ∧ x = 64 * d + gs P st k d) ∧ Mk s 247 64 (fun x => p7 x ∨ ∃ d, (Gt P N st k d ∧ ∃ i', i' < i ∧ nb P (k / 64) (sg i') = some d) ∧ x = gs P st k d)) ?_ 0 z (by omega) ⟨hK, mk_c h6 (fun x hx => ⟨Or.inl, fun h => ?_⟩), mk_c h7 (fun x hx => ⟨Or.inl, fun h => ?_⟩)⟩
  · rintro m i s hi ⟨hK1, m6, m7⟩ hnx
    show sX12_stepGoes_p51b (nI (st + 1)) (nI k) (nI (k / 64)) Q K24 (sX12_stepGoes_p51n (nI (st + 1)) (nI k) (nI (k / 64)) Q K24 m) (nI i) s
    unfold sX12_stepGoes_p51b sX12_stepGoes_p120 sX12_stepGoes_p114
    by_cases hi4 : i = 4
    · have hi4' : nI 4 ≤ nI i := nI_le (by omega) (by omega)
      refine i_pos hi4' ?_
      rw [nI_1]
      have hall : ∀ d, Gt P N st k d → ∃ i', i' < i ∧ nb P (k / 64) (sg i') = some d := by
        intro d hd
        obtain ⟨i0, i1, i2⟩ := nb_adj hP hok.1 hd.2.1 hd.2.2.1
        obtain ⟨j, j1, j2⟩ := sg_on i0 i1
        exact ⟨j, by omega, by rw [j2]; exact i2⟩
      refine hnext s hK1 (mk_c m6 (fun x hx => ?_)) (mk_c m7 (fun x hx => ?_))
      · constructor
        · rintro (h | ⟨d, ⟨h1, _⟩, h2⟩)
          · exact Or.inl h
          · exact Or.inr ⟨d, h1, h2⟩
        · rintro (h | ⟨d, h1, h2⟩)
          · exact Or.inl h
          · exact Or.inr ⟨d, ⟨h1, hall d h1⟩, h2⟩
      · constructor
        · rintro (h | ⟨d, ⟨h1, _⟩, h2⟩)
          · exact Or.inl h
          · exact Or.inr ⟨d, h1, h2⟩
        · rintro (h | ⟨d, h1, h2⟩)
          · exact Or.inl h
          · exact Or.inr ⟨d, ⟨h1, hall d h1⟩, h2⟩
    have hi4' : ¬ nI 4 ≤ nI i := nI_ge (by omega) (by omega)
    refine i_neg hi4' ?_
    rw [nI_1]
    have hMs : mPl s P := mPl_K hM hK1 (fun x k h => by omega)
    have hLs : mLa s N := mLa_K hL hK1 (fun k => by omega)
    refine r_beside hP hMs hok.1 (by omega) ?_
    have hskip : (∀ d, nb P (k / 64) (sg i) = some d → ¬ (N (2 + 3 * d) ≠ 1 ∧ N (1 + 3 * d) ≤ N (1 + 3 * (k / 64)))) → sX12_stepGoes_p51n (nI (st + 1)) (nI k) (nI (k / 64)) Q K24 m (nI (i + 1)) s := by
      intro hh
      refine hnx (by omega) s ⟨hK1, mk_c m6 (fun x hx => ?_), mk_c m7 (fun x hx => ?_)⟩
      · constructor
        · rintro (h | ⟨d, ⟨h1, i', h3, h4⟩, h2⟩)
          · exact Or.inl h
          · exact Or.inr ⟨d, ⟨h1, i', by omega, h4⟩, h2⟩
        · rintro (h | ⟨d, ⟨h1, i', h3, h4⟩, h2⟩)
          · exact Or.inl h
          · by_cases e : i' = i
            · rw [e] at h4
              exact absurd h1.2.2.2 (hh d h4)
            · exact Or.inr ⟨d, ⟨h1, i', by omega, h4⟩, h2⟩
      · constructor
        · rintro (h | ⟨d, ⟨h1, i', h3, h4⟩, h2⟩)
          · exact Or.inl h
          · exact Or.inr ⟨d, ⟨h1, i', by omega, h4⟩, h2⟩
        · rintro (h | ⟨d, ⟨h1, i', h3, h4⟩, h2⟩)
          · exact Or.inl h
          · by_cases e : i' = i
            · rw [e] at h4
              exact absurd h1.2.2.2 (hh d h4)
            · exact Or.inr ⟨d, ⟨h1, i', by omega, h4⟩, h2⟩
    cases hnb : nb P (k / 64) (sg i) with
    | none =>
      unfold s_X12_canFlow
      refine i_pos rfl (i_pos rfl (hskip (fun d hd => ?_)))
      rw [hnb] at hd
      exact absurd hd (by simp)
    | some d =>
      have hdc := (nb_cel hP hok.1 hnb).1
      have hadj := (nb_cel hP hok.1 hnb).2
      have hd36 := cel_lt hP hdc
      rw [show oI (some d) = nI d from rfl]
      refine r_canFlow hP hN hLs hok.1 hdc (fun f1 f2 => ?_) (fun hnf => ?_)
      · refine i_neg (by first | decide | (unfold vp_in; decide)) ?_
        have hgt : Gt P N st k d := ⟨hl, hdc, hadj, f1, f2⟩
        have hgl : gs P st k d < 64 := beh_lt hP (by omega)
        rw [show nI k - nI k / (64 : Int32) * (64 : Int32) = nI (k % 64) from pk_rem (d := 64) (by omega) (by omega) (by omega)]
        show s_X12_setBehind (nI (k % 64)) (nI d) (nI (st + 1)) _ s
        refine r_setBehind hP hMs hd36 (by omega) ?_
        rw [show (64 : Int32) * nI d = nI (64 * d) from pk_mul 64 _]
        show vp_in (nI (64 * d) + nI (gs P st k d)) 2304 ∧ bnd (tI s 246 (nI (64 * d) + nI (gs P st k d)).toNatClampNeg (vp_nar .boolean 1)) (fun u19 => vp_in (nI (gs P st k d)) 64 ∧ bnd (tI u19 247 (nI (gs P st k d)).toNatClampNeg (vp_nar .boolean 1)) (fun u22 => sX12_stepGoes_p51n (nI (st + 1)) (nI k) (nI (k / 64)) Q K24 m (nI (i + 1)) u22))
        rw [nI_add, nI_clamp (by omega), nI_clamp (by omega), nar_1]
        refine ⟨vp_in_nI (by omega) (by omega), bnd_i ⟨vp_in_nI (by omega) (by omega), bnd_i ?_⟩⟩
        refine hnx (by omega) _ ⟨kp_I (kp_I hK1 (by omega)) (by omega), ?_, ?_⟩
        · refine mk_K (S := fun a _ => a ≠ 247) (mk_c (mk_up (y := 64 * d + gs P st k d) m6) (fun x hx => ?_)) (kp_I (kp_r _) (by omega)) (fun k => by omega)
          constructor
          · rintro ((h | ⟨d', ⟨h1, i', h3, h4⟩, h2⟩) | h)
            · exact Or.inl h
            · exact Or.inr ⟨d', ⟨h1, i', by omega, h4⟩, h2⟩
            · exact Or.inr ⟨d, ⟨hgt, i, by omega, hnb⟩, h⟩
          · rintro (h | ⟨d', ⟨h1, i', h3, h4⟩, h2⟩)
            · exact Or.inl (Or.inl h)
            · by_cases e : i' = i
              · rw [e, hnb] at h4
                obtain rfl := Option.some.inj h4
                exact Or.inr h2
              · exact Or.inl (Or.inr ⟨d', ⟨h1, i', by omega, h4⟩, h2⟩)
        · refine mk_c (mk_up (y := gs P st k d) (mk_K (S := fun a _ => a ≠ 246) m7 (kp_I (kp_r _) (by omega)) (fun k => by omega))) (fun x hx => ?_)
          constructor
          · rintro ((h | ⟨d', ⟨h1, i', h3, h4⟩, h2⟩) | h)
            · exact Or.inl h
            · exact Or.inr ⟨d', ⟨h1, i', by omega, h4⟩, h2⟩
            · exact Or.inr ⟨d, ⟨hgt, i, by omega, hnb⟩, h⟩
          · rintro (h | ⟨d', ⟨h1, i', h3, h4⟩, h2⟩)
            · exact Or.inl (Or.inl h)
            · by_cases e : i' = i
              · rw [e, hnb] at h4
                obtain rfl := Option.some.inj h4
                exact Or.inr h2
              · exact Or.inl (Or.inr ⟨d', ⟨h1, i', by omega, h4⟩, h2⟩)
      · refine i_pos rfl (hskip (fun d' hd' => ?_))
        rw [hnb] at hd'
        obtain rfl := Option.some.inj hd'
        exact hnf
  · rcases h with h | ⟨d, ⟨_, i', hi', _⟩, _⟩
    · exact h
    · omega
  · rcases h with h | ⟨d, ⟨_, i', hi', _⟩, _⟩
    · exact h
    · omega
theorem r_step {P : Pl} {N : Nat → Nat} {st : Nat} {Q : St → Prop} {u : St} (hP : VP P) (hN : VN P N) (hst : st + 1 ≤ 40) (hM : mPl u P) (hL : mLa u N) (hR : LedR P N st u) (hQ : ∀ u', Kp SLr u u' → LedR P N (st + 1) u' → Q u') : s_X12_stepGoes (nI (st + 1)) Q u := by
  unfold s_X12_stepGoes sX12_stepGoes_p2
  refine for_up (fun m i s => sX12_stepGoes_p2n (nI (st + 1)) Q m i s) 2304 (fun i s => Kp (fun a _ => a ≠ 246 ∧ a ≠ 247) u s ∧ s.1 247 = u.1 247 ∧ ∀ x, x < i → s.1 246 x = 0) ?_ 0 u (by omega) ⟨kp_r u, rfl, fun x hx => absurd hx (by omega)⟩
  rintro m i s hi ⟨hK, hs7, h0⟩ hnext
  show sX12_stepGoes_p2b (nI (st + 1)) Q (sX12_stepGoes_p2n (nI (st + 1)) Q m) (nI i) s
  unfold sX12_stepGoes_p2b
  by_cases hie : i = 2304
  · have hie' : nI 2304 ≤ nI i := nI_le (by omega) (by omega)
    refine i_pos hie' ?_
    unfold sX12_stepGoes_p24
    refine for_up (fun m i s => sX12_stepGoes_p24n (nI (st + 1)) Q m i s) 2304 (fun k s => Kp (fun a _ => a ≠ 246 ∧ a ≠ 247) u s ∧ Mk s 246 2304 (fun x => ∃ k', k' < k ∧ ∃ d, Gt P N st k' d ∧ x = 64 * d + gs P st k' d) ∧ Mk s 247 64 (fun T => (∃ st', st' ≤ st ∧ ∃ c, Lr P N st' c T) ∨ ∃ k', k' < k ∧ ∃ d, Gt P N st k' d ∧ T = gs P st k' d)) ?_ 0 s (by omega) ⟨hK, fun x hx => Or.inr ⟨h0 x (by omega), fun ⟨k', hk', _⟩ => absurd hk' (by omega)⟩, ?_⟩
    · rintro m2 k s2 hk ⟨hK2, m6, m7⟩ hnext2
      show sX12_stepGoes_p24b (nI (st + 1)) Q (sX12_stepGoes_p24n (nI (st + 1)) Q m2) (nI k) s2
      unfold sX12_stepGoes_p24b
      by_cases hke : k = 2304
      · have hke' : nI 2304 ≤ nI k := nI_le (by omega) (by omega)
        refine i_pos hke' ?_
        unfold sX12_stepGoes_p128
        refine for_up (fun m i s => sX12_stepGoes_p128n Q m i s) 2304 (fun i s => Kp (fun a _ => a ≠ 245) s2 s ∧ ∀ x, x < i → s.1 245 x = s2.1 246 x) ?_ 0 s2 (by omega) ⟨kp_r s2, fun x hx => absurd hx (by omega)⟩
        rintro m3 i3 s3 hi3 ⟨hK3, h3⟩ hnext3
        show sX12_stepGoes_p128b Q (sX12_stepGoes_p128n Q m3) (nI i3) s3
        unfold sX12_stepGoes_p128b
        by_cases hie3 : i3 = 2304
        · have hie3' : nI 2304 ≤ nI i3 := nI_le (by omega) (by omega)
          refine i_pos hie3' (hQ s3 (kp_t (kp_m hK2 (fun a k h => by unfold SLr at h; omega)) (kp_m hK3 (fun a k h => by unfold SLr at h; omega))) ⟨fun x hx => ?_, ?_⟩)
          · rw [h3 x (by omega)]
            refine mk_c (p' := fun x => Lr P N (st + 1) (x / 64) (x % 64)) m6 (fun x hx => ?_) x hx
            constructor
            · rintro ⟨k', hk', d, ⟨⟨g1, g2, g3⟩, g4⟩, e⟩
              have hgl : gs P st k' d < 64 := beh_lt hP (by omega)
              refine ⟨g1, g2, k' / 64, k' % 64, g3, ?_, ?_⟩
              · rw [show x / 64 = d by omega]
                exact g4
              · rw [show x / 64 = d by omega, show x % 64 = gs P st k' d by omega]
                rfl
            · rintro ⟨g1, g2, c0, T0, g3, g4, g5⟩
              have hok := rr_ok hP g1 g3
              have hc36 := cel_lt hP hok.1
              have a1 : (64 * c0 + T0) / 64 = c0 := by omega
              have a2 : (64 * c0 + T0) % 64 = T0 := by omega
              refine ⟨64 * c0 + T0, by omega, x / 64, ⟨⟨g1, g2, ?_⟩, ?_⟩, ?_⟩
              · rw [a1, a2]
                exact g3
              · rw [a1]
                exact g4
              · unfold gs
                rw [a2, ← g5]
                omega
          · refine mk_c (mk_K m7 hK3 (fun k => by omega)) (fun T hT => ?_)
            constructor
            · rintro (⟨st', h4, c, h5⟩ | ⟨k', hk', d, ⟨⟨g1, g2, g3⟩, g4⟩, e⟩)
              · exact ⟨st', by omega, c, h5⟩
              · exact ⟨st + 1, Nat.le_refl _, d, g1, g2, k' / 64, k' % 64, g3, g4, e⟩
            · rintro ⟨st', h4, c, h5⟩
              by_cases e : st' = st + 1
              · rw [e] at h5
                obtain ⟨g1, g2, c0, T0, g3, g4, g5⟩ := h5
                have hok := rr_ok hP g1 g3
                have hc36 := cel_lt hP hok.1
                have a1 : (64 * c0 + T0) / 64 = c0 := by omega
                have a2 : (64 * c0 + T0) % 64 = T0 := by omega
                refine Or.inr ⟨64 * c0 + T0, by omega, c, ⟨⟨g1, g2, ?_⟩, ?_⟩, ?_⟩
                · rw [a1, a2]
                  exact g3
                · rw [a1]
                  exact g4
                · unfold gs
                  rw [a2]
                  exact g5
              · exact Or.inl ⟨st', by omega, c, h5⟩
        · have hie3' : ¬ nI 2304 ≤ nI i3 := nI_ge (by omega) (by omega)
          refine i_neg hie3' ⟨vp_in_nI (by omega) (by omega), vp_in_nI (by omega) (by omega), bnd_i ?_⟩
          rw [nI_clamp (by omega), nI_1, hK3.1 246 i3 (by omega)]
          have hb : vp_nar .boolean (s2.1 246 i3) = s2.1 246 i3 := by
            rcases m6 i3 (by omega) with ⟨h, _⟩ | ⟨h, _⟩
            · rw [h]
              exact nar_1
            · rw [h]
              exact nar_0
          rw [hb]
          refine hnext3 (by omega) _ ⟨kp_I hK3 (by omega), fun x hx => ?_⟩
          by_cases e : x = i3
          · rw [e, t_s]
          · rw [t_n _ _ (by omega)]
            exact h3 x (by omega)
      have hke' : ¬ nI 2304 ≤ nI k := nI_ge (by omega) (by omega)
      refine i_neg hke' ⟨vp_in_nI (by omega) (by omega), ?_⟩
      rw [nI_clamp (by omega), hK2.1 245 k (by omega), show nI k / (64 : Int32) = nI (k / 64) from pk_div (d := 64) (by omega) (by omega) (by omega)]
      rcases hR.1 k (by omega) with ⟨e, hl⟩ | ⟨e, hl⟩
      · rw [e]
        refine i_neg (by first | decide | (unfold vp_in; decide)) ?_
        refine r_sides hP hN hst hM hL (by omega) hl hK2 m6 m7 (fun s3 hK3 m63 m73 => hnext2 (by omega) s3 ⟨hK3, mk_c m63 (fun x hx => ?_), mk_c m73 (fun x hx => ?_)⟩)
        · constructor
          · rintro (⟨k', h1, h2⟩ | h)
            · exact ⟨k', by omega, h2⟩
            · exact ⟨k, by omega, h⟩
          · rintro ⟨k', h1, h2⟩
            by_cases ek : k' = k
            · rw [ek] at h2
              exact Or.inr h2
            · exact Or.inl ⟨k', by omega, h2⟩
        · constructor
          · rintro ((h | ⟨k', h1, h2⟩) | h)
            · exact Or.inl h
            · exact Or.inr ⟨k', by omega, h2⟩
            · exact Or.inr ⟨k, by omega, h⟩
          · rintro (h | ⟨k', h1, h2⟩)
            · exact Or.inl (Or.inl h)
            · by_cases ek : k' = k
              · rw [ek] at h2
                exact Or.inr h2
              · exact Or.inl (Or.inr ⟨k', by omega, h2⟩)
      · rw [e]
        refine i_pos rfl ?_
        unfold sX12_stepGoes_p120
        rw [nI_1]
        refine hnext2 (by omega) s2 ⟨hK2, mk_c m6 (fun x hx => ?_), mk_c m7 (fun x hx => ?_)⟩
        · constructor
          · rintro ⟨k', h1, h2⟩
            exact ⟨k', by omega, h2⟩
          · rintro ⟨k', h1, h2⟩
            by_cases ek : k' = k
            · rw [ek] at h2
              obtain ⟨d, h3, _⟩ := h2
              exact absurd h3.1 hl
            · exact ⟨k', by omega, h2⟩
        · constructor
          · rintro (h | ⟨k', h1, h2⟩)
            · exact Or.inl h
            · exact Or.inr ⟨k', by omega, h2⟩
          · rintro (h | ⟨k', h1, h2⟩)
            · exact Or.inl h
            · by_cases ek : k' = k
              · rw [ek] at h2
                obtain ⟨d, h3, _⟩ := h2
                exact absurd h3.1 hl
              · exact Or.inr ⟨k', by omega, h2⟩
    · intro T hT
      rw [hs7]
      refine mk_c hR.2 (fun x hx => ⟨Or.inl, ?_⟩) T hT
      rintro (h | ⟨k', hk', _⟩)
      · exact h
      · exact absurd hk' (by omega)
  · have hie' : ¬ nI 2304 ≤ nI i := nI_ge (by omega) (by omega)
    refine i_neg hie' ⟨vp_in_nI (by omega) (by omega), bnd_i ?_⟩
    rw [nI_clamp (by omega), nI_1, nar_0]
    refine hnext (by omega) _ ⟨kp_I hK (by omega), ?_, fun x hx => ?_⟩
    · rw [← hs7]
      funext x
      exact t_n _ _ (by omega)
    · by_cases e : x = i
      · rw [e, t_s]
      · rw [t_n _ _ (by omega)]
        exact h0 x (by omega)
theorem r_isThere {F : Nat} {p : Nat → Prop} {Q : Int32 → St → Prop} {z : St} (hF : F < 64) (h : Mk z 247 64 p) (h1 : (∃ T, T < 64 ∧ p T ∧ Sub F T) → Q 1 z) (h0 : (¬ ∃ T, T < 64 ∧ p T ∧ Sub F T) → Q 0 z) : s_X12_isThere (nI F) Q z := by
  unfold s_X12_isThere sX12_isThere_p2
  refine for_up (fun m i s => sX12_isThere_p2n (nI F) Q m i s) 64 (fun i s => s = z ∧ ∀ T, T < i → ¬ (p T ∧ Sub F T)) ?_ 0 z (by omega) ⟨rfl, fun T hT => absurd hT (by omega)⟩
  rintro m i s hi ⟨rfl, hn⟩ hnext
  show sX12_isThere_p2b (nI F) Q (sX12_isThere_p2n (nI F) Q m) (nI i) s
  unfold sX12_isThere_p2b sX12_isThere_p26
  by_cases hie : i = 64
  · have hie' : nI 64 ≤ nI i := nI_le (by omega) (by omega)
    refine i_pos hie' (h0 ?_)
    rintro ⟨T, hT, hp⟩
    exact hn T (by omega) hp
  have hie' : ¬ nI 64 ≤ nI i := nI_ge (by omega) (by omega)
  refine i_neg hie' ⟨vp_in_nI (by omega) (by omega), ?_⟩
  rw [nI_clamp (by omega), x_and, nI_1]
  have hFi : (i &&& F) < 64 := Nat.lt_of_le_of_lt Nat.and_le_right hF
  have hskip : ¬ (p i ∧ Sub F i) → sX12_isThere_p2n (nI F) Q m (nI (i + 1)) s := by
    intro hh
    refine hnext (by omega) s ⟨rfl, fun T hT => ?_⟩
    by_cases e : T = i
    · rw [e]
      exact hh
    · exact hn T (by omega)
  rcases h i (by omega) with ⟨e, hp⟩ | ⟨e, hp⟩
  · rw [e]
    refine i_neg (by first | decide | (unfold vp_in; decide)) ?_
    by_cases hsub : Sub F i
    · have hs1 : nI (i &&& F) = nI F := by rw [(and_sub i F).mpr hsub]
      exact i_pos hs1 (h1 ⟨i, by omega, hp, hsub⟩)
    · have hs1 : ¬ nI (i &&& F) = nI F := fun e => hsub ((and_sub i F).mp ((nI_eq (by omega) (by omega)).mp e))
      exact i_neg hs1 (hskip (fun h => hsub h.2))
  · rw [e]
    exact i_pos rfl (hskip (fun h => hp h.1))
theorem ctx_SL {u u' : St} {P : Pl} {N : Nat → Nat} (h : Ctx u P N) (hK : Kp SL u u') : Ctx u' P N := ⟨inv0_K h.1 hK (fun a k hs => by have := sp_SC (ctx_t h) hs; unfold SC at this; unfold SL; omega), k_ways h.2.1 hK (fun a k hs => by unfold SL; omega), k_facts h.2.2 hK (fun a k hs => by unfold SL; omega)⟩
theorem ctx_SLr {u u' : St} {P : Pl} {N : Nat → Nat} (h : Ctx u P N) (hK : Kp SLr u u') : Ctx u' P N := ctx_SM h (kp_m hK (fun a k h => by unfold SM at h; unfold SLr; omega))
theorem lr_none {P : Pl} {N : Nat → Nat} {F : Nat} (h : ¬ (pc P ≠ 0 ∧ N (2 + 3 * ps P) ≠ 1)) : LsA P N F none := Or.inl ⟨rfl, fun st _ c T _ hl => h ⟨hl.1, hl.2.1⟩⟩
theorem pf_pow {P : Pl} (hP : VP P) : 1 ≤ 2 ^ pf P ∧ 2 ^ pf P ≤ 64 := by
  have h6 := hP.2.2.2.2.1
  have : pf P = 0 ∨ pf P = 1 ∨ pf P = 2 ∨ pf P = 3 ∨ pf P = 4 ∨ pf P = 5 ∨ pf P = 6 := by omega
  rcases this with e | e | e | e | e | e | e <;> rw [e] <;> decide
theorem call_least (v1 : Int32) : Call (s_X11_least v1) (s_X12_least v1) := by
  rintro u ⟨P, N, hC⟩
  have hC : Ctx u P N := hC
  have hP := ctx_vp hC
  have hN := ctx_vn hC
  have hT := ctx_c hC
  have hf6 := hP.2.2.2.2.1
  have hpow := pf_pow hP
  have hno : (¬ ∃ x, x < 2 ^ pf P ∧ v1 = nI x) → s_X12_least v1 (fun r2 u2 => (-1 : Int32) = r2 ∧ Inv u2) u := by
    intro hn
    unfold s_X12_least
    refine r_farmMany (ctx_m hC) ?_
    rw [x_shl _ (by omega)]
    refine r_below (by omega) (fun x hx e => absurd ⟨x, hx, e⟩ hn) (fun _ => i_pos rfl ⟨rfl, inv_of hC⟩)
  unfold s_X11_least
  rw [hT.1.2.2.2.1, x_shl _ (by omega)]
  by_cases hv : v1 < 0
  · refine i_pos hv (hno ?_)
    rintro ⟨x, hx, rfl⟩
    exact nI_pos (by omega) hv
  refine i_neg hv ?_
  obtain ⟨F, hF31, rfl⟩ := nI_of hv
  by_cases hFl : F < 2 ^ pf P
  · refine i_pos (nI_lt hFl (by omega)) ?_
    refine q_search hP hN (ctx_t hC) hT (ctx_l hC) (fun u1 k1 l1 => ?_)
    refine q_fewest (by omega) l1 (fun r hr => ?_)
    have hC1 := ctx_SL hC k1
    unfold s_X12_least
    refine r_farmMany (ctx_m hC1) ?_
    rw [x_shl _ (by omega)]
    refine r_below (by omega) (fun x hx e => ?_) (fun hn => absurd ⟨F, hFl, rfl⟩ hn)
    refine i_neg (by first | decide | (unfold vp_in; decide)) ?_
    refine r_isBegun hP hN (ctx_m hC1) (ctx_n hC1) (fun u2 g0 g1 k2 l2 => ?_) (fun u2 g k2 => i_pos rfl ⟨?_, inv_of (ctx_SLr hC1 k2)⟩)
    · refine i_neg (by first | decide | (unfold vp_in; decide)) ?_
      unfold sX12_least_p29
      refine for_up (fun m i s => sX12_least_p29n (nI F) (fun r2 u2 => oI r = r2 ∧ Inv u2) m i s) 40 (fun st s => Ctx s P N ∧ LedR P N st s ∧ ∀ st', st' < st → ∀ c T, Sub F T → ¬ Lr P N st' c T) ?_ 0 u2 (by omega) ⟨ctx_SLr hC1 k2, l2, fun st' h => absurd h (by omega)⟩
      rintro m st s hst ⟨hCs, hls, hnot⟩ hnext
      show sX12_least_p29b (nI F) (fun r2 u2 => oI r = r2 ∧ Inv u2) (sX12_least_p29n (nI F) (fun r2 u2 => oI r = r2 ∧ Inv u2) m) (nI st) s
      unfold sX12_least_p29b sX12_least_p54
      have hno2 : (¬ ∃ T, T < 64 ∧ (∃ st', st' ≤ st ∧ ∃ c, Lr P N st' c T) ∧ Sub F T) → ∀ c T, Sub F T → ¬ Lr P N st c T := by
        intro hn c T hsub hl
        exact hn ⟨T, (rr_ok hP hl.1 hl.2.2).2, ⟨st, Nat.le_refl _, c, hl⟩, hsub⟩
      refine r_isThere (by omega) hls.2 (fun hy => ?_) (fun hn => ?_)
      · refine i_neg (by first | decide | (unfold vp_in; decide)) ?_
        refine r_isThere (by omega) hls.2 (fun _ => i_neg (by first | decide | (unfold vp_in; decide)) ⟨?_, inv_of hCs⟩) (fun hn => absurd hy hn)
        obtain ⟨T, t1, ⟨st', t2, c, t3⟩, t4⟩ := hy
        have est : st' = st := by
          by_cases h : st' < st
          · exact absurd t3 (hnot st' h c T t4)
          · omega
        rw [est] at t3
        rw [lsA_u hr (Or.inr ⟨st, hst, rfl, ⟨c, T, t4, t3⟩, hnot⟩)]
        rfl
      · refine i_pos rfl ?_
        by_cases h40 : st = 40
        · have h40' : nI 40 ≤ nI st := nI_le (by omega) (by omega)
          refine i_pos h40' ?_
          refine r_isThere (by omega) hls.2 (fun hy => absurd hy hn) (fun _ => i_pos rfl ⟨?_, inv_of hCs⟩)
          have hl : LsA P N F none := Or.inl ⟨rfl, fun st' hst' c T hsub hl => by
            by_cases e : st' = st
            · rw [e] at hl
              exact hno2 hn c T hsub hl
            · exact hnot st' (by omega) c T hsub hl⟩
          rw [lsA_u hr hl]
          rfl
        · have h40' : ¬ nI 40 ≤ nI st := nI_ge (by omega) (by omega)
          refine i_neg h40' ?_
          rw [nI_1]
          refine r_step hP hN (by omega) (ctx_m hCs) (ctx_n hCs) hls (fun s2 k2 l2 => hnext (by omega) s2 ⟨ctx_SLr hCs k2, l2, fun st' h c T hsub hl => ?_⟩)
          by_cases e : st' = st
          · rw [e] at hl
            exact hno2 hn c T hsub hl
          · exact hnot st' (by omega) c T hsub hl
    · rw [lsA_u hr (lr_none g)]
      rfl
  · refine i_neg (nI_nlt (by omega) (by omega)) (hno ?_)
    rintro ⟨x, hx, e⟩
    rw [nI_eq (by omega) (by omega)] at e
    omega
/-- the farms of F can all be there -/
def Th (P : Pl) (N : Nat → Nat) (F : Nat) : Prop := ∃ st, st ≤ 40 ∧ ∃ c T, Sub F T ∧ Lr P N st c T
/-- the set with the fewest farms whose others can all be there, among the first i -/
noncomputable def dryB (P : Pl) (N : Nat → Nat) : Nat → Option Nat
  | 0 => none
  | i + 1 => @ite (Option Nat) ((∀ b, dryB P N i = some b → pop i < pop b) ∧ Th P N (2 ^ pf P - 1 - i)) (Classical.propDecidable _) (some i) (dryB P N i)
theorem dry_y {P : Pl} {N : Nat → Nat} {i : Nat} (h : (∀ b, dryB P N i = some b → pop i < pop b) ∧ Th P N (2 ^ pf P - 1 - i)) : dryB P N (i + 1) = some i := by
  unfold dryB
  exact @if_pos _ (Classical.propDecidable _) h _ _ _
theorem dry_n {P : Pl} {N : Nat → Nat} {i : Nat} (h : ¬ ((∀ b, dryB P N i = some b → pop i < pop b) ∧ Th P N (2 ^ pf P - 1 - i))) : dryB P N (i + 1) = dryB P N i := by
  conv => lhs; unfold dryB
  exact @if_neg _ (Classical.propDecidable _) h _ _ _
theorem dry_lt {P : Pl} {N : Nat → Nat} : ∀ {i b : Nat}, dryB P N i = some b → b < i
  | 0, b, h => absurd h (by simp [dryB])
  | i + 1, b, h => by
    by_cases hc : (∀ b, dryB P N i = some b → pop i < pop b) ∧ Th P N (2 ^ pf P - 1 - i)
    · rw [dry_y hc] at h
      have := Option.some.inj h
      omega
    · rw [dry_n hc] at h
      have := dry_lt h
      omega
theorem x_cmp : ∀ p, p < 7 → ∀ i, i < 2 ^ p → nI (2 ^ p - 1) &&& (nI i ^^^ (-1 : Int32)) = nI (2 ^ p - 1 - i) := by first | decide | (unfold vp_in; decide)
theorem ls_th {P : Pl} {N : Nat → Nat} {F : Nat} {r : Option Nat} (h : LsA P N F r) : r ≠ none ↔ Th P N F := by
  rcases h with ⟨a, b⟩ | ⟨s, a, b, c, d⟩
  · refine ⟨fun h => absurd a h, ?_⟩
    rintro ⟨st, h1, c, T, h2, h3⟩
    exact absurd h3 (b st h1 c T h2)
  · refine ⟨fun _ => ?_, fun _ h => ?_⟩
    · obtain ⟨c, T, h1, h2⟩ := c
      exact ⟨s, a, c, T, h1, h2⟩
    · rw [b] at h
      exact absurd h (by simp)
theorem q_dry {P : Pl} {N : Nat → Nat} {Q : Int32 → St → Prop} {z : St} (hP : VP P) (hB : LedC P N z) (hQ : Q (oI (dryB P N (2 ^ pf P))) z) : sX11_dry_p31 (nI (2 ^ pf P - 1)) Q (-1 : Int32) (0 : Int32) z := by
  have hpow := pf_pow hP
  have hf6 := hP.2.2.2.2.1
  unfold sX11_dry_p31
  have key := for_up (fun m i (s : Int32 × St) => sX11_dry_p31n (nI (2 ^ pf P - 1)) Q m s.1 i s.2) (2 ^ pf P) (fun i s => s.2 = z ∧ s.1 = oI (dryB P N i)) ?_ 0 (-1, z) (by omega) ⟨rfl, rfl⟩
  · exact key
  rintro m i ⟨v2, s⟩ hi ⟨e1, e2⟩ hnext
  simp only at e1 e2
  subst e1 e2
  show sX11_dry_p31b (nI (2 ^ pf P - 1)) Q (sX11_dry_p31n (nI (2 ^ pf P - 1)) Q m) (oI (dryB P N i)) (nI i) s
  unfold sX11_dry_p31b
  by_cases hie : i = 2 ^ pf P
  · rw [← hie] at hQ
    exact i_pos (nI_lt (by omega) (by omega)) hQ
  refine i_neg (nI_nlt (by omega) (by omega)) ?_
  unfold sX11_dry_p52 sX11_dry_p57 sX11_dry_p82
  rw [x_cmp _ (by omega) i (by omega), nI_1]
  have htry : (∀ b, dryB P N i = some b → pop i < pop b) → s_X2_fewestFor (nI (2 ^ pf P - 1 - i)) (fun r12 u13 => if r12 = (-1 : Int32) then (sX11_dry_p31n (nI (2 ^ pf P - 1)) Q m (oI (dryB P N i)) (nI (i + 1)) u13) else (sX11_dry_p31n (nI (2 ^ pf P - 1)) Q m (nI i) (nI (i + 1)) u13)) s := by
    intro hb
    refine q_fewest (by omega) hB (fun r hr => ?_)
    have ht := ls_th hr
    cases r with
    | none =>
      refine i_pos rfl (hnext (by omega) (oI (dryB P N i), s) ⟨rfl, ?_⟩)
      rw [dry_n (fun h => absurd rfl (ht.mpr h.2))]
    | some w =>
      have hw : w ≤ 40 := by
        rcases hr with ⟨a, _⟩ | ⟨s, a, b, _⟩
        · exact absurd a (by simp)
        · have := Option.some.inj b
          omega
      show (if nI w = -1 then _ else _)
      refine i_neg (by rw [x_ne1 (by omega)]; exact id) (hnext (by omega) (nI i, s) ⟨rfl, ?_⟩)
      rw [dry_y ⟨hb, ht.mp (by simp)⟩]
      rfl
  cases hd : dryB P N i with
  | none =>
    rw [hd] at htry
    refine i_pos rfl (i_neg (by first | decide | (unfold vp_in; decide)) (htry (fun b hb => absurd hb (by simp))))
  | some b =>
    rw [hd] at htry
    have hbl := dry_lt hd
    have hp1 := pop_le i
    have hp2 := pop_le b
    show (if nI b = -1 then _ else _)
    refine i_neg (by rw [x_ne1 (by omega)]; exact id) ?_
    refine q_bits (by omega) ?_
    show s_J6_bitCount_0f7a4 (nI b) _ s
    refine q_bits (by omega) ?_
    by_cases hle : pop b ≤ pop i
    · refine i_pos (nI_le hle (by omega)) (i_pos rfl (hnext (by omega) (nI b, s) ⟨rfl, ?_⟩))
      rw [dry_n (fun h => ?_), hd]
      · rfl
      · have := h.1 b hd
        omega
    · refine i_neg (nI_ge (by omega) (by omega)) (i_neg (by first | decide | (unfold vp_in; decide)) (htry (fun b' hb' => ?_)))
      have := Option.some.inj hb'
      rw [← this]
      omega
theorem r_dry {P : Pl} {N : Nat → Nat} {Q : Int32 → St → Prop} {z : St} (hP : VP P) (hB : LedR P N 40 z) (hQ : Q (oI (dryB P N (2 ^ pf P))) z) : sX12_dry_p41 (nI (2 ^ pf P - 1)) Q (-1 : Int32) (0 : Int32) z := by
  have hpow := pf_pow hP
  have hf6 := hP.2.2.2.2.1
  unfold sX12_dry_p41
  have key := for_up (fun m i (s : Int32 × St) => sX12_dry_p41n (nI (2 ^ pf P - 1)) Q m s.1 i s.2) (2 ^ pf P) (fun i s => s.2 = z ∧ s.1 = oI (dryB P N i)) ?_ 0 (-1, z) (by omega) ⟨rfl, rfl⟩
  · exact key
  rintro m i ⟨v2, s⟩ hi ⟨e1, e2⟩ hnext
  simp only at e1 e2
  subst e1 e2
  show sX12_dry_p41b (nI (2 ^ pf P - 1)) Q (sX12_dry_p41n (nI (2 ^ pf P - 1)) Q m) (oI (dryB P N i)) (nI i) s
  unfold sX12_dry_p41b
  by_cases hie : i = 2 ^ pf P
  · rw [← hie] at hQ
    exact i_pos (nI_lt (by omega) (by omega)) hQ
  refine i_neg (nI_nlt (by omega) (by omega)) ?_
  unfold sX12_dry_p62 sX12_dry_p76
  rw [x_cmp _ (by omega) i (by omega), nI_1]
  have hth : (∃ T, T < 64 ∧ (∃ st', st' ≤ 40 ∧ ∃ c, Lr P N st' c T) ∧ Sub (2 ^ pf P - 1 - i) T) ↔ Th P N (2 ^ pf P - 1 - i) := by
    constructor
    · rintro ⟨T, _, ⟨st', h1, c, h2⟩, h3⟩
      exact ⟨st', h1, c, T, h3, h2⟩
    · rintro ⟨st', h1, c, T, h3, h2⟩
      exact ⟨T, (rr_ok hP h2.1 h2.2.2).2, ⟨st', h1, c, h2⟩, h3⟩
  have htry : (∀ b, dryB P N i = some b → pop i < pop b) → s_X12_isThere (nI (2 ^ pf P - 1 - i)) (fun r11 u12 => if r11 = 0 then (sX12_dry_p41n (nI (2 ^ pf P - 1)) Q m (oI (dryB P N i)) (nI (i + 1)) u12) else (sX12_dry_p41n (nI (2 ^ pf P - 1)) Q m (nI i) (nI (i + 1)) u12)) s := by
    intro hb
    refine r_isThere (by omega) hB.2 (fun hy => ?_) (fun hn => ?_)
    · refine i_neg (by first | decide | (unfold vp_in; decide)) (hnext (by omega) (nI i, s) ⟨rfl, ?_⟩)
      rw [dry_y ⟨hb, hth.mp hy⟩]
      rfl
    · refine i_pos rfl (hnext (by omega) (oI (dryB P N i), s) ⟨rfl, ?_⟩)
      rw [dry_n (fun h => hn (hth.mpr h.2))]
  cases hd : dryB P N i with
  | none =>
    rw [hd] at htry
    exact i_pos rfl (htry (fun b hb => absurd hb (by simp)))
  | some b =>
    rw [hd] at htry
    have hbl := dry_lt hd
    have hp1 := pop_le i
    have hp2 := pop_le b
    show (if nI b = -1 then _ else _)
    refine i_neg (by rw [x_ne1 (by omega)]; exact id) ?_
    refine r_bits (by omega) ?_
    show s_X12_bits (nI b) _ s
    refine r_bits (by omega) ?_
    by_cases hle : pop b ≤ pop i
    · refine i_pos (nI_le hle (by omega)) (hnext (by omega) (nI b, s) ⟨rfl, ?_⟩)
      rw [dry_n (fun h => ?_), hd]
      · rfl
      · have := h.1 b hd
        omega
    · refine i_neg (nI_ge (by omega) (by omega)) (htry (fun b' hb' => ?_))
      have := Option.some.inj hb'
      rw [← this]
      omega
theorem dry_none {P : Pl} {N : Nat → Nat} (h : ¬ (pc P ≠ 0 ∧ N (2 + 3 * ps P) ≠ 1)) : ∀ i, dryB P N i = none
  | 0 => rfl
  | i + 1 => by
    rw [dry_n (fun hh => ?_)]
    · exact dry_none h i
    · obtain ⟨st, _, c, T, _, hl⟩ := hh.2
      exact h ⟨hl.1, hl.2.1⟩
theorem call_dry : Call s_X11_dry s_X12_dry := by
  rintro u ⟨P, N, hC⟩
  have hC : Ctx u P N := hC
  have hP := ctx_vp hC
  have hN := ctx_vn hC
  have hf6 := hP.2.2.2.2.1
  have hpow := pf_pow hP
  unfold s_X11_dry
  refine q_search hP hN (ctx_t hC) (ctx_c hC) (ctx_l hC) (fun u1 k1 l1 => ?_)
  have hC1 := ctx_SL hC k1
  rw [(ctx_c hC1).1.2.2.2.1, x_shl _ (by omega), show nI (2 ^ pf P) - 1 = nI (2 ^ pf P - 1) from pk_sub (b := 1) (by omega)]
  refine q_dry hP l1 ?_
  unfold s_X12_dry
  refine r_isBegun hP hN (ctx_m hC1) (ctx_n hC1) (fun u2 g0 g1 k2 l2 => ?_) (fun u2 g k2 => i_pos rfl ⟨?_, inv_of (ctx_SLr hC1 k2)⟩)
  · refine i_neg (by first | decide | (unfold vp_in; decide)) ?_
    unfold sX12_dry_p11
    refine for_g (fun i => nI (i + 1)) (fun m i s => sX12_dry_p11n (fun r2 u2 => oI (dryB P N (2 ^ pf P)) = r2 ∧ Inv u2) m i s) 40 (fun st s => Ctx s P N ∧ LedR P N st s) ?_ 0 u2 (by omega) ⟨ctx_SLr hC1 k2, l2⟩
    rintro m st s hst ⟨hCs, hls⟩ hnext
    show sX12_dry_p11b (fun r2 u2 => oI (dryB P N (2 ^ pf P)) = r2 ∧ Inv u2) (sX12_dry_p11n (fun r2 u2 => oI (dryB P N (2 ^ pf P)) = r2 ∧ Inv u2) m) (nI (st + 1)) s
    unfold sX12_dry_p11b
    by_cases h40 : st = 40
    · have h40' : nI 40 < nI (st + 1) := nI_lt (by omega) (by omega)
      refine i_pos h40' ?_
      rw [h40] at hls
      refine r_farmMany (ctx_m hCs) ?_
      rw [x_shl _ (by omega), show nI (2 ^ pf P) - 1 = nI (2 ^ pf P - 1) from pk_sub (b := 1) (by omega)]
      exact r_dry hP hls ⟨rfl, inv_of hCs⟩
    · have h40' : ¬ nI 40 < nI (st + 1) := nI_nlt (by omega) (by omega)
      refine i_neg h40' ?_
      rw [nI_1]
      exact r_step hP hN (by omega) (ctx_m hCs) (ctx_n hCs) hls (fun s2 k2 l2 => hnext (by omega) s2 ⟨ctx_SLr hCs k2, l2⟩)
  · rw [dry_none g]
    rfl
