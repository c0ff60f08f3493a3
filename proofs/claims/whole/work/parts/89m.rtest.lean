/-! ===== the reference reads a TEST ===== -/
def isQ (x : Nat) : Prop := x = 10 ∨ x = 11 ∨ x = 12 ∨ x = 25
def nq : List Nat → Nat
  | [] => 0
  | x :: W => (if x = 12 ∨ x = 25 then 1 else 0) + nq W
theorem nq_y {x : Nat} {W : List Nat} (h : x = 12 ∨ x = 25) : nq (x :: W) = nq W + 1 := by
  show (if x = 12 ∨ x = 25 then 1 else 0) + nq W = _
  first | refine i_pos h ?_ | rw [if_pos h]
  try (with_reducible rfl)
  omega
theorem nq_n {x : Nat} {W : List Nat} (h : ¬ (x = 12 ∨ x = 25)) : nq (x :: W) = nq W := by
  show (if x = 12 ∨ x = 25 then 1 else 0) + nq W = _
  first | refine i_neg h ?_ | rw [if_neg h]
  try (with_reducible rfl)
  omega
theorem nq_le {x : Nat} {W : List Nat} : nq W ≤ nq (x :: W) := by
  show nq W ≤ (if x = 12 ∨ x = 25 then 1 else 0) + nq W
  omega
theorem nq_dw {q : Nat → Bool} : ∀ {W : List Nat}, nq (W.dropWhile q) ≤ nq W
  | [] => Nat.le_refl _
  | x :: W => by
    rw [List.dropWhile_cons]
    cases q x with
    | true => exact Nat.le_trans nq_dw nq_le
    | false => exact Nat.le_refl _
def Tz (X : Tx) (u0 u : St) (p : Nat) (g : Bool) (W C : List Nat) (o : Nat) : Prop := Ma u X p g ∧ Wt' u W ∧ Cd u C ∧ u.1 198 112 = nI o ∧ (nq W ≤ o ∧ o ≤ 6) ∧ W.length + C.length ≤ p ∧ Kp SYq u0 u ∧ ∀ x ∈ W, isQ x
def EnvT (u0 : St) : Prop := u0.1 198 57 = nI 2 ∧ gWords u0
theorem et_get {u0 u : St} (he : EnvT u0) (hK : Kp SYq u0 u) : u.1 198 57 = nI 2 ∧ gWords u := by
  refine ⟨?_, k_words he.2 hK (fun a k h => by unfold DWords at h; unfold SYq; omega)⟩
  rw [hK.1 198 57 (by unfold SYq; omega)]
  exact he.1
theorem tz_lex {X : Tx} {u0 u u' : St} {p p' : Nat} {g g' : Bool} {W C : List Nat} {o : Nat} (h : Tz X u0 u p g W C o) (hK : Kp SXr u u') (hm : Ma u' X p' g') (hp : p ≤ p') : Tz X u0 u' p' g' W C o := by
  obtain ⟨a1, a2, a3, a4, a5, a6, a7, a8⟩ := h
  refine ⟨hm, wt_K a2 hK (by unfold SXr; omega) (fun k => by unfold SXr; omega), cd_K a3 hK (by unfold SXr; omega) (fun k => by unfold SXr; omega), ?_, a5, by omega, kp_t a7 (kp_m hK (fun a k h => by unfold SYq at h; unfold SXr; omega)), a8⟩
  rw [hK.1 198 112 (by unfold SXr; omega)]
  exact a4
theorem sxr_syq {u u' : St} (h : Kp SXr u u') : Kp SYq u u' := kp_m h (fun a k h => by unfold SYq at h; unfold SXr; omega)
theorem tz_code {X : Tx} {u0 u : St} {p t : Nat} {g : Bool} {W C : List Nat} {o : Nat} {Q : St → Prop} (h : Tz X u0 u p g W C o) (hl : W.length + C.length < p) (hQ : ∀ u', Tz X u0 u' p g W (C ++ [t]) o → Q u') : s_X12_qCode (nI t) Q u := by
  obtain ⟨a1, a2, a3, a4, a5, a6, a7, a8⟩ := h
  have hp := a1.2.1
  have h16 := a1.1.1
  refine r_qCode a3 (by omega) (fun u' k c => hQ u' ⟨ma_K a1 k (fun a j h => by omega), wt_K a2 k (by omega) (fun j => by omega), c, by rw [k.1 198 112 (by omega)]; exact a4, a5, ?_, kp_t a7 (kp_m k (fun a j h => by unfold SYq at h; omega)), a8⟩)
  simp only [List.length_append, List.length_cons, List.length_nil]
  omega
/-- dropping one that is no opener -/
theorem tz_drop {X : Tx} {u0 u : St} {p x : Nat} {g : Bool} {W C : List Nat} {o : Nat} {Q : St → Prop} (h : Tz X u0 u p g (x :: W) C o) (hQ : ∀ u', Tz X u0 u' p g W (C ++ [x]) o → Q u') : s_X12_qDrops Q u := by
  obtain ⟨a1, a2, a3, a4, a5, a6, a7, a8⟩ := h
  have hp := a1.2.1
  have h16 := a1.1.1
  simp only [List.length_cons] at a6
  have hn := nq_le (x := x) (W := W)
  refine r_qDrops a2 a3 (by omega) (fun u' k w c => hQ u' ⟨ma_K a1 k (fun a j h => by omega), w, c, by rw [k.1 198 112 (by omega)]; exact a4, ⟨by omega, a5.2⟩, ?_, kp_t a7 (kp_m k (fun a j h => by unfold SYq at h; omega)), fun y hy => a8 y (by simp [hy])⟩)
  simp only [List.length_append, List.length_cons, List.length_nil]
  omega
theorem tz_112 {X : Tx} {u0 u : St} {p : Nat} {g : Bool} {W C : List Nat} {o o' : Nat} (h : Tz X u0 u p g W C o) (ho : nq W ≤ o' ∧ o' ≤ 6) : Tz X u0 (tI u 198 112 (nI o')) p g W C o' := by
  obtain ⟨a1, a2, a3, a4, a5, a6, a7, a8⟩ := h
  have k : Kp (fun a j => ¬ (a = 198 ∧ j = 112)) u (tI u 198 112 (nI o')) := kp_I (kp_r u) (by omega)
  exact ⟨ma_K a1 k (fun a j h => by omega), wt_K a2 k (by omega) (fun j => by omega), cd_K a3 k (by omega) (fun j => by omega), t_s _ _ _ _, ho, a6, kp_t a7 (kp_m k (fun a j h => by unfold SYq at h; omega)), a8⟩
theorem r_nots {X : Tx} {u0 : St} {r : Rs} {Q : St → Prop} (k p : Nat) (g : Bool) (W C : List Nat) (o : Nat) (u : St) (hS : Tz X u0 u p g W C o) (hR : Rt X k 1 p g W C o r) (hQ : ∀ u' k' W' C' o', k' < k → Tz X u0 u' p g W' C' o' → Rt X k' 2 p g W' C' o' r → Q u') : s_X12_qDropsNots Q u := by
  unfold s_X12_qDropsNots sX12_qDropsNots_p0
  refine lpx (fun n s => sX12_qDropsNots_p0n Q n s) (fun j s => ∃ W C o, j ≤ k ∧ Tz X u0 s p g W C o ∧ Rt X j 1 p g W C o r) ?_ k u ⟨W, C, o, Nat.le_refl _, hS, hR⟩
  rintro n j s ⟨W, C, o, hj, hS, hR⟩ hnext
  show sX12_qDropsNots_p0b Q (sX12_qDropsNots_p0n Q n) s
  unfold sX12_qDropsNots_p0b
  obtain ⟨a1, a2, a3, a4, a5, a6, a7, a8⟩ := id hS
  have hp := a1.2.1
  have h16 := a1.1.1
  cases j with
  | zero => exact absurd hR id
  | succ j =>
  unfold Rt at hR
  rw [if_neg (by omega), if_pos rfl] at hR
  rw [a1.2.2.2.2.2.1]
  refine i_pos rfl ?_
  cases W with
  | nil => exact r_qIsOn (x := 12) a2 (by omega) (by omega) (fun h => absurd h (by simp)) (fun _ => i_pos rfl (hQ s j [] C o (by omega) hS hR))
  | cons x W =>
    have hR : (if x = 12 then Rt X j 1 p g W (C ++ [12]) (o - 1) r else Rt X j 2 p g (x :: W) C o r) := hR
    refine r_qIsOn (x := 12) a2 (by omega) (by omega) (fun h => i_neg (by first | decide | (unfold vp_in; decide)) (bnd_i ?_)) (fun h => i_pos rfl ?_)
    · have hx : x = 12 := Option.some.inj h
      rw [if_pos hx] at hR
      subst hx
      have hn := nq_y (W := W) (Or.inl (rfl : 12 = 12))
      rw [a4, show nI o - 1 = nI (o - 1) from pk_sub (b := 1) (by omega)]
      have k1 : Kp (fun a j => ¬ (a = 198 ∧ j = 112)) s (tI s 198 112 (nI (o - 1))) := kp_I (kp_r s) (by omega)
      simp only [List.length_cons] at a6
      refine r_qDrops (wt_K a2 k1 (by omega) (fun k => by omega)) (cd_K a3 k1 (by omega) (fun k => by omega)) (by omega) (fun s2 k2 w2 c2 => hnext j s2 (by omega) ⟨W, C ++ [12], o - 1, by omega, ⟨ma_K (ma_K a1 k1 (fun a j h => by omega)) k2 (fun a j h => by omega), w2, c2, by rw [k2.1 198 112 (by omega), t_s], ⟨by omega, by omega⟩, ?_, kp_t a7 (kp_t (kp_m k1 (fun a j h => by unfold SYq at h; omega)) (kp_m k2 (fun a j h => by unfold SYq at h; omega))), fun y hy => a8 y (by simp [hy])⟩, hR⟩)
      simp only [List.length_append, List.length_cons, List.length_nil]
      omega
    · have hx : x ≠ 12 := fun e => h (by rw [e]; rfl)
      rw [if_neg hx] at hR
      exact hQ s j (x :: W) C o (by omega) hS hR
theorem r_notsF {X : Tx} {e : Nat × Nat} {Q : St → Prop} {u : St} (h : Mf u X e) (hQ : Q u) : s_X12_qDropsNots Q u := by
  unfold s_X12_qDropsNots sX12_qDropsNots_p0
  refine ⟨1, ?_⟩
  show sX12_qDropsNots_p0b Q _ u
  unfold sX12_qDropsNots_p0b
  exact i_neg (mf_bad h) hQ
def TzF (X : Tx) (u0 u : St) (e : Nat × Nat) : Prop := Mf u X e ∧ Kp SYq u0 u
theorem r_fact {X : Tx} {u0 : St} {r : Rs} {Q : St → Prop} (he : EnvT u0) (k p : Nat) (g : Bool) (W C : List Nat) (o : Nat) (u : St) (hS : Tz X u0 u p g W C o) (hR : Rt X (k + 1) 0 p g W C o r) (n1 : ¬ isS X p g 91) (n2 : ¬ isW' X p g wNot) (hQ1 : ∀ u' p' g' C', Tz X u0 u' p' g' W C' o → Rt X k 1 p' g' W C' o r → Q u') (hQ0 : ∀ u' e, r = .error e → TzF X u0 u' e → Q u') : s_X12_qFact Q u := by
  unfold Rt at hR
  rw [if_pos rfl, if_neg n1, if_neg n2] at hR
  obtain ⟨a1, a2, a3, a4, a5, a6, a7, a8⟩ := id hS
  have hp := a1.2.1
  have h16 := a1.1.1
  have eg := et_get he a7
  unfold s_X12_qFact
  refine r_takes (v := 264) (w := wAll) (by omega) (wd_of (q := (264, wAll)) eg.2 (by first | decide | (unfold vp_in; decide))) a1 (fun u1 k1 hy m1 => i_neg (by first | decide | (unfold vp_in; decide)) ?_) (fun u1 k1 b1 hno => i_pos rfl ?_)
  · rw [if_pos hy] at hR
    have l1 := wrd_lt hp (Or.inl hy.1)
    have hS1 := tz_lex hS k1 m1 (by omega)
    exact tz_code (t := 13) hS1 (by omega) (fun u2 hS2 => hQ1 u2 _ _ _ hS2 hR)
  rw [if_neg hno] at hR
  have hS1 := tz_lex hS k1 b1.1 (Nat.le_refl _)
  obtain ⟨c1, c2, c3, c4, c5, c6, c7, c8⟩ := id hS1
  have eg1 := et_get he c7
  have hVb : ∀ x, W.head? = some x → 10 ≤ x := fun x hx => by
    obtain ⟨W', rfl⟩ := hd_c hx
    have := a8 x (by simp)
    unfold isQ at this
    omega
  rcases hR with ⟨e, hx, hr⟩ | ⟨p1, g1, cc1, hx, hb1, hb2, hb3, hR⟩
  · exact r_sums (r := .error e) (by omega) eg1.2 eg1.1 c1 c2 c3 ⟨c4, c5.2⟩ c6 hVb hx (fun u2 p2 g2 c2 h _ _ _ _ _ _ => absurd h (by simp)) (fun u2 e2 h2 hF => by
      have : e = e2 := Except.error.inj h2
      rw [← this] at hF
      exact i_neg (mf_bad hF.1) (hQ0 u2 e hr ⟨hF.1, kp_t c7 hF.2.2⟩))
  refine r_sums (r := .ok (p1, g1, cc1)) (by omega) eg1.2 eg1.1 c1 c2 c3 ⟨c4, c5.2⟩ c6 hVb hx (fun u2 p2 g2 cc2 h k2 m2 w2 d2 e2 l2 => ?_) (fun u2 e2 h2 hF => absurd h2 (by simp))
  have hh := Except.ok.inj h
  obtain ⟨rfl, hh2⟩ := Prod.mk.inj hh
  obtain ⟨rfl, rfl⟩ := Prod.mk.inj hh2
  rw [m2.2.2.2.2.2.1]
  refine i_pos rfl (r_look m2 (fun u3 k3 b3 => ?_))
  have kk3 : Kp SYq u0 u3 := kp_t c7 (kp_t k2 (sxr_syq k3))
  have hl1 := lst_p hb2
  have hnoC : ¬ cmpS X p1 g1 → r = .error (1, lst X p1) → s_X12_fail (1 : Int32) (u3.1 198 2) (fun u9 => Q u9) u3 := fun _ hr => r_failB b3 (fun u4 k4 f4 => hQ0 u4 _ hr ⟨f4, kp_t kk3 (sxr_syq k4)⟩)
  have h63 : ∀ c : Nat, (c = 60 ∨ c = 62 ∨ c = 61) → isS X p1 g1 c → sX12_qFact_p63 (nI c) Q u3 := by
    intro c hc hs
    have hcs : cmpS X p1 g1 := by
      rcases hc with rfl | rfl | rfl
      · exact Or.inl hs
      · exact Or.inr (Or.inl hs)
      · exact Or.inr (Or.inr hs)
    have hsl := sgn_lt hb2 hs
    rcases hR with ⟨hn, _⟩ | ⟨_, hR⟩
    · exact absurd hcs hn
    unfold sX12_qFact_p63
    refine bnd_i ?_
    have m4 := ma_sgn b3 hs.1
    have k4 : Kp SXr u3 (tI u3 198 2 (u3.1 198 2 + 1)) := kp_I (kp_r u3) (by unfold SXr; omega)
    generalize tI u3 198 2 (u3.1 198 2 + 1) = u4 at m4 k4
    have kk4 : Kp SYq u0 u4 := kp_t kk3 (sxr_syq k4)
    have eg4 := et_get he kk4
    have kr34 : Kp SXr u2 u4 := kp_t k3 k4
    have w4 : Wt' u4 W := wt_K w2 kr34 (by unfold SXr; omega) (fun j => by unfold SXr; omega)
    have d4 : Cd u4 (C ++ cc1) := cd_K d2 kr34 (by unfold SXr; omega) (fun j => by unfold SXr; omega)
    have e4 : u4.1 198 112 = nI o := by rw [kr34.1 198 112 (by unfold SXr; omega)]; exact e2
    have h102 : ∀ u5 t, t = cmpT X p1 → ∀ (K : sX12_qFact_p102 (nI t) Q u5), (if nI c = (60 : Int32) then sX12_qFact_p102 (7 : Int32) Q u5 else (if nI c = (62 : Int32) then sX12_qFact_p102 (8 : Int32) Q u5 else sX12_qFact_p102 (9 : Int32) Q u5)) := by
      intro u5 t ht K
      rw [ht] at K
      unfold cmpT at K
      rw [hs.2] at K
      rcases hc with rfl | rfl | rfl
      · exact i_pos rfl K
      · exact i_neg (by first | decide | (unfold vp_in; decide)) (i_pos rfl K)
      · exact i_neg (by first | decide | (unfold vp_in; decide)) (i_neg (by first | decide | (unfold vp_in; decide)) K)
    rcases hR with ⟨e, hx2, hr⟩ | ⟨p2, g2, cc2, hx2, hb4, hb5, hb6, hR⟩
    · refine r_sums (r := .error e) (by omega) eg4.2 eg4.1 m4 w4 d4 ⟨e4, c5.2⟩ (by omega) hVb hx2 (fun u5 p5 g5 c5 h _ _ _ _ _ _ => absurd h (by simp)) (fun u5 e5 h5 hF => ?_)
      have : e = e5 := Except.error.inj h5
      rw [← this] at hF
      refine h102 u5 _ rfl ?_
      unfold sX12_qFact_p102
      obtain ⟨m, hm, em⟩ := hF.2.1
      refine r_qCodeF em (by omega) (fun u6 k6 _ => hQ0 u6 e hr ⟨mf_K hF.1 k6 (fun a j h => by omega), kp_t kk4 (kp_t hF.2.2 (kp_m k6 (fun a j h => by unfold SYq at h; omega)))⟩)
    · refine r_sums (r := .ok (p2, g2, cc2)) (by omega) eg4.2 eg4.1 m4 w4 d4 ⟨e4, c5.2⟩ (by omega) hVb hx2 (fun u5 p5 g5 cc5 h k5 m5 w5 d5 e5 l5 => ?_) (fun u5 e5 h5 hF => absurd h5 (by simp))
      have hh := Except.ok.inj h
      obtain ⟨rfl, hh2⟩ := Prod.mk.inj hh
      obtain ⟨rfl, rfl⟩ := Prod.mk.inj hh2
      refine h102 u5 _ rfl ?_
      unfold sX12_qFact_p102
      have hS5 : Tz X u0 u5 p2 g2 W (C ++ cc1 ++ cc2) o := ⟨m5, w5, d5, e5, c5, l5, kp_t kk4 k5, a8⟩
      refine tz_code hS5 ?_ (fun u6 hS6 => hQ1 u6 p2 g2 _ hS6 hR)
      simp only [List.length_append] at l2 l5 ⊢
      omega
  by_cases s60 : isS X p1 g1 60
  · exact i_pos ((lch_s (c := 60) b3 ⟨by omega, by first | decide | (unfold vp_in; decide)⟩).mpr s60) (by
      have e := (lch_s (c := 60) b3 ⟨by omega, by first | decide | (unfold vp_in; decide)⟩).mpr s60
      rw [e]
      exact h63 60 (Or.inl rfl) s60)
  refine i_neg (fun h => s60 ((lch_s (c := 60) b3 ⟨by omega, by first | decide | (unfold vp_in; decide)⟩).mp h)) ?_
  by_cases s62 : isS X p1 g1 62
  · exact i_pos ((lch_s (c := 62) b3 ⟨by omega, by first | decide | (unfold vp_in; decide)⟩).mpr s62) (by
      have e := (lch_s (c := 62) b3 ⟨by omega, by first | decide | (unfold vp_in; decide)⟩).mpr s62
      rw [e]
      exact h63 62 (Or.inr (Or.inl rfl)) s62)
  refine i_neg (fun h => s62 ((lch_s (c := 62) b3 ⟨by omega, by first | decide | (unfold vp_in; decide)⟩).mp h)) ?_
  by_cases s61 : isS X p1 g1 61
  · exact i_pos ((lch_s (c := 61) b3 ⟨by omega, by first | decide | (unfold vp_in; decide)⟩).mpr s61) (by
      have e := (lch_s (c := 61) b3 ⟨by omega, by first | decide | (unfold vp_in; decide)⟩).mpr s61
      rw [e]
      exact h63 61 (Or.inr (Or.inr rfl)) s61)
  refine i_neg (fun h => s61 ((lch_s (c := 61) b3 ⟨by omega, by first | decide | (unfold vp_in; decide)⟩).mp h)) ?_
  have hnc : ¬ cmpS X p1 g1 := fun h => by
    rcases h with h | h | h
    · exact s60 h
    · exact s62 h
    · exact s61 h
  rcases hR with ⟨_, hr⟩ | ⟨hy, _⟩
  · exact hnoC hnc hr
  · exact absurd hy hnc
theorem r_hasSq {V : List Nat} {Q : Int32 → St → Prop} {u : St} (h : Wt' u V) (hl : V.length < 1690) (h1 : 25 ∈ V → Q 1 u) (h0 : ¬ 25 ∈ V → Q 0 u) : s_X12_qHasSquare Q u := by
  unfold s_X12_qHasSquare sX12_qHasSquare_p2
  refine for_up (fun n i s => sX12_qHasSquare_p2n Q n i s) V.length (fun i s => s = u ∧ ∀ j, j < i → V.getD (V.length - 1 - j) 0 ≠ 25) ?_ 0 u (by omega) ⟨rfl, fun j hj => absurd hj (by omega)⟩
  rintro n i s hi ⟨rfl, hn⟩ hnext
  show sX12_qHasSquare_p2b Q (sX12_qHasSquare_p2n Q n) (nI i) s
  unfold sX12_qHasSquare_p2b
  rw [h.1]
  by_cases hie : i = V.length
  · refine i_pos (nI_le (by omega) (by omega)) (h0 (fun hm => ?_))
    obtain ⟨j, hj, ej⟩ := List.getElem_of_mem hm
    have := hn (V.length - 1 - j) (by omega)
    rw [show V.length - 1 - (V.length - 1 - j) = j by omega, List.getD_eq_getElem?_getD, List.getElem?_eq_getElem hj, ej] at this
    exact this rfl
  refine i_neg (nI_ge (by omega) (by omega)) ?_
  have hv := h.2.1 (V.length - 1 - i) (by omega)
  rw [show V.length - 1 - (V.length - 1 - i) = i by omega] at hv
  have hmem : V.getD (V.length - 1 - i) 0 ∈ V := getD_mem (by omega)
  have h100 := h.2.2 _ hmem
  rw [nI_clamp (by omega), hv, nI_1]
  refine ⟨vp_in_nI (by omega) (by omega), ?_⟩
  by_cases e : V.getD (V.length - 1 - i) 0 = 25
  · exact i_pos (by rw [e]; rfl) (h1 (by rw [← e]; exact hmem))
  · refine i_neg (x_ne (k := 25) (by omega) (by omega) e) (hnext (by omega) s ⟨rfl, fun j hj => ?_⟩)
    by_cases ej : j = i
    · rw [ej]
      exact e
    · exact hn j (by omega)
