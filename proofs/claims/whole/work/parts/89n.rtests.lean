/-! ===== the reference reads a TEST whole ===== -/
theorem tz_push {X : Tx} {u0 u : St} {p x : Nat} {g : Bool} {W C : List Nat} {o : Nat} {Q : Int32 → St → Prop} (h : Tz X u0 u p g W C o) (hl : W.length + C.length < p) (hx : x = 10 ∨ x = 11) (hQ : ∀ u', Tz X u0 u' p g (x :: W) C o → Q 1 u') : vp_in (u.1 198 111) 1700 ∧ bnd (tI u 283 (u.1 198 111).toNatClampNeg (nI x)) (fun u53 => bnd (tI u53 198 111 ((u53.1 198 111) + (1 : Int32))) (fun u54 => Q (1 : Int32) u54)) := by
  obtain ⟨a1, a2, a3, a4, a5, a6, a7, a8⟩ := h
  have hp := a1.2.1
  have h16 := a1.1.1
  refine push_v a2 (by omega) (by omega) (fun u' k w => hQ u' ⟨ma_K a1 k (fun a j h => by omega), w, cd_K a3 k (by omega) (fun j => by omega), by rw [k.1 198 112 (by omega)]; exact a4, ⟨by rw [nq_n (by omega)]; exact a5.1, a5.2⟩, by simp only [List.length_cons]; omega, kp_t a7 (kp_m k (fun a j h => by unfold SYq at h; omega)), fun y hy => ?_⟩)
  rcases List.mem_cons.mp hy with rfl | hy
  · unfold isQ
    omega
  · exact a8 y hy
theorem r_and {X : Tx} {u0 : St} {p : Nat} {g : Bool} {W C : List Nat} {o : Nat} {Q : Int32 → St → Prop} {u : St} (h : Tz X u0 u p g W C o) (hl : W.length + C.length < p) (hQ : ∀ u', Tz X u0 u' p g (10 :: W.dropWhile is10) (C ++ W.takeWhile is10) o → Q 1 u') : sX12_qGoesOnTest_p87 Q u := by
  unfold sX12_qGoesOnTest_p87
  refine lpx (fun n s => sX12_qGoesOnTest_p87n Q n s) (fun j s => ∃ W' C', j = W'.length ∧ Tz X u0 s p g W' C' o ∧ W'.length + C'.length < p ∧ W'.dropWhile is10 = W.dropWhile is10 ∧ C' ++ W'.takeWhile is10 = C ++ W.takeWhile is10) ?_ W.length u ⟨W, C, rfl, h, hl, rfl, rfl⟩
  rintro n j s ⟨W', C', hj, hS, l1, e1, e2⟩ hnext
  show sX12_qGoesOnTest_p87b Q (sX12_qGoesOnTest_p87n Q n) s
  unfold sX12_qGoesOnTest_p87b
  have hp := hS.1.2.1
  have h16 := hS.1.1.1
  refine r_qIsOn (x := 10) hS.2.1 (by omega) (by omega) (fun hh => i_neg (by first | decide | (unfold vp_in; decide)) ?_) (fun hh => i_pos rfl ?_)
  · obtain ⟨V2, rfl⟩ := hd_c hh
    simp only [List.length_cons] at l1 hj
    refine tz_drop hS (fun s2 hS2 => hnext V2.length s2 (by omega) ⟨V2, C' ++ [10], rfl, hS2, by simp only [List.length_append, List.length_cons, List.length_nil]; omega, ?_, ?_⟩)
    · rw [← e1, List.dropWhile_cons, show is10 10 = true from rfl]
      rfl
    · rw [← e2, List.takeWhile_cons, show is10 10 = true from rfl]
      simp
  · have ht := tw_app (q := is10) (U := []) (W := W') (fun y hy => absurd hy (by simp)) (fun y hy => decide_eq_false (fun e => by
      rw [e] at hy
      exact hh hy))
    rw [List.nil_append] at ht
    refine tz_push (x := 10) hS l1 (Or.inl rfl) (fun s2 hS2 => hQ s2 ?_)
    rw [← e1, ← e2, ht.1, ht.2, List.append_nil]
    exact hS2
theorem r_or {X : Tx} {u0 : St} {p : Nat} {g : Bool} {W C : List Nat} {o : Nat} {Q : Int32 → St → Prop} {u : St} (h : Tz X u0 u p g W C o) (hl : W.length + C.length < p) (hQ : ∀ u', Tz X u0 u' p g (11 :: W.dropWhile is11) (C ++ W.takeWhile is11) o → Q 1 u') : sX12_qGoesOnTest_p137 Q u := by
  unfold sX12_qGoesOnTest_p137
  refine lpx (fun n s => sX12_qGoesOnTest_p137n Q n s) (fun j s => ∃ W' C', j = W'.length ∧ Tz X u0 s p g W' C' o ∧ W'.length + C'.length < p ∧ W'.dropWhile is11 = W.dropWhile is11 ∧ C' ++ W'.takeWhile is11 = C ++ W.takeWhile is11) ?_ W.length u ⟨W, C, rfl, h, hl, rfl, rfl⟩
  rintro n j s ⟨W', C', hj, hS, l1, e1, e2⟩ hnext
  show sX12_qGoesOnTest_p137b Q (sX12_qGoesOnTest_p137n Q n) s
  unfold sX12_qGoesOnTest_p137b sX12_qGoesOnTest_p155
  have hp := hS.1.2.1
  have h16 := hS.1.1.1
  have hgo : ∀ y, (y = 10 ∨ y = 11) → W'.head? = some y → s_X12_qDrops (fun u41 => sX12_qGoesOnTest_p137n Q n u41) s := by
    intro y hy hh
    obtain ⟨V2, rfl⟩ := hd_c hh
    have hq : is11 y = true := decide_eq_true hy
    simp only [List.length_cons] at l1 hj
    refine tz_drop hS (fun s2 hS2 => hnext V2.length s2 (by omega) ⟨V2, C' ++ [y], rfl, hS2, by simp only [List.length_append, List.length_cons, List.length_nil]; omega, ?_, ?_⟩)
    · rw [← e1, List.dropWhile_cons, hq]
      rfl
    · rw [← e2, List.takeWhile_cons, hq]
      simp
  refine r_qIsOn (x := 10) hS.2.1 (by omega) (by omega) (fun hh => i_neg (by first | decide | (unfold vp_in; decide)) (hgo 10 (Or.inl rfl) hh)) (fun h10 => i_pos rfl ?_)
  refine r_qIsOn (x := 11) hS.2.1 (by omega) (by omega) (fun hh => i_neg (by first | decide | (unfold vp_in; decide)) (hgo 11 (Or.inr rfl) hh)) (fun h11 => i_pos rfl ?_)
  have ht := tw_app (q := is11) (U := []) (W := W') (fun y hy => absurd hy (by simp)) (fun y hy => decide_eq_false (fun e => by
    rcases e with e | e
    · rw [e] at hy
      exact h10 hy
    · rw [e] at hy
      exact h11 hy))
  rw [List.nil_append] at ht
  refine tz_push (x := 11) hS l1 (Or.inr rfl) (fun s2 hS2 => hQ s2 ?_)
  rw [← e1, ← e2, ht.1, ht.2, List.append_nil]
  exact hS2
theorem r_goesT {X : Tx} {u0 : St} {r : Rs} {Q : Int32 → St → Prop} (he : EnvT u0) (k p : Nat) (g : Bool) (W C : List Nat) (o : Nat) (u : St) (hS : Tz X u0 u p g W C o) (hR : Rt X k 2 p g W C o r) (hQ1 : ∀ u' k' p' g' W' C' o', k' < k → Tz X u0 u' p' g' W' C' o' → Rt X k' 0 p' g' W' C' o' r → Q 1 u') (hQd : ∀ u' p' g' W' C' o', Tz X u0 u' p' g' W' C' o' → r = .ok (p', g', C' ++ W') → Q 0 u') (hQ0 : ∀ u' e, r = .error e → TzF X u0 u' e → Q 0 u') : s_X12_qGoesOnTest Q u := by
  unfold s_X12_qGoesOnTest sX12_qGoesOnTest_p0
  refine lpx (fun n s => sX12_qGoesOnTest_p0n Q n s) (fun j s => ∃ p g W C o, j ≤ k ∧ Tz X u0 s p g W C o ∧ Rt X j 2 p g W C o r) ?_ k u ⟨p, g, W, C, o, Nat.le_refl _, hS, hR⟩
  rintro n j s ⟨p, g, W, C, o, hj, hS, hR⟩ hnext
  show sX12_qGoesOnTest_p0b Q (sX12_qGoesOnTest_p0n Q n) s
  unfold sX12_qGoesOnTest_p0b
  have a1 := hS.1
  have hp := a1.2.1
  have h16 := a1.1.1
  have hl := lst_p hp
  have a6 := hS.2.2.2.2.2.1
  cases j with
  | zero => exact absurd hR id
  | succ j =>
  unfold Rt at hR
  rw [if_neg (by omega), if_neg (by omega)] at hR
  rw [a1.2.2.2.2.2.1]
  refine i_pos rfl (r_look a1 (fun u1 k1 b1 => ?_))
  have hS1 := tz_lex hS k1 b1.1 (Nat.le_refl _)
  have eg1 := et_get he hS1.2.2.2.2.2.2.1
  have h76 : ¬ (isS X p g 93 ∧ 25 ∈ W) → sX12_qGoesOnTest_p76 Q u1 := by
    intro hnc
    rw [if_neg hnc] at hR
    unfold sX12_qGoesOnTest_p76
    refine r_takes (v := 262) (w := wAnd) (by omega) (wd_of (q := (262, wAnd)) eg1.2 (by first | decide | (unfold vp_in; decide))) b1.1 (fun u2 k2 hy m2 => i_neg (by first | decide | (unfold vp_in; decide)) ?_) (fun u2 k2 b2 nand => i_pos rfl ?_)
    · rw [if_pos hy] at hR
      have l1 := wrd_lt hp (Or.inl hy.1)
      exact r_and (tz_lex hS1 k2 m2 (by omega)) (by omega) (fun u3 hS3 => hQ1 u3 j _ _ _ _ _ (by omega) hS3 hR)
    have hS2 := tz_lex hS1 k2 b2.1 (Nat.le_refl _)
    have eg2 := et_get he hS2.2.2.2.2.2.2.1
    refine r_takes (v := 263) (w := wOr) (by omega) (wd_of (q := (263, wOr)) eg2.2 (by first | decide | (unfold vp_in; decide))) b2.1 (fun u3 k3 hy m3 => i_neg (by first | decide | (unfold vp_in; decide)) ?_) (fun u3 k3 b3 nor => i_pos rfl ?_)
    · rw [if_neg nand, if_pos hy] at hR
      have l1 := wrd_lt hp (Or.inl hy.1)
      exact r_or (tz_lex hS2 k3 m3 (by omega)) (by omega) (fun u4 hS4 => hQ1 u4 j _ _ _ _ _ (by omega) hS4 hR)
    rw [if_neg nand, if_neg nor] at hR
    have hS3 := tz_lex hS2 k3 b3.1 (Nat.le_refl _)
    rw [hS3.1.2.2.2.2.2.1]
    refine i_pos rfl (r_hasSq hS3.2.1 (by omega) (fun hsq => i_neg (by first | decide | (unfold vp_in; decide)) ?_) (fun hsq => i_pos rfl ?_))
    · rw [if_pos hsq] at hR
      exact r_failB b3 (fun u4 k4 f4 => hQ0 u4 _ hR ⟨f4, kp_t hS3.2.2.2.2.2.2.1 (sxr_syq k4)⟩)
    · rw [if_neg hsq] at hR
      exact hQd u3 p g W C o hS3 hR
  by_cases hs : isS X p g 93
  · refine i_pos ((lch_s (c := 93) b1 ⟨by omega, by first | decide | (unfold vp_in; decide)⟩).mpr hs) ?_
    refine r_hasSq hS1.2.1 (by omega) (fun hsq => i_neg (by first | decide | (unfold vp_in; decide)) (bnd_i ?_)) (fun hsq => i_pos rfl (h76 (fun h => hsq h.2)))
    rw [if_pos ⟨hs, hsq⟩] at hR
    have hsl := sgn_lt hp hs
    have m2 := ma_sgn b1 hs.1
    have k2 : Kp SXr u1 (tI u1 198 2 (u1.1 198 2 + 1)) := kp_I (kp_r u1) (by unfold SXr; omega)
    generalize tI u1 198 2 (u1.1 198 2 + 1) = u2 at m2 k2
    have hS2 := tz_lex hS1 k2 m2 (by omega)
    unfold sX12_qGoesOnTest_p33
    refine lpx (fun n2 y => sX12_qGoesOnTest_p33n Q (sX12_qGoesOnTest_p0n Q n) n2 y) (fun i y => ∃ W' C', i = W'.length ∧ Tz X u0 y (lnx X p) false W' C' o ∧ W'.length + C'.length < lnx X p ∧ 25 ∈ W' ∧ W'.dropWhile no25 = W.dropWhile no25 ∧ C' ++ W'.takeWhile no25 = C ++ W.takeWhile no25) ?_ W.length u2 ⟨W, C, rfl, hS2, by omega, hsq, rfl, rfl⟩
    rintro n2 i y ⟨W', C', hi, hSy, l1, hm, e1, e2⟩ hnext2
    show sX12_qGoesOnTest_p33b Q (sX12_qGoesOnTest_p0n Q n) (sX12_qGoesOnTest_p33n Q (sX12_qGoesOnTest_p0n Q n) n2) y
    unfold sX12_qGoesOnTest_p33b
    refine r_qIsOn (x := 25) hSy.2.1 (by omega) (by omega) (fun hh => i_neg (by first | decide | (unfold vp_in; decide)) (bnd_i (bnd_i ?_))) (fun hh => i_pos rfl ?_)
    · obtain ⟨V2, rfl⟩ := hd_c hh
      obtain ⟨f1, f2, f3, f4, f5, f6, f7, f8⟩ := id hSy
      have hn := nq_y (W := V2) (Or.inr (rfl : 25 = 25))
      simp only [List.length_cons] at l1
      have e3 : y.1 198 111 - 1 = nI V2.length := by
        rw [f2.1]
        exact pk_sub (a := V2.length + 1) (b := 1) (by omega)
      rw [e3, t_n (k' := 112) _ _ (by omega), f4, show nI o - 1 = nI (o - 1) from pk_sub (b := 1) (by omega)]
      have kz : Kp (fun a j => ¬ (a = 198 ∧ (j = 111 ∨ j = 112))) y (tI (tI y 198 111 (nI V2.length)) 198 112 (nI (o - 1))) := kp_I (kp_I (kp_r y) (by omega)) (by omega)
      have z111 : (tI (tI y 198 111 (nI V2.length)) 198 112 (nI (o - 1))).1 198 111 = nI V2.length := by rw [t_n _ _ (by omega), t_s]
      have z112 : (tI (tI y 198 111 (nI V2.length)) 198 112 (nI (o - 1))).1 198 112 = nI (o - 1) := t_s _ _ _ _
      generalize (tI (tI y 198 111 (nI V2.length)) 198 112 (nI (o - 1))) = z at kz z111 z112
      have eq1 : (W.dropWhile no25).tail = V2 := by
        rw [← e1, List.dropWhile_cons, show no25 25 = false from rfl]
        rfl
      have eq2 : C ++ W.takeWhile no25 = C' := by
        rw [← e2, List.takeWhile_cons, show no25 25 = false from rfl]
        simp
      rw [eq1, eq2] at hR
      have hSz : Tz X u0 z (lnx X p) false V2 C' (o - 1) := ⟨ma_K f1 kz (fun a j h => by omega), wt_pop f2 kz (fun j => by omega) z111, cd_K f3 kz (by omega) (fun j => by omega), z112, ⟨by omega, by omega⟩, by omega, kp_t f7 (kp_m kz (fun a j h => by unfold SYq at h; omega)), fun x hx => f8 x (by simp [hx])⟩
      exact r_nots j (lnx X p) false V2 C' (o - 1) z hSz hR (fun y2 k4 W4 C4 o4 hk4 hS4 hR4 => hnext k4 y2 (by omega) ⟨lnx X p, false, W4, C4, o4, by omega, hS4, hR4⟩)
    · cases W' with
      | nil => exact absurd hm (by simp)
      | cons x V2 =>
        have hx : x ≠ 25 := fun e => hh (by rw [e]; rfl)
        have hq : no25 x = true := decide_eq_true hx
        simp only [List.length_cons] at l1 hi
        refine tz_drop hSy (fun y2 hS3 => hnext2 V2.length y2 (by omega) ⟨V2, C' ++ [x], rfl, hS3, by simp only [List.length_append, List.length_cons, List.length_nil]; omega, ?_, ?_, ?_⟩)
        · rcases List.mem_cons.mp hm with h | h
          · exact absurd h.symm hx
          · exact h
        · rw [← e1, List.dropWhile_cons, hq]
          rfl
        · rw [← e2, List.takeWhile_cons, hq]
          simp
  · exact i_neg (fun h => hs ((lch_s (c := 93) b1 ⟨by omega, by first | decide | (unfold vp_in; decide)⟩).mp h)) (h76 (fun h => hs h.1))
theorem r_test {X : Tx} {p : Nat} {g : Bool} {r : Rs} {Q : St → Prop} {u : St} (he : EnvT u) (hm : Ma u X p g) (hV : Wt' u []) (hL : Cd u []) (ho : u.1 198 112 = nI 0) (hR : Rz X 0 p g [] [] 0 r)
    (h1 : ∀ u' p' g' c, r = .ok (p', g', c) → Kp SYq u u' → Ma u' X p' g' → Cd u' c → Q u') (h0 : ∀ u' e, r = .error e → TzF X u u' e → Q u') : s_X12_qTest Q u := by
  obtain ⟨k, hR⟩ := hR
  have hS : Tz X u u p g [] [] 0 := ⟨hm, hV, hL, ho, ⟨Nat.le_refl _, by omega⟩, by simp, kp_r u, fun x hx => absurd hx (by simp)⟩
  unfold s_X12_qTest sX12_qTest_p2
  refine lpx (σ := Int32 × St) (fun n s => sX12_qTest_p2n Q n s.1 s.2) (fun j s => (s.1 = 1 ∧ ∃ k p g W C o, j = k + 1 ∧ Tz X u s.2 p g W C o ∧ Rt X k 0 p g W C o r) ∨ (s.1 = 0 ∧ ∃ p g W C o, j = 0 ∧ Tz X u s.2 p g W C o ∧ r = .ok (p, g, C ++ W)) ∨ ((s.1 = 0 ∨ s.1 = 1) ∧ ∃ e, j = 0 ∧ r = .error e ∧ TzF X u s.2 e)) ?_ (k + 1) (1, u) (Or.inl ⟨rfl, k, p, g, [], [], 0, rfl, hS, hR⟩)
  rintro n j ⟨v1, s⟩ hI hnext
  show sX12_qTest_p2b Q (sX12_qTest_p2n Q n) v1 s
  unfold sX12_qTest_p2b sX12_qTest_p105 sX12_qTest_p106
  rcases hI with ⟨e1, k, p, g, W, C, o, hj, hS, hR⟩ | ⟨e1, p, g, W, C, o, hj, hS, hr⟩ | ⟨e1, e, hj, hr, hF⟩
  · simp only at e1 hS
    subst e1
    refine i_neg (by first | decide | (unfold vp_in; decide)) ?_
    have a1 := hS.1
    have hp := a1.2.1
    have h16 := a1.1.1
    have hl := lst_p hp
    cases k with
    | zero => exact absurd hR id
    | succ k =>
    rw [a1.2.2.2.2.2.1]
    refine i_pos rfl (r_look a1 (fun u1 k1 b1 => ?_))
    have hS1 := tz_lex hS k1 b1.1 (Nat.le_refl _)
    obtain ⟨c1, c2, c3, c4, c5, c6, c7, c8⟩ := id hS1
    have eg1 := et_get he c7
    by_cases hs : isS X p g 91
    · unfold Rt at hR
      rw [if_pos rfl, if_pos hs] at hR
      have hsl := sgn_lt hp hs
      refine i_pos ((lch_s (c := 91) b1 ⟨by omega, by first | decide | (unfold vp_in; decide)⟩).mpr hs) ?_
      refine r_qOpens (x := 25) c2 (by omega) (by omega) c5.2 c4 c1.2.2.2.2.2.1 (fun ho u3 k3 w3 e3 => bnd_i ?_) (fun ho => ?_)
      · rw [if_neg ho] at hR
        have b3 : Mb u3 X p g := mb_K b1 k3 (fun a j h => by omega)
        have kx : Kp (fun a j => ¬ (a = 198 ∧ j = 2)) u3 (tI u3 198 2 (u3.1 198 2 + 1)) := kp_I (kp_r _) (by omega)
        have m4 := ma_sgn b3 hs.1
        generalize tI u3 198 2 (u3.1 198 2 + 1) = u4 at m4 kx
        refine hnext (k + 1) (1, u4) (by omega) (Or.inl ⟨rfl, k, lnx X p, false, 25 :: W, C, o + 1, rfl, ⟨m4, wt_K w3 kx (by omega) (fun j => by omega), cd_K (cd_K c3 k3 (by omega) (fun j => by omega)) kx (by omega) (fun j => by omega), by rw [kx.1 198 112 (by omega)]; exact e3, ⟨by rw [nq_y (Or.inr rfl)]; omega, by omega⟩, by simp only [List.length_cons]; omega, kp_t c7 (kp_t (kp_m k3 (fun a j h => by unfold SYq at h; omega)) (kp_m kx (fun a j h => by unfold SYq at h; omega))), fun y hy => ?_⟩, hR⟩)
        rcases List.mem_cons.mp hy with rfl | hy
        · unfold isQ
          omega
        · exact c8 y hy
      · rw [ho, if_pos rfl] at hR
        rw [b1.2]
        refine r_fail (f := 4) c1 (by omega) (by omega) (fun u3 k3 f3 => bnd_i ?_)
        have kx : Kp (fun a j => ¬ (a = 198 ∧ j = 2)) u3 (tI u3 198 2 (u3.1 198 2 + 1)) := kp_I (kp_r _) (by omega)
        exact hnext 0 (1, tI u3 198 2 (u3.1 198 2 + 1)) (by omega) (Or.inr (Or.inr ⟨Or.inr rfl, _, rfl, hR, mf_K f3 kx (fun a j h => by omega), kp_t c7 (kp_t (sxr_syq k3) (kp_m kx (fun a j h => by unfold SYq at h; omega)))⟩))
    refine i_neg (fun h => hs ((lch_s (c := 91) b1 ⟨by omega, by first | decide | (unfold vp_in; decide)⟩).mp h)) ?_
    refine r_isHere (v := 261) (w := wNot) (by omega) (wd_of (q := (261, wNot)) eg1.2 (by first | decide | (unfold vp_in; decide))) b1.1 (fun u2 k2 b2 hy => i_neg (by first | decide | (unfold vp_in; decide)) ?_) (fun u2 k2 b2 hno => i_pos rfl ?_)
    · unfold Rt at hR
      rw [if_pos rfl, if_neg hs, if_pos hy] at hR
      have l1 := wrd_lt hp (Or.inl hy.1)
      have hS2 := tz_lex hS1 k2 b2.1 (Nat.le_refl _)
      obtain ⟨d1, d2, d3, d4, d5, d6, d7, d8⟩ := id hS2
      have eg2 := et_get he d7
      refine r_qOpens (x := 12) d2 (by omega) (by omega) d5.2 d4 d1.2.2.2.2.2.1 (fun ho u3 k3 w3 e3 => ?_) (fun ho => ?_)
      · rw [if_neg ho] at hR
        have b3 : Mb u3 X p g := mb_K b2 k3 (fun a j h => by omega)
        have hG3 : gWords u3 := k_words eg2.2 k3 (fun a k h => by unfold DWords at h; omega)
        refine r_askW (v := 261) (w := wNot) hG3 (by first | decide | (unfold vp_in; decide)) (by omega) b3.1 hy (fun u4 k4 m4 => ?_)
        refine hnext (k + 1) (1, u4) (by omega) (Or.inl ⟨rfl, k, lnx X p, true, 12 :: W, C, o + 1, rfl, ⟨m4, wt_K w3 k4 (by unfold SXr; omega) (fun j => by unfold SXr; omega), cd_K (cd_K d3 k3 (by omega) (fun j => by omega)) k4 (by unfold SXr; omega) (fun j => by unfold SXr; omega), by rw [k4.1 198 112 (by unfold SXr; omega)]; exact e3, ⟨by rw [nq_y (Or.inl rfl)]; omega, by omega⟩, by simp only [List.length_cons]; omega, kp_t d7 (kp_t (kp_m k3 (fun a j h => by unfold SYq at h; omega)) (sxr_syq k4)), fun y hy => ?_⟩, hR⟩)
        rcases List.mem_cons.mp hy with rfl | hy
        · unfold isQ
          omega
        · exact d8 y hy
      · rw [ho, if_pos rfl] at hR
        rw [b2.2]
        exact r_fail (f := 4) d1 (by omega) (by omega) (fun u3 k3 f3 => r_asksF f3 (hnext 0 (1, u3) (by omega) (Or.inr (Or.inr ⟨Or.inr rfl, _, rfl, hR, f3, kp_t d7 (sxr_syq k3)⟩))))
    · have hS2 := tz_lex hS1 k2 b2.1 (Nat.le_refl _)
      refine r_fact he k p g W C o u2 hS2 hR hs hno (fun u3 p3 g3 C3 hS3 hR3 => ?_) (fun u3 e hr hF => ?_)
      · refine r_nots k p3 g3 W C3 o u3 hS3 hR3 (fun u4 k4 W4 C4 o4 hk4 hS4 hR4 => ?_)
        rw [hS4.1.2.2.2.2.2.1]
        refine i_pos rfl (r_goesT he k4 p3 g3 W4 C4 o4 u4 hS4 hR4 (fun u5 k5 p5 g5 W5 C5 o5 hk5 hS5 hR5 => i_neg (by first | decide | (unfold vp_in; decide)) (hnext (k5 + 1) (1, u5) (by omega) (Or.inl ⟨rfl, k5, p5, g5, W5, C5, o5, rfl, hS5, hR5⟩))) (fun u5 p5 g5 W5 C5 o5 hS5 hr => i_pos rfl (hnext 0 (0, u5) (by omega) (Or.inr (Or.inl ⟨rfl, p5, g5, W5, C5, o5, rfl, hS5, hr⟩)))) (fun u5 e hr hF => i_pos rfl (hnext 0 (0, u5) (by omega) (Or.inr (Or.inr ⟨Or.inl rfl, e, rfl, hr, hF⟩)))))
      · exact r_notsF hF.1 (i_neg (mf_bad hF.1) (hnext 0 (0, u3) (by omega) (Or.inr (Or.inr ⟨Or.inl rfl, e, rfl, hr, hF⟩))))
  · simp only at e1 hS
    subst e1
    refine i_pos rfl ?_
    unfold sX12_qTest_p110
    have hp := hS.1.2.1
    have h16 := hS.1.1.1
    refine lpx (fun n s => sX12_qTest_p110n Q n s) (fun j y => ∃ W' C', j = W'.length ∧ Tz X u y p g W' C' o ∧ C' ++ W' = C ++ W) ?_ W.length s ⟨W, C, rfl, hS, rfl⟩
    rintro n2 j2 y ⟨W', C', hj2, hSy, e2⟩ hnext2
    show sX12_qTest_p110b Q (sX12_qTest_p110n Q n2) y
    unfold sX12_qTest_p110b
    have b6 := hSy.2.2.2.2.2.1
    rw [hSy.1.2.2.2.2.2.1, hSy.2.1.1]
    refine i_pos rfl ?_
    cases W' with
    | nil =>
      rw [List.append_nil] at e2
      refine i_pos (by first | decide | (unfold vp_in; decide)) (h1 y p g (C ++ W) hr hSy.2.2.2.2.2.2.1 hSy.1 ?_)
      rw [← e2]
      exact hSy.2.2.1
    | cons x V2 =>
      simp only [List.length_cons] at b6 hj2
      have hn : ¬ nI (x :: V2).length ≤ nI 0 := nI_ge (by simp only [List.length_cons]; omega) (by simp only [List.length_cons]; omega)
      refine i_neg hn (tz_drop hSy (fun y2 hS2 => hnext2 V2.length y2 (by omega) ⟨V2, C' ++ [x], rfl, hS2, ?_⟩))
      rw [← e2]
      simp
  · simp only at e1 hF
    have h110 : sX12_qTest_p110 Q s := by
      unfold sX12_qTest_p110
      refine ⟨1, ?_⟩
      show sX12_qTest_p110b Q _ s
      unfold sX12_qTest_p110b
      exact i_neg (mf_bad hF.1) (h0 s e hr hF)
    rcases e1 with rfl | rfl
    · exact i_pos rfl h110
    · exact i_neg (by first | decide | (unfold vp_in; decide)) (i_neg (mf_bad hF.1) h110)
