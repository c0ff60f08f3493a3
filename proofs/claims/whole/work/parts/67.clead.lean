/-! ===== the class: the next place, a way ===== -/
def FB (u : St) (a : Nat) : Prop := ∀ k, k < 23 → -1000000 ≤ (u.1 a k).toInt ∧ (u.1 a k).toInt ≤ 1000000
theorem fb_I {u : St} {a b k : Nat} {v : Int32} (h : FB u a) (h1 : -1000000 ≤ v.toInt) (h2 : v.toInt ≤ 1000000) : FB (tI u b k v) a := by
  intro j hj
  rw [t_1]
  split
  · exact ⟨h1, h2⟩
  · exact h j hj
theorem fb_n {u : St} {a b k n : Nat} (h : FB u a) (hn : n ≤ 1000000) : FB (tI u b k (nI n)) a := by
  apply fb_I h
  · rw [nI_toInt (by omega)]
    omega
  · rw [nI_toInt (by omega)]
    omega
theorem fb_K {S : Nat → Nat → Prop} {u u' : St} {a : Nat} (h : FB u a) (hK : Kp S u u') (hS : ∀ k, S a k) : FB u' a := by
  intro j hj
  rw [hK.1 a j (hS j)]
  exact h j hj
/-- the worth of goes for the cell d, all facts being there -/
theorem q_goes {P : Pl} {N : Nat → Nat} {t a k d s : Nat} {Q : Int32 → St → Prop} {u : St} (hP : VP P) (hN : VN P N) (h0 : pc P ≠ 0) (hk : k < pk P) (hd : cel P d) (hs : s ≤ 1000) (ht : t + 16 ≤ 40) (ha : 165 ≤ a) (hsh : SH[a + 3]? = some (100, 23)) (hC : cCo u (t + 11) (pgo P)) (hB : FB u (a + 3))
    (hF : ∀ i, i < 8 → (u.1 (a + 3) i).toInt = gF P N k d s i) (hQ : ∀ u', Kp (fun x _ => x ≠ t + 13) u u' → Q (iI (gv P N k d s)) u') : s_X0_worth (t + 11) (a + 3) Q u := by
  have hv := hP.2.2.2.1 h0
  have hG : GF (fun i => (u.1 (a + 3) i).toInt) := hB
  have e : valM (fun i => (u.1 (a + 3) i).toInt) (pgo P) = gv P N k d s := by
    refine val_congr (S := [0, 1, 2, 3, 4, 5, 6, 7]) (fun i hi => hF i ?_) hv.2.2.2.2.2.1
    simp only [List.mem_cons, List.not_mem_nil, or_false] at hi
    omega
  have hr := (good_val hG (Nat.le_refl 64) hv.2.2.2.1).2.1
  rw [e] at hr
  have hgd : ∀ i, i < (pgo P).length → ((pgo P).map kap).getD i 0 = kap ((pgo P).getD i 0) := by
    intro i hi
    simp [List.getD_eq_getElem?_getD, hi]
  have hlen : ((pgo P).map kap).length = (pgo P).length := by simp
  refine q_worth (c := (pgo P).map kap) (F := fun i => (u.1 (a + 3) i).toInt) (by omega) (by rw [hlen]; exact hC.1) (by rw [hlen]; exact hv.2.2.2.2.2.2.2.1) (fun i hi => ?_) (fun i hi => ?_) hsh (fun i hi => iI_of rfl) hG hr hQ
  · rw [hlen] at hi
    rw [hgd i hi]
    exact hC.2 i hi
  · rw [hlen] at hi
    rw [hgd i hi]
    have h1 := hv.2.2.2.2.2.1 _ (getD_mem hi)
    have h2 : (pgo P).getD i 0 ≤ 10999 := by
      rcases h1 with h1 | h1 | h1
      · exact good_rng hv.2.2.2.1 _ (getD_mem hi)
      · omega
      · omega
    unfold kap
    repeat' split
    all_goals omega
theorem q_next {P : Pl} {N : Nat → Nat} {t b a k m : Nat} {p : Nat → Nat} {Q : Int32 → St → Prop} {u : St} (hP : VP P) (hN : VN P N) (h0 : pc P ≠ 0) (hk : k < pk P) (ht : 7 ≤ t ∧ t + 16 ≤ 40) (hb : 42 ≤ b ∧ b + 4 ≤ 51) (ha : 165 ≤ a) (hsh : SH[a + 3]? = some (100, 23)) (hT : cPl u t P) (hL : cLa u b P N)
    (hm : 0 < m ∧ m ≤ 36) (hc : cel P (p (m - 1))) (hst : u.1 a 2 = nI (m - 1)) (hS : ∀ c, cel P c → u.1 (a + 2) (pl P c) = oI (stp p m c)) (hB : FB u (a + 3)) (f0 : u.1 (a + 3) 0 = nI (N 0)) (f3 : u.1 (a + 3) 3 = nI (cbo P k)) (f4 : u.1 (a + 3) 4 = nI (cki P k))
    (hQ : ∀ r u', Bst P N k (fun d => ∃ j, j < m ∧ p j = d) (p (m - 1)) m (fun _ => True) r → Kp (fun x _ => x ≠ a + 3 ∧ x ≠ t + 13) u u' → FB u' (a + 3) → u'.1 (a + 3) 0 = nI (N 0) → u'.1 (a + 3) 3 = nI (cbo P k) → u'.1 (a + 3) 4 = nI (cki P k) → Q (oI (r.map (pl P))) u') : s_X10_nextPlace a t b (nI (pl P (p (m - 1)))) Q u := by
  have n0 := hN.1
  have h6 := hP.1
  have h7 := hP.2.1
  unfold s_X10_nextPlace
  simp only [bnd]
  refine ⟨by first | decide | (unfold vp_in; decide), ?_⟩
  rw [hst, nI_1, show m - 1 + 1 = m by omega, show ((7 : Int32)).toNatClampNeg = 7 by first | decide | (unfold vp_in; decide)]
  have hFc : ∀ u' : St, Kp (fun x _ => x ≠ a + 3 ∧ x ≠ t + 13) u u' → cPl u' t P ∧ cLa u' b P N ∧ (∀ c, cel P c → u'.1 (a + 2) (pl P c) = oI (stp p m c)) := by
    intro u' hK
    refine ⟨⟨?_, ?_, ?_, ?_, ?_⟩, ⟨?_, ?_, ?_, ?_⟩, ?_⟩
    · rw [hK.1 t 0 (by omega), hK.1 t 1 (by omega), hK.1 t 2 (by omega), hK.1 t 3 (by omega), hK.1 t 4 (by omega)]
      exact hT.1
    · intro c h
      rw [hK.1 (t + 3) _ (by omega)]
      exact hT.2.1 c h
    · intro f h
      rw [hK.1 (t + 4) _ (by omega), hK.1 (t + 5) _ (by omega), hK.1 (t + 6) _ (by omega)]
      exact hT.2.2.1 f h
    · intro f h
      rw [hK.1 (t + 8) _ (by omega), hK.1 (t + 9) _ (by omega), hK.1 (t + 10) _ (by omega)]
      exact hT.2.2.2.1 f h
    · intro h
      have q := hT.2.2.2.2 h
      refine ⟨⟨?_, fun i hi => ?_⟩, ⟨?_, fun i hi => ?_⟩⟩
      · rw [hK.1 _ _ (by omega)]
        exact q.1.1
      · rw [hK.1 _ _ (by omega)]
        exact q.1.2 i hi
      · rw [hK.1 _ _ (by omega)]
        exact q.2.1
      · rw [hK.1 _ _ (by omega)]
        exact q.2.2 i hi
    · rw [hK.1 b 0 (by omega)]
      exact hL.1
    · intro c h
      rw [hK.1 (b + 1) _ (by omega), hK.1 (b + 2) _ (by omega), hK.1 (b + 3) _ (by omega)]
      exact hL.2.1 c h
    · intro f h
      rw [hK.1 (b + 4) _ (by omega)]
      exact hL.2.2.1 f h
    · intro q h h'
      rw [hK.1 (b + 2) _ (by omega)]
      exact hL.2.2.2 q h h'
    · intro c h
      rw [hK.1 (a + 2) _ (by omega)]
      exact hS c h
  unfold sX10_nextPlace_p22
  have key := for_up (fun n i (s : Int32 × Int32 × St) => sX10_nextPlace_p22n a t b (nI (pl P (p (m - 1)))) Q n s.1 s.2.1 i s.2.2) 4
    (fun i s => ∃ r : Option Nat, Bst P N k (fun d => ∃ j, j < m ∧ p j = d) (p (m - 1)) m (fun d => ∃ j, j < i ∧ nb P (p (m - 1)) j = some d) r ∧ s.1 = oI (r.map (pl P)) ∧ (∀ e, r = some e → s.2.1 = iI (gv P N k e m)) ∧ Kp (fun x _ => x ≠ a + 3 ∧ x ≠ t + 13) u s.2.2 ∧ FB s.2.2 (a + 3) ∧ s.2.2.1 (a + 3) 0 = nI (N 0) ∧ s.2.2.1 (a + 3) 3 = nI (cbo P k) ∧ s.2.2.1 (a + 3) 4 = nI (cki P k) ∧ s.2.2.1 (a + 3) 7 = nI m)
    ?_ 0 (-1, 0, tI u (a + 3) 7 (nI m)) (by omega) ⟨none, fun d hd => absurd hd (by rintro ⟨j, hj, _⟩; omega), rfl, fun e h => absurd h (by simp), kp_I (kp_r u) (by simp), fb_n hB (by omega), by rw [t_n _ _ (by omega)]; exact f0, by rw [t_n _ _ (by omega)]; exact f3, by rw [t_n _ _ (by omega)]; exact f4, t_s _ _ _ _⟩
  · exact key
  rintro n i ⟨v4, v5, w⟩ hi ⟨r, hb1, e4, e5, hK, hBw, g0, g3, g4, g7⟩ hnext
  simp only at e4 e5 hK hBw g0 g3 g4 g7
  subst e4
  show sX10_nextPlace_p22b a t b (nI (pl P (p (m - 1)))) Q (sX10_nextPlace_p22n a t b (nI (pl P (p (m - 1)))) Q n) (oI (r.map (pl P))) v5 (nI i) w
  unfold sX10_nextPlace_p22b
  by_cases hi4 : i = 4
  · subst hi4
    first | refine i_pos (nI_le (a := 4) (Nat.le_refl _) (by omega)) ?_ | rw [if_pos (nI_le (a := 4) (Nat.le_refl _) (by omega))]
    refine hQ r w (bst_no hb1 (fun _ _ => trivial) (fun d _ hg => ?_)) hK hBw g0 g3 g4
    exact nb_adj hP hc hg.1 hg.2.1
  have hil : i < 4 := by omega
  first | refine i_neg (nI_ge (b := 4) hil (by omega)) ?_ | rw [if_neg (nI_ge (b := 4) hil (by omega))]
  obtain ⟨hTw, hLw, hSw⟩ := hFc w hK
  refine q_beside hP hTw.1.1 hTw.1.2.1 hc hil ?_
  have hskip : ∀ w' : St, (∀ d, nb P (p (m - 1)) i = some d → ¬ Go P N (fun d => ∃ j, j < m ∧ p j = d) (p (m - 1)) d) → w' = w → sX10_nextPlace_p176 a t b (nI (pl P (p (m - 1)))) (oI (r.map (pl P))) v5 (nI i) Q (sX10_nextPlace_p22n a t b (nI (pl P (p (m - 1)))) Q n) w' := by
    rintro w' hng rfl
    show sX10_nextPlace_p22n a t b (nI (pl P (p (m - 1)))) Q n (oI (r.map (pl P))) v5 (nI i + 1) w'
    rw [nI_1]
    refine hnext hil (oI (r.map (pl P)), v5, w') ⟨r, bst_no hb1 (fun d hd => ?_) (fun d hd hg => ?_), rfl, e5, hK, hBw, g0, g3, g4, g7⟩
    · obtain ⟨j, hj, e⟩ := hd
      exact ⟨j, by omega, e⟩
    · obtain ⟨j, hj, e⟩ := hd
      by_cases hji : j = i
      · rw [hji] at e
        exact absurd hg (hng d e)
      · exact ⟨j, by omega, e⟩
  cases hnb : nb P (p (m - 1)) i with
  | none =>
    first | refine i_pos (by rfl) ?_ | rw [if_pos (by rfl)]
    exact hskip w (fun d hd => by rw [hnb] at hd; exact absurd hd (by simp)) rfl
  | some d =>
    obtain ⟨hd, hadj⟩ := nb_cel hP hc hnb
    have hpd := pl_36 hP hd
    have hpc := pl_36 hP hc
    rw [show oI (Option.map (pl P) (some d)) = nI (pl P d) from rfl]
    first | refine i_neg (by rw [x_ne1 (by omega)]; exact id) ?_ | rw [if_neg (by rw [x_ne1 (by omega)]; exact id)]
    refine ⟨vp_in_nI hpd (by omega), ?_⟩
    rw [nI_clamp (by omega), hSw d hd]
    first | rw [ite_e (oI_m1 (fun x hx => by have := (stp_some hx).1; omega))] | rw [oI_m1 (fun x hx => by have := (stp_some hx).1; omega)]
    by_cases hv : stp p m d = none
    · first | refine i_pos hv ?_ | rw [if_pos hv]
      have hnv : ¬ ∃ j, j < m ∧ p j = d := by
        rintro ⟨j, hj, e⟩
        exact stp_none.mp hv j hj e
      refine q_flows hP hN hLw hc hd (fun rr hrr => ?_)
      rcases hrr with ⟨rfl, hfl⟩ | ⟨rfl, hfl⟩
      · have hgo : Go P N (fun d => ∃ j, j < m ∧ p j = d) (p (m - 1)) d := ⟨hd, hadj, hnv, hfl.1, hfl.2⟩
        first | refine i_neg (by first | decide | (unfold vp_in; decide)) ?_ | rw [if_neg (by first | decide | (unfold vp_in; decide))]
        refine ⟨vp_in_nI hpd (by omega), ?_⟩
        rw [hTw.2.1 d hd]
        first | rw [ite_e (oI_m1 (fun x hx => by have := (fAt_some hx).1; have := hP.2.2.2.2.1; omega))] | rw [oI_m1 (fun x hx => by have := (fAt_some hx).1; have := hP.2.2.2.2.1; omega)]
        have hnd := hN.2.1 d hd
        have hfin : ∀ x : Int32, x = nI (pieAt P N d) → sX10_nextPlace_p95 a t b (nI (pl P (p (m - 1)))) (oI (r.map (pl P))) v5 (nI i) (nI (pl P d)) x 1 (a + 3) Q (sX10_nextPlace_p22n a t b (nI (pl P (p (m - 1)))) Q n) w := by
          rintro x rfl
          have hpie : pieAt P N d ≤ 9 := by
            unfold pieAt
            cases e : fAt P d with
            | none => simp
            | some f => exact hN.2.2.2.1 f (fAt_some e).1
          unfold sX10_nextPlace_p95
          simp only [bnd]
          rw [show ((1 : Int32)).toNatClampNeg = 1 by first | decide | (unfold vp_in; decide), show ((2 : Int32)).toNatClampNeg = 2 by first | decide | (unfold vp_in; decide), show ((5 : Int32)).toNatClampNeg = 5 by first | decide | (unfold vp_in; decide), show ((6 : Int32)).toNatClampNeg = 6 by first | decide | (unfold vp_in; decide), nI_clamp (by omega)]
          refine ⟨by first | decide | (unfold vp_in; decide), vp_in_nI hpd (by omega), by first | decide | (unfold vp_in; decide), vp_in_nI hpd (by omega), by first | decide | (unfold vp_in; decide), ?_⟩
          rw [t_n (a' := b + 3) _ _ (by omega), (hLw.2.1 d hd).2.2, t_n (a' := b + 1) _ _ (by omega), t_n (a' := b + 1) _ _ (by omega), (hLw.2.1 d hd).1]
          refine q_rowOf (n := pc P) ?_ h0 (by omega) (by omega) ⟨by first | decide | (unfold vp_in; decide), ?_⟩
          · rw [t_n _ _ (by omega), t_n _ _ (by omega), t_n _ _ (by omega)]
            exact hTw.1.1
          rw [pl_div hd, t_n (a' := t) _ _ (by omega), t_n (a' := t) _ _ (by omega), t_n (a' := t) _ _ (by omega), hTw.1.2.1]
          have hdr := hd.2
          have e6 : nI (pr P) - 1 - nI (d / 6) = nI (pr P - 1 - d / 6) := by
            rw [show nI (pr P) - 1 = nI (pr P - 1) from pk_sub (b := 1) (by omega), pk_sub (by omega)]
          rw [e6]
          have hBz : FB (tI (tI (tI (tI w (a + 3) 1 (nI (pieAt P N d))) (a + 3) 2 (nI (N (3 + 3 * d)))) (a + 3) 5 (nI (N (1 + 3 * d)))) (a + 3) 6 (nI (pr P - 1 - d / 6))) (a + 3) := fb_n (fb_n (fb_n (fb_n hBw (by omega)) (by omega)) (by omega)) (by omega)
          have hKz : Kp (fun x _ => x ≠ a + 3 ∧ x ≠ t + 13) u (tI (tI (tI (tI w (a + 3) 1 (nI (pieAt P N d))) (a + 3) 2 (nI (N (3 + 3 * d)))) (a + 3) 5 (nI (N (1 + 3 * d)))) (a + 3) 6 (nI (pr P - 1 - d / 6))) := kp_I (kp_I (kp_I (kp_I hK (by simp)) (by simp)) (by simp)) (by simp)
          have z0 : ∀ j, j ≠ 1 → j ≠ 2 → j ≠ 5 → j ≠ 6 → (tI (tI (tI (tI w (a + 3) 1 (nI (pieAt P N d))) (a + 3) 2 (nI (N (3 + 3 * d)))) (a + 3) 5 (nI (N (1 + 3 * d)))) (a + 3) 6 (nI (pr P - 1 - d / 6))).1 (a + 3) j = w.1 (a + 3) j := by
            intro j j1 j2 j5 j6
            rw [t_n _ _ (Or.inr j6), t_n _ _ (Or.inr j5), t_n _ _ (Or.inr j2), t_n _ _ (Or.inr j1)]
          have z1 : (tI (tI (tI (tI w (a + 3) 1 (nI (pieAt P N d))) (a + 3) 2 (nI (N (3 + 3 * d)))) (a + 3) 5 (nI (N (1 + 3 * d)))) (a + 3) 6 (nI (pr P - 1 - d / 6))).1 (a + 3) 1 = nI (pieAt P N d) := by
            rw [t_n _ _ (by omega), t_n _ _ (by omega), t_n _ _ (by omega), t_s]
          have z2 : (tI (tI (tI (tI w (a + 3) 1 (nI (pieAt P N d))) (a + 3) 2 (nI (N (3 + 3 * d)))) (a + 3) 5 (nI (N (1 + 3 * d)))) (a + 3) 6 (nI (pr P - 1 - d / 6))).1 (a + 3) 2 = nI (N (3 + 3 * d)) := by
            rw [t_n _ _ (by omega), t_n _ _ (by omega), t_s]
          have z5 : (tI (tI (tI (tI w (a + 3) 1 (nI (pieAt P N d))) (a + 3) 2 (nI (N (3 + 3 * d)))) (a + 3) 5 (nI (N (1 + 3 * d)))) (a + 3) 6 (nI (pr P - 1 - d / 6))).1 (a + 3) 5 = nI (N (1 + 3 * d)) := by
            rw [t_n _ _ (by omega), t_s]
          have z6 : (tI (tI (tI (tI w (a + 3) 1 (nI (pieAt P N d))) (a + 3) 2 (nI (N (3 + 3 * d)))) (a + 3) 5 (nI (N (1 + 3 * d)))) (a + 3) 6 (nI (pr P - 1 - d / 6))).1 (a + 3) 6 = nI (pr P - 1 - d / 6) := t_s _ _ _ _
          generalize (tI (tI (tI (tI w (a + 3) 1 (nI (pieAt P N d))) (a + 3) 2 (nI (N (3 + 3 * d)))) (a + 3) 5 (nI (N (1 + 3 * d)))) (a + 3) 6 (nI (pr P - 1 - d / 6))) = z at hBz hKz z0 z1 z2 z5 z6
          have hcal := hP.2.2.2.2.2.2.2.2.1 k hk
          refine q_goes (d := d) (s := m) (k := k) hP hN h0 hk hd (by omega) (by omega) ha hsh ((hFc z hKz).1.2.2.2.2 h0).1 hBz ?_ ?_
          · intro j hj
            have : j = 0 ∨ j = 1 ∨ j = 2 ∨ j = 3 ∨ j = 4 ∨ j = 5 ∨ j = 6 ∨ j = 7 := by omega
            rcases this with rfl | rfl | rfl | rfl | rfl | rfl | rfl | rfl
            · rw [z0 0 (by omega) (by omega) (by omega) (by omega), g0, nI_toInt (by omega)]; rfl
            · rw [z1, nI_toInt (by omega)]; rfl
            · rw [z2, nI_toInt (by omega)]; rfl
            · rw [z0 3 (by omega) (by omega) (by omega) (by omega), g3, nI_toInt (by omega)]; rfl
            · rw [z0 4 (by omega) (by omega) (by omega) (by omega), g4, nI_toInt (by omega)]; rfl
            · rw [z5, nI_toInt (by omega)]; rfl
            · rw [z6, nI_toInt (by omega)]; rfl
            · rw [z0 7 (by omega) (by omega) (by omega) (by omega), g7, nI_toInt (by omega)]; rfl
          · intro y hy
            have hKy : Kp (fun x _ => x ≠ a + 3 ∧ x ≠ t + 13) u y := kp_t hKz (kp_m hy (fun x _ h => h.2))
            have hBy : FB y (a + 3) := fb_K hBz hy (fun _ => by omega)
            have y0 : y.1 (a + 3) 0 = nI (N 0) := by rw [hy.1 (a + 3) 0 (by omega), z0 0 (by omega) (by omega) (by omega) (by omega)]; exact g0
            have y3 : y.1 (a + 3) 3 = nI (cbo P k) := by rw [hy.1 (a + 3) 3 (by omega), z0 3 (by omega) (by omega) (by omega) (by omega)]; exact g3
            have y4 : y.1 (a + 3) 4 = nI (cki P k) := by rw [hy.1 (a + 3) 4 (by omega), z0 4 (by omega) (by omega) (by omega) (by omega)]; exact g4
            have y7 : y.1 (a + 3) 7 = nI m := by rw [hy.1 (a + 3) 7 (by omega), z0 7 (by omega) (by omega) (by omega) (by omega)]; exact g7
            have hgb := gv_b (st := m) hP hN h0 hk hd (by omega)
            have hD1 : ∀ x, (∃ j, j < i ∧ nb P (p (m - 1)) j = some x) → x < d := by
              rintro x ⟨j, hj, e⟩
              exact nb_lt hj hil e hnb
            have hD2 : ∀ x, (∃ j, j < i + 1 ∧ nb P (p (m - 1)) j = some x) → Go P N (fun d => ∃ j, j < m ∧ p j = d) (p (m - 1)) x → (∃ j, j < i ∧ nb P (p (m - 1)) j = some x) ∨ x = d := by
              rintro x ⟨j, hj, e⟩ _
              by_cases hji : j = i
              · rw [hji, hnb] at e
                exact Or.inr (Option.some.inj e).symm
              · exact Or.inl ⟨j, by omega, e⟩
            have hD3 : ∀ x, (∃ j, j < i ∧ nb P (p (m - 1)) j = some x) → ∃ j, j < i + 1 ∧ nb P (p (m - 1)) j = some x := by
              rintro x ⟨j, hj, e⟩
              exact ⟨j, by omega, e⟩
            have htake : ((r = none ∧ some d = some d) ∨ ∃ e, r = some e ∧ ((gv P N k d m ≤ gv P N k e m ∧ some d = some e) ∨ (gv P N k e m < gv P N k d m ∧ some d = some d))) → sX10_nextPlace_p168 a t b (nI (pl P (p (m - 1)))) (nI i) (nI (pl P d)) (iI (gv P N k d m)) Q (sX10_nextPlace_p22n a t b (nI (pl P (p (m - 1)))) Q n) y := by
              intro hr
              show sX10_nextPlace_p22n a t b (nI (pl P (p (m - 1)))) Q n (nI (pl P d)) (iI (gv P N k d m)) (nI i + 1) y
              rw [nI_1]
              exact hnext hil (nI (pl P d), iI (gv P N k d m), y) ⟨some d, bst_add hb1 hgo hD1 hD2 hD3 ⟨i, by omega, hnb⟩ hr, rfl, fun e he => by rw [Option.some.inj he], hKy, hBy, y0, y3, y4, y7⟩
            cases r with
            | none =>
              first | refine i_pos (by rfl) ?_ | rw [if_pos (by rfl)]
              exact htake (Or.inl ⟨rfl, rfl⟩)
            | some e =>
              have hce : cel P e := hb1.2.1.1
              have hpe := pl_36 hP hce
              have hge := gv_b (st := m) hP hN h0 hk hce (by omega)
              show (if nI (pl P e) = -1 then _ else _)
              first | refine i_neg (by rw [x_ne1 (by omega)]; exact id) ?_ | rw [if_neg (by rw [x_ne1 (by omega)]; exact id)]
              rw [e5 e rfl]
              first | rw [ite_e (iI_le (by omega) (by omega) (by omega) (by omega))] | rw [iI_le (by omega) (by omega) (by omega) (by omega)]
              by_cases hle : gv P N k d m ≤ gv P N k e m
              · first | refine i_pos hle ?_ | rw [if_pos hle]
                show sX10_nextPlace_p22n a t b (nI (pl P (p (m - 1)))) Q n (nI (pl P e)) (iI (gv P N k e m)) (nI i + 1) y
                rw [nI_1]
                exact hnext hil (nI (pl P e), iI (gv P N k e m), y) ⟨some e, bst_add hb1 hgo hD1 hD2 hD3 ⟨i, by omega, hnb⟩ (Or.inr ⟨e, rfl, Or.inl ⟨hle, rfl⟩⟩), rfl, fun e2 he => by rw [Option.some.inj he], hKy, hBy, y0, y3, y4, y7⟩
              · first | refine i_neg hle ?_ | rw [if_neg hle]
                exact htake (Or.inr ⟨e, rfl, Or.inr ⟨by omega, rfl⟩⟩)
        by_cases hfa : fAt P d = none
        · first | refine i_pos hfa ?_ | rw [if_pos hfa]
          refine hfin 0 ?_
          unfold pieAt
          rw [hfa]
          rfl
        · first | refine i_neg hfa ?_ | rw [if_neg hfa]
          cases hf : fAt P d with
          | none => exact absurd hf hfa
          | some f =>
            have hfl := (fAt_some hf).1
            have h66 := hP.2.2.2.2.1
            show vp_in (nI f) 6 ∧ _
            refine ⟨vp_in_nI (by omega) (by omega), ?_⟩
            refine hfin _ ?_
            show w.1 (b + 4) (nI f).toNatClampNeg = _
            rw [nI_clamp (by omega), hLw.2.2.1 f (by omega)]
            unfold pieAt
            rw [hf]
      · first | refine i_pos rfl ?_ | rw [if_pos rfl]
        exact hskip w (fun d' hd' hg => by
          rw [hnb] at hd'
          obtain rfl := Option.some.inj hd'
          exact hfl ⟨hg.2.2.2.1, hg.2.2.2.2⟩) rfl
    · first | refine i_neg hv ?_ | rw [if_neg hv]
      exact hskip w (fun d' hd' hg => by
        rw [hnb] at hd'
        obtain rfl := Option.some.inj hd'
        apply hv
        rw [stp_none]
        exact fun j hj e => hg.2.2.1 ⟨j, hj, e⟩) rfl
