/-! a year: the farms set their pies -/
def c09 (z : Int) : Nat := if z < 0 then 0 else if 9 < z then 9 else z.toNat
theorem c09_le (z : Int) : c09 z ≤ 9 := by
  unfold c09
  by_cases h1 : z < 0
  · first | refine i_pos h1 ?_ | rw [if_pos h1]
    try (with_reducible rfl)
    omega
  · first | refine i_neg h1 ?_ | rw [if_neg h1]
    try (with_reducible rfl)
    by_cases h2 : 9 < z
    · first | refine i_pos h2 ?_ | rw [if_pos h2]
      try (with_reducible rfl)
      omega
    · first | refine i_neg h2 ?_ | rw [if_neg h2]
      try (with_reducible rfl)
      omega
def bF (N : Nat → Nat) (f c b : Nat) : Nat → Int := fun i => if i = 0 then (N 0 : Int) else if i = 1 then (N (109 + f) : Int) else if i = 2 then (N (3 + 3 * c) : Int) else if i = 8 then (b : Int) else 0
theorem bF_0 (N : Nat → Nat) (f c b : Nat) : bF N f c b 0 = (N 0 : Int) := rfl
theorem bF_1 (N : Nat → Nat) (f c b : Nat) : bF N f c b 1 = (N (109 + f) : Int) := rfl
theorem bF_2 (N : Nat → Nat) (f c b : Nat) : bF N f c b 2 = (N (3 + 3 * c) : Int) := rfl
theorem bF_8 (N : Nat → Nat) (f c b : Nat) : bF N f c b 8 = (b : Int) := rfl
def bb (w f : Nat) : Nat := if w.testBit f = true then 1 else 0
theorem bb_le (w f : Nat) : bb w f ≤ 1 := by
  unfold bb
  by_cases h : w.testBit f = true
  · first | refine i_pos h ?_ | rw [if_pos h]
    try (with_reducible rfl)
    omega
  · first | refine i_neg h ?_ | rw [if_neg h]
    try (with_reducible rfl)
    omega
def bv (P : Pl) (N : Nat → Nat) (w f : Nat) : Nat := c09 (valM (bF N f (fce P f) (bb w f)) (pba P))
def pieN (P : Pl) (N : Nat → Nat) (w : Nat) : Nat → Nat → Nat
  | 0 => N
  | j + 1 => upN (pieN P N w j) (109 + j) (bv P (pieN P N w j) w j)
theorem bF_ok {P : Pl} {N : Nat → Nat} {w f : Nat} (hP : VP P) (hN : VN P N) (hf : f < pf P) : GF (bF N f (fce P f) (bb w f)) := by
  intro k hk
  have h1 := hN.1
  have h2 := hN.2.2.2.1 f hf
  have h3 := (hN.2.1 _ (hP.2.2.2.2.2.2.1 f hf).1).2.2
  have h4 := bb_le w f
  unfold bF
  repeat' split
  all_goals omega
theorem vn_pie {P : Pl} {N : Nat → Nat} {j x : Nat} (hP : VP P) (hN : VN P N) (hj : j < pf P) (hx : x ≤ 9) : VN P (upN N (109 + j) x) := by
  refine ⟨by rw [upN_n _ (by omega)]; exact hN.1, fun c hc => ?_, fun c hc h => ?_, fun g hg => ?_, fun g hg hg6 => ?_, ?_, fun k hk => ?_⟩
  · have h36 := cel_lt hP hc
    rw [upN_n _ (by omega), upN_n _ (by omega), upN_n _ (by omega)]
    exact hN.2.1 c hc
  · rw [upN_n _ (by omega)]
    exact hN.2.2.1 c hc h
  · by_cases eg : g = j
    · rw [eg, upN_s]
      omega
    · rw [upN_n _ (by omega)]
      exact hN.2.2.2.1 g hg
  · rw [upN_n _ (by omega)]
    exact hN.2.2.2.2.1 g hg hg6
  · have := hP.2.2.2.2.1
    rw [upN_n _ (by omega)]
    exact hN.2.2.2.2.2.1
  · have := hP.2.2.2.2.1
    rw [upN_n _ (by omega)]
    exact hN.2.2.2.2.2.2 k hk
theorem pie_vn {P : Pl} {N : Nat → Nat} {w : Nat} (hP : VP P) (hN : VN P N) : ∀ m, m ≤ pf P → VN P (pieN P N w m)
  | 0, _ => hN
  | m + 1, h => vn_pie hP (pie_vn hP hN m (by omega)) (by omega) (c09_le _)
theorem pie_n {P : Pl} {N : Nat → Nat} {w x : Nat} : ∀ m, (x < 109 ∨ 109 + m ≤ x) → pieN P N w m x = N x
  | 0, _ => rfl
  | m + 1, h => by
    unfold pieN
    rw [upN_n _ (by omega)]
    exact pie_n m (by omega)
theorem wet_n {N p : Nat → Nat} {x : Nat} : ∀ m, (∀ i, i < m → x ≠ 3 + 3 * p i) → wetN N p m x = N x
  | 0, _ => rfl
  | m + 1, h => by
    unfold wetN
    rw [upN_n _ (h m (by omega))]
    exact wet_n m (fun i hi => h i (by omega))
theorem q_bakes {P : Pl} {t : Nat} {F : Nat → Int} {Q : Int32 → St → Prop} {u : St} (hP : VP P) (h0 : pc P ≠ 0) (ht : t + 16 ≤ 40) (hC : cCo u (t + 14) (pba P)) (hB : FB u 173)
    (f0 : (u.1 173 0).toInt = F 0) (f1 : (u.1 173 1).toInt = F 1) (f2 : (u.1 173 2).toInt = F 2) (f8 : (u.1 173 8).toInt = F 8) (hQ : ∀ u', Kp (fun x _ => x ≠ t + 16) u u' → -1000000 ≤ valM F (pba P) ∧ valM F (pba P) ≤ 1000000 → Q (iI (valM F (pba P))) u') : s_X0_worth (t + 14) 173 Q u := by
  have hv := hP.2.2.2.1 h0
  have hG : GF (fun i => (u.1 173 i).toInt) := hB
  have e : valM (fun i => (u.1 173 i).toInt) (pba P) = valM F (pba P) := by
    refine val_congr (S := [0, 1, 2, 8]) (fun i hi => ?_) hv.2.2.2.2.2.2.1
    simp only [List.mem_cons, List.not_mem_nil, or_false] at hi
    rcases hi with rfl | rfl | rfl | rfl
    · exact f0
    · exact f1
    · exact f2
    · exact f8
  have hg := good_val hG (Nat.le_refl 64) hv.2.2.2.2.1
  have hr := hg.2.1
  rw [e] at hr
  rw [e] at hg
  have hgd : ∀ i, i < (pba P).length → ((pba P).map kap).getD i 0 = kap ((pba P).getD i 0) := by
    intro i hi
    simp [List.getD_eq_getElem?_getD, hi]
  have hlen : ((pba P).map kap).length = (pba P).length := by simp
  refine q_worth (c := (pba P).map kap) (F := fun i => (u.1 173 i).toInt) (by omega) (by rw [hlen]; exact hC.1) (by rw [hlen]; exact hv.2.2.2.2.2.2.2.2) (fun i hi => ?_) (fun i hi => ?_) rfl (fun i hi => iI_of rfl) hG hr (fun u' hK => hQ u' hK ⟨hg.2.2.1, hg.2.2.2.1⟩)
  · rw [hlen] at hi
    rw [hgd i hi]
    exact hC.2 i hi
  · rw [hlen] at hi
    rw [hgd i hi]
    have h1 := hv.2.2.2.2.2.2.1 _ (getD_mem hi)
    have h2 : (pba P).getD i 0 ≤ 10999 := by
      rcases h1 with h1 | h1 | h1
      · exact good_rng hv.2.2.2.2.1 _ (getD_mem hi)
      · omega
      · omega
    unfold kap
    repeat' split
    all_goals omega
theorem q_c09 {z : Int} {Q : Int32 → St → Prop} {u : St} (h1 : -1000000 ≤ z) (h2 : z ≤ 1000000) (hQ : Q (nI (c09 z)) u) : s_J9_min_7cf53 (iI z) (9 : Int32) (fun r50 u51 => s_J9_max_7cf53 (0 : Int32) r50 Q u51) u := by
  unfold s_J9_min_7cf53 s_J9_max_7cf53
  unfold c09 at hQ
  have e9 : ((9 : Int32) < iI z) = (9 < z) := iI_lt (a := 9) (by omega) (by omega) (by omega) (by omega)
  have e0 : ((0 : Int32) < iI z) = (0 < z) := iI_lt (a := 0) (by omega) (by omega) (by omega) (by omega)
  by_cases c : 9 < z
  · rw [if_neg (by omega), if_pos c] at hQ
    refine i_pos (e9.mpr c) (i_pos (by first | decide | (unfold vp_in; decide)) hQ)
  · refine i_neg (fun h => c (e9.mp h)) ?_
    by_cases c0 : z < 0
    · rw [if_pos c0] at hQ
      exact i_neg (fun h => absurd (e0.mp h) (by omega)) hQ
    · rw [if_neg c0, if_neg c, nI_iI (by omega), show ((z.toNat : Nat) : Int) = z by omega] at hQ
      by_cases c1 : z = 0
      · refine i_neg (fun h => absurd (e0.mp h) (by omega)) ?_
        rw [c1] at hQ
        exact hQ
      · exact i_pos (e0.mpr (by omega)) hQ
theorem cLa_pie42 {u : St} {P : Pl} {N : Nat → Nat} {f x : Nat} (hP : VP P) (h : cLa u 42 P N) (hf : f < 6) : cLa (tI u 46 f (nI x)) 42 P (upN N (109 + f) x) := by
  refine ⟨by rw [t_n _ _ (by omega), upN_n _ (by omega)]; exact h.1, fun c hc => ?_, fun g hg => ?_, fun p hp hpa => ?_⟩
  · have h36 := cel_lt hP hc
    rw [t_n _ _ (by omega), t_n _ _ (by omega), t_n _ _ (by omega), upN_n _ (by omega), upN_n _ (by omega), upN_n _ (by omega)]
    exact h.2.1 c hc
  · by_cases e : g = f
    · rw [e, upN_s]
      exact t_s _ _ _ _
    · rw [t_n _ _ (by omega), upN_n _ (by omega)]
      exact h.2.2.1 g hg
  · rw [t_n _ _ (by omega)]
    exact h.2.2.2 p hp hpa
/-- the end of a year of the class -/
def yEnd (v1 : Int32) (v2 : Nat) (Q : Int32 → St → Prop) (u : St) : Prop := s_J6_bitCount_0f7a4 (u.1 v2 4) (fun r12 u13 => s_X3_keep (u13.1 42 1) (u13.1 42 0) v1 r12 (fun r16 u17 => bnd (tI u17 42 1 r16) (fun u18 => s_J9_min_7cf53 ((u18.1 42 0) + (1 : Int32)) (999 : Int32) (fun r20 u21 => bnd (tI u21 42 0 r20) (fun u22 => s_X11_forgetWays (fun u24 => Q r12 u24) u22)) u18)) u13) u
theorem q_pies {P : Pl} {N : Nat → Nat} {t a w : Nat} {v1 : Int32} {Q : Int32 → St → Prop} {u : St} (hP : VP P) (hN : VN P N) (h0 : pc P ≠ 0) (ht : 7 ≤ t ∧ t + 16 ≤ 40) (et : u.2.2.1 = t) (ha : 178 ≤ a) (hw : u.1 a 4 = nI w) (hw64 : w < 64) (hT : cPl u t P) (hL : cLa u 42 P N) (hB : FB u 173)
    (hQ : ∀ u', Kp (fun x _ => x ≠ 46 ∧ x ≠ 173 ∧ x ≠ t + 16) u u' → cLa u' 42 P (pieN P N w (pf P)) → FB u' 173 → yEnd v1 a Q u') : sX11_passYear_p59 v1 a Q (0 : Int32) u := by
  have h6 := hP.2.2.2.2.1
  unfold sX11_passYear_p59
  refine for_up (fun n i s => sX11_passYear_p59n v1 a Q n i s) (pf P) (fun i s => Kp (fun x _ => x ≠ 46 ∧ x ≠ 173 ∧ x ≠ t + 16) u s ∧ cLa s 42 P (pieN P N w i) ∧ FB s 173) ?_ 0 u (by omega) ⟨kp_r u, hL, hB⟩
  rintro n i s hi ⟨hK, hLs, hBs⟩ hnext
  show sX11_passYear_p59b v1 a Q (sX11_passYear_p59n v1 a Q n) (nI i) s
  have es : s.2.2.1 = t := by rw [hK.2.2]; exact et
  have hTs : cPl s t P := cPl_K hT hK (fun x k h1 h2 h3 h4 => by omega)
  have hV := pie_vn (w := w) hP hN i hi
  unfold sX11_passYear_p59b
  rw [es, hTs.1.2.2.2.1]
  by_cases hie : i = pf P
  · rw [hie] at hLs ⊢
    exact i_pos (nI_le (Nat.le_refl _) (by omega)) (hQ s hK hLs hBs)
  refine i_neg (nI_ge (by omega) (by omega)) ?_
  have hc := (hP.2.2.2.2.2.2.1 i (by omega)).1
  have hpl := pl_36 hP hc
  have hn0 := hV.1
  have hpi := hV.2.2.2.1 i (by omega)
  have hwt := (hV.2.1 _ hc).2.2
  have r0 : s.1 42 0 = nI (pieN P N w i 0) := hLs.1
  have r1 : s.1 46 i = nI (pieN P N w i (109 + i)) := hLs.2.2.1 i (by omega)
  have r2 : s.1 45 (pl P (fce P i)) = nI (pieN P N w i (3 + 3 * fce P i)) := (hLs.2.1 _ hc).2.2
  have r5 : s.1 (t + 5) i = nI (pl P (fce P i)) := (hTs.2.2.1 i (by omega)).2.1
  have hwa : s.1 a 4 = nI w := by rw [hK.1 a 4 (by omega)]; exact hw
  have hC14 : cCo s (t + 14) (pba P) := (hTs.2.2.2.2 h0).2
  have c0 : ((0 : Int32)).toNatClampNeg = 0 := by first | decide | (unfold vp_in; decide)
  have c1 : ((1 : Int32)).toNatClampNeg = 1 := by first | decide | (unfold vp_in; decide)
  have c2 : ((2 : Int32)).toNatClampNeg = 2 := by first | decide | (unfold vp_in; decide)
  have c8 : ((8 : Int32)).toNatClampNeg = 8 := by first | decide | (unfold vp_in; decide)
  refine ⟨by first | decide | (unfold vp_in; decide), bnd_i ?_⟩
  rw [c0, r0, nI_clamp (by omega)]
  refine ⟨vp_in_nI (by omega) (by omega), by first | decide | (unfold vp_in; decide), bnd_i ?_⟩
  rw [c1, t_n (a' := 46) _ _ (by omega), r1]
  refine ⟨vp_in_nI (by omega) (by omega), ?_⟩
  rw [t_n (a' := t + 5) _ _ (by omega), t_n (a' := t + 5) _ _ (by omega), r5, nI_clamp (by omega)]
  refine ⟨vp_in_nI (by omega) (by omega), by first | decide | (unfold vp_in; decide), bnd_i ?_⟩
  rw [c2, t_n (a' := 45) _ _ (by omega), t_n (a' := 45) _ _ (by omega), r2]
  have hK3 : Kp (fun x _ => x ≠ 173) s (tI (tI (tI s 173 0 (nI (pieN P N w i 0))) 173 1 (nI (pieN P N w i (109 + i)))) 173 2 (nI (pieN P N w i (3 + 3 * fce P i)))) := kp_I (kp_I (kp_I (kp_r s) (by omega)) (by omega)) (by omega)
  have q0 : (tI (tI (tI s 173 0 (nI (pieN P N w i 0))) 173 1 (nI (pieN P N w i (109 + i)))) 173 2 (nI (pieN P N w i (3 + 3 * fce P i)))).1 173 0 = nI (pieN P N w i 0) := by rw [t_n _ _ (by omega), t_n _ _ (by omega), t_s]
  have q1 : (tI (tI (tI s 173 0 (nI (pieN P N w i 0))) 173 1 (nI (pieN P N w i (109 + i)))) 173 2 (nI (pieN P N w i (3 + 3 * fce P i)))).1 173 1 = nI (pieN P N w i (109 + i)) := by rw [t_n _ _ (by omega), t_s]
  have q2 : (tI (tI (tI s 173 0 (nI (pieN P N w i 0))) 173 1 (nI (pieN P N w i (109 + i)))) 173 2 (nI (pieN P N w i (3 + 3 * fce P i)))).1 173 2 = nI (pieN P N w i (3 + 3 * fce P i)) := t_s _ _ _ _
  have hB3 : FB (tI (tI (tI s 173 0 (nI (pieN P N w i 0))) 173 1 (nI (pieN P N w i (109 + i)))) 173 2 (nI (pieN P N w i (3 + 3 * fce P i)))) 173 := fb_n (fb_n (fb_n hBs (by omega)) (by omega)) (by omega)
  generalize (tI (tI (tI s 173 0 (nI (pieN P N w i 0))) 173 1 (nI (pieN P N w i (109 + i)))) 173 2 (nI (pieN P N w i (3 + 3 * fce P i)))) = s3 at hK3 q0 q1 q2 hB3
  have hgo : ∀ b : Nat, b = bb w i → sX11_passYear_p140 v1 a (nI i) (nI b) (8 : Int32) Q (sX11_passYear_p59n v1 a Q n) s3 := by
    intro b hb
    have hb1 := bb_le w i
    unfold sX11_passYear_p140
    refine ⟨by first | decide | (unfold vp_in; decide), bnd_i ?_⟩
    rw [c8]
    have hK4 : Kp (fun x _ => x ≠ 173) s (tI s3 173 8 (nI b)) := kp_I hK3 (by omega)
    have p0 : (tI s3 173 8 (nI b)).1 173 0 = nI (pieN P N w i 0) := by rw [t_n _ _ (by omega)]; exact q0
    have p1 : (tI s3 173 8 (nI b)).1 173 1 = nI (pieN P N w i (109 + i)) := by rw [t_n _ _ (by omega)]; exact q1
    have p2 : (tI s3 173 8 (nI b)).1 173 2 = nI (pieN P N w i (3 + 3 * fce P i)) := by rw [t_n _ _ (by omega)]; exact q2
    have p8 : (tI s3 173 8 (nI b)).1 173 8 = nI b := t_s _ _ _ _
    have hB4 : FB (tI s3 173 8 (nI b)) 173 := fb_n hB3 (by omega)
    generalize tI s3 173 8 (nI b) = s4 at hK4 p0 p1 p2 p8 hB4
    have e4 : s4.2.2.1 = t := by rw [hK4.2.2]; exact es
    have hC4 : cCo s4 (t + 14) (pba P) := by
      refine ⟨?_, fun j hj => ?_⟩
      · rw [hK4.1 _ _ (by omega)]
        exact hC14.1
      · rw [hK4.1 _ _ (by omega)]
        exact hC14.2 j hj
    rw [e4]
    refine q_bakes (F := bF (pieN P N w i) i (fce P i) (bb w i)) hP h0 ht.2 hC4 hB4 ?_ ?_ ?_ ?_ (fun s5 hK5 hv => ?_)
    · rw [p0, nI_toInt (by omega), bF_0]
    · rw [p1, nI_toInt (by omega), bF_1]
    · rw [p2, nI_toInt (by omega), bF_2]
    · rw [p8, nI_toInt (by omega), bF_8, hb]
    refine q_c09 hv.1 hv.2 ⟨vp_in_nI (by omega) (by omega), bnd_i ?_⟩
    rw [nI_clamp (by omega), nI_1]
    have k5 : Kp (fun x _ => x ≠ 46 ∧ x ≠ 173 ∧ x ≠ t + 16) s s5 := kp_t (kp_m hK4 (fun a k h => by omega)) (kp_m hK5 (fun a k h => by omega))
    have hL5 : cLa s5 42 P (pieN P N w i) := cLa_K (cLa_K hLs hK4 (fun x k h1 h2 h3 => by omega)) hK5 (fun x k h1 h2 h3 => by omega)
    have hB5 : FB s5 173 := fb_K hB4 hK5 (fun j => by omega)
    refine hnext (by omega) _ ⟨kp_t hK (kp_I k5 (by omega)), ?_, fb_n hB5 (Nat.le_trans (c09_le _) (by omega))⟩
    exact cLa_pie42 hP hL5 (by omega)
  refine q_waters (w := w) (by rw [hK3.1 a 4 (by omega)]; exact hwa) hw64 (by omega) (fun hb => ?_) (fun hb => ?_)
  · refine i_neg (by first | decide | (unfold vp_in; decide)) (hgo 1 ?_)
    unfold bb
    first | refine i_pos hb ?_ | rw [if_pos hb]
    try (with_reducible rfl)
  · refine i_pos rfl (hgo 0 ?_)
    unfold bb
    first | refine i_neg hb ?_ | rw [if_neg hb]
    try (with_reducible rfl)
theorem c09_n {n : Nat} (h : n ≤ 9) : c09 (n : Int) = n := by
  unfold c09
  first | refine i_neg (by omega) ?_ | rw [if_neg (by omega)]
  first | refine i_neg (by omega) ?_ | rw [if_neg (by omega)]
  try (with_reducible rfl)
  omega
theorem r_bakedBy {P : Pl} {N p : Nat → Nat} {m f : Nat} {Q : Int32 → St → Prop} {u : St} (hP : VP P) (hN : VN P N) (h0 : pc P ≠ 0) (hf : f < pf P) (hM : mPl u P) (hL : mLa u N) (hW : WayN u p m) (hm : m ≤ 36) (hd : ∀ i j, i < j → j < m → p i ≠ p j)
    (hQ : ∀ u', Kp (fun a k => ¬ (a = 198 ∧ (k = 57 ∨ k = 62 ∨ k = 115))) u u' → Q (nI (bv P N (wb P p m) f)) u') : s_X12_bakedBy (nI f) Q u := by
  have h6 := hP.2.2.2.2.1
  have hv := hP.2.2.2.1 h0
  have hpie := hN.2.2.2.1 f hf
  have hc := (hP.2.2.2.2.2.2.1 f hf).1
  have h36 := cel_lt hP hc
  have hwt := (hN.2.1 _ hc).2.2
  have hn0 := hN.1
  unfold s_X12_bakedBy
  refine ⟨by first | decide | (unfold vp_in; decide), ?_⟩
  rw [show ((3 : Int32)).toNatClampNeg = 3 by first | decide | (unfold vp_in; decide)]
  rcases (hM.2.2.2 h0).2 with ⟨e1, e2⟩ | ⟨fr, e1, e2, e3, e4⟩
  · rw [show u.1 238 3 = -1 from e1]
    refine i_pos rfl ?_
    refine r_pieOf hL (by omega) ?_
    have e : bv P N (wb P p m) f = N (109 + f) := by
      unfold bv
      rw [e2, show valM (bF N f (fce P f) (bb (wb P p m) f)) [41] = (N (109 + f) : Int) from rfl, c09_n hpie]
    rw [← e]
    exact hQ u (kp_r u)
  · rw [show u.1 238 3 = nI fr from e1]
    refine i_neg (by rw [x_ne1 (by omega)]; exact id) ?_
    have hgo : ∀ b : Nat, b = bb (wb P p m) f → sX12_bakedBy_p30 (nI f) (nI b) Q u := by
      intro b hb
      have hb1 := bb_le (wb P p m) f
      unfold sX12_bakedBy_p30
      refine bnd_i ?_
      have hK1 : Kp (fun a k => ¬ (a = 198 ∧ (k = 57 ∨ k = 62 ∨ k = 115))) u (tI u 198 62 (nI b)) := kp_I (kp_r u) (by omega)
      have e62 : (tI u 198 62 (nI b)).1 198 62 = nI b := t_s _ _ _ _
      generalize tI u 198 62 (nI b) = x at hK1 e62
      have hMx : mPl x P := mPl_K hM hK1 (fun x k h => by omega)
      have hLx : mLa x N := mLa_K hL hK1 (fun k => by omega)
      have hg := good_val (bF_ok (w := wb P p m) hP hN hf) (Nat.le_refl 64) hv.2.2.2.2.1
      refine r_codes (w := 1) (fr := fr) (c := pba P) (F := bF N f (fce P f) (bb (wb P p m) f)) (by omega) (by rw [hK1.1 238 _ (by omega)]; exact e1) (by rw [hK1.1 239 _ (by omega)]; exact e2) e3 (fun i hi => by rw [hK1.1 240 _ (by omega)]; exact e4 i hi) (fun t ht => ?_) (bF_ok hP hN hf) hv.2.2.2.2.1 (fun u' hK' h57 i Q' hi hi13 hq => ?_) (fun u' hK' => ?_)
      · rcases hv.2.2.2.2.2.2.1 t ht with h | h | h
        · exact Or.inl h
        · exact Or.inr (Or.inl ⟨h.1, h.2.1⟩)
        · exact Or.inr (Or.inr h)
      · have hMu : mPl u' P := mPl_K hMx hK' (fun x k h => by omega)
        have hLu : mLa u' N := mLa_K hLx hK' (fun k => by omega)
        have hi8 : i = 0 ∨ i = 1 ∨ i = 2 ∨ i = 8 := by
          rcases hv.2.2.2.2.2.2.1 _ hi with h | h | h
          · omega
          · have := h.2.2
            simp only [List.mem_cons, List.not_mem_nil, or_false] at this
            omega
          · omega
        have nl : ∀ n : Nat, n < 2147483648 → (nI n).toInt64 = lI n := fun n hn => by rw [nI_l (by omega), lN_lI (by omega)]
        unfold s_X12_qPartOf
        rw [h57]
        rcases hi8 with rfl | rfl | rfl | rfl
        · refine i_pos rfl ⟨by first | decide | (unfold vp_in; decide), ?_⟩
          rw [show ((0 : Int32)).toNatClampNeg = 0 by first | decide | (unfold vp_in; decide), hLu 0 (by omega), nl _ (by omega)]
          exact hq
        · refine i_neg (by first | decide | (unfold vp_in; decide)) (i_pos rfl (i_neg (by first | decide | (unfold vp_in; decide)) ?_))
          refine r_pieOf hLu (by omega) ?_
          rw [nl _ (by omega)]
          exact hq
        · refine i_neg (by first | decide | (unfold vp_in; decide)) (i_neg (by first | decide | (unfold vp_in; decide)) (i_pos rfl (i_neg (by first | decide | (unfold vp_in; decide)) ?_)))
          refine r_cellOf hP hMu hf (r_beenOf hLu h36 ?_)
          rw [nl _ (by omega)]
          exact hq
        · refine i_neg (by first | decide | (unfold vp_in; decide)) (i_neg (by first | decide | (unfold vp_in; decide)) (i_neg (by first | decide | (unfold vp_in; decide)) (i_neg (by first | decide | (unfold vp_in; decide)) (i_neg (by first | decide | (unfold vp_in; decide)) (i_neg (by first | decide | (unfold vp_in; decide)) (i_neg (by first | decide | (unfold vp_in; decide)) (i_neg (by first | decide | (unfold vp_in; decide)) (i_pos rfl ?_))))))))
          rw [hK'.1 198 62 (by omega), e62, nl _ (by omega), hb]
          exact hq
      · have hq := hQ u' (kp_t hK1 (kp_m hK' (fun a k h => by omega)))
        unfold bv at hq
        generalize valM (bF N f (fce P f) (bb (wb P p m) f)) (pba P) = z at hg hq
        have z1 := hg.2.2.1
        have z2 := hg.2.2.2.1
        simp only [lg_cmp_ge]
        simp only [lg_cmp_le]
        unfold c09 at hq
        have a0 : ((0 : Int64) ≤ lI z) = (0 ≤ z) := lI_le (a := 0) (by omega) (by omega) (by omega) (by omega)
        have a9 : (lI z ≤ (9 : Int64)) = (z ≤ 9) := lI_le (b := 9) (by omega) (by omega) (by omega) (by omega)
        by_cases c0 : z < 0
        · rw [if_pos c0] at hq
          exact i_neg (fun h => absurd (a0.mp h) (by omega)) hq
        · rw [if_neg c0] at hq
          refine i_pos (a0.mpr (by omega)) ?_
          by_cases c9 : 9 < z
          · rw [if_pos c9] at hq
            exact i_neg (fun h => absurd (a9.mp h) (by omega)) hq
          · rw [if_neg c9, nI_iI (by omega), show ((z.toNat : Nat) : Int) = z by omega] at hq
            refine i_pos (a9.mpr (by omega)) ?_
            rw [lI_i (by omega) (by omega)]
            exact hq
    refine r_isWatered hP hM hW hm hf (fun hw => ?_) (fun hw => ?_)
    · refine i_neg (by first | decide | (unfold vp_in; decide)) (hgo 1 ?_)
      unfold bb
      first | refine i_pos ((isW_bit hP hd hf).mpr hw) ?_ | rw [if_pos ((isW_bit hP hd hf).mpr hw)]
      try (with_reducible rfl)
    · refine i_pos rfl (hgo 0 ?_)
      unfold bb
      first | refine i_neg (fun h => hw ((isW_bit hP hd hf).mp h)) ?_ | rw [if_neg (fun h => hw ((isW_bit hP hd hf).mp h))]
      try (with_reducible rfl)
def rEnd (v1 v2 : Int32) (Q : Int32 → St → Prop) (u : St) : Prop := s_X12_isKept v1 v2 (fun u19 => vp_in (0 : Int32) 236 ∧ (bnd (tI u19 241 (0 : Int32).toNatClampNeg ((u19.1 241 (0 : Int32).toNatClampNeg) + (1 : Int32))) (fun u22 => Q v2 u22))) u
def SYr (a k : Nat) : Prop := a ≠ 241 ∧ ¬ (a = 198 ∧ (k = 57 ∨ k = 62 ∨ k = 115))
theorem wayN_K {S : Nat → Nat → Prop} {u u' : St} {p : Nat → Nat} {m : Nat} (h : WayN u p m) (hK : Kp S u u') (h1 : S 198 64) (h2 : ∀ a k, a = 242 ∨ a = 243 → S a k) : WayN u' p m := by
  refine ⟨by rw [hK.1 198 64 h1]; exact h.1, fun i hi => ?_, fun c hc => ?_⟩
  · rw [hK.1 242 i (h2 _ _ (by omega))]
    exact h.2.1 i hi
  · rw [hK.1 243 c (h2 _ _ (by omega))]
    exact h.2.2 c hc
theorem r_pies {P : Pl} {N p : Nat → Nat} {m : Nat} {v1 v2 : Int32} {Q : Int32 → St → Prop} {u : St} (hP : VP P) (hN : VN P N) (h0 : pc P ≠ 0) (hM : mPl u P) (hL : mLa u N) (hW : WayN u p m) (hm : m ≤ 36) (hd : ∀ i j, i < j → j < m → p i ≠ p j)
    (hQ : ∀ u', Kp SYr u u' → mLa u' (pieN P N (wb P p m) (pf P)) → rEnd v1 v2 Q u') : sX12_yearGoes_p65 v1 v2 Q (0 : Int32) u := by
  have h6 := hP.2.2.2.2.1
  unfold sX12_yearGoes_p65
  refine for_up (fun n i s => sX12_yearGoes_p65n v1 v2 Q n i s) (pf P) (fun i s => Kp SYr u s ∧ mLa s (pieN P N (wb P p m) i)) ?_ 0 u (by omega) ⟨kp_r u, hL⟩
  rintro n i s hi ⟨hK, hLs⟩ hnext
  show sX12_yearGoes_p65b v1 v2 Q (sX12_yearGoes_p65n v1 v2 Q n) (nI i) s
  have hMs : mPl s P := mPl_K hM hK (fun x k h => by unfold SYr; omega)
  have hWs : WayN s p m := wayN_K hW hK (by unfold SYr; omega) (fun a k h => by unfold SYr; omega)
  unfold sX12_yearGoes_p65b
  refine r_farmMany hMs ?_
  by_cases hie : i = pf P
  · rw [hie] at hLs ⊢
    exact i_pos (nI_le (Nat.le_refl _) (by omega)) (hQ s hK hLs)
  refine i_neg (nI_ge (by omega) (by omega)) ?_
  refine r_bakedBy hP (pie_vn hP hN i hi) h0 (by omega) hMs hLs hWs hm hd (fun s2 hK2 => ?_)
  rw [show (109 : Int32) + nI i = nI (109 + i) from nI_add 109 i, nI_clamp (by omega), nI_1]
  refine ⟨vp_in_nI (by omega) (by omega), bnd_i ?_⟩
  refine hnext (by omega) _ ⟨kp_I (kp_t hK (kp_m hK2 (fun a k h => by unfold SYr at h; omega))) (by unfold SYr; omega), ?_⟩
  exact mLa_up (mLa_K hLs hK2 (fun k => by omega))
