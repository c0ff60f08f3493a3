/-! ===== LED ways: the class's search ===== -/
/-- all that flows on from a reached one is reached in time -/
def Dn1 (P : Pl) (N : Nat → Nat) (n : Nat) (q : Nat → Nat × Nat × Nat) (k : Nat) : Prop := (q k).2.2 + 1 ≤ 40 → ∀ d, Flw P N (q k).1 d → ∃ j, j < n ∧ (q j).1 = d ∧ (q j).2.1 = beh P (q k).2.1 d ((q k).2.2 + 1) ∧ (q j).2.2 ≤ (q k).2.2 + 1
theorem q_goOn {P : Pl} {N : Nat → Nat} {t n k : Nat} {q : Nat → Nat × Nat × Nat} {Q : St → Prop} {z : St} (hP : VP P) (hN : VN P N) (ht : 7 ≤ t ∧ t + 16 ≤ 40) (hT : cPl z t P) (hL : cLa z 42 P N) (hB : Bq P N z n q) (hk : k < n) (hm : ∀ j, j < n → (q j).2.2 ≤ (q k).2.2 + 1)
    (hQ : ∀ z' n' q', Kp SL z z' → Bq P N z' n' q' → n ≤ n' → (∀ j, j < n → q' j = q j) → (∀ j, j < n' → (q' j).2.2 ≤ (q k).2.2 + 1) → Dn1 P N n' q' k → Q z') : s_X2_goOn t 42 (nI (pl P (q k).1 * 64 + (q k).2.1)) Q z := by
  obtain ⟨a1, a2, a3, a4, a5, a6⟩ := hB.2.2.1 k hk
  have h36 := pl_36 hP a1
  have e1 : nI (pl P (q k).1 * 64 + (q k).2.1) / (64 : Int32) = nI (pl P (q k).1) := by
    rw [show nI (pl P (q k).1 * 64 + (q k).2.1) / (64 : Int32) = nI ((pl P (q k).1 * 64 + (q k).2.1) / 64) from pk_div (d := 64) (by omega) (by omega) (by omega)]
    congr 1
    omega
  have e2 : nI (pl P (q k).1 * 64 + (q k).2.1) - nI (pl P (q k).1 * 64 + (q k).2.1) / (64 : Int32) * (64 : Int32) = nI (q k).2.1 := by
    rw [show nI (pl P (q k).1 * 64 + (q k).2.1) - nI (pl P (q k).1 * 64 + (q k).2.1) / (64 : Int32) * (64 : Int32) = nI ((pl P (q k).1 * 64 + (q k).2.1) % 64) from pk_rem (d := 64) (by omega) (by omega) (by omega)]
    congr 1
    omega
  unfold s_X2_goOn
  rw [nI_clamp (by omega), a6, nI_1, e1]
  refine ⟨vp_in_nI (by omega) (by omega), ?_⟩
  by_cases h40 : (q k).2.2 + 1 ≤ 40
  · have h40' : nI ((q k).2.2 + 1) ≤ nI 40 := nI_le h40 (by omega)
    refine i_pos h40' ?_
    unfold sX2_goOn_p27
    refine for_up (fun m i s => sX2_goOn_p27n t 42 (nI (pl P (q k).1 * 64 + (q k).2.1)) (nI (pl P (q k).1)) (nI ((q k).2.2 + 1)) Q m i s) 4 (fun i s => ∃ n' q', Kp SL z s ∧ Bq P N s n' q' ∧ n ≤ n' ∧ (∀ j, j < n → q' j = q j) ∧ (∀ j, j < n' → (q' j).2.2 ≤ (q k).2.2 + 1) ∧ ∀ i', i' < i → ∀ d, nb P (q k).1 i' = some d → N (2 + 3 * d) ≠ 1 ∧ N (1 + 3 * d) ≤ N (1 + 3 * (q k).1) → ∃ j, j < n' ∧ (q' j).1 = d ∧ (q' j).2.1 = beh P (q k).2.1 d ((q k).2.2 + 1)) ?_ 0 z (by omega) ⟨n, q, kp_r z, hB, Nat.le_refl _, fun _ _ => rfl, hm, fun i' hi' => absurd hi' (by omega)⟩
    rintro m i s hi ⟨n', q', hK, hB', hn', hq', hm', hd'⟩ hnext
    show sX2_goOn_p27b t 42 (nI (pl P (q k).1 * 64 + (q k).2.1)) (nI (pl P (q k).1)) (nI ((q k).2.2 + 1)) Q (sX2_goOn_p27n t 42 (nI (pl P (q k).1 * 64 + (q k).2.1)) (nI (pl P (q k).1)) (nI ((q k).2.2 + 1)) Q m) (nI i) s
    unfold sX2_goOn_p27b
    by_cases hi4 : i = 4
    · subst hi4
      refine i_pos (by first | decide | (unfold vp_in; decide)) (hQ s n' q' hK hB' hn' hq' hm' ?_)
      intro _ d hd
      rw [hq' k hk] at hd ⊢
      obtain ⟨i', hi', e⟩ := nb_adj hP a1 hd.1 hd.2.1
      obtain ⟨j, j1, j2, j3⟩ := hd' i' hi' d e hd.2.2
      exact ⟨j, j1, j2, j3, hm' j j1⟩
    have hi4' : ¬ nI 4 ≤ nI i := nI_ge (by omega) (by omega)
    refine i_neg hi4' ?_
    have hTs : cPl s t P := cPl_K hT hK (fun x j a b c d => by unfold SL; omega)
    have hLs : cLa s 42 P N := cLa_K hL hK (fun x j a b c => by unfold SL; omega)
    unfold sX2_goOn_p73
    rw [nI_1, e2]
    refine q_beside hP hTs.1.1 hTs.1.2.1 a1 (by omega) ?_
    cases hnb : nb P (q k).1 i with
    | none =>
      refine i_pos rfl (hnext (by omega) s ⟨n', q', hK, hB', hn', hq', hm', fun i' hi' d hd hf => ?_⟩)
      by_cases ei : i' = i
      · rw [ei, hnb] at hd
        exact absurd hd (by simp)
      · exact hd' i' (by omega) d hd hf
    | some d =>
      have hdc := (nb_cel hP a1 hnb).1
      have hadj := (nb_cel hP a1 hnb).2
      have hd36 := pl_36 hP hdc
      show (if nI (pl P d) = -1 then _ else _)
      refine i_neg (by rw [x_ne1 (by omega)]; exact id) ?_
      refine q_flows hP hN hLs a1 hdc (fun r hr => ?_)
      rcases hr with ⟨rfl, hf⟩ | ⟨rfl, hf⟩
      · refine i_neg (by first | decide | (unfold vp_in; decide)) ?_
        have hR : Rr P N ((q k).2.2 + 1) d (beh P (q k).2.1 d ((q k).2.2 + 1)) := ⟨(q k).1, (q k).2.1, a4, ⟨hdc, hadj, hf⟩, rfl⟩
        refine q_reach hP hTs hdc a2 h40 hR hB' hm' (fun s2 n2 q2 k2 b2 l2 p2 m2 x2 => ?_)
        refine hnext (by omega) s2 ⟨n2, q2, kp_t hK k2, b2, by omega, fun j hj => ?_, m2, fun i' hi' d' hd2 hf2 => ?_⟩
        · rw [p2 j (by omega)]
          exact hq' j hj
        · by_cases ei : i' = i
          · rw [ei, hnb] at hd2
            obtain rfl := Option.some.inj hd2
            exact x2
          · obtain ⟨j, j1, j2, j3⟩ := hd' i' (by omega) d' hd2 hf2
            refine ⟨j, by omega, ?_, ?_⟩
            · rw [p2 j j1]
              exact j2
            · rw [p2 j j1]
              exact j3
      · refine i_pos rfl (hnext (by omega) s ⟨n', q', hK, hB', hn', hq', hm', fun i' hi' d' hd2 hf2 => ?_⟩)
        by_cases ei : i' = i
        · rw [ei, hnb] at hd2
          obtain rfl := Option.some.inj hd2
          exact absurd hf2 hf
        · exact hd' i' (by omega) d' hd2 hf2
  · have h40' : ¬ nI ((q k).2.2 + 1) ≤ nI 40 := nI_ge (by omega) (by omega)
    exact i_neg h40' (hQ z n q (kp_r z) hB (Nat.le_refl _) (fun _ _ => rfl) hm (fun h => absurd h h40))
/-- led, where there is a way at all -/
def Lr (P : Pl) (N : Nat → Nat) (st c T : Nat) : Prop := pc P ≠ 0 ∧ N (2 + 3 * ps P) ≠ 1 ∧ Rr P N st c T
/-- what the class's search leaves behind -/
def LedC (P : Pl) (N : Nat → Nat) (z : St) : Prop := (∀ T, T < 64 → z.1 160 T = -1 ∨ ∃ s, s ≤ 40 ∧ z.1 160 T = nI s ∧ ∃ c, Lr P N s c T) ∧ ∀ st c T, st ≤ 40 → Lr P N st c T → ∃ T' s', T' < 64 ∧ Sub T T' ∧ s' ≤ st ∧ z.1 160 T' = nI s'
theorem led_dom {P : Pl} {N : Nat → Nat} {z : St} {n : Nat} {q : Nat → Nat × Nat × Nat} (hB : Bq P N z n q) (h0 : ∃ j, j < n ∧ (q j).1 = ps P ∧ (q j).2.1 = beh P 0 (ps P) 0 ∧ (q j).2.2 = 0) (hd : ∀ k, k < n → Dn1 P N n q k) : ∀ st c T, st ≤ 40 → Rr P N st c T → ∃ j, j < n ∧ (q j).1 = c ∧ Sub T (q j).2.1 ∧ (q j).2.2 ≤ st
  | 0, c, T, _, h => by
    obtain ⟨j, j1, j2, j3, j4⟩ := h0
    rw [h.1, h.2]
    exact ⟨j, j1, j2, by rw [j3]; exact fun f hf => hf, by omega⟩
  | st + 1, c, T, hst, h => by
    obtain ⟨c0, T0, h1, h2, h3⟩ := h
    obtain ⟨j, j1, j2, j3, j4⟩ := led_dom hB h0 hd st c0 T0 (by omega) h1
    rw [← j2] at h2
    obtain ⟨i, i1, i2, i3, i4⟩ := hd j j1 (by omega) c h2
    refine ⟨i, i1, i2, ?_, by omega⟩
    rw [i3, h3]
    exact beh_sub j3 (by omega)
theorem q_search {P : Pl} {N : Nat → Nat} {t : Nat} {Q : St → Prop} {u : St} (hP : VP P) (hN : VN P N) (ht : 7 ≤ t ∧ t + 16 ≤ 40) (hT : cPl u t P) (hL : cLa u 42 P N) (hQ : ∀ u', Kp SL u u' → LedC P N u' → Q u') : s_X2_search t 42 Q u := by
  have h6 := hP.1
  unfold s_X2_search
  refine q_fill (n := 2304) rfl (by omega) (fun u1 k1 f1 => ?_)
  refine q_fill (n := 64) rfl (by omega) (fun u2 k2 f2 => bnd_i ?_)
  have k3 : Kp SL u (tI u2 157 2 (0 : Int32)) := kp_I (kp_t (kp_m k1 (fun a j h => by unfold SL at h; omega)) (kp_m k2 (fun a j h => by unfold SL at h; omega))) (by unfold SL; omega)
  have g0 : (tI u2 157 2 (0 : Int32)).1 157 2 = nI 0 := t_s _ _ _ _
  have g1 : ∀ x, x < 2304 → (tI u2 157 2 (0 : Int32)).1 158 x = -1 := fun x hx => by
    rw [t_n _ _ (by omega), k2.1 158 x (by omega)]
    exact f1 x hx
  have g2 : ∀ x, x < 64 → (tI u2 157 2 (0 : Int32)).1 160 x = -1 := fun x hx => by
    rw [t_n _ _ (by omega)]
    exact f2 x hx
  generalize tI u2 157 2 (0 : Int32) = u3 at k3 g0 g1 g2
  have hT3 : cPl u3 t P := cPl_K hT k3 (fun x j a b c d => by unfold SL; omega)
  have hL3 : cLa u3 42 P N := cLa_K hL k3 (fun x j a b c => by unfold SL; omega)
  rw [hT3.1.1]
  by_cases h0 : pc P = 0
  · rw [h0]
    exact i_pos rfl (hQ u3 k3 ⟨fun T hT => Or.inl (g2 T hT), fun st c T _ h => absurd h0 h.1⟩)
  refine i_neg (nI_ne0 (by omega) (by omega)) ?_
  have hpc := ps_cel hP h0
  have hps : ps P < pc P := (hP.2.2.2.1 h0).2.2.1
  have epl : pl P (ps P) = ps P := by
    unfold pl
    rw [Nat.div_eq_of_lt (by omega), Nat.mod_eq_of_lt (by omega), Nat.zero_mul, Nat.zero_add]
  have h44 : u3.1 (42 + 2) (ps P) = nI (N (2 + 3 * ps P)) := by
    have := (hL3.2.1 _ hpc).2.1
    rw [epl] at this
    exact this
  have hn1 := (hN.2.1 _ hpc).2.1
  rw [hT3.1.2.2.1, nI_clamp (by omega), h44]
  refine ⟨vp_in_nI (by omega) (by omega), ?_⟩
  by_cases hs : N (2 + 3 * ps P) = 1
  · rw [hs]
    exact i_pos rfl (hQ u3 k3 ⟨fun T hT => Or.inl (g2 T hT), fun st c T _ h => absurd hs h.2.1⟩)
  refine i_neg (x_ne (k := 1) (by omega) (by omega) hs) ?_
  have hB0 : Bq P N u3 0 (fun _ => (0, 0, 0)) := ⟨by omega, g0, fun j hj => absurd hj (by omega), fun i j _ hj => absurd hj (by omega), fun i j _ hj => absurd hj (by omega), fun c T hc hT _ => g1 _ (by have := pl_36 hP hc; omega), fun T hT _ => g2 T hT, fun j hj => absurd hj (by omega)⟩
  have hr := q_reach (t := t) (c := ps P) (T0 := 0) (st := 0) (Q := fun u11 => sX2_search_p55 t 42 Q (0 : Int32) u11) hP hT3 hpc (by omega) (by omega) ⟨rfl, rfl⟩ hB0 (fun j hj => absurd hj (by omega)) (fun u4 n4 q4 k4 b4 _ _ m4 x4 => ?_)
  · rw [epl] at hr
    exact hr
  have k4 : Kp SL u u4 := kp_t k3 k4
  obtain ⟨j4, j41, j42, j43⟩ := x4
  have hst4 : ∃ j, j < n4 ∧ (q4 j).1 = ps P ∧ (q4 j).2.1 = beh P 0 (ps P) 0 ∧ (q4 j).2.2 = 0 := ⟨j4, j41, j42, j43, by have := m4 j4 j41; omega⟩
  unfold sX2_search_p55
  refine for_up (fun m i s => sX2_search_p55n t 42 Q m i s) 2304 (fun k s => ∃ n q, Kp SL u s ∧ Bq P N s n q ∧ k ≤ n ∧ (∃ j, j < n ∧ (q j).1 = ps P ∧ (q j).2.1 = beh P 0 (ps P) 0 ∧ (q j).2.2 = 0) ∧ (k < n → ∀ j, j < n → (q j).2.2 ≤ (q k).2.2 + 1) ∧ ∀ j, j < k → Dn1 P N n q j) ?_ 0 u4 (by omega) ⟨n4, q4, k4, b4, by omega, hst4, fun _ j hj => by have := m4 j hj; omega, fun j hj => absurd hj (by omega)⟩
  rintro m k s hk ⟨n, q, hK, hB, hkn, hst, hm, hd⟩ hnext
  show sX2_search_p55b t 42 Q (sX2_search_p55n t 42 Q m) (nI k) s
  unfold sX2_search_p55b
  have hn := hB.1
  have hfin : k = n → Q s := by
    intro e
    rw [e] at hd
    refine hQ s hK ⟨fun T hT => ?_, fun st c T hst2 hl => ?_⟩
    · by_cases hex : ∃ j, j < n ∧ (q j).2.1 = T
      · obtain ⟨j, hj, ej⟩ := hex
        obtain ⟨i, i1, i2, i3, i4⟩ := hB.2.2.2.2.2.2.2 j hj
        have hb := hB.2.2.1 i i1
        rw [ej] at i2 i4
        refine Or.inr ⟨(q i).2.2, hb.2.2.1, i4, (q i).1, h0, hs, ?_⟩
        have := hb.2.2.2.1
        rw [i2] at this
        exact this
      · exact Or.inl (hB.2.2.2.2.2.2.1 T hT (fun j hj e => hex ⟨j, hj, e⟩))
    · obtain ⟨j, j1, j2, j3, j4⟩ := led_dom hB hst hd st c T hst2 hl.2.2
      obtain ⟨i, i1, i2, i3, i4⟩ := hB.2.2.2.2.2.2.2 j j1
      exact ⟨(q j).2.1, (q i).2.2, (hB.2.2.1 j j1).2.1, j3, by omega, i4⟩
  by_cases e1 : k = 2304
  · have e1' : nI 2304 ≤ nI k := nI_le (by omega) (by omega)
    exact i_pos e1' (hfin (by omega))
  have e1' : ¬ nI 2304 ≤ nI k := nI_ge (by omega) (by omega)
  refine i_neg e1' ?_
  rw [hB.2.1]
  by_cases e2 : k = n
  · exact i_pos (nI_le (by omega) (by omega)) (hfin e2)
  refine i_neg (nI_ge (by omega) (by omega)) ?_
  have hb := hB.2.2.1 k (by omega)
  rw [nI_clamp (by omega), hb.2.2.2.2.1, nI_1]
  refine ⟨vp_in_nI (by omega) (by omega), ?_⟩
  refine q_goOn hP hN ht (cPl_K hT hK (fun x j a b c d => by unfold SL; omega)) (cLa_K hL hK (fun x j a b c => by unfold SL; omega)) hB (by omega) (hm (by omega)) (fun s2 n2 q2 k2 b2 l2 p2 m2 d2 => ?_)
  refine hnext (by omega) s2 ⟨n2, q2, kp_t hK k2, b2, by omega, ?_, fun hlt j hj => ?_, fun j hj => ?_⟩
  · obtain ⟨j, j1, j2, j3, j4⟩ := hst
    refine ⟨j, by omega, ?_, ?_, ?_⟩
    · rw [p2 j j1]
      exact j2
    · rw [p2 j j1]
      exact j3
    · rw [p2 j j1]
      exact j4
  · have h1 := m2 j hj
    have h2 := b2.2.2.2.1 k (k + 1) (by omega) hlt
    rw [p2 k (by omega)] at h2
    omega
  · by_cases ej : j = k
    · rw [ej]
      exact d2
    · have h1 := hd j (by omega)
      intro h40 d hf
      rw [p2 j (by omega)] at h40 hf ⊢
      obtain ⟨i, i1, i2, i3, i4⟩ := h1 h40 d hf
      refine ⟨i, by omega, ?_, ?_, ?_⟩
      · rw [p2 i i1]
        exact i2
      · rw [p2 i i1]
        exact i3
      · rw [p2 i i1]
        exact i4
/-- the least step in which these farms are there -/
def LsA (P : Pl) (N : Nat → Nat) (F : Nat) (r : Option Nat) : Prop := (r = none ∧ ∀ st, st ≤ 40 → ∀ c T, Sub F T → ¬ Lr P N st c T) ∨ ∃ s, s ≤ 40 ∧ r = some s ∧ (∃ c T, Sub F T ∧ Lr P N s c T) ∧ ∀ st, st < s → ∀ c T, Sub F T → ¬ Lr P N st c T
theorem lsA_u {P : Pl} {N : Nat → Nat} {F : Nat} {r r' : Option Nat} (h : LsA P N F r) (h' : LsA P N F r') : r = r' := by
  rcases h with ⟨a, b⟩ | ⟨s, a, b, ⟨c, T, d, e⟩, f⟩
  · rcases h' with ⟨a', b'⟩ | ⟨s', a', b', ⟨c', T', d', e'⟩, f'⟩
    · rw [a, a']
    · exact absurd e' (b s' a' c' T' d')
  · rcases h' with ⟨a', b'⟩ | ⟨s', a', b', ⟨c', T', d', e'⟩, f'⟩
    · exact absurd e (b' s a c T d)
    · rw [b, b']
      by_cases h1 : s < s'
      · exact absurd e (f' s h1 c T d)
      · by_cases h2 : s' < s
        · exact absurd e' (f s' h2 c' T' d')
        · rw [show s = s' by omega]
theorem q_fewest {P : Pl} {N : Nat → Nat} {F : Nat} {Q : Int32 → St → Prop} {z : St} (hF : F < 64) (hB : LedC P N z) (hQ : ∀ r, LsA P N F r → Q (oI r) z) : s_X2_fewestFor (nI F) Q z := by
  unfold s_X2_fewestFor sX2_fewestFor_p4
  have key := for_up (fun m i (s : Int32 × St) => sX2_fewestFor_p4n (nI F) Q m s.1 i s.2) 64 (fun i s => s.2 = z ∧ ∃ r : Option Nat, s.1 = oI r ∧ ((r = none ∧ ∀ T, T < i → Sub F T → z.1 160 T = -1) ∨ ∃ w, w ≤ 40 ∧ r = some w ∧ (∃ T, T < i ∧ Sub F T ∧ z.1 160 T = nI w) ∧ ∀ T, T < i → Sub F T → z.1 160 T = -1 ∨ ∃ w', w ≤ w' ∧ w' ≤ 40 ∧ z.1 160 T = nI w')) ?_ 0 (-1, z) (by omega) ⟨rfl, none, rfl, Or.inl ⟨rfl, fun T hT => absurd hT (by omega)⟩⟩
  · exact key
  rintro m i ⟨v2, s⟩ hi ⟨e1, r, e2, hr⟩ hnext
  simp only at e1 e2
  subst e1 e2
  show sX2_fewestFor_p4b (nI F) Q (sX2_fewestFor_p4n (nI F) Q m) (oI r) (nI i) s
  unfold sX2_fewestFor_p4b
  by_cases h64 : i = 64
  · subst h64
    refine i_pos (by first | decide | (unfold vp_in; decide)) (hQ r ?_)
    rcases hr with ⟨a, b⟩ | ⟨w, a, b, ⟨T, c1, c2, c3⟩, d⟩
    · refine Or.inl ⟨a, fun st hst c T hsub hl => ?_⟩
      obtain ⟨T', s', t1, t2, t3, t4⟩ := hB.2 st c T hst hl
      have := b T' t1 (fun f hf => t2 f (hsub f hf))
      rw [t4, x_ne1 (by omega)] at this
      exact this
    · refine Or.inr ⟨w, a, b, ?_, fun st hst c T hsub hl => ?_⟩
      · rcases hB.1 T c1 with h | ⟨w2, h1, h2, c, h3⟩
        · rw [c3, x_ne1 (by omega)] at h
          exact h.elim
        · rw [c3, nI_eq (by omega) (by omega)] at h2
          rw [h2]
          exact ⟨c, T, c2, h3⟩
      · obtain ⟨T', s', t1, t2, t3, t4⟩ := hB.2 st c T (by omega) hl
        rcases d T' t1 (fun f hf => t2 f (hsub f hf)) with h | ⟨w', h1, h2, h3⟩
        · rw [t4, x_ne1 (by omega)] at h
          exact h
        · rw [t4, nI_eq (by omega) (by omega)] at h3
          omega
  have h64' : ¬ nI 64 ≤ nI i := nI_ge (by omega) (by omega)
  refine i_neg h64' ?_
  unfold sX2_fewestFor_p31 sX2_fewestFor_p32 sX2_fewestFor_p54 sX2_fewestFor_p61
  rw [nI_clamp (by omega), x_and, nI_1]
  refine ⟨vp_in_nI (by omega) (by omega), ?_⟩
  have hskip : (Sub F i → s.1 160 i = -1 ∨ ∃ w w', r = some w ∧ w ≤ w' ∧ w' ≤ 40 ∧ s.1 160 i = nI w') → sX2_fewestFor_p4n (nI F) Q m (oI r) (nI (i + 1)) s := by
    intro hh
    refine hnext (by omega) (oI r, s) ⟨rfl, r, rfl, ?_⟩
    rcases hr with ⟨a, b⟩ | ⟨w, a, b, ⟨T, c1, c2, c3⟩, d⟩
    · refine Or.inl ⟨a, fun T hT hsub => ?_⟩
      by_cases e : T = i
      · rw [e] at hsub ⊢
        rcases hh hsub with h | ⟨w, w', h1, _⟩
        · exact h
        · rw [a] at h1
          exact absurd h1 (by simp)
      · exact b T (by omega) hsub
    · refine Or.inr ⟨w, a, b, ⟨T, by omega, c2, c3⟩, fun T2 hT hsub => ?_⟩
      by_cases e : T2 = i
      · rw [e] at hsub ⊢
        rcases hh hsub with h | ⟨w2, w', h1, h2, h3, h4⟩
        · exact Or.inl h
        · rw [b] at h1
          have := Option.some.inj h1
          exact Or.inr ⟨w', by omega, h3, h4⟩
      · exact d T2 (by omega) hsub
  have hFi : (i &&& F) < 64 := Nat.lt_of_le_of_lt Nat.and_le_right hF
  rcases hB.1 i (by omega) with h | ⟨w', h1, h2, c, h3⟩
  · rw [h]
    exact i_pos rfl (i_pos rfl (hskip (fun _ => Or.inl h)))
  · rw [h2]
    refine i_neg (by rw [x_ne1 (by omega)]; exact id) ?_
    by_cases hsub : Sub F i
    · have hs1 : nI (i &&& F) = nI F := by rw [(and_sub i F).mpr hsub]
      refine i_pos hs1 (i_neg (by first | decide | (unfold vp_in; decide)) ?_)
      have htake : (∀ w, r = some w → w' < w) → sX2_fewestFor_p4n (nI F) Q m (nI w') (nI (i + 1)) s := by
        intro hw
        refine hnext (by omega) (nI w', s) ⟨rfl, some w', rfl, Or.inr ⟨w', h1, rfl, ⟨i, by omega, hsub, h2⟩, fun T hT hT2 => ?_⟩⟩
        by_cases e : T = i
        · rw [e]
          exact Or.inr ⟨w', Nat.le_refl _, h1, h2⟩
        · rcases hr with ⟨a, b⟩ | ⟨w, a, b, _, d⟩
          · exact Or.inl (b T (by omega) hT2)
          · rcases d T (by omega) hT2 with d1 | ⟨w3, d1, d2, d3⟩
            · exact Or.inl d1
            · have := hw w b
              exact Or.inr ⟨w3, by omega, d2, d3⟩
      rcases hr with ⟨a, b⟩ | ⟨w, a, b, c, d⟩
      · rw [a]
        exact i_pos rfl ⟨vp_in_nI (by omega) (by omega), htake (fun w hw => absurd (a.symm.trans hw) (by simp))⟩
      · have er : oI r = nI w := by rw [b]; rfl
        rw [er]
        refine i_neg (by rw [x_ne1 (by omega)]; exact id) ⟨vp_in_nI (by omega) (by omega), ?_⟩
        by_cases hle : w ≤ w'
        · rw [er] at hskip
          exact i_pos (nI_le hle (by omega)) (hskip (fun _ => Or.inr ⟨w, w', b, hle, h1, h2⟩))
        · refine i_neg (nI_ge (by omega) (by omega)) ⟨vp_in_nI (by omega) (by omega), htake (fun w2 hw2 => ?_)⟩
          rw [b] at hw2
          have := Option.some.inj hw2
          omega
    · have hs1 : ¬ nI (i &&& F) = nI F := fun e => hsub ((and_sub i F).mp ((nI_eq (by omega) (by omega)).mp e))
      exact i_neg hs1 (i_pos rfl (hskip (fun h => absurd h hsub)))
