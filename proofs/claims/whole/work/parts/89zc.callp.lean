/-! ===== the call plain ===== -/
theorem ctx_b {u : St} {P : Pl} {N : Nat → Nat} {L : Nat → Nat → Int64} {R : Nat × Nat × Nat × Nat} (hC : Ctx u P N) (h1 : ∀ a, a ≠ 284 → a ≠ 233 → L a = u.2.1 a) (h2 : ∀ k, 16 ≤ k → L 233 k = u.2.1 233 k) (r1 : R.1 = u.2.2.1) (r2 : R.2.1 = u.2.2.2.1) : Ctx (u.1, L, R) P N := by
  obtain ⟨⟨g1, g2, g3, g4, g5, g6, g7, g8, g9, g10, g11⟩, g12, g13⟩ := hC
  have hsd : gSeed (u.1, L, R) := by
    obtain ⟨s, a, b, c⟩ := g4
    refine ⟨s, a, ?_, ?_⟩
    · show L 0 18 = _
      rw [h1 0 (by omega) (by omega)]
      exact b
    · show L 198 80 = _
      rw [h1 198 (by omega) (by omega)]
      exact c
  have hpl : gPlain (u.1, L, R) P := by
    refine ⟨?_, g7.2.1, ?_, g7.2.2.2.1, fun f hf => ?_, fun c hc => ?_, g7.2.2.2.2.2.2⟩
    · show (R.1 = 7 ∧ R.2.1 = 24) ∨ (R.1 = 24 ∧ R.2.1 = 7)
      rw [r1, r2]
      exact g7.1
    · show cPl (u.1, L, R) R.1 P
      rw [r1]
      exact g7.2.2.1
    · have := g7.2.2.2.2.1 f hf
      refine ⟨this.1, this.2.1, ?_⟩
      show L 233 (16 + f) = _
      rw [h2 _ (by omega)]
      exact this.2.2
    · have := g7.2.2.2.2.2.1 c hc
      refine ⟨this.1, this.2.1, ?_⟩
      show L 233 (24 + c) = _
      rw [h2 _ (by omega)]
      exact this.2.2
  exact ⟨⟨g1, g2, g3, hsd, g5, g6, hpl, g8, g9, g10, g11⟩, g12, g13⟩
theorem cpl_cdr {u : St} {t : Nat} {D : Pl} (h : cDr u t D) : cPl u t D := by
  obtain ⟨a, b, c, d, e, f, g⟩ := h
  exact ⟨a, fun x hx => (b x hx).2.2, fun x hx => ⟨(d x hx).1, (d x hx).2.1, (d x hx).2.2.1⟩, e, fun _ => ⟨f, g⟩⟩
def SF (t a k : Nat) : Prop := SPf a k ∧ SCd t a k ∧ ¬ (a = 1 ∧ k = 1) ∧ ¬ (a = 177 ∧ k = 1)
theorem sf_i {t a k : Nat} (ht : t = 7 ∨ t = 24) (h1 : ¬ (a = 1 ∧ 1 ≤ k ∧ k ≤ 6)) (h2 : ¬ (t ≤ a ∧ a ≤ t + 16)) (h3 : a ≠ 6 ∧ a ≠ 41) (h4 : ¬ (a = 177 ∧ k = 1)) (h5 : a ≠ 198 ∨ k = 44 ∨ k = 56 ∨ k = 74 ∨ k = 78 ∨ k = 79 ∨ k = 119) (h6 : a ≠ 282 ∧ a ≠ 283 ∧ a ≠ 236 ∧ a ≠ 237) (h7 : ¬ ((a = 231 ∨ a = 232 ∨ a = 238 ∨ a = 239) ∧ k < 2) ∧ ¬ (a = 234 ∧ k < 18) ∧ ¬ (a = 235 ∧ k < 10) ∧ ¬ (a = 240 ∧ k < 1600)) (h8 : ¬ (a = 200 ∧ k = 1)) : SF t a k := by
  unfold SF SPf SCd SYq DRd SX
  omega
theorem plain_err {u v s : St} {P : Pl} {N : Nat → Nat} {t gc : Nat} {e : E2} {X : Tx} (hC : Ctx u P N) (ht : t = 7 ∨ t = 24) (htd : u.2.2.2.1 = t) (hk : Kp (SCd t) (tD3 (tD4 u t) gc) s) (hf : Tf s X e) (kv : Kr SPf (tI (tI s 1 1 0) 177 1 (u.1 177 1 + 1)) v) (v1 : v.1 198 1 = nI 0) (v7 : v.1 198 7 = nI e.1) (v8 : v.1 198 8 = nI e.2) (v200 : v.1 200 1 = u.1 200 1 + 1) : Inv v := by
  have hto := hC.1.2.2.2.2.2.2.1.1
  have ks : Kp (fun a k => ¬ (a = 1 ∧ k = 1) ∧ ¬ (a = 177 ∧ k = 1)) s (tI (tI s 1 1 0) 177 1 (u.1 177 1 + 1)) := kp_I (kp_I (kp_r s) (by omega)) (by omega)
  have z1 : (tI (tI s 1 1 0) 177 1 (u.1 177 1 + 1)).1 1 1 = 0 := by rw [t_n _ _ (by omega), t_s]
  have z177 : (tI (tI s 1 1 0) 177 1 (u.1 177 1 + 1)).1 177 1 = u.1 177 1 + 1 := t_s _ _ _ _
  generalize tI (tI s 1 1 0) 177 1 (u.1 177 1 + 1) = z at kv ks z1 z177
  have hK : Kp (SF t) (u.1, v.2.1, v.2.2) v := by
    refine ⟨fun a k h => ?_, fun a _ => rfl, rfl⟩
    rw [kv.1 a k h.1, ks.1 a k h.2.2, hk.1 a k h.2.1]
    rfl
  have hCb : Ctx (u.1, v.2.1, v.2.2) P N := by
    refine ctx_b hC (fun a h1 h2 => ?_) (fun k hk' => ?_) ?_ ?_
    · rw [kv.2.1 a h1 h2, ks.2.1 a h1, hk.2.1 a h1]
      rfl
    · rw [kv.2.2.1 k hk', ks.2.1 233 (by omega), hk.2.1 233 (by omega)]
      rfl
    · rw [kv.2.2.2, ks.2.2, hk.2.2]
      rfl
    · rw [kv.2.2.2, ks.2.2, hk.2.2]
      rfl
  have r1 : v.2.2.1 = u.2.2.1 := by
    rw [kv.2.2.2, ks.2.2, hk.2.2]
    rfl
  have w1 : ∀ k, 1 ≤ k → v.1 1 k = z.1 1 k := fun k h1 => kv.1 1 k (by unfold SPf SYq DRd; omega)
  have hf5 : v.1 1 5 = nI e.1 := by
    rw [w1 5 (by omega), ks.1 1 5 (by omega)]
    exact hf.2.2.1
  have hf6 : v.1 1 6 = nI e.2 := by
    rw [w1 6 (by omega), ks.1 1 6 (by omega)]
    exact hf.2.2.2.2.1
  obtain ⟨g1, g2, g3, g4, g5, g6, g7, g8, g9, g10, g11⟩ := hCb.1
  refine inv_gen (N' := N) hCb hK ⟨0, fun _ => 0, by omega, by rw [w1 1 (by omega)]; exact z1, v1, fun k hk => absurd hk (by omega)⟩ ⟨by rw [v7, hf5], by rw [v8, hf6]⟩ (fun k hk => ?_) (k_pic g5 hK (fun a k h => by unfold DPic at h; exact sf_i ht (by omega) (by omega) (by omega) (by omega) (by omega) (by omega) (by omega) (by omega))) (k_sight g8 hK (fun a k h => by unfold DSight at h; exact sf_i ht (by omega) (by omega) (by omega) (by omega) (by omega) (by omega) (by omega) (by omega))) (k_land g9 hK (fun a k h => by unfold DLand at h; exact sf_i ht (by omega) (by omega) (by omega) (by omega) (by omega) (by omega) (by omega) (by omega))) (k_past g10 hK (sf_i ht (by omega) (by omega) (by omega) (by omega) (by omega) (by omega) (by omega) (by omega)) (fun a k h => by unfold DPast at h; exact sf_i ht (by omega) (by omega) (by omega) (by omega) (by omega) (by omega) (by omega) (by omega))) (k_ways hCb.2.1 hK (fun a k h => sf_i ht (by omega) (by omega) (by omega) (by omega) (by omega) (by omega) (by omega) (by omega))) (k_facts hCb.2.2 hK (fun a k h => sf_i ht (by omega) (by omega) (by omega) (by omega) (by omega) (by omega) (by omega) (by omega))) (fun a k h => ?_)
  · by_cases c : k = 1
    · subst c
      rw [v200, kv.1 177 1 (by unfold SPf SYq DRd; omega), z177]
      exact congrArg (· + 1) (hC.1.2.2.1 1 (by omega))
    · rw [hK.1 200 k (sf_i ht (by omega) (by omega) (by omega) (by omega) (by omega) (by omega) (by omega) (by omega)), hK.1 177 k (sf_i ht (by omega) (by omega) (by omega) (by omega) (by omega) (by omega) (by omega) (by omega))]
      exact hC.1.2.2.1 k hk
  · have h' : DWords a k ∨ DTold u.2.2.1 a k ∨ DPlan a k ∨ DNo a k := by
      rw [← r1]
      exact h
    unfold DWords DTold DPlan DNo at h'
    exact sf_i ht (by omega) (by omega) (by omega) (by omega) (by omega) (by omega) (by omega) (by omega)
def SK (t a k : Nat) : Prop := SCd t a k ∧ ¬ (a = 1 ∧ k = 1) ∧ ¬ (42 ≤ a ∧ a ≤ 46) ∧ ¬ (a = 52 ∧ k = 0) ∧ ¬ (a = 161 ∧ k = 0) ∧ ¬ (178 ≤ a ∧ a ≤ 194 ∧ (a - 178) % 4 = 0 ∧ k = 5) ∧ SPf a k ∧ SSt a k
theorem sk_i {t a k : Nat} (ht : t = 7 ∨ t = 24) (h1 : ¬ (a = 1 ∧ 1 ≤ k ∧ k ≤ 6)) (h2 : ¬ (7 ≤ a ∧ a ≤ 46)) (h3 : a ≠ 6) (h5 : a ≠ 198 ∨ k = 79 ∨ k = 119) (h6 : a ≠ 282 ∧ a ≠ 283 ∧ a ≠ 236 ∧ a ≠ 237) (h7 : ¬ (231 ≤ a ∧ a ≤ 241)) (h8 : ¬ (a = 200 ∧ k = 1)) (h9 : ¬ (a = 52 ∧ k = 0) ∧ ¬ (a = 161 ∧ k = 0)) (h10 : ¬ (178 ≤ a ∧ a ≤ 194 ∧ (a - 178) % 4 = 0 ∧ k = 5)) : SK t a k := by
  unfold SK SPf SCd SYq DRd SX SSt S4
  omega
theorem sp_ss {a k : Nat} (h1 : ¬ (198 ≤ a)) : SPf a k ∧ SSt a k := by
  unfold SPf SYq DRd SSt S4
  omega
theorem plain_ok {u v w x y : St} {P : Pl} {N : Nat → Nat} {t gc p : Nat} {D : Pl} (hC : Ctx u P N) (ht : t = 7 ∨ t = 24) (htd : u.2.2.2.1 = t) (hD : VD D p) (hp : p ≤ 1600)
    (hw : Kp (fun a k => SCd t a k ∧ ¬ (a = 1 ∧ k = 1)) (tD2 (tD1 (tD3 (tD4 u t) gc) t) u.2.2.1) w) (hd : cDr w t (fin D)) (w1 : w.1 1 1 = 0) (w5 : w.1 1 5 = 0) (w6 : w.1 1 6 = -1)
    (kx : Kp (fun a _ => ¬ (42 ≤ a ∧ a ≤ 46)) w x) (hl : cLa x 42 (fin D) (lnN D)) (x1 : x.1 42 1 = nI 0)
    (ky : Kp (fun a k => ¬ (a = 52 ∧ k = 0) ∧ ¬ (a = 161 ∧ k = 0) ∧ ¬ (178 ≤ a ∧ a ≤ 194 ∧ (a - 178) % 4 = 0 ∧ k = 5)) x y) (y52 : y.1 52 0 = 0) (y161 : y.1 161 0 = 0) (yw : ∀ k, k < 5 → y.1 (178 + 4 * k) 5 = 0)
    (kv : Kz (fun a k => SPf a k ∧ SSt a k) y v) (v1 : v.1 198 1 = nI 0) (v7 : v.1 198 7 = 0) (v8 : v.1 198 8 = -1) (v200 : v.1 200 1 = y.1 200 1) (mP : mPl v (fin D)) (mL : mLa v (lnN D)) (v78 : v.1 198 78 = 0) (v74 : v.1 198 74 = 0) : Inv v := by
  have hto := hC.1.2.2.2.2.2.2.1.1
  have hK : Kp (SK t) (u.1, v.2.1, v.2.2) v := by
    refine ⟨fun a k h => ?_, fun a _ => rfl, rfl⟩
    obtain ⟨h1, h2, h3, h4, h5, h6, h7, h8⟩ := h
    rw [kv.1 a k ⟨h7, h8⟩, ky.1 a k ⟨h4, h5, h6⟩, kx.1 a k h3, hw.1 a k ⟨h1, h2⟩]
    rfl
  have hwv : Kp (fun a k => (¬ (42 ≤ a ∧ a ≤ 46)) ∧ ¬ (a = 52 ∧ k = 0) ∧ ¬ (a = 161 ∧ k = 0) ∧ a < 178) (w.1, v.2.1, v.2.2) v := by
    refine ⟨fun a k h => ?_, fun a _ => rfl, rfl⟩
    rw [kv.1 a k (sp_ss (by omega)), ky.1 a k (by omega), kx.1 a k h.1]
  have hxv : Kp (fun a k => ¬ (a = 52 ∧ k = 0) ∧ ¬ (a = 161 ∧ k = 0) ∧ a < 178) (x.1, v.2.1, v.2.2) v := by
    refine ⟨fun a k h => ?_, fun a _ => rfl, rfl⟩
    rw [kv.1 a k (sp_ss (by omega)), ky.1 a k (by omega)]
  have hyv : ∀ a k, a < 198 → v.1 a k = y.1 a k := fun a k h => kv.1 a k (sp_ss (by omega))
  obtain ⟨g1, g2, g3, g4, g5, g6, g7, g8, g9, g10, g11⟩ := hC.1
  have hrf : v.2.2 = (t, u.2.2.1, gc, t) := by
    rw [kv.2.2, ky.2.2, kx.2.2, hw.2.2]
    rfl
  have r1 : v.2.2.1 = t := by rw [hrf]
  have r2 : v.2.2.2.1 = u.2.2.1 := by rw [hrf]
  have hlg : ∀ a, a ≠ 284 → a ≠ 233 → v.2.1 a = u.2.1 a := by
    intro a h1 h2
    rw [kv.2.1 a h1 h2, ky.2.1 a h1, kx.2.1 a h1, hw.2.1 a h1]
    rfl
  have hseed : gSeed v := by
    obtain ⟨s, a, b, c⟩ := g4
    exact ⟨s, a, by rw [hlg 0 (by omega) (by omega)]; exact b, by rw [hlg 198 (by omega) (by omega)]; exact c⟩
  refine ⟨fin D, lnN D, ⟨⟨0, fun _ => 0, by omega, ?_, v1, fun k hk => absurd hk (by omega)⟩, ⟨?_, ?_⟩, fun k hk => ?_, hseed, k_pic (u := (u.1, v.2.1, v.2.2)) g5 hK (fun a k h => by unfold DPic at h; exact sk_i ht (by omega) (by omega) (by omega) (by omega) (by omega) (by omega) (by omega) (by omega) (by omega)), k_words (u := (u.1, v.2.1, v.2.2)) g6 hK (fun a k h => by unfold DWords at h; exact sk_i ht (by omega) (by omega) (by omega) (by omega) (by omega) (by omega) (by omega) (by omega) (by omega)), ⟨?_, vp_fin hD hp, ?_, mP⟩, ⟨0, fun _ => 0, fun _ => 0, by omega, ?_, v74, fun k hk => absurd hk (by omega)⟩, ⟨vn_ln hD, ?_, mL⟩, ?_, k_no (u := (u.1, v.2.1, v.2.2)) g11 hK (fun a k h => by unfold DNo at h; exact sk_i ht (by omega) (by omega) (by omega) (by omega) (by omega) (by omega) (by omega) (by omega) (by omega))⟩, fun k hk => ⟨Or.inl ?_, ?_⟩, k_facts (u := (u.1, v.2.1, v.2.2)) hC.2.2 hK (fun a k h => sk_i ht (by omega) (by omega) (by omega) (by omega) (by omega) (by omega) (by omega) (by omega) (by omega))⟩
  · rw [hwv.1 1 1 (by omega)]
    exact w1
  · rw [v7, hwv.1 1 5 (by omega)]
    exact w5.symm
  · rw [v8, hwv.1 1 6 (by omega)]
    exact w6.symm
  · rw [hK.1 177 k (sk_i ht (by omega) (by omega) (by omega) (by omega) (by omega) (by omega) (by omega) (by omega) (by omega))]
    by_cases c : k = 1
    · subst c
      rw [v200, ky.1 200 1 (by omega), kx.1 200 1 (by omega), hw.1 200 1 (by unfold SCd SX; omega)]
      exact g3 1 (by omega)
    · rw [hK.1 200 k (sk_i ht (by omega) (by omega) (by omega) (by omega) (by omega) (by omega) (by omega) (by omega) (by omega))]
      exact g3 k hk
  · rw [r1, r2]
    omega
  · rw [r1]
    exact cpl_cdr (cdr_K (u := (w.1, v.2.1, v.2.2)) hd hwv (fun a k h => by unfold Dft at h; omega))
  · rw [hyv 161 0 (by omega)]
    exact y161
  · exact cLa_K (u := (x.1, v.2.1, v.2.2)) hl hxv (fun a k q1 q2 q3 => by omega)
  · obtain ⟨Y, E, n, o, wq, S, ys, p1, p2, p3, p4, p5, p6, p7, p8, p9, p10, p11, p12⟩ := g10
    refine ⟨0, fun _ _ => 0, 0, o, wq, fun _ _ => 0, fun _ => 0, Nat.zero_le _, ?_, fun k hk => absurd hk (by omega), ⟨?_, fun k hk => absurd hk (by omega)⟩, by omega, p6, p7, ?_, v78, ?_, ?_, fun i hi => absurd hi (by omega)⟩
    · rw [hxv.1 42 1 (by omega)]
      exact x1
    · unfold lnN
      have := hD.1
      first | refine i_neg (by omega) ?_ | rw [if_neg (by omega)]
      first | refine i_neg (by omega) ?_ | rw [if_neg (by omega)]
      first | refine i_neg (by omega) ?_ | rw [if_neg (by omega)]
      try (with_reducible rfl)
      rfl
    · rw [hyv 52 0 (by omega)]
      exact y52
    · rw [hK.1 52 1 (sk_i ht (by omega) (by omega) (by omega) (by omega) (by omega) (by omega) (by omega) (by omega) (by omega))]
      exact p10
    · rw [hK.1 198 79 (sk_i ht (by omega) (by omega) (by omega) (by omega) (by omega) (by omega) (by omega) (by omega) (by omega))]
      exact p11
  · rw [hyv _ _ (by omega)]
    exact yw k hk
  · exact fb_K (u := (u.1, v.2.1, v.2.2)) (hC.2.1 k hk).2 hK (fun j => sk_i ht (by omega) (by omega) (by omega) (by omega) (by omega) (by omega) (by omega) (by omega) (by omega))
theorem call_plain : Call s_X11_plain s_X12_plain := by
  rintro u ⟨P, N, hC⟩
  have hC : Ctx u P N := hC
  have hto := hC.1.2.2.2.2.2.2.1.1
  have ht : u.2.2.2.1 = 7 ∨ u.2.2.2.1 = 24 := by omega
  generalize htd : u.2.2.2.1 = t at ht
  obtain ⟨n, B, g1, g2, g3, g4⟩ := hC.1.1
  have hTx : Txt u (B, n) := ⟨g1, g2, fun k hk => ⟨(g4 k hk).1, (g4 k hk).2.2⟩⟩
  have hGw := hC.1.2.2.2.2.2.1
  unfold s_X11_plain
  rw [htd]
  refine c_readPlain ht hTx (fun s D cnt p hcnt hPl hD hp hs => bnd_i ?_) (fun s e rr hPl hs => bnd_i ?_)
  · obtain ⟨hd, ⟨gc, hk⟩, e5, e6⟩ := hs
    rw [t_n (k' := 5) _ _ (by omega), e5]
    refine i_pos rfl (bnd_i (bnd_i ?_))
    have er1 : s.2.2.2.1 = t := by
      rw [hk.2.2]
      exact htd
    have er2 : s.2.2.1 = u.2.2.1 := by rw [hk.2.2]; rfl
    show s_X1_begin 42 s.2.2.2.1 _ (tD2 (tD1 (tI s 1 1 0) s.2.2.2.1) s.2.2.1)
    rw [er1, er2]
    have hw : Kp (fun a k => SCd t a k ∧ ¬ (a = 1 ∧ k = 1)) (tD2 (tD1 (tD3 (tD4 u t) gc) t) u.2.2.1) (tD2 (tD1 (tI s 1 1 0) t) u.2.2.1) := by
      refine ⟨fun a k h => ?_, fun a h => hk.2.1 a h, ?_⟩
      · show (tI s 1 1 0).1 a k = _
        rw [t_n _ _ (by omega)]
        exact hk.1 a k h.1
      · show (t, u.2.2.1, s.2.2.2.2) = (t, u.2.2.1, gc, t)
        rw [hk.2.2]
        rfl
    have ks : Kp (fun a k => ¬ (a = 1 ∧ k = 1)) s (tI s 1 1 0) := kp_I (kp_r s) (by omega)
    have hd1 : cDr (tI s 1 1 0) t (fin D) := cdr_K hd ks (fun a k h => by unfold Dft at h; omega)
    have hd2 : cDr (tD2 (tD1 (tI s 1 1 0) t) u.2.2.1) t (fin D) := hd1
    have w1 : (tD2 (tD1 (tI s 1 1 0) t) u.2.2.1).1 1 1 = 0 := t_s s 1 1 0
    have w5 : (tD2 (tD1 (tI s 1 1 0) t) u.2.2.1).1 1 5 = 0 := by
      show (tI s 1 1 0).1 1 5 = 0
      rw [t_n _ _ (by omega)]
      exact e5
    have w6 : (tD2 (tD1 (tI s 1 1 0) t) u.2.2.1).1 1 6 = -1 := by
      show (tI s 1 1 0).1 1 6 = -1
      rw [t_n _ _ (by omega)]
      exact e6
    generalize tD2 (tD1 (tI s 1 1 0) t) u.2.2.1 = w at hw hd2 w1 w5 w6
    refine q_begin ht hD hd2 (fun x kx hl x1 => ?_)
    unfold s_X3_forget
    refine bnd_i (bnd_i (q_forget (fun y ky yw => ?_)))
    have kxy : Kp (fun a k => ¬ (a = 52 ∧ k = 0) ∧ ¬ (a = 161 ∧ k = 0) ∧ ¬ (178 ≤ a ∧ a ≤ 194 ∧ (a - 178) % 4 = 0 ∧ k = 5)) x y := kp_t (kp_I (kp_I (kp_r x) (by omega)) (by omega)) (kp_m ky (fun a k h => h.2.2))
    have y52 : y.1 52 0 = 0 := by rw [ky.1 52 0 (by omega), t_n _ _ (by omega), t_s]
    have y161 : y.1 161 0 = 0 := by rw [ky.1 161 0 (by omega), t_s]
    have kuy : ∀ a k, 198 ≤ a → y.1 a k = u.1 a k := by
      intro a k h
      rw [kxy.1 a k (by omega), kx.1 a k (by omega), hw.1 a k (by unfold SCd SX; omega)]
      rfl
    refine r_plain (X := (B, n)) (r := .ok (D, cnt)) g1 (by rw [kuy 198 1 (by omega)]; exact g3) (fun k hk => by rw [kuy 199 k (by omega)]; exact (g4 k hk).2) (fun q hq => ?_) hPl (fun v D' cnt' p' hr hc' hD' hp' kv v1 v7 v8 v200 mP mL v78 v74 => ?_) (fun v e hr _ _ _ _ _ => absurd hr (by simp))
    · have := wl_rng hq
      rw [kuy _ _ (by omega)]
      exact hGw q hq
    · have hq := Except.ok.inj hr
      have q1 : D = D' := congrArg (fun y => y.1) hq
      have q2 : cnt = cnt' := congrArg (fun y => y.2) hq
      subst q1
      subst q2
      exact ⟨rfl, plain_ok hC ht htd hD hp hw hd2 w1 w5 w6 kx hl x1 kxy y52 y161 yw kv v1 v7 v8 v200 mP mL v78 v74⟩
  · obtain ⟨hf, _, _, ⟨gc, hk⟩, _, _⟩ := hs
    rw [t_n (k' := 5) _ _ (by omega), hf.2.2.1]
    have hb := hf.2.2.2.1
    refine i_neg (nI_ne0 (by omega) (by omega)) (q_refuse (k := 1) (by omega) ?_)
    have e177 : (tI s 1 1 0).1 177 1 = u.1 177 1 := by
      rw [t_n _ _ (by omega), hk.1 177 1 (by unfold SCd SX; omega)]
      rfl
    rw [e177]
    have kuy : ∀ a k, 198 ≤ a → (tI (tI s 1 1 0) 177 1 (u.1 177 1 + 1)).1 a k = u.1 a k := by
      intro a k h
      rw [t_n _ _ (by omega), t_n _ _ (by omega), hk.1 a k (by unfold SCd SX; omega)]
      rfl
    refine r_plain (X := (B, n)) (r := .error e) g1 (by rw [kuy 198 1 (by omega)]; exact g3) (fun k hk => by rw [kuy 199 k (by omega)]; exact (g4 k hk).2) (fun q hq => ?_) hPl (fun v D' cnt' p' hr _ _ _ _ _ _ _ _ _ _ _ _ => absurd hr (by simp)) (fun v e' hr kv v1 v7 v8 v200 => ⟨rfl, ?_⟩)
    · have := wl_rng hq
      rw [kuy _ _ (by omega)]
      exact hGw q hq
    · have := Except.error.inj hr
      subst this
      exact plain_err hC ht htd hk hf kv v1 v7 v8 (by rw [v200, kuy 200 1 (by omega)])
