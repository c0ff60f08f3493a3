/-! ===== image ===== -/
def ck (B : Nat → Nat) : Nat → Nat
  | 0 => 173
  | n + 1 => (3 * ck B n + B n) % 251
theorem ck_lt (B : Nat → Nat) : ∀ n, ck B n < 251
  | 0 => by
    unfold ck
    omega
  | n + 1 => by
    unfold ck
    omega
theorem ck_c {B B' : Nat → Nat} : ∀ n, (∀ k, k < n → B k = B' k) → ck B n = ck B' n
  | 0, _ => rfl
  | n + 1, h => by
    unfold ck
    rw [ck_c n (fun k hk => h k (by omega)), h n (by omega)]
theorem q_check {a n len : Nat} {B : Nat → Nat} {Q : Int32 → St → Prop} {u : St} (hsh : SH[a]? = some (100, len)) (hn : n ≤ len) (hl : len < 10000) (hB : ∀ k, k < n → u.1 a k = nI (B k) ∧ B k < 256) (hQ : Q (nI (ck B n)) u) : s_X4_checkOf a (nI n) Q u := by
  unfold s_X4_checkOf sX4_checkOf_p6
  have key := for_up (fun m i (s : Int32 × St) => sX4_checkOf_p6n a (nI n) Q m s.1 i s.2) n (fun i s => s.2 = u ∧ s.1 = nI (ck B i)) ?_ 0 (173, u) (by omega) ⟨rfl, rfl⟩
  · exact key
  rintro m i ⟨x, s⟩ hi ⟨rfl, rfl⟩ hnext
  show sX4_checkOf_p6b a (nI n) Q (sX4_checkOf_p6n a (nI n) Q m) (nI (ck B i)) (nI i) s
  unfold sX4_checkOf_p6b
  by_cases he : i = n
  · first | refine i_pos (by rw [he]; exact nI_le (Nat.le_refl _) (by omega)) ?_ | rw [if_pos (by rw [he]; exact nI_le (Nat.le_refl _) (by omega))]
    rw [he]
    exact hQ
  have hc := ck_lt B i
  have hb := hB i (by omega)
  first | refine i_neg (nI_ge (by omega) (by omega)) ?_ | rw [if_neg (nI_ge (by omega) (by omega))]
  rw [nI_clamp (by omega), hb.1, show (3 : Int32) * nI (ck B i) = nI (3 * ck B i) from pk_mul 3 _, nI_add, show nI (3 * ck B i + B i) - nI (3 * ck B i + B i) / 251 * 251 = nI ((3 * ck B i + B i) % 251) from pk_rem (d := 251) (by omega) (by omega) (by omega), nI_1]
  exact ⟨ix_n hsh (by omega) (by omega), hnext (by omega) (nI (ck B (i + 1)), s) ⟨rfl, rfl⟩⟩
theorem r_check {a n len : Nat} {B : Nat → Nat} {Q : Int32 → St → Prop} {u : St} (hsh : SH[a]? = some (100, len)) (hn : n ≤ len) (hl : len < 10000) (hB : ∀ k, k < n → u.1 a k = nI (B k) ∧ B k < 256) (hQ : Q (nI (ck B n)) u) : s_X12_checked a (nI n) Q u := by
  unfold s_X12_checked sX12_checked_p6
  have key := for_up (fun m i (s : Int32 × St) => sX12_checked_p6n a (nI n) Q m s.1 i s.2) n (fun i s => s.2 = u ∧ s.1 = nI (ck B i)) ?_ 0 (173, u) (by omega) ⟨rfl, rfl⟩
  · exact key
  rintro m i ⟨x, s⟩ hi ⟨rfl, rfl⟩ hnext
  show sX12_checked_p6b a (nI n) Q (sX12_checked_p6n a (nI n) Q m) (nI (ck B i)) (nI i) s
  unfold sX12_checked_p6b
  by_cases he : i = n
  · first | refine i_pos (by rw [he]; exact nI_le (Nat.le_refl _) (by omega)) ?_ | rw [if_pos (by rw [he]; exact nI_le (Nat.le_refl _) (by omega))]
    rw [he]
    exact hQ
  have hc := ck_lt B i
  have hb := hB i (by omega)
  first | refine i_neg (nI_ge (by omega) (by omega)) ?_ | rw [if_neg (nI_ge (by omega) (by omega))]
  rw [nI_clamp (by omega), hb.1, show (3 : Int32) * nI (ck B i) = nI (3 * ck B i) from pk_mul 3 _, nI_add, show nI (3 * ck B i + B i) - nI (3 * ck B i + B i) / 251 * 251 = nI ((3 * ck B i + B i) % 251) from pk_rem (d := 251) (by omega) (by omega) (by omega), nI_1]
  exact ⟨ix_n hsh (by omega) (by omega), hnext (by omega) (nI (ck B (i + 1)), s) ⟨rfl, rfl⟩⟩
/-- the bytes of an image ahead of the last -/
def im (P : Pl) (N : Nat → Nat) (k : Nat) : Nat := if k = 0 then N 0 / 256 else if k = 1 then N 0 % 256 else if k < 2 + 3 * (pc P * pr P) then N (1 + 3 * ce P ((k - 2) / 3) + (k - 2) % 3) else N (109 + (k - 2 - 3 * (pc P * pr P)))
theorem im_cell {P : Pl} {N : Nat → Nat} {i j : Nat} (hi : i < pc P * pr P) (hj : j < 3) : im P N (2 + 3 * i + j) = N (1 + 3 * ce P i + j) := by
  unfold im
  first | refine i_neg (by omega) ?_ | rw [if_neg (by omega)]
  first | refine i_neg (by omega) ?_ | rw [if_neg (by omega)]
  first | refine i_pos (by omega) ?_ | rw [if_pos (by omega)]
  rw [show (2 + 3 * i + j - 2) / 3 = i by omega, show (2 + 3 * i + j - 2) % 3 = j by omega]
theorem im_pie {P : Pl} {N : Nat → Nat} {f : Nat} : im P N (2 + 3 * (pc P * pr P) + f) = N (109 + f) := by
  unfold im
  first | refine i_neg (by omega) ?_ | rw [if_neg (by omega)]
  first | refine i_neg (by omega) ?_ | rw [if_neg (by omega)]
  first | refine i_neg (by omega) ?_ | rw [if_neg (by omega)]
  rw [show 2 + 3 * (pc P * pr P) + f - 2 - 3 * (pc P * pr P) = f by omega]
theorem im_lt {P : Pl} {N : Nat → Nat} (hP : VP P) (hN : VN P N) {k : Nat} (hk : k < 2 + 3 * (pc P * pr P) + pf P) : im P N k < 256 := by
  have h0 := hN.1
  unfold im
  by_cases k0 : k = 0
  · first | refine i_pos k0 ?_ | rw [if_pos k0]
    try (with_reducible rfl)
    omega
  first | refine i_neg k0 ?_ | rw [if_neg k0]
  try (with_reducible rfl)
  by_cases k1 : k = 1
  · first | refine i_pos k1 ?_ | rw [if_pos k1]
    try (with_reducible rfl)
    omega
  first | refine i_neg k1 ?_ | rw [if_neg k1]
  try (with_reducible rfl)
  by_cases k2 : k < 2 + 3 * (pc P * pr P)
  · first | refine i_pos k2 ?_ | rw [if_pos k2]
    try (with_reducible rfl)
    have hc := hN.2.1 _ (ce_cel hP (p := (k - 2) / 3) (by omega)).1
    have : (k - 2) % 3 = 0 ∨ (k - 2) % 3 = 1 ∨ (k - 2) % 3 = 2 := by omega
    rcases this with e | e | e
    · rw [e, Nat.add_zero]
      omega
    · rw [e, show 1 + 3 * ce P ((k - 2) / 3) + 1 = 2 + 3 * ce P ((k - 2) / 3) by omega]
      omega
    · rw [e, show 1 + 3 * ce P ((k - 2) / 3) + 2 = 3 + 3 * ce P ((k - 2) / 3) by omega]
      omega
  · first | refine i_neg k2 ?_ | rw [if_neg k2]
    try (with_reducible rfl)
    have := hN.2.2.2.1 (k - 2 - 3 * (pc P * pr P)) (by omega)
    omega
/-- a picture, begun: n bytes of it stand in the array a -/
def Img (u : St) (a : Nat) (P : Pl) (N : Nat → Nat) (n : Nat) : Prop := ∀ k, k < n → u.1 a k = nI (im P N k)
theorem img_s {u : St} {a : Nat} {P : Pl} {N : Nat → Nat} {n : Nat} {x : Int32} (h : Img u a P N n) (hx : x = nI (im P N n)) : Img (tI u a n x) a P N (n + 1) := by
  intro k hk
  by_cases e : k = n
  · rw [e, t_s, hx]
  · rw [t_n _ _ (by omega)]
    exact h k (by omega)
theorem img_K {S : Nat → Nat → Prop} {u u' : St} {a : Nat} {P : Pl} {N : Nat → Nat} {n : Nat} (h : Img u a P N n) (hK : Kp S u u') (hS : ∀ k, S a k) : Img u' a P N n := by
  intro k hk
  rw [hK.1 a k (hS k)]
  exact h k hk
theorem q_write {P : Pl} {N : Nat → Nat} {t : Nat} {Q : St → Prop} {u : St} (hP : VP P) (hN : VN P N) (ht : 7 ≤ t ∧ t + 16 ≤ 40) (hT : cPl u t P) (hL : cLa u 42 P N) (hQ : ∀ u', Kp (fun a _ => a ≠ 175 ∧ a ≠ 176) u u' → u'.1 175 1 = nI (3 + 3 * (pc P * pr P) + pf P) → Img u' 176 P N (2 + 3 * (pc P * pr P) + pf P) → u'.1 176 (2 + 3 * (pc P * pr P) + pf P) = nI (ck (im P N) (2 + 3 * (pc P * pr P) + pf P)) → Q u') : s_X4_write t 42 Q u := by
  have har := area_le hP
  have hpf := hP.2.2.2.2.1
  have h0 := hN.1
  have hs176 : SH[176]? = some (100, 117) := rfl
  unfold s_X4_write
  simp only [bnd]
  rw [show ((0 : Int32)).toNatClampNeg = 0 by first | decide | (unfold vp_in; decide), show ((1 : Int32)).toNatClampNeg = 1 by first | decide | (unfold vp_in; decide), t_n _ _ (by omega), hL.1, show nI (N 0) - nI (N 0) / 256 * 256 = nI (N 0 % 256) from pk_rem (d := 256) (by omega) (by omega) (by omega), show nI (N 0) / 256 = nI (N 0 / 256) from pk_div (d := 256) (by omega) (by omega) (by omega)]
  refine ⟨by first | decide | (unfold vp_in; decide), by first | decide | (unfold vp_in; decide), ?_⟩
  have hK0 : Kp (fun a _ => a ≠ 175 ∧ a ≠ 176) u (tI (tI (tI u 176 0 (nI (N 0 / 256))) 176 1 (nI (N 0 % 256))) 175 1 2) := kp_I (kp_I (kp_I (kp_r u) (by omega)) (by omega)) (by omega)
  have hI0 : Img (tI (tI (tI u 176 0 (nI (N 0 / 256))) 176 1 (nI (N 0 % 256))) 175 1 2) 176 P N 2 := by
    have i1 : Img (tI u 176 0 (nI (N 0 / 256))) 176 P N 1 := img_s (n := 0) (fun k hk => absurd hk (by omega)) rfl
    have i2 : Img (tI (tI u 176 0 (nI (N 0 / 256))) 176 1 (nI (N 0 % 256))) 176 P N 2 := img_s i1 rfl
    exact img_K i2 (S := fun a _ => a ≠ 175) (kp_I (kp_r _) (by omega)) (fun k => by omega)
  have e0 : (tI (tI (tI u 176 0 (nI (N 0 / 256))) 176 1 (nI (N 0 % 256))) 175 1 2).1 175 1 = nI 2 := t_s _ _ _ _
  generalize (tI (tI (tI u 176 0 (nI (N 0 / 256))) 176 1 (nI (N 0 % 256))) 175 1 2) = w at hK0 hI0 e0
  unfold sX4_write_p35
  refine for_up (fun m i s => sX4_write_p35n t 42 Q m i s) (pc P * pr P) (fun i s => Kp (fun a _ => a ≠ 175 ∧ a ≠ 176) u s ∧ s.1 175 1 = nI (2 + 3 * i) ∧ Img s 176 P N (2 + 3 * i)) ?_ 0 w (by omega) ⟨hK0, e0, hI0⟩
  rintro m i s hi ⟨hK, hl, him⟩ hnext
  show sX4_write_p35b t 42 Q (sX4_write_p35n t 42 Q m) (nI i) s
  unfold sX4_write_p35b s_X5_places
  dsimp only
  rw [hK.1 t 0 (by omega), hK.1 t 1 (by omega), hT.1.1, hT.1.2.1, pk_mul]
  by_cases hie : i = pc P * pr P
  · first | refine i_pos (by rw [hie]; exact nI_le (Nat.le_refl _) (by omega)) ?_ | rw [if_pos (by rw [hie]; exact nI_le (Nat.le_refl _) (by omega))]
    try (with_reducible rfl)
    rw [hie] at hl him
    unfold sX4_write_p110
    refine for_up (fun m i s => sX4_write_p110n t 42 Q m i s) (pf P) (fun f s => Kp (fun a _ => a ≠ 175 ∧ a ≠ 176) u s ∧ s.1 175 1 = nI (2 + 3 * (pc P * pr P) + f) ∧ Img s 176 P N (2 + 3 * (pc P * pr P) + f)) ?_ 0 s (by omega) ⟨hK, hl, him⟩
    rintro m2 f s2 hf ⟨hK2, hl2, him2⟩ hnext2
    show sX4_write_p110b t 42 Q (sX4_write_p110n t 42 Q m2) (nI f) s2
    unfold sX4_write_p110b
    rw [hK2.1 t 3 (by omega), hT.1.2.2.2.1]
    by_cases hfe : f = pf P
    · first | refine i_pos (by rw [hfe]; exact nI_le (Nat.le_refl _) (by omega)) ?_ | rw [if_pos (by rw [hfe]; exact nI_le (Nat.le_refl _) (by omega))]
      rw [hl2]
      rw [hfe] at him2 hl2 ⊢
      refine q_check (B := im P N) hs176 (by omega) (by omega) (fun k hk => ⟨him2 k hk, im_lt hP hN hk⟩) ?_
      simp only [bnd]
      rw [nI_clamp (by omega), t_n _ _ (by omega), hl2, nI_1]
      refine ⟨vp_in_nI (by omega) (by omega), ?_⟩
      refine hQ _ (kp_I (kp_I hK2 (by omega)) (by omega)) ?_ (fun k hk => ?_) ?_
      · rw [t_s, show 2 + 3 * (pc P * pr P) + pf P + 1 = 3 + 3 * (pc P * pr P) + pf P by omega]
      · rw [t_n _ _ (by omega), t_n _ _ (by omega)]
        exact him2 k hk
      · rw [t_n _ _ (by omega), t_s]
    · first | refine i_neg (nI_ge (by omega) (by omega)) ?_ | rw [if_neg (nI_ge (by omega) (by omega))]
      rw [hl2, nI_clamp (by omega), nI_clamp (by omega), hK2.1 (42 + 4) f (by omega), hL.2.2.1 f (by omega)]
      simp only [bnd]
      rw [t_n _ _ (by omega), hl2, nI_1, nI_1]
      refine ⟨vp_in_nI (by omega) (by omega), vp_in_nI (by omega) (by omega), ?_⟩
      refine hnext2 (by omega) _ ⟨kp_I (kp_I hK2 (by omega)) (by omega), t_s _ _ _ _, ?_⟩
      exact img_K (img_s him2 (x := nI (N (109 + f))) (congrArg nI im_pie.symm)) (S := fun a _ => a ≠ 175) (kp_I (kp_r _) (by omega)) (fun k => by omega)
  · have hil : i < pc P * pr P := by omega
    have hc := (ce_cel hP hil).1
    have hpl := pl_ce hP hil
    have hlc := hL.2.1 _ hc
    rw [hpl] at hlc
    have e2 : nI (2 + 3 * i) + 2 = nI (2 + 3 * i + 2) := nI_add _ 2
    have e3 : nI (2 + 3 * i) + 3 = nI (2 + 3 * (i + 1)) := nI_add _ 3
    first | refine i_neg (nI_ge (by omega) (by omega)) ?_ | rw [if_neg (nI_ge (by omega) (by omega))]
    rw [nI_clamp (by omega)]
    simp only [bnd]
    rw [t_n (a' := 42 + 2) _ _ (by omega), t_n (a' := 175) _ _ (by omega), t_n (a' := 42 + 3) _ _ (by omega), t_n (a' := 42 + 3) _ _ (by omega), t_n (a' := 175) _ _ (by omega), t_n (a' := 175) _ _ (by omega), t_n (a' := 175) _ _ (by omega), t_n (a' := 175) _ _ (by omega), t_n (a' := 175) _ _ (by omega), hl, nI_1, e2, e3, nI_clamp (by omega), nI_clamp (by omega), nI_clamp (by omega), nI_1, hK.1 (42 + 1) i (by omega), hK.1 (42 + 2) i (by omega), hK.1 (42 + 3) i (by omega), hlc.1, hlc.2.1, hlc.2.2]
    refine ⟨vp_in_nI (by omega) (by omega), vp_in_nI (by omega) (by omega), vp_in_nI (by omega) (by omega), vp_in_nI (by omega) (by omega), vp_in_nI (by omega) (by omega), vp_in_nI (by omega) (by omega), ?_⟩
    refine hnext hil _ ⟨kp_I (kp_I (kp_I (kp_I hK (by omega)) (by omega)) (by omega)) (by omega), t_s _ _ _ _, ?_⟩
    have i1 := img_s him (x := nI (N (1 + 3 * ce P i))) (by rw [show 2 + 3 * i = 2 + 3 * i + 0 by omega, im_cell hil (by omega)]; rfl)
    have i2 := img_s i1 (x := nI (N (2 + 3 * ce P i))) (by rw [im_cell hil (by omega), show 1 + 3 * ce P i + 1 = 2 + 3 * ce P i by omega])
    have i3 := img_s i2 (x := nI (N (3 + 3 * ce P i))) (by rw [show 2 + 3 * i + 1 + 1 = 2 + 3 * i + 2 by omega, im_cell hil (by omega), show 1 + 3 * ce P i + 2 = 3 + 3 * ce P i by omega])
    exact img_K i3 (S := fun a _ => a ≠ 175) (kp_I (kp_r _) (by omega)) (fun k => by omega)
theorem r_writes {n : Nat} {x : Int32} {Q : St → Prop} {u : St} (h : u.1 198 119 = nI n) (hn : n < 117) (hQ : Q (tI (tI u 285 n x) 198 119 (nI (n + 1)))) : s_X12_writes x Q u := by
  unfold s_X12_writes
  simp only [bnd]
  rw [h, nI_clamp (by omega), t_n _ _ (by omega), h, nI_1]
  exact ⟨vp_in_nI hn (by omega), hQ⟩
theorem call_image : Call (s_X11_image) (s_X12_image) := by
  rintro u ⟨P, N, hC⟩
  have hC : Ctx u P N := hC
  have hP := ctx_vp hC
  have hN := ctx_vn hC
  have har := area_le hP
  have hpf := hP.2.2.2.2.1
  have h0 := hN.1
  have h6 := hP.1
  have h7 := hP.2.1
  have hs285 : SH[285]? = some (100, 117) := rfl
  unfold s_X11_image
  refine q_write hP hN (ctx_t hC) (ctx_c hC) (ctx_l hC) (fun u1 k1 l1 i1 c1 => ?_)
  rw [l1]
  have hM1 : mPl u1 P := mPl_K (ctx_m hC) k1 (fun a k h => by omega)
  have hL1 : mLa u1 N := mLa_K (ctx_n hC) k1 (fun k => by omega)
  unfold s_X12_image
  simp only [bnd]
  rw [show ((0 : Int32)).toNatClampNeg = 0 by first | decide | (unfold vp_in; decide), t_n _ _ (by omega), hL1 0 (by omega)]
  refine ⟨by first | decide | (unfold vp_in; decide), ?_⟩
  refine r_writes (n := 0) (t_s _ _ _ _) (by omega) ?_
  refine ⟨by first | decide | (unfold vp_in; decide), ?_⟩
  rw [t_n _ _ (by omega), t_n _ _ (by omega), t_n _ _ (by omega), hL1 0 (by omega), show nI (N 0) - nI (N 0) / 256 * 256 = nI (N 0 % 256) from pk_rem (d := 256) (by omega) (by omega) (by omega), show nI (N 0) / 256 = nI (N 0 / 256) from pk_div (d := 256) (by omega) (by omega) (by omega)]
  refine r_writes (n := 1) (t_s _ _ _ _) (by omega) ?_
  have hfr : ∀ z : St, Kp (fun a k => ¬ (a = 198 ∧ k = 119) ∧ a ≠ 285) u1 z → mPl z P ∧ mLa z N := fun z hz => ⟨mPl_K hM1 hz (fun a k h => by omega), mLa_K hL1 hz (fun k => by omega)⟩
  have hput : ∀ (z : St) (n : Nat) (x : Int32), Kp (fun a k => ¬ (a = 198 ∧ k = 119) ∧ a ≠ 285) u1 z → Img z 285 P N n → x = nI (im P N n) → Kp (fun a k => ¬ (a = 198 ∧ k = 119) ∧ a ≠ 285) u1 (tI (tI z 285 n x) 198 119 (nI (n + 1))) ∧ Img (tI (tI z 285 n x) 198 119 (nI (n + 1))) 285 P N (n + 1) := fun z n x hz hi hx => ⟨kp_I (kp_I hz (by omega)) (by omega), img_K (img_s hi hx) (S := fun a _ => a ≠ 198) (kp_I (kp_r _) (by omega)) (fun k => by omega)⟩
  have p0 := hput (tI u1 198 119 0) 0 (nI (N 0 / 256)) (kp_I (kp_r u1) (by omega)) (fun k hk => absurd hk (by omega)) rfl
  have p1 := hput _ 1 (nI (N 0 % 256)) p0.1 p0.2 rfl
  unfold sX12_image_p35
  refine for_up (fun m i s => sX12_image_p35n (fun r2 u2 => nI (3 + 3 * (pc P * pr P) + pf P) = r2 ∧ Inv u2) m i s) (pc P * pr P) (fun i s => Kp (fun a k => ¬ (a = 198 ∧ k = 119) ∧ a ≠ 285) u1 s ∧ s.1 198 119 = nI (2 + 3 * i) ∧ Img s 285 P N (2 + 3 * i)) ?_ 0 _ (by omega) ⟨p1.1, t_s _ _ _ _, p1.2⟩
  rintro m i s hi ⟨hK, hl, him⟩ hnext
  show sX12_image_p35b (fun r2 u2 => nI (3 + 3 * (pc P * pr P) + pf P) = r2 ∧ Inv u2) (sX12_image_p35n (fun r2 u2 => nI (3 + 3 * (pc P * pr P) + pf P) = r2 ∧ Inv u2) m) (nI i) s
  unfold sX12_image_p35b s_X12_cellMany
  dsimp only
  obtain ⟨hMs, hLs⟩ := hfr s hK
  refine ⟨by first | decide | (unfold vp_in; decide), by first | decide | (unfold vp_in; decide), ?_⟩
  rw [show ((2 : Int32)).toNatClampNeg = 2 by first | decide | (unfold vp_in; decide), show ((3 : Int32)).toNatClampNeg = 3 by first | decide | (unfold vp_in; decide), hMs.1.2.2.1, hMs.1.2.2.2.1, pk_mul]
  by_cases hie : i = pc P * pr P
  · first | refine i_pos (by rw [hie]; exact nI_le (Nat.le_refl _) (by omega)) ?_ | rw [if_pos (by rw [hie]; exact nI_le (Nat.le_refl _) (by omega))]
    try (with_reducible rfl)
    rw [hie] at hl him
    unfold sX12_image_p82
    refine for_up (fun m i s => sX12_image_p82n (fun r2 u2 => nI (3 + 3 * (pc P * pr P) + pf P) = r2 ∧ Inv u2) m i s) (pf P) (fun f s => Kp (fun a k => ¬ (a = 198 ∧ k = 119) ∧ a ≠ 285) u1 s ∧ s.1 198 119 = nI (2 + 3 * (pc P * pr P) + f) ∧ Img s 285 P N (2 + 3 * (pc P * pr P) + f)) ?_ 0 s (by omega) ⟨hK, hl, him⟩
    rintro m2 f s2 hf ⟨hK2, hl2, him2⟩ hnext2
    show sX12_image_p82b (fun r2 u2 => nI (3 + 3 * (pc P * pr P) + pf P) = r2 ∧ Inv u2) (sX12_image_p82n (fun r2 u2 => nI (3 + 3 * (pc P * pr P) + pf P) = r2 ∧ Inv u2) m2) (nI f) s2
    unfold sX12_image_p82b
    obtain ⟨hM2, hL2⟩ := hfr s2 hK2
    refine r_farmMany hM2 ?_
    by_cases hfe : f = pf P
    · first | refine i_pos (by rw [hfe]; exact nI_le (Nat.le_refl _) (by omega)) ?_ | rw [if_pos (by rw [hfe]; exact nI_le (Nat.le_refl _) (by omega))]
      rw [hl2]
      rw [hfe] at him2 hl2 ⊢
      refine r_check (B := im P N) hs285 (by omega) (by omega) (fun k hk => ⟨him2 k hk, im_lt hP hN hk⟩) ?_
      refine r_writes hl2 (by omega) ?_
      rw [t_s]
      refine ⟨by rw [show 2 + 3 * (pc P * pr P) + pf P + 1 = 3 + 3 * (pc P * pr P) + pf P by omega], ?_⟩
      have kall : Kp (fun a k => a ≠ 175 ∧ a ≠ 176 ∧ ¬ (a = 198 ∧ k = 119) ∧ a ≠ 285) u (tI (tI s2 285 (2 + 3 * (pc P * pr P) + pf P) (nI (ck (im P N) (2 + 3 * (pc P * pr P) + pf P)))) 198 119 (nI (2 + 3 * (pc P * pr P) + pf P + 1))) := kp_t (kp_m k1 (fun a k h => by omega)) (kp_I (kp_I (kp_m hK2 (fun a k h => by omega)) (by omega)) (by omega))
      have hc := hC.1
      have ht := ctx_t hC
      refine inv_gen (N' := N) hC kall (k_tape hc.1 kall (fun a k h => by unfold DTape at h; omega)) (k_fault hc.2.1 kall (fun a k h => by unfold DFault at h; omega)) (k_ref hc.2.2.1 kall (fun a k h => by unfold DRef at h; omega)) ⟨3 + 3 * (pc P * pr P) + pf P, by omega, ?_, ?_, fun k hk => ?_⟩ (k_sight hc.2.2.2.2.2.2.2.1 kall (fun a k h => by unfold DSight at h; omega)) (k_land hc.2.2.2.2.2.2.2.2.1 kall (fun a k h => by unfold DLand at h; omega)) (k_past hc.2.2.2.2.2.2.2.2.2.1 kall (by omega) (fun a k h => by unfold DPast at h; omega)) (k_ways hC.2.1 kall (fun a k h => by omega)) (k_facts hC.2.2 kall (fun a k h => by omega)) (fun a k h => ?_)
      · rw [t_n _ _ (by omega), t_n _ _ (by omega), hK2.1 175 1 (by omega)]
        exact l1
      · rw [t_s, show 2 + 3 * (pc P * pr P) + pf P + 1 = 3 + 3 * (pc P * pr P) + pf P by omega]
      · rw [t_n _ _ (by omega), t_n (a' := 176) _ _ (by omega), t_n (a' := 176) _ _ (by omega), hK2.1 176 k (by omega)]
        by_cases ek : k = 2 + 3 * (pc P * pr P) + pf P
        · rw [ek, t_s, c1]
        · rw [t_n _ _ (by omega), him2 k (by omega), i1 k (by omega)]
      · unfold DWords DTold DPlan DNo at h
        omega
    · first | refine i_neg (nI_ge (by omega) (by omega)) ?_ | rw [if_neg (nI_ge (by omega) (by omega))]
      try (with_reducible rfl)
      refine r_pieOf hL2 (by omega) ?_
      refine r_writes hl2 (by omega) ?_
      rw [nI_1]
      have pp := hput s2 (2 + 3 * (pc P * pr P) + f) (nI (N (109 + f))) hK2 him2 (congrArg nI im_pie.symm)
      exact hnext2 (by omega) _ ⟨pp.1, t_s _ _ _ _, pp.2⟩
  · have hil : i < pc P * pr P := by omega
    have hpc0 : pc P ≠ 0 := by
      intro e
      rw [e] at hil
      omega
    have hc36 := cel_lt hP (ce_cel hP hil).1
    first | refine i_neg (nI_ge (by omega) (by omega)) ?_ | rw [if_neg (nI_ge (by omega) (by omega))]
    try (with_reducible rfl)
    unfold sX12_image_p45
    refine for_g (fun j => nI (1 + j)) (fun m3 j s => sX12_image_p45n (nI i) (fun r2 u2 => nI (3 + 3 * (pc P * pr P) + pf P) = r2 ∧ Inv u2) (sX12_image_p35n (fun r2 u2 => nI (3 + 3 * (pc P * pr P) + pf P) = r2 ∧ Inv u2) m) m3 j s) 3 (fun j s3 => Kp (fun a k => ¬ (a = 198 ∧ k = 119) ∧ a ≠ 285) u1 s3 ∧ s3.1 198 119 = nI (2 + 3 * i + j) ∧ Img s3 285 P N (2 + 3 * i + j)) ?_ 0 s (by omega) ⟨hK, hl, him⟩
    rintro m3 j s3 hj ⟨hK3, hl3, him3⟩ hnext3
    show sX12_image_p45b (nI i) (fun r2 u2 => nI (3 + 3 * (pc P * pr P) + pf P) = r2 ∧ Inv u2) (sX12_image_p35n (fun r2 u2 => nI (3 + 3 * (pc P * pr P) + pf P) = r2 ∧ Inv u2) m) (sX12_image_p45n (nI i) (fun r2 u2 => nI (3 + 3 * (pc P * pr P) + pf P) = r2 ∧ Inv u2) (sX12_image_p35n (fun r2 u2 => nI (3 + 3 * (pc P * pr P) + pf P) = r2 ∧ Inv u2) m) m3) (nI (1 + j)) s3
    unfold sX12_image_p45b
    obtain ⟨hM3, hL3⟩ := hfr s3 hK3
    by_cases hje : j = 3
    · subst hje
      first | refine i_pos (by exact nI_le (a := 4) (Nat.le_refl _) (by omega)) ?_ | rw [if_pos (by exact nI_le (a := 4) (Nat.le_refl _) (by omega))]
      rw [nI_1]
      exact hnext hil _ ⟨hK3, hl3, him3⟩
    · have h4 : ¬ nI 4 ≤ nI (1 + j) := nI_ge (by omega) (by omega)
      refine i_neg h4 ?_
      unfold s_X12_cellOfNumber
      rw [show ((2 : Int32)).toNatClampNeg = 2 by first | decide | (unfold vp_in; decide), hM3.1.2.2.1]
      refine ⟨by first | decide | (unfold vp_in; decide), nI_ne0 (by omega) (by omega), nI_ne0 (by omega) (by omega), ?_⟩
      have ed : nI i - nI i / nI (pc P) * nI (pc P) + 6 * (nI i / nI (pc P)) = nI (ce P i) := by
        rw [pk_rem (by omega) (by omega) (by omega), pk_div (by omega) (by omega) (by omega), show (6 : Int32) * nI (i / pc P) = nI (6 * (i / pc P)) from pk_mul 6 _, nI_add]
        rfl
      dsimp only
      rw [ed, show (3 : Int32) * nI (ce P i) = nI (3 * ce P i) from pk_mul 3 _, nI_add, nI_clamp (by omega), hL3 _ (by omega)]
      refine ⟨vp_in_nI (by omega) (by omega), ?_⟩
      refine r_writes hl3 (by omega) ?_
      have e1 : nI (1 + j) + 1 = nI (1 + (j + 1)) := nI_add _ 1
      rw [e1]
      have pp := hput s3 (2 + 3 * i + j) (nI (N (3 * ce P i + (1 + j)))) hK3 him3 (by rw [im_cell hil (by omega), show 3 * ce P i + (1 + j) = 1 + 3 * ce P i + j by omega])
      exact hnext3 (by omega) _ ⟨pp.1, t_s _ _ _ _, pp.2⟩
