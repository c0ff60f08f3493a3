/-! ===== spring, chance ===== -/
theorem r_ahead {P : Pl} {N : Nat → Nat} {v : Int32} {n : Nat} {Q : Int32 → St → Prop} {u : St} (hM : mPl u P) (hL : mLa u N) (hn : n ≤ 100) (h0 : pc P ≠ 0) (hN : N 0 ≤ 999) (h1 : ∀ x, 1 ≤ x → x ≤ n → v = nI x → N 0 + x ≤ 999 → Q 1 u) (h2 : (¬ ∃ x, 1 ≤ x ∧ x ≤ n ∧ v = nI x ∧ N 0 + x ≤ 999) → Q 0 u) : s_X12_isAhead v (1 : Int32) (nI n) Q u := by
  have hv := i32_b v
  unfold s_X12_isAhead
  rw [hM.1.1]
  refine i_neg (by rw [if_neg h0]; decide) ?_
  rw [i64, show ((1 : Int32)).toInt64 = lI 1 by first | decide | (unfold vp_in; decide), nI_l (by omega), lN_lI (by omega)]
  refine r_isIn (by omega) (by omega) (by omega) (fun a b => ?_) (fun a => ?_)
  · refine i_neg (by first | decide | (unfold vp_in; decide)) ⟨by first | decide | (unfold vp_in; decide), ?_⟩
    obtain ⟨x, hx, rfl⟩ : ∃ x : Nat, (x < 2147483648 ∧ 1 ≤ x ∧ x ≤ n) ∧ v = nI x := ⟨v.toInt.toNat, by omega, by rw [nI_iI (by omega)]; apply iI_of; omega⟩
    rw [show ((0 : Int32)).toNatClampNeg = 0 by first | decide | (unfold vp_in; decide), hL 0 (by omega), nI_add]
    by_cases c : 999 < N 0 + x
    · have h9 : nI 999 < nI (N 0 + x) := nI_lt c (by omega)
      refine i_pos h9 (h2 ?_)
      rintro ⟨y, hy1, hy2, e, hy3⟩
      rw [nI_eq (by omega) (by omega)] at e
      omega
    · have h9 : ¬ nI 999 < nI (N 0 + x) := nI_nlt (by omega) (by omega)
      exact i_neg h9 (h1 x hx.2.1 hx.2.2 rfl (by omega))
  · refine i_pos rfl (h2 ?_)
    rintro ⟨y, hy1, hy2, rfl, hy3⟩
    rw [nI_toInt (by omega)] at a
    omega
def SYa (t a k : Nat) : Prop := ¬ (42 ≤ a ∧ a ≤ 46) ∧ a ≠ 52 ∧ ¬ (54 ≤ a ∧ a ≤ 156) ∧ a ≠ 173 ∧ a ≠ t + 13 ∧ a ≠ t + 16 ∧ ¬ (178 ≤ a ∧ a ≤ 197) ∧ ¬ (a = 198 ∧ (k = 78 ∨ k = 79)) ∧ a ≠ 254 ∧ SRy a k
theorem yr_fin {u z : St} {P : Pl} {N N' : Nat → Nat} {Y Y' : Nat} {E E' : Nat → Nat → Nat} {n o' w : Nat} {S : Nat → Nat → Nat} {ys : Nat → Nat} (hC : Ctx u P N) (hn : n ≤ 20) (ho' : o' < 20) (hw : w < 20) (hYN : Y ≤ N 0) (hKR : KR E Y N) (hp : pStk P E Y n S ys) (hK : Kp (SYa u.2.2.1) u z)
    (hc : cStk z P (pun n) o' (pus S N n) (pus ys Y n)) (hm : mStk z (pun n) ((w + 1) % 20) (pus S N n)) (hwy : ∀ k, k < 5 → z.1 (178 + 4 * k) 5 = 0 ∧ FB z (178 + 4 * k + 3)) (hB : FB z 173) (hV : VN P N') (hl : cLa z 42 P N') (hml : mLa z N') (hY' : Y ≤ Y') (hYN' : Y' ≤ N' 0) (h1 : z.1 42 1 = nI Y') (hE' : ∀ y, y < Y' → z.1 54 y = nI (E' 0 y) ∧ z.1 55 y = nI (E' 1 y) ∧ z.1 56 y = nI (E' 2 y)) (hKR' : KR E' Y' N') (hEE : ∀ j k, k < Y → E' j k = E j k) : Inv z := by
  have ht := ctx_t hC
  have hpu := pun_le hn
  refine inv_act hC hK (fun a k hs h1 h2 => ?_) ⟨hV, hl, hml⟩ ?_ hwy ⟨fb_K hC.2.2.1 hK (fun j => by unfold SYa SRy; omega), hB⟩
  · have hsc := sp_SC ht hs
    have hsm := sp_SM ht hs
    unfold DLand at h1
    unfold DPast at h2
    unfold SC at hsc
    unfold SM at hsm
    unfold SYa SRy
    omega
  · exact past_to (Y := Y') (E := E') hYN' h1 hE' hKR' hpu.2 ho' (by omega) hc hm (pus_push hn hp hY' hYN hKR (ctx_vn hC) hEE)
theorem no_way {u : St} {P : Pl} {N : Nat → Nat} (hC : Ctx u P N) : u.1 169 2 = -1 := (ctx_no hC).1
theorem call_spring (v1 : Int32) : Call (s_X11_spring v1) (s_X12_spring v1) := by
  rintro u ⟨P, N, hC⟩
  have hC : Ctx u P N := hC
  have hP := ctx_vp hC
  have hN := ctx_vn hC
  unfold s_X11_spring
  refine q_wayOf hC (fun k u1 hk e hC1 hW k1 => ?_) (fun hn => ?_)
  · have hk5 := hP.2.2.2.2.2.1
    have h0 := pk_pc hP hk
    have hI := inv_of hC1
    have c177 := ctx_177 (k := 2) (x := u1.1 177 2 + 1) hC1
    have hz := w_zero hW.1
    have hn0 := hN.1
    have hb : sX12_spring_p26 (fun r2 u2 => (-1 : Int32) = r2 ∧ Inv u2) (tI u1 177 2 (u1.1 177 2 + 1)) := by
      unfold sX12_spring_p26
      exact inv_ref3 hI (k := 2) (by omega) (fun u' h => ⟨rfl, h⟩)
    have hrf : (N (2 + 3 * ps P) = 1 ∨ 999 ≤ N 0) → sX11_spring_p25 (fun r u1 => s_X12_spring v1 (fun r2 u2 => r = r2 ∧ Inv u2) u1) u1 := by
      intro hor
      unfold sX11_spring_p25
      refine q_refuse (k := 2) (by omega) ?_
      unfold s_X12_spring
      refine r_isCaller hP c177.2.2.1 (fun _ _ _ => ?_) (fun hn => absurd ⟨k, hk, e⟩ hn)
      refine i_neg (by first | decide | (unfold vp_in; decide)) ?_
      refine r_hasWay hP hN c177.2.2.1 c177.2.2.2 (fun _ hs => ?_) (fun _ => i_pos rfl hb)
      refine i_neg (by first | decide | (unfold vp_in; decide)) ?_
      refine r_ahead (n := 1) c177.2.2.1 c177.2.2.2 (by omega) h0 hn0 (fun x hx1 hx2 ex h9 => ?_) (fun _ => i_pos rfl hb)
      rcases hor with h | h
      · exact absurd h hs
      · omega
    rw [hW.2.1]
    by_cases hst : N (2 + 3 * ps P) = 1
    · refine i_pos (by rw [if_pos (hz.mpr hst)]) (hrf (Or.inl hst))
    have hm : wm P N k ≠ 0 := fun e => hst (hz.mp e)
    have h36 := (w_cel hP h0 hW.1).1
    refine i_neg (by rw [if_neg hm, x_ne1 (by omega)]; exact id) ?_
    have hL1 := ctx_l hC1
    rw [hL1.1]
    by_cases h9 : 999 ≤ N 0
    · have h9' : ¬ nI (N 0) < nI 999 := nI_nlt (by omega) (by omega)
      exact i_neg h9' (hrf (Or.inr h9))
    have h9' : nI (N 0) < nI 999 := nI_lt (by omega) (by omega)
    refine i_pos h9' ?_
    obtain ⟨Y, E, n, o, w, S, ys, g1, g2, g3, g4, g5, g6, g7, g8, g9, g10⟩ := past_of hC1.1.2.2.2.2.2.2.2.2.2.1
    have ht := ctx_t hC1
    refine q_remember hP g5 g6 g8 hL1 g2 (fun u2 o' ho' k2 s2 => ?_)
    have e2 : u2.2.2.1 = u1.2.2.1 := by rw [k2.2.2]
    rw [e]
    refine q_year (Y := Y) (E := E) hP hN hk (by rw [e2]; exact ht) (by rw [e2]; exact cPl_K (ctx_c hC1) k2 (fun x j a b c d => by omega)) (cLa_K hL1 k2 (fun x j a b c => by omega)) (k_ways hC1.2.1 k2 (fun a j h => by omega)) (fb_K hC1.2.2.2 k2 (fun j => by omega)) hst (by rw [k2.1 42 1 (by omega)]; exact g2) g1 (by omega) (fun y hy => by rw [k2.1 54 y (by omega), k2.1 55 y (by omega), k2.1 56 y (by omega)]; exact g3 y hy) (fun u3 k3 w3 l3 _ b3 y3 e3 z3 => ?_)
    rw [e2] at k3
    have k13 : Kp (fun a k => a ≠ 52 ∧ ¬ (57 ≤ a ∧ a ≤ 156) ∧ YSc u1.2.2.1 a k) u1 u3 := kp_t (kp_m k2 (fun a k h => by omega)) (kp_m k3 (fun a k h => h.2.2))
    have hM3 : mPl u3 P := mPl_K (ctx_m hC1) k13 (fun a k h => by unfold YSc; omega)
    have hL3 : mLa u3 N := mLa_K (ctx_n hC1) k13 (fun k => by unfold YSc; omega)
    have hS3 : mStk u3 n w S := mStk_K g9 k13 (fun a k h => by unfold YSc; omega)
    unfold s_X12_spring
    refine r_isCaller (v := nI k) hP hM3 (fun _ _ _ => ?_) (fun hn => absurd ⟨k, hk, rfl⟩ hn)
    refine i_neg (by first | decide | (unfold vp_in; decide)) ?_
    refine r_hasWay hP hN hM3 hL3 (fun _ _ => ?_) (fun h => absurd ⟨h0, hst⟩ h)
    refine i_neg (by first | decide | (unfold vp_in; decide)) ?_
    refine r_ahead (n := 1) hM3 hL3 (by omega) h0 hn0 (fun x hx1 hx2 ex h9 => ?_) (fun hn => absurd ⟨1, by omega, by omega, rfl, by omega⟩ hn)
    refine i_neg (by first | decide | (unfold vp_in; decide)) ?_
    refine r_keeps g5 g7 hS3 hL3 (fun u4 k4 m4 => ?_)
    have hM4 : mPl u4 P := mPl_K hM3 k4 (fun a k h => by omega)
    have hL4 : mLa u4 N := mLa_K hL3 k4 (fun k => by omega)
    refine r_year hP hN hk hM4 hL4 (by omega) (fun u5 k5 l5 => ⟨rfl, ?_⟩)
    have hcel := (w_cel hP h0 hW.1).2.1
    have k35 : Kp (fun a k => ¬ (a = 198 ∧ (k = 78 ∨ k = 79)) ∧ a ≠ 254 ∧ SRy a k) u3 u5 := kp_t (kp_m k4 (fun a k h => ⟨h.1, h.2.1⟩)) (kp_m k5 (fun a k h => h.2.2))
    have k15 : Kp (SYa u1.2.2.1) u1 u5 := kp_t (kp_m k13 (fun a k h => by unfold SYa at h; unfold YSc; omega)) (kp_m k35 (fun a k h => ⟨h.2.2.2.2.2.2.2.1, h.2.2.2.2.2.2.2.2.1, h.2.2.2.2.2.2.2.2.2⟩))
    refine yr_fin (N' := yrN P N k) (Y' := Y + 1) (E' := yE E Y (N 0) k (pop (ww P N k))) hC1 g5 ho' g7 g1 g4 g10 k15 ?_ (mStk_K m4 k5 (fun a k h => by unfold SRy; omega)) (fun j hj => ?_) (fb_K b3 k35 (fun j => by unfold SRy; omega)) (yr_vn hP hN hk hcel (by omega)) (cLa_K l3 k35 (fun x j a b c => by unfold SRy; omega)) l5 (by omega) (by rw [yr_0]; omega) (by rw [k35.1 42 1 (by unfold SRy; omega)]; exact y3) (fun y hy => ?_) (kr_yr hP hcel g4) (fun j y hy => yE_n (by omega))
    · exact cStk_K (cStk_K s2 k3 (fun a k h => by unfold YSc; omega)) k35 (fun a k h => by unfold SRy; omega)
    · rw [k35.1 _ _ (by unfold SRy; omega)]
      exact ⟨(z3 j hj).1, fb_K (z3 j hj).2 k35 (fun j => by unfold SRy; omega)⟩
    · rw [k35.1 54 y (by unfold SRy; omega), k35.1 55 y (by unfold SRy; omega), k35.1 56 y (by unfold SRy; omega)]
      exact e3 y hy
  · have c177 := ctx_177 (k := 2) (x := u.1 177 2 + 1) hC
    refine i_pos (no_way hC) ?_
    unfold sX11_spring_p25
    refine q_refuse (k := 2) (by omega) ?_
    unfold s_X12_spring
    refine r_isCaller hP c177.2.2.1 (fun k hk e => absurd ⟨k, hk, e⟩ hn) (fun _ => i_pos rfl ?_)
    unfold sX12_spring_p26
    exact inv_ref3 (inv_of hC) (k := 2) (by omega) (fun u' h => ⟨rfl, h⟩)
