/-! ===== the class: a SUM, a QUESTION; the reference's tape ===== -/
theorem q_readSumOf {X : Tx} {gc tk p : Nat} {g : Bool} {Q : St → Prop} {u : St} (hg : (gc = 3 ∨ 7 ≤ gc) ∧ gc < 100) (htk : tk ≤ 2) (h : Tk u X p g) (h1 : ∀ u' p' g' c, Kp (fun a k => SG gc a k ∧ a ≠ 6) (tD3 u gc) u' → Tk u' X p' g' → cCo u' gc c → OkS X tk 0 p g p' g' c → nS X p' g' → Q u') (h0 : ∀ u' e, Kp (fun a k => SG gc a k ∧ a ≠ 6) (tD3 u gc) u' → Tf u' X e → ErS X tk 0 p g e → (∃ m, m ≤ 1600 ∧ u'.1 gc 2 = nI m) → Q u') : s_X8_readSumOf (nI (kb tk)) gc Q u := by
  unfold s_X8_readSumOf s_X8_begin s_X0_clear
  refine bnd_i (bnd_i (bnd_i ?_))
  show sG 60 4 (nI 0) _ (tI (tD3 (tI u 6 2 (nI (kb tk))) gc) gc 2 0)
  have hK : Kp (fun a k => SG gc a k ∧ a ≠ 6) (tD3 u gc) (tI (tD3 (tI u 6 2 (nI (kb tk))) gc) gc 2 0) := by
    have k1 : Kp (fun a k => SG gc a k ∧ a ≠ 6) (tD3 u gc) (tD3 (tI u 6 2 (nI (kb tk))) gc) := by
      refine ⟨fun a k hs => ?_, fun _ _ => rfl, rfl⟩
      show (tI u 6 2 (nI (kb tk))).1 a k = u.1 a k
      exact t_n _ _ (by omega)
    exact kp_I k1 (fun hs => hs.1.2.1 rfl)
  have z6 : (tI (tD3 (tI u 6 2 (nI (kb tk))) gc) gc 2 0).1 6 2 = nI (kb tk) := by
    rw [t_n _ _ (by omega)]
    exact t_s u 6 2 _
  have zg : (tI (tD3 (tI u 6 2 (nI (kb tk))) gc) gc 2 0).1 gc 2 = nI 0 := t_s _ _ _ _
  have zr : (tI (tD3 (tI u 6 2 (nI (kb tk))) gc) gc 2 0).2.2.2.2.1 = gc := rfl
  have zt : Tk (tI (tD3 (tI u 6 2 (nI (kb tk))) gc) gc 2 0) X p g := by
    have ht : Tk (tD3 u gc) X p g := h
    have hk2 : Kp (fun a _ => a = 1 ∨ a = 2) (tD3 u gc) (tI (tD3 (tI u 6 2 (nI (kb tk))) gc) gc 2 0) := by
      have k1 : Kp (fun a _ => a = 1 ∨ a = 2) (tD3 u gc) (tD3 (tI u 6 2 (nI (kb tk))) gc) := by
        refine ⟨fun a k hs => ?_, fun _ _ => rfl, rfl⟩
        show (tI u 6 2 (nI (kb tk))).1 a k = u.1 a k
        exact t_n _ _ (by omega)
      exact kp_I k1 (by omega)
    exact tk_K ht hk2 (fun a k h => h)
  generalize (tI (tD3 (tI u 6 2 (nI (kb tk))) gc) gc 2 0) = u0 at hK z6 zg zr zt
  have he : EnvC gc tk u0 := ⟨hg.1, hg.2, htk, zr, z6⟩
  have hS : RdS X gc u0 u0 p g [] := ⟨zt, ⟨zg, fun i hi => absurd hi (by simp)⟩, by simp, kp_r u0⟩
  have hC := (c_sums (X := X) he 6 0 58 rfl (by omega)).2
  refine hC u0 p g [] _ trivial hS (fun u' p' g' c hS' ho => ?_) (fun u' e hF her => ?_)
  · exact h1 u' p' g' c (kp_t hK (kp_m hS'.2.2.2 (fun a k h => h.1))) hS'.1 hS'.2.1 ho.1 ho.2
  · exact h0 u' e (kp_t hK (kp_m hF.2.2 (fun a k h => h.1))) hF.1 her hF.2.1
/-- what a QUESTION's text may come to -/
def QOk (X : Tx) (k : Nat) (c : List Nat) : Prop := wIn X 0 false (wds 14) = some k ∧ ∃ p g, ((k < 3 ∧ Rz X 0 (lnx X 0) true [] [] 0 (.ok (p, g, c))) ∨ (3 ≤ k ∧ Rx X 2 0 (lnx X 0) true [] [] 0 (.ok (p, g, c)))) ∧ p ≤ X.2 ∧ lkd X p g = 0 ∧ Good (decide (k < 3)) 64 c ∧ OkK 2 c ∧ c.length ≤ 1600
def QEr (X : Tx) (e : Nat × Nat) : Prop := (wIn X 0 false (wds 14) = none ∧ e = (1, lst X 0)) ∨ ∃ k, wIn X 0 false (wds 14) = some k ∧ ((k < 3 ∧ Rz X 0 (lnx X 0) true [] [] 0 (.error e)) ∨ (3 ≤ k ∧ Rx X 2 0 (lnx X 0) true [] [] 0 (.error e)) ∨ ∃ p g c, ((k < 3 ∧ Rz X 0 (lnx X 0) true [] [] 0 (.ok (p, g, c))) ∨ (3 ≤ k ∧ Rx X 2 0 (lnx X 0) true [] [] 0 (.ok (p, g, c)))) ∧ p ≤ X.2 ∧ lkd X p g ≠ 0 ∧ e = (1, lst X p))
def SQ (a k : Nat) : Prop := SX a k ∧ a ≠ 3 ∧ a ≠ 4 ∧ a ≠ 6
theorem q_readQ {X : Tx} {Q : Int32 → St → Prop} {u : St} (ht : Txt u X) (h1 : ∀ u' k c, k < 6 → Kp SQ (tD3 u 3) u' → QOk X k c → cCo u' 3 c → (∃ p g, Tk u' X p g) → Q (nI k) u') (h0 : ∀ u' e r, Kp SQ (tD3 u 3) u' → QEr X e → Tf u' X e → Q r u') : s_X8_readQuestion 3 Q u := by
  unfold s_X8_readQuestion s_X8_begin s_X0_clear
  refine bnd_i (bnd_i (bnd_i ?_))
  show s_X9_rewind _ (tI (tD3 (tI u 6 2 (nI (kb 2))) 3) 3 2 0)
  have hK : Kp SQ (tD3 u 3) (tI (tD3 (tI u 6 2 (nI (kb 2))) 3) 3 2 0) := by
    have k1 : Kp SQ (tD3 u 3) (tD3 (tI u 6 2 (nI (kb 2))) 3) := by
      refine ⟨fun a k hs => ?_, fun _ _ => rfl, rfl⟩
      show (tI u 6 2 (nI (kb 2))).1 a k = u.1 a k
      exact t_n _ _ (Or.inl hs.2.2.2)
    exact kp_I k1 (fun hs => hs.2.1 rfl)
  have z6 : (tI (tD3 (tI u 6 2 (nI (kb 2))) 3) 3 2 0).1 6 2 = nI (kb 2) := by
    rw [t_n _ _ (by omega)]
    exact t_s u 6 2 _
  have zg : (tI (tD3 (tI u 6 2 (nI (kb 2))) 3) 3 2 0).1 3 2 = nI 0 := t_s _ _ _ _
  have zr : (tI (tD3 (tI u 6 2 (nI (kb 2))) 3) 3 2 0).2.2.2.2.1 = 3 := rfl
  have zt : Txt (tI (tD3 (tI u 6 2 (nI (kb 2))) 3) 3 2 0) X := txt_K (u := tD3 u 3) ht hK (by unfold SQ SX; omega) (fun k => by unfold SQ SX; omega)
  generalize (tI (tD3 (tI u 6 2 (nI (kb 2))) 3) 3 2 0) = u0 at hK z6 zg zr zt
  have he : EnvC 3 2 u0 := ⟨Or.inl rfl, by omega, by omega, zr, z6⟩
  have h16 := zt.1
  refine q_rewind zt (fun u1 k1 t1 => ?_)
  have hS1 : RdS X 3 u0 u1 0 false [] := ⟨t1, ⟨by rw [k1.1 _ _ (by unfold SX; omega)]; exact zg, fun i hi => absurd hi (by simp)⟩, by simp, kp_m k1 (fun a j h => h.1)⟩
  have hl0 := lst_p t1.2.1
  have hfr : ∀ u', Kp (SG 3) u0 u' → Kp SQ (tD3 u 3) u' := fun u' k => kp_t hK (kp_m k (fun a j h => by unfold SQ at h; unfold SG; exact ⟨h.1, by omega, by omega⟩))
  refine q_wordIn (v := 14) (by omega) t1 ?_
  cases hw : wIn X 0 false (wds 14) with
  | none =>
    refine i_pos rfl ?_
    rw [t1.2.2.2.1]
    exact rd_fail (f := 1) he hS1 (by omega) (by omega) (fun u' hF => h0 u' _ _ (hfr u' hF.2.2) (Or.inl ⟨hw, rfl⟩) hF.1)
  | some k =>
    have hk6 : k < 6 := wIn_b hw
    have hk1 : lkd X 0 false = 1 := by
      unfold wIn at hw
      by_cases e1 : lkd X 0 false = 1
      · exact e1
      · rw [if_neg e1] at hw
        exact absurd hw (by simp)
    rw [show oI (some k) = nI k from rfl]
    refine i_neg (by rw [x_ne1 (by omega)]; exact id) (rd_adv he hS1 (Or.inl hk1) (fun u2 hS2 => ?_))
    rw [hk1] at hS2
    have hS2 : RdS X 3 u0 u2 (lnx X 0) true [] := hS2
    have h72 : ∀ u3 p g c, RdS X 3 u0 u3 p g ([] ++ c) → ((k < 3 ∧ Rz X 0 (lnx X 0) true [] [] 0 (.ok (p, g, c))) ∨ (3 ≤ k ∧ Rx X 2 0 (lnx X 0) true [] [] 0 (.ok (p, g, c)))) → Good (decide (k < 3)) 64 c → OkK 2 c → sX8_readQuestion_p72 (nI k) Q u3 := by
      intro u3 p g c hS3 hr hgd hok
      have hr4 := lkd_r X p g
      have hlp := lst_p hS3.1.2.1
      unfold sX8_readQuestion_p72
      rw [hS3.1.2.2.1]
      by_cases h00 : lkd X p g = 0
      · rw [h00]
        have hp := hS3.1.2.1
        have hle := hS3.2.2.1
        rw [List.nil_append] at hle
        exact i_pos rfl (h1 u3 k c hk6 (hfr u3 hS3.2.2.2) ⟨hw, p, g, hr, hp, h00, hgd, hok, by omega⟩ hS3.2.1 ⟨p, g, hS3.1⟩)
      · refine i_neg (x_ne (k := 0) (by omega) (by omega) h00) ?_
        rw [hS3.1.2.2.2.1]
        exact rd_fail (f := 1) he hS3 (by omega) (by omega) (fun u' hF => h0 u' _ _ (hfr u' hF.2.2) (Or.inr ⟨k, hw, Or.inr (Or.inr ⟨p, g, c, hr, hS3.1.2.1, h00, rfl⟩)⟩) hF.1)
    have h72F : ∀ u3 e, RdF X 3 u0 u3 e → QEr X e → sX8_readQuestion_p72 (nI k) Q u3 := by
      intro u3 e hF hq
      unfold sX8_readQuestion_p72
      rw [hF.1.2.1]
      exact i_neg (by first | decide | (unfold vp_in; decide)) (q_failF hF.1 (h0 u3 e _ (hfr u3 hF.2.2) hq hF.1))
    by_cases hk3 : k < 3
    · have hk3' : ¬ nI 2 < nI k := nI_nlt (by omega) (by omega)
      refine i_neg hk3' ?_
      have hC := (c_tests (X := X) he 6 0 58 rfl (by omega)).2
      refine hC u2 (lnx X 0) true [] _ trivial hS2 (fun u3 p3 g3 c3 hS3 ho3 => ?_) (fun u3 e hF her => ?_)
      · refine h72 u3 p3 g3 c3 hS3 (Or.inl ⟨hk3, o_top ho3.1 ho3.2⟩) ?_ ho3.1.1.2.2.2.2
        rw [decide_eq_true hk3]
        exact good_mono ho3.1.1.2.2.2.1 (by omega)
      · exact h72F u3 e hF (Or.inr ⟨k, hw, Or.inl ⟨hk3, o_top_e her⟩⟩)
    · have hk3' : nI 2 < nI k := nI_lt (by omega) (by omega)
      refine i_pos hk3' ?_
      have hC := (c_sums (X := X) he 6 0 58 rfl (by omega)).2
      refine hC u2 (lnx X 0) true [] _ trivial hS2 (fun u3 p3 g3 c3 hS3 ho3 => ?_) (fun u3 e hF her => ?_)
      · refine h72 u3 p3 g3 c3 hS3 (Or.inr ⟨by omega, s_top ho3.1 ho3.2⟩) ?_ ho3.1.1.2.2.2.2
        rw [decide_eq_false hk3]
        exact good_mono ho3.1.1.2.2.2.1 (by omega)
      · exact h72F u3 e hF (Or.inr ⟨k, hw, Or.inr (Or.inl ⟨by omega, er_top her⟩)⟩)
/-! the reference's tape -/
def Mtx (u : St) (X : Tx) : Prop := X.2 ≤ 1600 ∧ u.1 198 3 = nI X.2 ∧ ∀ k, k < X.2 → u.1 199 k = nI (X.1 k) ∧ X.1 k < 256
def Ma (u : St) (X : Tx) (p : Nat) (g : Bool) : Prop := Mtx u X ∧ p ≤ X.2 ∧ (∃ a, u.1 198 2 = nI a ∧ p ≤ a ∧ a ≤ lst X p) ∧ (g = true → u.1 198 4 = nI p) ∧ (g = false → u.1 198 4 = -1 ∨ ∃ k, k < p ∧ u.1 198 4 = nI k) ∧ u.1 198 5 = 0 ∧ u.1 198 6 = -1
def Mb (u : St) (X : Tx) (p : Nat) (g : Bool) : Prop := Ma u X p g ∧ u.1 198 2 = nI (lst X p)
def Mf (u : St) (X : Tx) (e : Nat × Nat) : Prop := Mtx u X ∧ u.1 198 5 = nI e.1 ∧ (0 < e.1 ∧ e.1 < 10) ∧ u.1 198 6 = nI e.2 ∧ e.2 ≤ 1600
def SXr (a k : Nat) : Prop := ¬ (a = 198 ∧ (k = 2 ∨ k = 4 ∨ k = 5 ∨ k = 6 ∨ k = 10 ∨ k = 41))
theorem mt_K {S : Nat → Nat → Prop} {u u' : St} {X : Tx} (h : Mtx u X) (hK : Kp S u u') (h1 : S 198 3) (h2 : ∀ k, S 199 k) : Mtx u' X := by
  refine ⟨h.1, by rw [hK.1 198 3 h1]; exact h.2.1, fun k hk => ?_⟩
  rw [hK.1 199 k (h2 k)]
  exact h.2.2 k hk
theorem ma_K {S : Nat → Nat → Prop} {u u' : St} {X : Tx} {p : Nat} {g : Bool} (h : Ma u X p g) (hK : Kp S u u') (h1 : ∀ a k, (a = 198 ∧ (k = 2 ∨ k = 3 ∨ k = 4 ∨ k = 5 ∨ k = 6)) ∨ a = 199 → S a k) : Ma u' X p g := by
  obtain ⟨a1, a2, a3, a4, a5, a6, a7⟩ := h
  refine ⟨mt_K a1 hK (h1 _ _ (by omega)) (fun k => h1 _ _ (by omega)), a2, ?_, ?_, ?_, ?_, ?_⟩
  · rw [hK.1 198 2 (h1 _ _ (by omega))]
    exact a3
  · rw [hK.1 198 4 (h1 _ _ (by omega))]
    exact a4
  · rw [hK.1 198 4 (h1 _ _ (by omega))]
    exact a5
  · rw [hK.1 198 5 (h1 _ _ (by omega))]
    exact a6
  · rw [hK.1 198 6 (h1 _ _ (by omega))]
    exact a7
theorem mb_K {S : Nat → Nat → Prop} {u u' : St} {X : Tx} {p : Nat} {g : Bool} (h : Mb u X p g) (hK : Kp S u u') (h1 : ∀ a k, (a = 198 ∧ (k = 2 ∨ k = 3 ∨ k = 4 ∨ k = 5 ∨ k = 6)) ∨ a = 199 → S a k) : Mb u' X p g := ⟨ma_K h.1 hK h1, by rw [hK.1 198 2 (h1 _ _ (by omega))]; exact h.2⟩
theorem mf_K {S : Nat → Nat → Prop} {u u' : St} {X : Tx} {e : Nat × Nat} (h : Mf u X e) (hK : Kp S u u') (h1 : ∀ a k, (a = 198 ∧ (k = 3 ∨ k = 5 ∨ k = 6)) ∨ a = 199 → S a k) : Mf u' X e := by
  obtain ⟨a1, a2, a3, a4, a5⟩ := h
  refine ⟨mt_K a1 hK (h1 _ _ (by omega)) (fun k => h1 _ _ (by omega)), ?_, a3, ?_, a5⟩
  · rw [hK.1 198 5 (h1 _ _ (by omega))]
    exact a2
  · rw [hK.1 198 6 (h1 _ _ (by omega))]
    exact a4
theorem mf_bad {u : St} {X : Tx} {e : Nat × Nat} (h : Mf u X e) : ¬ u.1 198 5 = 0 := by
  rw [h.2.1]
  have := h.2.2.1
  exact nI_ne0 (by omega) (by omega)
def lch (X : Tx) (p : Nat) : Option Nat := if lst X p < X.2 then some (X.1 (lst X p)) else none
theorem r_look {X : Tx} {p : Nat} {g : Bool} {Q : Int32 → St → Prop} {u : St} (h : Ma u X p g) (hQ : ∀ u', Kp SXr u u' → Mb u' X p g → Q (oI (lch X p)) u') : s_X12_look Q u := by
  obtain ⟨a1, a2, ⟨a, a3, a4, a5⟩, a6⟩ := h
  have hl := lst_p a2
  have h16 := a1.1
  unfold s_X12_look sX12_look_p0
  refine lpx (fun n s => sX12_look_p0n Q n s) (fun k s => ∃ b, s.1 198 2 = nI b ∧ p ≤ b ∧ b ≤ lst X p ∧ k = lst X p - b ∧ Kp (fun x j => ¬ (x = 198 ∧ j = 2)) u s) ?_ (lst X p - a) u ⟨a, a3, a4, a5, rfl, kp_r u⟩
  rintro n k s ⟨b, s2, hb1, hb2, hk, hK⟩ hnext
  show sX12_look_p0b Q (sX12_look_p0n Q n) s
  unfold sX12_look_p0b sX12_look_p39
  have ts : Mtx s X := mt_K a1 hK (by omega) (fun k => by omega)
  have hfin : b = lst X p → sX12_look_p52 Q s := by
    intro e
    have hMb : Mb s X p g := by
      refine ⟨⟨ts, a2, ⟨b, s2, hb1, hb2⟩, ?_, ?_, ?_, ?_⟩, by rw [s2, e]⟩
      · rw [hK.1 198 4 (by omega)]
        exact a6.1
      · rw [hK.1 198 4 (by omega)]
        exact a6.2.1
      · rw [hK.1 198 5 (by omega)]
        exact a6.2.2.1
      · rw [hK.1 198 6 (by omega)]
        exact a6.2.2.2
    have hq := hQ s (kp_m hK (fun x j h => by unfold SXr at h; omega)) hMb
    unfold sX12_look_p52
    rw [s2, ts.2.1]
    unfold lch at hq
    by_cases hlt : lst X p < X.2
    · rw [if_pos hlt] at hq
      refine i_neg (nI_ge (by omega) (by omega)) ?_
      rw [nI_clamp (by omega), e, (ts.2.2 _ hlt).1]
      exact ⟨vp_in_nI (by omega) (by omega), hq⟩
    · rw [if_neg hlt] at hq
      exact i_pos (nI_le (by omega) (by omega)) hq
  rw [s2, ts.2.1]
  by_cases hbe : b = X.2
  · exact i_pos (nI_le (by omega) (by omega)) (hfin (by omega))
  refine i_neg (nI_ge (by omega) (by omega)) ?_
  have hby := ts.2.2 b (by omega)
  rw [nI_clamp (by omega), hby.1]
  refine ⟨vp_in_nI (by omega) (by omega), ?_⟩
  have hgo : b ≠ lst X p → bnd (tI s 198 2 (nI b + 1)) (fun u5 => sX12_look_p0n Q n u5) := by
    intro hne
    refine bnd_i ?_
    rw [nI_1]
    exact hnext (lst X p - (b + 1)) _ (by omega) ⟨b + 1, t_s _ _ _ _, by omega, by omega, rfl, kp_I hK (by omega)⟩
  have hbl : (X.1 b = 32 ∨ X.1 b = 10) ↔ b ≠ lst X p := by
    constructor
    · intro h e
      rw [e] at h
      exact hl.2.2.2 (by omega) h
    · intro h
      exact hl.2.2.1 b hb1 (by omega)
  by_cases c1 : X.1 b = 10
  · exact i_pos (by rw [c1]; rfl) (hgo (hbl.mp (Or.inr c1)))
  refine i_neg (x_ne (k := 10) (by omega) (by omega) c1) ?_
  by_cases c2 : X.1 b = 32
  · exact i_pos (by rw [c2]; rfl) (hgo (hbl.mp (Or.inl c2)))
  refine i_neg (x_ne (k := 32) (by omega) (by omega) c2) (hfin ?_)
  by_cases e : b = lst X p
  · exact e
  · rcases hbl.mpr e with h | h
    · exact absurd h c2
    · exact absurd h c1
theorem r_isLetter {b : Nat} {Q : Int32 → St → Prop} {u : St} (hb : b < 256) (h1 : cls b = 1 → Q 1 u) (h0 : cls b ≠ 1 → Q 0 u) : s_X12_isLetter (nI b) Q u := by
  unfold s_X12_isLetter
  have h97 : (nI b < (97 : Int32)) = (b < 97) := x_lt (b := 97) (by omega) (by omega)
  have h122 : ((122 : Int32) < nI b) = (122 < b) := x_lt (a := 122) (by omega) (by omega)
  by_cases c : cls b = 1
  · have := clx_1.mp c
    exact i_neg (fun h => absurd (h97.mp h) (by omega)) (i_neg (fun h => absurd (h122.mp h) (by omega)) (h1 c))
  · have hn : ¬ (97 ≤ b ∧ b ≤ 122) := fun h => c (clx_1.mpr h)
    by_cases c3 : b < 97
    · exact i_pos (h97.mpr c3) (h0 c)
    · exact i_neg (fun h => c3 (h97.mp h)) (i_pos (h122.mpr (by omega)) (h0 c))
theorem r_isDigit {b : Nat} {Q : Int32 → St → Prop} {u : St} (hb : b < 256) (h1 : cls b = 2 → Q 1 u) (h0 : cls b ≠ 2 → Q 0 u) : s_X12_isDigit (nI b) Q u := by
  unfold s_X12_isDigit
  have h48 : (nI b < (48 : Int32)) = (b < 48) := x_lt (b := 48) (by omega) (by omega)
  have h57 : ((57 : Int32) < nI b) = (57 < b) := x_lt (a := 57) (by omega) (by omega)
  by_cases c : cls b = 2
  · have := clx_2.mp c
    exact i_neg (fun h => absurd (h48.mp h) (by omega)) (i_neg (fun h => absurd (h57.mp h) (by omega)) (h1 c))
  · have hn : ¬ (48 ≤ b ∧ b ≤ 57) := fun h => c (clx_2.mpr h)
    by_cases c3 : b < 48
    · exact i_pos (h48.mpr c3) (h0 c)
    · exact i_neg (fun h => c3 (h48.mp h)) (i_pos (h57.mpr (by omega)) (h0 c))
/-- the first letter of a word, of a number -/
theorem r_lookL {X : Tx} {p : Nat} {g : Bool} {Q : Int32 → St → Prop} {u : St} (hb : Mb u X p g) (h1 : lk0 X p = 1 → Q 1 u) (h0 : lk0 X p ≠ 1 → Q 0 u) : s_X12_isLetter (oI (lch X p)) Q u := by
  unfold lch
  by_cases hlt : lst X p < X.2
  · first | refine i_pos hlt ?_ | rw [if_pos hlt]
    rw [show oI (some (X.1 (lst X p))) = nI (X.1 (lst X p)) from rfl]
    have := (hb.1.1.2.2 _ hlt).2
    rw [lk0_c hlt] at h1 h0
    exact r_isLetter this h1 h0
  · first | refine i_neg hlt ?_ | rw [if_neg hlt]
    try (with_reducible rfl)
    unfold s_X12_isLetter
    exact i_pos (by first | decide | (unfold vp_in; decide)) (h0 (by rw [lk0_0.mpr hlt]; omega))
theorem r_lookD {X : Tx} {p : Nat} {g : Bool} {Q : Int32 → St → Prop} {u : St} (hb : Mb u X p g) (h1 : lk0 X p = 2 → Q 1 u) (h0 : lk0 X p ≠ 2 → Q 0 u) : s_X12_isDigit (oI (lch X p)) Q u := by
  unfold lch
  by_cases hlt : lst X p < X.2
  · first | refine i_pos hlt ?_ | rw [if_pos hlt]
    rw [show oI (some (X.1 (lst X p))) = nI (X.1 (lst X p)) from rfl]
    have := (hb.1.1.2.2 _ hlt).2
    rw [lk0_c hlt] at h1 h0
    exact r_isDigit this h1 h0
  · first | refine i_neg hlt ?_ | rw [if_neg hlt]
    try (with_reducible rfl)
    unfold s_X12_isDigit
    exact i_pos (by first | decide | (unfold vp_in; decide)) (h0 (by rw [lk0_0.mpr hlt]; omega))
/-- where the last word or number ended -/
theorem r_glue {X : Tx} {p : Nat} {g : Bool} {u : St} (hb : Mb u X p g) : (u.1 198 2 = u.1 198 4) ↔ (g = true ∧ lst X p = p) := by
  have hl := lst_p hb.1.2.1
  have h16 := hb.1.1.1
  have hp := hb.1.2.1
  rw [hb.2]
  cases g with
  | true =>
    rw [hb.1.2.2.2.1 rfl, nI_e (by omega) (by omega)]
    exact ⟨fun h => ⟨rfl, h⟩, fun h => h.2⟩
  | false =>
    refine ⟨fun h => ?_, fun h => absurd h.1 (by simp)⟩
    rcases hb.1.2.2.2.2.1 rfl with e | ⟨k, hk, e⟩
    · rw [e, x_ne1 (by omega)] at h
      exact h.elim
    · rw [e, nI_e (by omega) (by omega)] at h
      omega
theorem lkd_u {X : Tx} {p k : Nat} {g : Bool} (hk : lk0 X p = k) (hg : ¬ (g = true ∧ lst X p = p)) : lkd X p g = k := by
  unfold lkd
  first | refine i_neg (fun h => hg h.2) ?_ | rw [if_neg (fun h => hg h.2)]
  try (with_reducible rfl)
  exact hk
theorem lkd_g {X : Tx} {p : Nat} {g : Bool} (hk : lk0 X p = 1 ∨ lk0 X p = 2) (hg : g = true ∧ lst X p = p) : lkd X p g = 4 := by
  unfold lkd
  first | refine i_pos ⟨hk, hg⟩ ?_ | rw [if_pos ⟨hk, hg⟩]
  try (with_reducible rfl)
/-- a word of the reference, in a cell -/
def WdA (u : St) (v : Nat) (w : List Nat) : Prop := Ar SH v 101 w.length ∧ w.length < 100 ∧ ∀ k, k < w.length → u.1 v k = nI (w.getD k 0) ∧ w.getD k 0 < 256
theorem wda_K {S : Nat → Nat → Prop} {u u' : St} {v : Nat} {w : List Nat} (h : WdA u v w) (hK : Kp S u u') (hS : ∀ k, S v k) : WdA u' v w := by
  refine ⟨h.1, h.2.1, fun k hk => ?_⟩
  rw [hK.1 v k (hS k)]
  exact h.2.2 k hk
theorem r_isHere {X : Tx} {p v : Nat} {g : Bool} {w : List Nat} {Q : Int32 → St → Prop} {u : St} (hv : v ≠ 198) (hw : WdA u v w) (h : Ma u X p g) (h1 : ∀ u', Kp SXr u u' → Mb u' X p g → isW' X p g w → Q 1 u') (h0 : ∀ u', Kp SXr u u' → Mb u' X p g → ¬ isW' X p g w → Q 0 u') : s_X12_isHere v Q u := by
  unfold s_X12_isHere
  rw [h.2.2.2.2.2.1]
  refine i_pos rfl (r_look h (fun u1 k1 b1 => ?_))
  have hp := h.2.1
  have h16 := h.1.1
  have hl := lst_p hp
  have hn := lnx_p hp
  have hw1 : WdA u1 v w := wda_K hw k1 (fun k => by unfold SXr; omega)
  refine r_lookL b1 (fun e1 => i_neg (by first | decide | (unfold vp_in; decide)) ?_) (fun e1 => i_pos rfl (h0 u1 k1 b1 (fun hh => e1 (lkd_k hh.1 (by omega)).1)))
  by_cases hg : g = true ∧ lst X p = p
  · refine i_pos ((r_glue b1).mpr hg) (h0 u1 k1 b1 (fun hh => ?_))
    have := lkd_g (X := X) (Or.inl e1) hg
    have := hh.1
    omega
  refine i_neg (fun hh => hg ((r_glue b1).mp hh)) ?_
  have hkd := lkd_u e1 hg
  have hin := lnx_in hp e1 (Or.inl rfl)
  have hlt : lst X p < X.2 := by
    by_cases hlt : lst X p < X.2
    · exact hlt
    · have := lk0_0.mpr hlt
      omega
  have hn2 := hn.2.2 hlt
  unfold sX12_isHere_p35
  rw [b1.2]
  refine for_g (fun i => nI (lst X p + i)) (fun n i s => sX12_isHere_p35n v Q n i s) (lnx X p - lst X p) (fun i s => s = u1) ?_ 0 u1 (by omega) rfl
  rintro n i s hi rfl hnext
  show sX12_isHere_p35b v Q (sX12_isHere_p35n v Q n) (nI (lst X p + i)) s
  unfold sX12_isHere_p35b
  have ts := b1.1.1
  have hend : i = lnx X p - lst X p → sX12_isHere_p61 v (nI (lst X p + i)) Q s := by
    intro ei
    unfold sX12_isHere_p61
    refine ⟨w.length, hw1.1, ?_⟩
    have hwl := hw1.2.1
    rw [b1.2, pk_sub (by omega), show lst X p + i - lst X p = i by omega]
    by_cases hlen : i = w.length
    · refine i_pos (by rw [hlen]) ?_
      unfold sX12_isHere_p76
      refine for_up (fun n i s => sX12_isHere_p76n v Q n i s) w.length (fun j s' => s' = s ∧ ∀ k, k < j → X.1 (lst X p + k) = w.getD k 0) ?_ 0 s (by omega) ⟨rfl, fun k hk => absurd hk (by omega)⟩
      rintro n2 j s2 hj ⟨rfl, heq⟩ hnext2
      show sX12_isHere_p76b v Q (sX12_isHere_p76n v Q n2) (nI j) s2
      unfold sX12_isHere_p76b
      refine ⟨w.length, hw1.1, ?_⟩
      by_cases hje : j = w.length
      · refine i_pos (nI_le (by omega) (by omega)) (h1 s2 k1 b1 ⟨hkd, lw_eq.mpr ⟨by omega, fun k hk => heq k (by omega)⟩⟩)
      refine i_neg (nI_ge (by omega) (by omega)) ?_
      have hb := ts.2.2 (lst X p + j) (by omega)
      have hwj := hw1.2.2 j (by omega)
      rw [b1.2, nI_add, nI_clamp (by omega), nI_clamp (by omega), hb.1, hwj.1, nI_1]
      refine ⟨vp_in_nI (by omega) (by omega), ix_n hw1.1 (by omega) (by omega), ?_⟩
      by_cases ec : X.1 (lst X p + j) = w.getD j 0
      · refine i_pos (by rw [ec]) (hnext2 (by omega) s2 ⟨rfl, fun k hk => ?_⟩)
        by_cases ek : k = j
        · rw [ek]
          exact ec
        · exact heq k (by omega)
      · exact i_neg (fun hh => ec ((nI_e (by omega) (by omega)).mp hh)) (h0 s2 k1 b1 (fun hh => ec ((lw_eq.mp hh.2).2 j (by omega))))
    · exact i_neg (fun hh => hlen ((nI_e (by omega) (by omega)).mp hh)) (h0 s k1 b1 (fun hh => hlen (by rw [ei]; exact (lw_eq.mp hh.2).1)))
  rw [ts.2.1]
  by_cases hie : lst X p + i = X.2
  · exact i_pos (nI_le (by omega) (by omega)) (hend (by omega))
  refine i_neg (nI_ge (by omega) (by omega)) ?_
  have hb := ts.2.2 (lst X p + i) (by omega)
  rw [nI_clamp (by omega), hb.1, nI_1]
  refine ⟨vp_in_nI (by omega) (by omega), ?_⟩
  refine r_isLetter hb.2 (fun hc => i_neg (by first | decide | (unfold vp_in; decide)) (hnext ?_ s rfl)) (fun hc => i_pos rfl (hend ?_))
  · by_cases hie2 : i = lnx X p - lst X p
    · rcases hin.2 with h2 | h2
      · omega
      · rw [show lnx X p = lst X p + i by omega] at h2
        exact absurd hc h2
    · omega
  · by_cases hie2 : i = lnx X p - lst X p
    · exact hie2
    · exact absurd (hin.1 (lst X p + i) (by omega) (by omega)) hc
theorem r_takes {X : Tx} {p v : Nat} {g : Bool} {w : List Nat} {Q : Int32 → St → Prop} {u : St} (hv : v ≠ 198) (hw : WdA u v w) (h : Ma u X p g) (h1 : ∀ u', Kp SXr u u' → isW' X p g w → Ma u' X (lnx X p) true → Q 1 u') (h0 : ∀ u', Kp SXr u u' → Mb u' X p g → ¬ isW' X p g w → Q 0 u') : s_X12_takes v Q u := by
  unfold s_X12_takes
  have hp := h.2.1
  have h16 := h.1.1
  have hn := lnx_p hp
  have hl := lst_p hp
  refine r_isHere hv hw h (fun u1 k1 b1 hy => i_neg (by first | decide | (unfold vp_in; decide)) ?_) (fun u1 k1 b1 hn => i_pos rfl (h0 u1 k1 b1 hn))
  refine ⟨w.length, hw.1, bnd_i (bnd_i ?_)⟩
  have hlen := (lw_eq.mp hy.2).1
  have hwl := hw.2.1
  have e1 : u1.1 198 2 + nI w.length = nI (lnx X p) := by
    rw [b1.2, nI_add]
    congr 1
    omega
  rw [e1, t_s]
  have hn2 := lst_p hn.2.1
  refine h1 _ (kp_I (kp_I k1 (by unfold SXr; omega)) (by unfold SXr; omega)) hy ⟨⟨h16, by rw [t_n _ _ (by omega), t_n _ _ (by omega)]; exact b1.1.1.2.1, fun k hk => by rw [t_n _ _ (by omega), t_n _ _ (by omega)]; exact b1.1.1.2.2 k hk⟩, hn.2.1, ⟨lnx X p, by rw [t_n _ _ (by omega), t_s], Nat.le_refl _, hn2.1⟩, fun _ => t_s _ _ _ _, fun hh => absurd hh (by simp), ?_, ?_⟩
  · rw [t_n _ _ (by omega), t_n _ _ (by omega)]
    exact b1.1.2.2.2.2.2.1
  · rw [t_n _ _ (by omega), t_n _ _ (by omega)]
    exact b1.1.2.2.2.2.2.2
theorem r_fail {X : Tx} {p f a : Nat} {g : Bool} {Q : St → Prop} {u : St} (h : Ma u X p g) (hf : 0 < f ∧ f < 10) (ha : a ≤ 1600) (hQ : ∀ u', Kp SXr u u' → Mf u' X (f, a) → Q u') : s_X12_fail (nI f) (nI a) Q u := by
  unfold s_X12_fail
  rw [h.2.2.2.2.2.1]
  refine i_pos rfl (bnd_i (bnd_i ?_))
  have hK : Kp SXr u (tI (tI u 198 5 (nI f)) 198 6 (nI a)) := kp_I (kp_I (kp_r u) (by unfold SXr; omega)) (by unfold SXr; omega)
  refine hQ _ hK ⟨mt_K h.1 hK (by unfold SXr; omega) (fun k => by unfold SXr; omega), ?_, hf, t_s _ _ _ _, ha⟩
  rw [t_n _ _ (by omega), t_s]
theorem r_failF {X : Tx} {e : Nat × Nat} {v1 v2 : Int32} {Q : St → Prop} {u : St} (h : Mf u X e) (hQ : Q u) : s_X12_fail v1 v2 Q u := by
  unfold s_X12_fail
  exact i_neg (mf_bad h) hQ
theorem r_failB {X : Tx} {p : Nat} {g : Bool} {Q : St → Prop} {u : St} (h : Mb u X p g) (hQ : ∀ u', Kp SXr u u' → Mf u' X (1, lst X p) → Q u') : s_X12_fail (1 : Int32) (u.1 198 2) Q u := by
  rw [h.2]
  have hl := lst_p h.1.2.1
  have h16 := h.1.1.1
  exact r_fail (f := 1) h.1 (by omega) (by omega) hQ
theorem r_asks {X : Tx} {p v : Nat} {g : Bool} {w : List Nat} {Q : St → Prop} {u : St} (hv : v ≠ 198) (hw : WdA u v w) (h : Ma u X p g) (h1 : ∀ u', Kp SXr u u' → isW' X p g w → Ma u' X (lnx X p) true → Q u') (h0 : ∀ u', Kp SXr u u' → ¬ isW' X p g w → Mf u' X (1, lst X p) → Q u') : s_X12_asks v Q u := by
  unfold s_X12_asks
  rw [h.2.2.2.2.2.1]
  refine i_pos rfl (r_takes hv hw h (fun u1 k1 hy m1 => i_neg (by first | decide | (unfold vp_in; decide)) (h1 u1 k1 hy m1)) (fun u1 k1 b1 hn => i_pos rfl (r_failB b1 (fun u2 k2 f2 => h0 u2 (kp_t k1 k2) hn f2))))
theorem r_asksF {X : Tx} {e : Nat × Nat} {v : Nat} {Q : St → Prop} {u : St} (h : Mf u X e) (hQ : Q u) : s_X12_asks v Q u := by
  unfold s_X12_asks
  exact i_neg (mf_bad h) hQ
theorem r_takesSign {X : Tx} {p c : Nat} {g : Bool} {Q : Int32 → St → Prop} {u : St} (hc : c < 256 ∧ cls c = 3) (h : Ma u X p g) (h1 : ∀ u', Kp SXr u u' → isS X p g c → Ma u' X (lnx X p) false → u'.1 198 2 = nI (lst X p + 1) → Q 1 u') (h0 : ∀ u', Kp SXr u u' → Mb u' X p g → ¬ isS X p g c → Q 0 u') : s_X12_takesSign (nI c) Q u := by
  unfold s_X12_takesSign
  rw [h.2.2.2.2.2.1]
  have hp := h.2.1
  have h16 := h.1.1
  have hn := lnx_p hp
  have hl := lst_p hp
  refine i_pos rfl (r_look h (fun u1 k1 b1 => ?_))
  unfold lch
  by_cases hlt : lst X p < X.2
  · first | refine i_pos hlt ?_ | rw [if_pos hlt]
    rw [show oI (some (X.1 (lst X p))) = nI (X.1 (lst X p)) from rfl]
    have hb := (b1.1.1.2.2 _ hlt).2
    by_cases ec : X.1 (lst X p) = c
    · have hk : lk0 X p = 3 := by rw [lk0_c hlt, ec]; exact hc.2
      have hs : isS X p g c := by
        refine ⟨?_, ec⟩
        unfold lkd
        first | refine i_neg (by omega) ?_ | rw [if_neg (by omega)]
        try (with_reducible rfl)
        exact hk
      have hx3 := lnx_3 hp hk
      refine i_pos (by rw [ec]) (bnd_i ?_)
      rw [b1.2, nI_1]
      have hn2 := lst_p hn.2.1
      refine h1 _ (kp_I k1 (by unfold SXr; omega)) hs ⟨⟨h16, by rw [t_n _ _ (by omega)]; exact b1.1.1.2.1, fun k hk => by rw [t_n _ _ (by omega)]; exact b1.1.1.2.2 k hk⟩, hn.2.1, ⟨lst X p + 1, t_s _ _ _ _, by omega, by omega⟩, fun hh => absurd hh (by simp), fun _ => ?_, ?_, ?_⟩ (t_s _ _ _ _)
      · rw [t_n _ _ (by omega)]
        cases g with
        | true => exact Or.inr ⟨p, by omega, b1.1.2.2.2.1 rfl⟩
        | false =>
          rcases b1.1.2.2.2.2.1 rfl with e | ⟨k, hk, e⟩
          · exact Or.inl e
          · exact Or.inr ⟨k, by omega, e⟩
      · rw [t_n _ _ (by omega)]
        exact b1.1.2.2.2.2.2.1
      · rw [t_n _ _ (by omega)]
        exact b1.1.2.2.2.2.2.2
    · exact i_neg (fun hh => ec ((nI_e (by omega) (by omega)).mp hh)) (h0 u1 k1 b1 (fun hh => ec hh.2))
  · first | refine i_neg hlt ?_ | rw [if_neg hlt]
    try (with_reducible rfl)
    refine i_neg ?_ (h0 u1 k1 b1 (fun hh => ?_))
    · show ¬ (-1 : Int32) = nI c
      rw [x_ne1' (by omega)]
      exact id
    · have := (lkd_k hh.1 (by omega)).1
      have := lk0_0.mpr hlt
      omega
theorem r_takesSignF {X : Tx} {e : Nat × Nat} {c : Int32} {Q : Int32 → St → Prop} {u : St} (h : Mf u X e) (hQ : Q 0 u) : s_X12_takesSign c Q u := by
  unfold s_X12_takesSign
  exact i_neg (mf_bad h) hQ
theorem r_asksSign {X : Tx} {p c : Nat} {g : Bool} {Q : St → Prop} {u : St} (hc : c < 256 ∧ cls c = 3) (h : Ma u X p g) (h1 : ∀ u', Kp SXr u u' → isS X p g c → Ma u' X (lnx X p) false → Q u') (h0 : ∀ u', Kp SXr u u' → ¬ isS X p g c → Mf u' X (1, lst X p) → Q u') : s_X12_asksSign (nI c) Q u := by
  unfold s_X12_asksSign
  rw [h.2.2.2.2.2.1]
  refine i_pos rfl (r_takesSign hc h (fun u1 k1 hy m1 _ => i_neg (by first | decide | (unfold vp_in; decide)) (h1 u1 k1 hy m1)) (fun u1 k1 b1 hn => i_pos rfl (r_failB b1 (fun u2 k2 f2 => h0 u2 (kp_t k1 k2) hn f2))))
theorem r_asksSignF {X : Tx} {e : Nat × Nat} {c : Int32} {Q : St → Prop} {u : St} (h : Mf u X e) (hQ : Q u) : s_X12_asksSign c Q u := by
  unfold s_X12_asksSign
  exact i_neg (mf_bad h) hQ
theorem r_number {X : Tx} {p least most : Nat} {g : Bool} {Q : Int32 → St → Prop} {u : St} (hle : least < 100000) (hmo : most < 100000) (h : Ma u X p g) (h1 : ∀ u' v, Kp SXr u u' → nuR X p g least most = .ok v → Ma u' X (lnx X p) true → u'.1 198 10 = nI (lst X p) → Q (nI v) u') (h0 : ∀ u' e r, Kp SXr u u' → nuR X p g least most = .error e → Mf u' X e → Q r u') : s_X12_number (nI least) (nI most) Q u := by
  unfold s_X12_number
  rw [h.2.2.2.2.2.1]
  have hp := h.2.1
  have h16 := h.1.1
  have hn := lnx_p hp
  have hl := lst_p hp
  refine i_pos rfl (r_look h (fun u1 k1 b1 => ?_))
  unfold nuR at h1 h0
  have hbad : ¬ lkd X p g = 2 → sX12_number_p30 Q u1 := by
    intro hb
    rw [if_neg hb] at h0
    unfold sX12_number_p30
    exact r_failB b1 (fun u2 k2 f2 => h0 u2 _ _ (kp_t k1 k2) rfl f2)
  refine r_lookD b1 (fun e1 => i_neg (by first | decide | (unfold vp_in; decide)) ?_) (fun e1 => i_pos rfl (hbad (fun hh => e1 (lkd_k hh (by omega)).1)))
  by_cases hg : g = true ∧ lst X p = p
  · refine i_pos ((r_glue b1).mpr hg) (hbad (fun hh => ?_))
    have := lkd_g (X := X) (Or.inr e1) hg
    omega
  refine i_neg (fun hh => hg ((r_glue b1).mp hh)) ?_
  have hkd := lkd_u e1 hg
  rw [if_pos hkd] at h1 h0
  have hin := lnx_in hp e1 (Or.inr rfl)
  have hlt : lst X p < X.2 := by
    by_cases hlt : lst X p < X.2
    · exact hlt
    · have := lk0_0.mpr hlt
      omega
  have hn2 := hn.2.2 hlt
  have hdig : ∀ j, j < lnx X p - lst X p → 48 ≤ X.1 (lst X p + j) ∧ X.1 (lst X p + j) ≤ 57 := fun j hj => clx_2.mp (hin.1 (lst X p + j) (by omega) (by omega))
  unfold sX12_number_p49
  rw [b1.2]
  refine lpx (σ := Int32 × St) (fun n s => sX12_number_p49n (nI least) (nI most) (nI (lst X p)) Q n s.1 s.2) (fun k s => ∃ i, i ≤ 4 ∧ i ≤ lnx X p - lst X p ∧ k = 5 - i ∧ s.1 = nI (dv X (lst X p) i) ∧ s.2.1 198 2 = nI (lst X p + i) ∧ Kp (fun x j => ¬ (x = 198 ∧ j = 2)) u1 s.2) ?_ 5 (0, u1) ⟨0, by omega, by omega, rfl, rfl, b1.2, kp_r u1⟩
  rintro n k ⟨v4, s⟩ ⟨i, hi4, hi, hk, ev, s2, hK⟩ hnext
  simp only at ev s2 hK
  subst ev
  show sX12_number_p49b (nI least) (nI most) (nI (lst X p)) Q (sX12_number_p49n (nI least) (nI most) (nI (lst X p)) Q n) (nI (dv X (lst X p) i)) s
  unfold sX12_number_p49b
  have ts : Mtx s X := mt_K b1.1.1 hK (by omega) (fun k => by omega)
  have hKr : Kp SXr u s := kp_t k1 (kp_m hK (fun x j h => by unfold SXr at h; omega))
  have hdv : dv X (lst X p) i < 10000 := by
    have h1 := dv_lt (X := X) (s := lst X p) i (fun j hj => (hdig j (by omega)).2)
    have h2 : 10 ^ i ≤ 10 ^ 4 := Nat.pow_le_pow_right (by omega) (by omega)
    omega
  have hend : i = lnx X p - lst X p → sX12_number_p129 (nI least) (nI most) (nI (lst X p)) (nI (dv X (lst X p) i)) Q s := by
    intro ei
    have hv : dv X (lst X p) i = nuV X p := by rw [ei]; rfl
    have hlen : lnx X p - lst X p ≤ 4 := by omega
    rw [if_pos hlen] at h1 h0
    unfold sX12_number_p129
    have hdv2 := hdv
    rw [hv] at hdv2
    rw [s2, hv]
    refine bnd_i (bnd_i ?_)
    have hn3 := lst_p hn.2.1
    have hm : Ma (tI (tI s 198 4 (nI (lst X p + i))) 198 10 (nI (lst X p))) X (lnx X p) true := by
      refine ⟨⟨h16, by rw [t_n _ _ (by omega), t_n _ _ (by omega)]; exact ts.2.1, fun k hk => by rw [t_n _ _ (by omega), t_n _ _ (by omega)]; exact ts.2.2 k hk⟩, hn.2.1, ⟨lst X p + i, by rw [t_n _ _ (by omega), t_n _ _ (by omega)]; exact s2, by omega, by omega⟩, fun _ => ?_, fun hh => absurd hh (by simp), ?_, ?_⟩
      · rw [t_n _ _ (by omega), t_s]
        congr 1
        omega
      · rw [t_n _ _ (by omega), t_n _ _ (by omega), hK.1 198 5 (by omega)]
        exact b1.1.2.2.2.2.2.1
      · rw [t_n _ _ (by omega), t_n _ _ (by omega), hK.1 198 6 (by omega)]
        exact b1.1.2.2.2.2.2.2
    have hkk : Kp SXr u (tI (tI s 198 4 (nI (lst X p + i))) 198 10 (nI (lst X p))) := kp_I (kp_I hKr (by unfold SXr; omega)) (by unfold SXr; omega)
    have h10 : (tI (tI s 198 4 (nI (lst X p + i))) 198 10 (nI (lst X p))).1 198 10 = nI (lst X p) := t_s _ _ _ _
    generalize (tI (tI s 198 4 (nI (lst X p + i))) 198 10 (nI (lst X p))) = z at hm hkk h10
    rw [nI_l (by omega), nI_l (by omega), nI_l (by omega), lN_lI (by omega), lN_lI (by omega), lN_lI (by omega)]
    refine r_isIn (by omega) (by omega) (by omega) (fun a b => i_neg (by first | decide | (unfold vp_in; decide)) ?_) (fun a => i_pos rfl ?_)
    · rw [if_pos ⟨by omega, by omega⟩] at h1
      exact h1 z _ hkk rfl hm h10
    · rw [if_neg (by omega)] at h0
      exact r_fail (f := 2) hm (by omega) (by omega) (fun u2 k2 f2 => h0 u2 _ _ (kp_t hkk k2) rfl f2)
  rw [s2, ts.2.1]
  by_cases hie : lst X p + i = X.2
  · exact i_pos (nI_le (by omega) (by omega)) (hend (by omega))
  refine i_neg (nI_ge (by omega) (by omega)) ?_
  have hb := ts.2.2 (lst X p + i) (by omega)
  rw [nI_clamp (by omega), hb.1]
  refine ⟨vp_in_nI (by omega) (by omega), ?_⟩
  refine r_isDigit hb.2 (fun hc => i_neg (by first | decide | (unfold vp_in; decide)) ?_) (fun hc => i_pos rfl (hend ?_))
  · have hmore : i < lnx X p - lst X p := by
      by_cases hie2 : i = lnx X p - lst X p
      · rcases hin.2 with h2 | h2
        · omega
        · rw [show lnx X p = lst X p + i by omega] at h2
          exact absurd hc h2
      · omega
    rw [s2, pk_sub (by omega), show lst X p + i - lst X p = i by omega]
    by_cases h4 : i = 4
    · have hlen : ¬ lnx X p - lst X p ≤ 4 := by omega
      rw [if_neg hlen] at h0
      refine i_pos (by rw [h4]; rfl) ?_
      have s5 : s.1 198 5 = 0 := by rw [hK.1 198 5 (by omega)]; exact b1.1.2.2.2.2.2.1
      unfold s_X12_fail
      rw [s5]
      refine i_pos rfl (bnd_i (bnd_i ?_))
      rw [show lst X p + i = lst X p + 4 by omega]
      have hK2 : Kp SXr s (tI (tI s 198 5 (1 : Int32)) 198 6 (nI (lst X p + 4))) := kp_I (kp_I (kp_r s) (by unfold SXr; omega)) (by unfold SXr; omega)
      refine h0 _ _ _ (kp_t hKr hK2) rfl ⟨mt_K ts hK2 (by unfold SXr; omega) (fun k => by unfold SXr; omega), ?_, ⟨by omega, by omega⟩, t_s _ _ _ _, by omega⟩
      rw [t_n _ _ (by omega), t_s]
      rfl
    · refine i_neg (x_ne (k := 4) (by omega) (by omega) h4) ?_
      have hdg := hdig i hmore
      have ev : (10 : Int32) * nI (dv X (lst X p) i) + nI (X.1 (lst X p + i)) - (48 : Int32) = nI (dv X (lst X p) (i + 1)) := by
        rw [show (10 : Int32) * nI (dv X (lst X p) i) = nI (10 * dv X (lst X p) i) from pk_mul 10 _, nI_add, show nI (10 * dv X (lst X p) i + X.1 (lst X p + i)) - (48 : Int32) = nI (10 * dv X (lst X p) i + X.1 (lst X p + i) - 48) from pk_sub (b := 48) (by omega)]
        rfl
      rw [nI_1, nI_clamp (by omega), hb.1, ev]
      refine ⟨vp_in_nI (by omega) (by omega), bnd_i ?_⟩
      exact hnext (5 - (i + 1)) (nI (dv X (lst X p) (i + 1)), _) (by omega) ⟨i + 1, by omega, by omega, rfl, rfl, t_s _ _ _ _, kp_I hK (by omega)⟩
  · by_cases hie2 : i = lnx X p - lst X p
    · exact hie2
    · exact absurd (hin.1 (lst X p + i) (by omega) (by omega)) hc
theorem r_numberF {X : Tx} {e : Nat × Nat} {v1 v2 : Int32} {Q : Int32 → St → Prop} {u : St} (h : Mf u X e) (hQ : Q 0 u) : s_X12_number v1 v2 Q u := by
  unfold s_X12_number
  exact i_neg (mf_bad h) hQ
