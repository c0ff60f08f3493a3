/-! ===== the reference reads a part of a SUM ===== -/
theorem ma_sgn {X : Tx} {p : Nat} {g : Bool} {u : St} (hb : Mb u X p g) (hk : lkd X p g = 3) : Ma (tI u 198 2 (u.1 198 2 + 1)) X (lnx X p) false := by
  have hp := hb.1.2.1
  have h16 := hb.1.1.1
  have hn := lnx_p hp
  have hl := lst_p hp
  have hk0 := (lkd_k hk (by omega)).1
  have hx3 := lnx_3 hp hk0
  have hn2 := lst_p hn.2.1
  rw [hb.2, nI_1]
  refine ⟨⟨h16, by rw [t_n _ _ (by omega)]; exact hb.1.1.2.1, fun k hk => by rw [t_n _ _ (by omega)]; exact hb.1.1.2.2 k hk⟩, hn.2.1, ⟨lst X p + 1, t_s _ _ _ _, by omega, by omega⟩, fun hh => absurd hh (by simp), fun _ => ?_, ?_, ?_⟩
  · rw [t_n _ _ (by omega)]
    cases g with
    | true => exact Or.inr ⟨p, by omega, hb.1.2.2.2.1 rfl⟩
    | false =>
      rcases hb.1.2.2.2.2.1 rfl with e | ⟨k, hk, e⟩
      · exact Or.inl e
      · exact Or.inr ⟨k, by omega, e⟩
  · rw [t_n _ _ (by omega)]
    exact hb.1.2.2.2.2.2.1
  · rw [t_n _ _ (by omega)]
    exact hb.1.2.2.2.2.2.2
theorem lch_s {X : Tx} {p c : Nat} {g : Bool} {u : St} (hb : Mb u X p g) (hc : c < 256 ∧ cls c = 3) : (oI (lch X p) = nI c) ↔ isS X p g c := by
  unfold lch
  by_cases hlt : lst X p < X.2
  · have hby := (hb.1.1.2.2 _ hlt).2
    first | refine i_pos hlt ?_ | rw [if_pos hlt]
    rw [show oI (some (X.1 (lst X p))) = nI (X.1 (lst X p)) from rfl, nI_e (by omega) (by omega)]
    constructor
    · intro e
      have hk : lk0 X p = 3 := by rw [lk0_c hlt, e]; exact hc.2
      refine ⟨?_, e⟩
      unfold lkd
      first | refine i_neg (by omega) ?_ | rw [if_neg (by omega)]
      try (with_reducible rfl)
      exact hk
    · exact fun h => h.2
  · first | refine i_neg hlt ?_ | rw [if_neg hlt]
    try (with_reducible rfl)
    constructor
    · intro e
      have e : (-1 : Int32) = nI c := e
      rw [x_ne1' (by omega)] at e
      exact e.elim
    · intro h
      have := (lkd_k h.1 (by omega)).1
      have := lk0_0.mpr hlt
      omega
theorem fnd_get {w : List Nat} : ∀ {l : List (List Nat)} {k : Nat}, fnd w l = some k → l.getD k [] = w
  | [], k, h => absurd h (by simp [fnd])
  | x :: xs, k, h => by
    unfold fnd at h
    by_cases e : x = w
    · rw [if_pos e] at h
      have := Option.some.inj h
      rw [← this]
      exact e
    · rw [if_neg e] at h
      cases hf : fnd w xs with
      | none =>
        rw [hf] at h
        exact absurd h (by simp)
      | some j =>
        rw [hf] at h
        have h2 : j + 1 = k := Option.some.inj h
        have h3 := fnd_get (l := xs) hf
        rw [← h2, List.getD_cons_succ]
        exact h3
theorem wIn_get {X : Tx} {p k : Nat} {g : Bool} {l : List (List Nat)} (h : wIn X p g l = some k) : isW' X p g (l.getD k []) := by
  unfold wIn at h
  by_cases e : lkd X p g = 1
  · rw [if_pos e] at h
    exact ⟨e, (fnd_get h).symm⟩
  · rw [if_neg e] at h
    exact absurd h (by simp)
def wf (f : Nat) : List Nat := if f = 13 then wWet else if f = 14 then wStep else (wds 13).getD f []
theorem r_askW {X : Tx} {p v : Nat} {g : Bool} {w : List Nat} {Q : St → Prop} {u : St} (hG : gWords u) (hw : (v, w) ∈ RWL) (hv : v ≠ 198) (h : Ma u X p g) (hy : isW' X p g w) (hQ : ∀ u', Kp SXr u u' → Ma u' X (lnx X p) true → Q u') : s_X12_asks v Q u := r_asks hv (wd_of (q := (v, w)) hG hw) h (fun u' k _ m => hQ u' k m) (fun u' k n _ => absurd hy n)
theorem r_qAsksWord {X : Tx} {p f : Nat} {g : Bool} {Q : St → Prop} {u : St} (hG : gWords u) (hf : f < 15) (h : Ma u X p g) (hy : isW' X p g (wf f)) (hQ : ∀ u', Kp SXr u u' → Ma u' X (lnx X p) true → Q u') : s_X12_qAsksWord (nI f) Q u := by
  unfold s_X12_qAsksWord
  have hc : f = 0 ∨ f = 1 ∨ f = 2 ∨ f = 3 ∨ f = 4 ∨ f = 5 ∨ f = 6 ∨ f = 7 ∨ f = 8 ∨ f = 9 ∨ f = 10 ∨ f = 11 ∨ f = 12 ∨ f = 13 ∨ f = 14 := by omega
  rcases hc with rfl | rfl | rfl | rfl | rfl | rfl | rfl | rfl | rfl | rfl | rfl | rfl | rfl | rfl | rfl
  · exact i_pos rfl (r_askW (v := 267) (w := [121, 101, 97, 114]) hG (by first | decide | (unfold vp_in; decide)) (by omega) h hy hQ)
  · exact i_neg (by first | decide | (unfold vp_in; decide)) (i_pos rfl (r_askW (v := 268) (w := [112, 105, 101]) hG (by first | decide | (unfold vp_in; decide)) (by omega) h hy hQ))
  · exact i_neg (by first | decide | (unfold vp_in; decide)) (i_neg (by first | decide | (unfold vp_in; decide)) (i_pos rfl (r_askW (v := 269) (w := [98, 101, 101, 110]) hG (by first | decide | (unfold vp_in; decide)) (by omega) h hy hQ)))
  · exact i_neg (by first | decide | (unfold vp_in; decide)) (i_neg (by first | decide | (unfold vp_in; decide)) (i_neg (by first | decide | (unfold vp_in; decide)) (i_pos rfl (r_askW (v := 270) (w := [98, 111, 108, 100]) hG (by first | decide | (unfold vp_in; decide)) (by omega) h hy hQ))))
  · exact i_neg (by first | decide | (unfold vp_in; decide)) (i_neg (by first | decide | (unfold vp_in; decide)) (i_neg (by first | decide | (unfold vp_in; decide)) (i_neg (by first | decide | (unfold vp_in; decide)) (i_pos rfl (r_askW (v := 271) (w := [107, 105, 110, 100]) hG (by first | decide | (unfold vp_in; decide)) (by omega) h hy hQ)))))
  · exact i_neg (by first | decide | (unfold vp_in; decide)) (i_neg (by first | decide | (unfold vp_in; decide)) (i_neg (by first | decide | (unfold vp_in; decide)) (i_neg (by first | decide | (unfold vp_in; decide)) (i_neg (by first | decide | (unfold vp_in; decide)) (i_pos rfl (r_askW (v := 272) (w := [104, 101, 105, 103, 104, 116]) hG (by first | decide | (unfold vp_in; decide)) (by omega) h hy hQ))))))
  · exact i_neg (by first | decide | (unfold vp_in; decide)) (i_neg (by first | decide | (unfold vp_in; decide)) (i_neg (by first | decide | (unfold vp_in; decide)) (i_neg (by first | decide | (unfold vp_in; decide)) (i_neg (by first | decide | (unfold vp_in; decide)) (i_neg (by first | decide | (unfold vp_in; decide)) (i_pos rfl (r_askW (v := 273) (w := [100, 111, 119, 110]) hG (by first | decide | (unfold vp_in; decide)) (by omega) h hy hQ)))))))
  · exact i_neg (by first | decide | (unfold vp_in; decide)) (i_neg (by first | decide | (unfold vp_in; decide)) (i_neg (by first | decide | (unfold vp_in; decide)) (i_neg (by first | decide | (unfold vp_in; decide)) (i_neg (by first | decide | (unfold vp_in; decide)) (i_neg (by first | decide | (unfold vp_in; decide)) (i_neg (by first | decide | (unfold vp_in; decide)) (i_pos rfl (r_askW (v := 274) (w := [115, 116, 101, 112]) hG (by first | decide | (unfold vp_in; decide)) (by omega) h hy hQ))))))))
  · exact i_neg (by first | decide | (unfold vp_in; decide)) (i_neg (by first | decide | (unfold vp_in; decide)) (i_neg (by first | decide | (unfold vp_in; decide)) (i_neg (by first | decide | (unfold vp_in; decide)) (i_neg (by first | decide | (unfold vp_in; decide)) (i_neg (by first | decide | (unfold vp_in; decide)) (i_neg (by first | decide | (unfold vp_in; decide)) (i_neg (by first | decide | (unfold vp_in; decide)) (i_pos rfl (r_askW (v := 275) (w := [119, 101, 116]) hG (by first | decide | (unfold vp_in; decide)) (by omega) h hy hQ)))))))))
  · exact i_neg (by first | decide | (unfold vp_in; decide)) (i_neg (by first | decide | (unfold vp_in; decide)) (i_neg (by first | decide | (unfold vp_in; decide)) (i_neg (by first | decide | (unfold vp_in; decide)) (i_neg (by first | decide | (unfold vp_in; decide)) (i_neg (by first | decide | (unfold vp_in; decide)) (i_neg (by first | decide | (unfold vp_in; decide)) (i_neg (by first | decide | (unfold vp_in; decide)) (i_neg (by first | decide | (unfold vp_in; decide)) (i_pos rfl (r_askW (v := 276) (w := [110, 117, 109, 98, 101, 114]) hG (by first | decide | (unfold vp_in; decide)) (by omega) h hy hQ))))))))))
  · exact i_neg (by first | decide | (unfold vp_in; decide)) (i_neg (by first | decide | (unfold vp_in; decide)) (i_neg (by first | decide | (unfold vp_in; decide)) (i_neg (by first | decide | (unfold vp_in; decide)) (i_neg (by first | decide | (unfold vp_in; decide)) (i_neg (by first | decide | (unfold vp_in; decide)) (i_neg (by first | decide | (unfold vp_in; decide)) (i_neg (by first | decide | (unfold vp_in; decide)) (i_neg (by first | decide | (unfold vp_in; decide)) (i_neg (by first | decide | (unfold vp_in; decide)) (i_pos rfl (r_askW (v := 277) (w := [99, 111, 108, 117, 109, 110]) hG (by first | decide | (unfold vp_in; decide)) (by omega) h hy hQ)))))))))))
  · exact i_neg (by first | decide | (unfold vp_in; decide)) (i_neg (by first | decide | (unfold vp_in; decide)) (i_neg (by first | decide | (unfold vp_in; decide)) (i_neg (by first | decide | (unfold vp_in; decide)) (i_neg (by first | decide | (unfold vp_in; decide)) (i_neg (by first | decide | (unfold vp_in; decide)) (i_neg (by first | decide | (unfold vp_in; decide)) (i_neg (by first | decide | (unfold vp_in; decide)) (i_neg (by first | decide | (unfold vp_in; decide)) (i_neg (by first | decide | (unfold vp_in; decide)) (i_neg (by first | decide | (unfold vp_in; decide)) (i_pos rfl (r_askW (v := 278) (w := [114, 111, 119]) hG (by first | decide | (unfold vp_in; decide)) (by omega) h hy hQ))))))))))))
  · exact i_neg (by first | decide | (unfold vp_in; decide)) (i_neg (by first | decide | (unfold vp_in; decide)) (i_neg (by first | decide | (unfold vp_in; decide)) (i_neg (by first | decide | (unfold vp_in; decide)) (i_neg (by first | decide | (unfold vp_in; decide)) (i_neg (by first | decide | (unfold vp_in; decide)) (i_neg (by first | decide | (unfold vp_in; decide)) (i_neg (by first | decide | (unfold vp_in; decide)) (i_neg (by first | decide | (unfold vp_in; decide)) (i_neg (by first | decide | (unfold vp_in; decide)) (i_neg (by first | decide | (unfold vp_in; decide)) (i_neg (by first | decide | (unfold vp_in; decide)) (i_pos rfl (r_askW (v := 279) (w := [100, 97, 121]) hG (by first | decide | (unfold vp_in; decide)) (by omega) h hy hQ)))))))))))))
  · exact i_neg (by first | decide | (unfold vp_in; decide)) (i_neg (by first | decide | (unfold vp_in; decide)) (i_neg (by first | decide | (unfold vp_in; decide)) (i_neg (by first | decide | (unfold vp_in; decide)) (i_neg (by first | decide | (unfold vp_in; decide)) (i_neg (by first | decide | (unfold vp_in; decide)) (i_neg (by first | decide | (unfold vp_in; decide)) (i_neg (by first | decide | (unfold vp_in; decide)) (i_neg (by first | decide | (unfold vp_in; decide)) (i_neg (by first | decide | (unfold vp_in; decide)) (i_neg (by first | decide | (unfold vp_in; decide)) (i_neg (by first | decide | (unfold vp_in; decide)) (i_neg (by first | decide | (unfold vp_in; decide)) (i_pos rfl (r_askW (v := 280) (w := [119, 101, 116]) hG (by first | decide | (unfold vp_in; decide)) (by omega) h hy hQ))))))))))))))
  · exact i_neg (by first | decide | (unfold vp_in; decide)) (i_neg (by first | decide | (unfold vp_in; decide)) (i_neg (by first | decide | (unfold vp_in; decide)) (i_neg (by first | decide | (unfold vp_in; decide)) (i_neg (by first | decide | (unfold vp_in; decide)) (i_neg (by first | decide | (unfold vp_in; decide)) (i_neg (by first | decide | (unfold vp_in; decide)) (i_neg (by first | decide | (unfold vp_in; decide)) (i_neg (by first | decide | (unfold vp_in; decide)) (i_neg (by first | decide | (unfold vp_in; decide)) (i_neg (by first | decide | (unfold vp_in; decide)) (i_neg (by first | decide | (unfold vp_in; decide)) (i_neg (by first | decide | (unfold vp_in; decide)) (i_neg (by first | decide | (unfold vp_in; decide)) (r_askW (v := 281) (w := [115, 116, 101, 112]) hG (by first | decide | (unfold vp_in; decide)) (by omega) h hy hQ))))))))))))))
theorem r_qAsksWordF {X : Tx} {e : Nat × Nat} {f : Nat} {Q : St → Prop} {u : St} (hf : f < 15) (h : Mf u X e) (hQ : Q u) : s_X12_qAsksWord (nI f) Q u := by
  unfold s_X12_qAsksWord
  have hc : f = 0 ∨ f = 1 ∨ f = 2 ∨ f = 3 ∨ f = 4 ∨ f = 5 ∨ f = 6 ∨ f = 7 ∨ f = 8 ∨ f = 9 ∨ f = 10 ∨ f = 11 ∨ f = 12 ∨ f = 13 ∨ f = 14 := by omega
  rcases hc with rfl | rfl | rfl | rfl | rfl | rfl | rfl | rfl | rfl | rfl | rfl | rfl | rfl | rfl | rfl
  · exact i_pos rfl (r_asksF h hQ)
  · exact i_neg (by first | decide | (unfold vp_in; decide)) (i_pos rfl (r_asksF h hQ))
  · exact i_neg (by first | decide | (unfold vp_in; decide)) (i_neg (by first | decide | (unfold vp_in; decide)) (i_pos rfl (r_asksF h hQ)))
  · exact i_neg (by first | decide | (unfold vp_in; decide)) (i_neg (by first | decide | (unfold vp_in; decide)) (i_neg (by first | decide | (unfold vp_in; decide)) (i_pos rfl (r_asksF h hQ))))
  · exact i_neg (by first | decide | (unfold vp_in; decide)) (i_neg (by first | decide | (unfold vp_in; decide)) (i_neg (by first | decide | (unfold vp_in; decide)) (i_neg (by first | decide | (unfold vp_in; decide)) (i_pos rfl (r_asksF h hQ)))))
  · exact i_neg (by first | decide | (unfold vp_in; decide)) (i_neg (by first | decide | (unfold vp_in; decide)) (i_neg (by first | decide | (unfold vp_in; decide)) (i_neg (by first | decide | (unfold vp_in; decide)) (i_neg (by first | decide | (unfold vp_in; decide)) (i_pos rfl (r_asksF h hQ))))))
  · exact i_neg (by first | decide | (unfold vp_in; decide)) (i_neg (by first | decide | (unfold vp_in; decide)) (i_neg (by first | decide | (unfold vp_in; decide)) (i_neg (by first | decide | (unfold vp_in; decide)) (i_neg (by first | decide | (unfold vp_in; decide)) (i_neg (by first | decide | (unfold vp_in; decide)) (i_pos rfl (r_asksF h hQ)))))))
  · exact i_neg (by first | decide | (unfold vp_in; decide)) (i_neg (by first | decide | (unfold vp_in; decide)) (i_neg (by first | decide | (unfold vp_in; decide)) (i_neg (by first | decide | (unfold vp_in; decide)) (i_neg (by first | decide | (unfold vp_in; decide)) (i_neg (by first | decide | (unfold vp_in; decide)) (i_neg (by first | decide | (unfold vp_in; decide)) (i_pos rfl (r_asksF h hQ))))))))
  · exact i_neg (by first | decide | (unfold vp_in; decide)) (i_neg (by first | decide | (unfold vp_in; decide)) (i_neg (by first | decide | (unfold vp_in; decide)) (i_neg (by first | decide | (unfold vp_in; decide)) (i_neg (by first | decide | (unfold vp_in; decide)) (i_neg (by first | decide | (unfold vp_in; decide)) (i_neg (by first | decide | (unfold vp_in; decide)) (i_neg (by first | decide | (unfold vp_in; decide)) (i_pos rfl (r_asksF h hQ)))))))))
  · exact i_neg (by first | decide | (unfold vp_in; decide)) (i_neg (by first | decide | (unfold vp_in; decide)) (i_neg (by first | decide | (unfold vp_in; decide)) (i_neg (by first | decide | (unfold vp_in; decide)) (i_neg (by first | decide | (unfold vp_in; decide)) (i_neg (by first | decide | (unfold vp_in; decide)) (i_neg (by first | decide | (unfold vp_in; decide)) (i_neg (by first | decide | (unfold vp_in; decide)) (i_neg (by first | decide | (unfold vp_in; decide)) (i_pos rfl (r_asksF h hQ))))))))))
  · exact i_neg (by first | decide | (unfold vp_in; decide)) (i_neg (by first | decide | (unfold vp_in; decide)) (i_neg (by first | decide | (unfold vp_in; decide)) (i_neg (by first | decide | (unfold vp_in; decide)) (i_neg (by first | decide | (unfold vp_in; decide)) (i_neg (by first | decide | (unfold vp_in; decide)) (i_neg (by first | decide | (unfold vp_in; decide)) (i_neg (by first | decide | (unfold vp_in; decide)) (i_neg (by first | decide | (unfold vp_in; decide)) (i_neg (by first | decide | (unfold vp_in; decide)) (i_pos rfl (r_asksF h hQ)))))))))))
  · exact i_neg (by first | decide | (unfold vp_in; decide)) (i_neg (by first | decide | (unfold vp_in; decide)) (i_neg (by first | decide | (unfold vp_in; decide)) (i_neg (by first | decide | (unfold vp_in; decide)) (i_neg (by first | decide | (unfold vp_in; decide)) (i_neg (by first | decide | (unfold vp_in; decide)) (i_neg (by first | decide | (unfold vp_in; decide)) (i_neg (by first | decide | (unfold vp_in; decide)) (i_neg (by first | decide | (unfold vp_in; decide)) (i_neg (by first | decide | (unfold vp_in; decide)) (i_neg (by first | decide | (unfold vp_in; decide)) (i_pos rfl (r_asksF h hQ))))))))))))
  · exact i_neg (by first | decide | (unfold vp_in; decide)) (i_neg (by first | decide | (unfold vp_in; decide)) (i_neg (by first | decide | (unfold vp_in; decide)) (i_neg (by first | decide | (unfold vp_in; decide)) (i_neg (by first | decide | (unfold vp_in; decide)) (i_neg (by first | decide | (unfold vp_in; decide)) (i_neg (by first | decide | (unfold vp_in; decide)) (i_neg (by first | decide | (unfold vp_in; decide)) (i_neg (by first | decide | (unfold vp_in; decide)) (i_neg (by first | decide | (unfold vp_in; decide)) (i_neg (by first | decide | (unfold vp_in; decide)) (i_neg (by first | decide | (unfold vp_in; decide)) (i_pos rfl (r_asksF h hQ)))))))))))))
  · exact i_neg (by first | decide | (unfold vp_in; decide)) (i_neg (by first | decide | (unfold vp_in; decide)) (i_neg (by first | decide | (unfold vp_in; decide)) (i_neg (by first | decide | (unfold vp_in; decide)) (i_neg (by first | decide | (unfold vp_in; decide)) (i_neg (by first | decide | (unfold vp_in; decide)) (i_neg (by first | decide | (unfold vp_in; decide)) (i_neg (by first | decide | (unfold vp_in; decide)) (i_neg (by first | decide | (unfold vp_in; decide)) (i_neg (by first | decide | (unfold vp_in; decide)) (i_neg (by first | decide | (unfold vp_in; decide)) (i_neg (by first | decide | (unfold vp_in; decide)) (i_neg (by first | decide | (unfold vp_in; decide)) (i_pos rfl (r_asksF h hQ))))))))))))))
  · exact i_neg (by first | decide | (unfold vp_in; decide)) (i_neg (by first | decide | (unfold vp_in; decide)) (i_neg (by first | decide | (unfold vp_in; decide)) (i_neg (by first | decide | (unfold vp_in; decide)) (i_neg (by first | decide | (unfold vp_in; decide)) (i_neg (by first | decide | (unfold vp_in; decide)) (i_neg (by first | decide | (unfold vp_in; decide)) (i_neg (by first | decide | (unfold vp_in; decide)) (i_neg (by first | decide | (unfold vp_in; decide)) (i_neg (by first | decide | (unfold vp_in; decide)) (i_neg (by first | decide | (unfold vp_in; decide)) (i_neg (by first | decide | (unfold vp_in; decide)) (i_neg (by first | decide | (unfold vp_in; decide)) (i_neg (by first | decide | (unfold vp_in; decide)) (r_asksF h hQ))))))))))))))
theorem sy_code {X : Tx} {tk : Nat} {Wb Cb : List Nat} {o0 : Nat} {u0 u : St} {p t : Nat} {g : Bool} {W C : List Nat} {o : Nat} {Q : St → Prop} (h : Sy X tk Wb Cb o0 u0 u p g W C o) (hl : (W ++ Wb).length + (Cb ++ C).length < p) (hQ : ∀ u', Sy X tk Wb Cb o0 u0 u' p g W (C ++ [t]) o → Q u') : s_X12_qCode (nI t) Q u := by
  obtain ⟨a1, a2, a3, a4, a5, a6, a7⟩ := h
  have hp := a1.2.1
  have h16 := a1.1.1
  refine r_qCode a3 (by omega) (fun u' k c => hQ u' ⟨ma_K a1 k (fun a j h => by omega), wt_K a2 k (by omega) (fun j => by omega), by rw [← List.append_assoc]; exact c, by rw [k.1 198 112 (by omega)]; exact a4, a5, ?_, kp_t a7 (kp_m k (fun a j h => by unfold SYq at h; omega))⟩)
  simp only [List.length_append, List.length_cons, List.length_nil] at hl ⊢
  omega
theorem r_qEndsF {X : Tx} {e : Nat × Nat} {Q : St → Prop} {u : St} (h : Mf u X e) (hQ : Q u) : s_X12_qEndsPart Q u := by
  unfold s_X12_qEndsPart sX12_qEndsPart_p0
  refine ⟨1, ?_⟩
  show sX12_qEndsPart_p0b Q _ u
  unfold sX12_qEndsPart_p0b
  exact i_neg (mf_bad h) hQ
theorem r_partTold {X : Tx} {tk : Nat} {Wb Cb : List Nat} {o0 : Nat} {u0 : St} {r : Rs} {Q : St → Prop} (he : EnvR tk Wb u0) (k p : Nat) (g : Bool) (W C : List Nat) (o : Nat) (u : St) (hS : Sy X tk Wb Cb o0 u0 u p g W C o) (hR : Rn X tk k 0 p g W C o r) (hQ1 : ∀ u' k' p' g' W' C' o', k' < k → Sy X tk Wb Cb o0 u0 u' p' g' W' C' o' → Rn X tk k' 2 p' g' W' C' o' r → Q u') (hQ0 : ∀ u' e, r = .error e → SyF X u0 u' e → Q u') : s_X12_qPartTold Q u := by
  unfold s_X12_qPartTold sX12_qPartTold_p2
  refine lpx (σ := Int32 × St) (fun n s => sX12_qPartTold_p2n Q n s.1 s.2) (fun j s => (s.1 = 1 ∧ ∃ p g W C o, j ≤ k ∧ Sy X tk Wb Cb o0 u0 s.2 p g W C o ∧ Rn X tk j 0 p g W C o r) ∨ (s.1 = 0 ∧ ∃ k' p g W C o, j = 0 ∧ k' ≤ k ∧ Sy X tk Wb Cb o0 u0 s.2 p g W C o ∧ Rn X tk k' 0 p g W C o r ∧ ¬ isS X p g 40 ∧ ¬ (isW' X p g wMin ∨ isW' X p g wMax) ∧ ¬ (tk = 2 ∧ (isW' X p g wWet ∨ isW' X p g wStep))) ∨ (s.1 = 1 ∧ ∃ e, j = 0 ∧ r = .error e ∧ SyF X u0 s.2 e)) ?_ k (1, u) (Or.inl ⟨rfl, p, g, W, C, o, Nat.le_refl _, hS, hR⟩)
  rintro n j ⟨v1, s⟩ hI hnext
  show sX12_qPartTold_p2b Q (sX12_qPartTold_p2n Q n) v1 s
  unfold sX12_qPartTold_p2b
  rcases hI with ⟨e1, p, g, W, C, o, hj, hS, hR⟩ | ⟨e1, k', p, g, W, C, o, hj, hk', hS, hR, n1, n2, n3⟩ | ⟨e1, e, hj, hr, hF⟩
  · simp only at e1 hS
    subst e1
    obtain ⟨a1, a2, a3, a4, a5, a6, a7⟩ := id hS
    have eg := er_get he a7
    have hp := a1.2.1
    have h16 := a1.1.1
    have hl := lst_p hp
    have hn := lnx_p hp
    have htk := he.1
    cases j with
    | zero => exact absurd hR id
    | succ j =>
    unfold Rn at hR
    rw [if_pos rfl] at hR
    refine i_neg (by first | decide | (unfold vp_in; decide)) ?_
    rw [a1.2.2.2.2.2.1]
    refine i_pos rfl (r_look a1 (fun u1 k1 b1 => ?_))
    have hS1 := sy_lex hS k1 b1.1 (Nat.le_refl _)
    have eg1 := er_get he hS1.2.2.2.2.2.2
    refine r_qWordO eg1.2.2 htk eg1.2.1 b1.1 (fun u2 k2 b2 => ?_)
    have hS2 := sy_lex hS1 k2 b2.1 (Nat.le_refl _)
    obtain ⟨c1, c2, c3, c4, c5, c6, c7⟩ := id hS2
    have eg2 := er_get he c7
    have hlV : (W ++ Wb).length < 1690 := by omega
    unfold sX12_qPartTold_p183
    by_cases hs : isS X p g 40
    · rw [if_pos hs] at hR
      have hsl := sgn_lt hp hs
      refine i_pos ((lch_s (c := 40) b1 ⟨by omega, by first | decide | (unfold vp_in; decide)⟩).mpr hs) ?_
      refine r_qOpens (x := 20) c2 hlV (by omega) c5.2 c4 c1.2.2.2.2.2.1 (fun ho u3 k3 w3 e3 => bnd_i ?_) (fun ho => ?_)
      · rw [if_neg ho] at hR
        have b3 : Mb u3 X p g := mb_K b2 k3 (fun a j h => by omega)
        refine hnext j (1, _) (by omega) (Or.inl ⟨rfl, lnx X p, false, 20 :: W, C, o + 1, by omega, ⟨ma_sgn b3 hs.1, ?_, ?_, ?_, ⟨by rw [nop_b (by omega)]; omega, by omega⟩, ?_, ?_⟩, hR⟩)
        · exact wt_K (S := fun a j => ¬ (a = 198 ∧ j = 2)) w3 (kp_I (kp_r _) (by omega)) (by omega) (fun j => by omega)
        · exact cd_K (S := fun a j => ¬ (a = 198 ∧ j = 2)) (cd_K c3 k3 (by omega) (fun j => by omega)) (kp_I (kp_r _) (by omega)) (by omega) (fun j => by omega)
        · show (tI u3 198 2 _).1 198 112 = _
          rw [t_n _ _ (by omega)]
          exact e3
        · simp only [List.cons_append, List.length_cons]
          omega
        · exact kp_t c7 (kp_I (kp_m k3 (fun a j h => by unfold SYq at h; omega)) (by unfold SYq; omega))
      · rw [ho, if_pos rfl] at hR
        rw [b2.2]
        refine r_fail (f := 4) c1 (by omega) (by omega) (fun u3 k3 f3 => bnd_i ?_)
        have hF3 := sy_fail hS2 k3 f3
        have kx : Kp (fun a j => ¬ (a = 198 ∧ j = 2)) u3 (tI u3 198 2 (u3.1 198 2 + 1)) := kp_I (kp_r _) (by omega)
        obtain ⟨m, hm, em⟩ := hF3.2.1
        have em2 : (tI u3 198 2 (u3.1 198 2 + 1)).1 198 109 = nI m := by rw [kx.1 198 109 (by omega)]; exact em
        exact hnext 0 (1, tI u3 198 2 (u3.1 198 2 + 1)) (by omega) (Or.inr (Or.inr ⟨rfl, _, rfl, hR, mf_K f3 kx (fun a j h => by omega), ⟨m, hm, em2⟩, kp_t hF3.2.2 (kp_m kx (fun a j h => by unfold SYq at h; omega))⟩))
    rw [if_neg hs] at hR
    refine i_neg (fun h => hs ((lch_s (c := 40) b1 ⟨by omega, by first | decide | (unfold vp_in; decide)⟩).mp h)) ?_
    have hpair : ∀ u5, Kp SXr u2 u5 → Mb u5 X p g → (isW' X p g wMin ∨ isW' X p g wMax) → sX12_qPartTold_p78 (1 : Int32) Q (sX12_qPartTold_p2n Q n) u5 := by
      intro u5 k5 b5 hw
      rw [if_pos hw] at hR
      have hS5 := sy_lex hS2 k5 b5.1 (Nat.le_refl _)
      have eg5 := er_get he hS5.2.2.2.2.2.2
      have hwl : p < lnx X p ∧ lnx X p ≤ X.2 := by
        rcases hw with hw | hw
        · exact wrd_lt hp (Or.inl hw.1)
        · exact wrd_lt hp (Or.inl hw.1)
      have hl2 := lst_p hwl.2
      unfold sX12_qPartTold_p78
      have h101 : ∀ u6 v4, (v4 = 1 ∧ isW' X p g wMin ∨ v4 = 0 ∧ ¬ isW' X p g wMin) → Kp SXr u5 u6 → Ma u6 X (lnx X p) true → sX12_qPartTold_p101 (1 : Int32) v4 Q (sX12_qPartTold_p2n Q n) u6 := by
        intro u6 v4 hv4 k6 m6
        have hS6 := sy_lex hS5 k6 m6 (by omega)
        unfold sX12_qPartTold_p101
        refine r_look m6 (fun u7 k7 b7 => ?_)
        have hS7 := sy_lex hS6 k7 b7.1 (Nat.le_refl _)
        obtain ⟨d1, d2, d3, d4, d5, d6, d7⟩ := id hS7
        unfold sX12_qPartTold_p118 sX12_qPartTold_p139 sX12_qPartTold_p144 sX12_qPartTold_p183
        by_cases hs4 : isS X (lnx X p) true 40
        · rw [if_pos hs4] at hR
          have hsl := sgn_lt hwl.2 hs4
          refine i_pos ((lch_s (c := 40) b7 ⟨by omega, by first | decide | (unfold vp_in; decide)⟩).mpr hs4) ?_
          have hopn : ∀ x : Nat, x = (if isW' X p g wMin then 21 else 22) → s_X12_qOpens (nI x) (u7.1 198 2) (fun u39 => s_X12_asksSign (40 : Int32) (fun u37 => sX12_qPartTold_p2n Q n 1 u37) u39) u7 := by
            intro x hx
            have hxb := mm_b (X := X) (p := p) (g := g)
            refine r_qOpens (x := x) d2 (by omega) (by omega) d5.2 d4 d1.2.2.2.2.2.1 (fun ho u8 k8 w8 e8 => ?_) (fun ho => ?_)
            · rw [if_neg ho] at hR
              have b8 : Mb u8 X (lnx X p) true := mb_K b7 k8 (fun a j h => by omega)
              refine r_asksSign (c := 40) ⟨by omega, by first | decide | (unfold vp_in; decide)⟩ b8.1 (fun u9 k9 _ m9 => ?_) (fun u9 k9 hno _ => absurd hs4 hno)
              rw [← hx] at hR
              refine hnext j (1, u9) (by omega) (Or.inl ⟨rfl, lnx X (lnx X p), false, x :: W, C, o + 1, by omega, ⟨m9, wt_K w8 k9 (by unfold SXr; omega) (fun j => by unfold SXr; omega), cd_K (cd_K d3 k8 (by omega) (fun j => by omega)) k9 (by unfold SXr; omega) (fun j => by unfold SXr; omega), ?_, ⟨by rw [nop_b (by omega)]; omega, by omega⟩, ?_, ?_⟩, hR⟩)
              · rw [k9.1 198 112 (by unfold SXr; omega)]
                exact e8
              · simp only [List.cons_append, List.length_cons]
                omega
              · exact kp_t d7 (kp_t (kp_m k8 (fun a j h => by unfold SYq at h; omega)) (kp_m k9 (fun a j h => by unfold SYq at h; unfold SXr; omega)))
            · rw [ho, if_pos rfl] at hR
              rw [b7.2]
              refine r_fail (f := 4) d1 (by omega) (by omega) (fun u8 k8 f8 => r_asksSignF f8 (hnext 0 (1, u8) (by omega) (Or.inr (Or.inr ⟨rfl, _, rfl, hR, sy_fail hS7 k8 f8⟩))))
          refine i_neg ?_ ?_
          · rw [b7.2, x_ne1 (by omega)]
            exact id
          · rcases hv4 with ⟨rfl, hm⟩ | ⟨rfl, hm⟩
            · exact i_neg (by first | decide | (unfold vp_in; decide)) (hopn 21 (by rw [if_pos hm]))
            · exact i_pos rfl (hopn 22 (by rw [if_neg hm]))
        · rw [if_neg hs4] at hR
          refine i_neg (fun h => hs4 ((lch_s (c := 40) b7 ⟨by omega, by first | decide | (unfold vp_in; decide)⟩).mp h)) (i_pos rfl ?_)
          exact r_asksSign (c := 40) ⟨by omega, by first | decide | (unfold vp_in; decide)⟩ b7.1 (fun u9 k9 hy _ => absurd hy hs4) (fun u9 k9 _ f9 => hnext 0 (1, u9) (by omega) (Or.inr (Or.inr ⟨rfl, _, rfl, hR, sy_fail hS7 k9 f9⟩)))
      refine r_takes (v := 265) (w := wMin) (by omega) (wd_of (q := (265, wMin)) eg5.2.2 (by first | decide | (unfold vp_in; decide))) b5.1 (fun u6 k6 hy m6 => i_neg (by first | decide | (unfold vp_in; decide)) (h101 u6 1 (Or.inl ⟨rfl, hy⟩) k6 m6)) (fun u6 k6 b6 hno => i_pos rfl ?_)
      have hmax : isW' X p g wMax := by
        rcases hw with h | h
        · exact absurd h hno
        · exact h
      have hG6 : gWords u6 := k_words eg5.2.2 k6 (fun a k h => by unfold DWords at h; unfold SXr; omega)
      exact r_askW (v := 266) (w := wMax) hG6 (by first | decide | (unfold vp_in; decide)) (by omega) b6.1 hmax (fun u7 k7 m7 => h101 u7 0 (Or.inr ⟨rfl, hno⟩) (kp_t k6 k7) m7)
    refine r_ish eg2.2.2 (v := 265) (w := wMin) (by first | decide | (unfold vp_in; decide)) (by omega) (kp_r u2) b2.1 (fun u5 k5 b5 hy => i_neg (by first | decide | (unfold vp_in; decide)) (hpair u5 k5 b5 (Or.inl hy))) (fun u5 k5 b5 nmin => i_pos rfl ?_)
    refine r_ish eg2.2.2 (v := 266) (w := wMax) (by first | decide | (unfold vp_in; decide)) (by omega) k5 b5.1 (fun u6 k6 b6 hy => i_neg (by first | decide | (unfold vp_in; decide)) (hpair u6 k6 b6 (Or.inr hy))) (fun u6 k6 b6 nmax => i_pos rfl ?_)
    have hnm : ¬ (isW' X p g wMin ∨ isW' X p g wMax) := fun h => by
      rcases h with h | h
      · exact nmin h
      · exact nmax h
    rw [if_neg hnm] at hR
    have hS6 := sy_lex hS2 k6 b6.1 (Nat.le_refl _)
    obtain ⟨d1, d2, d3, d4, d5, d6, d7⟩ := id hS6
    have eg6 := er_get he d7
    by_cases hof : tk = 2 ∧ (isW' X p g wWet ∨ isW' X p g wStep)
    · rw [if_pos hof] at hR
      have hwl : p < lnx X p ∧ lnx X p ≤ X.2 := by
        rcases hof.2 with hw | hw
        · exact wrd_lt hp (Or.inl hw.1)
        · exact wrd_lt hp (Or.inl hw.1)
      have hgo : ∀ f x : Nat, (f = 13 ∨ f = 14) → x = (if isW' X p g wWet then 60 else 61) → isW' X p g (wf f) → s_X12_qOpens (nI x) (u6.1 198 2) (fun u12 => s_X12_qAsksWord (nI f) (fun u14 => sX12_qPartTold_p2n Q n 1 u14) u12) u6 := by
        intro f x hf hx hy
        have hxb : x = 60 ∨ x = 61 := by
          rw [hx]
          by_cases h : isW' X p g wWet
          · first | refine i_pos h ?_ | rw [if_pos h]
            try (with_reducible rfl)
            omega
          · first | refine i_neg h ?_ | rw [if_neg h]
            try (with_reducible rfl)
            omega
        refine r_qOpens (x := x) d2 hlV (by omega) d5.2 d4 d1.2.2.2.2.2.1 (fun ho u8 k8 w8 e8 => ?_) (fun ho => ?_)
        · rw [if_neg ho, ← hx] at hR
          have b8 : Mb u8 X p g := mb_K b6 k8 (fun a j h => by omega)
          have hG8 : gWords u8 := k_words eg6.2.2 k8 (fun a k h => by unfold DWords at h; omega)
          refine r_qAsksWord hG8 (by omega) b8.1 hy (fun u9 k9 m9 => ?_)
          refine hnext j (1, u9) (by omega) (Or.inl ⟨rfl, lnx X p, true, x :: W, C, o + 1, by omega, ⟨m9, wt_K w8 k9 (by unfold SXr; omega) (fun j => by unfold SXr; omega), cd_K (cd_K d3 k8 (by omega) (fun j => by omega)) k9 (by unfold SXr; omega) (fun j => by unfold SXr; omega), ?_, ⟨by rw [nop_b (by omega)]; omega, by omega⟩, ?_, ?_⟩, hR⟩)
          · rw [k9.1 198 112 (by unfold SXr; omega)]
            exact e8
          · simp only [List.cons_append, List.length_cons]
            omega
          · exact kp_t d7 (kp_t (kp_m k8 (fun a j h => by unfold SYq at h; omega)) (kp_m k9 (fun a j h => by unfold SYq at h; unfold SXr; omega)))
        · rw [ho, if_pos rfl] at hR
          rw [b6.2]
          exact r_fail (f := 4) d1 (by omega) (by omega) (fun u8 k8 f8 => r_qAsksWordF (by omega) f8 (hnext 0 (1, u8) (by omega) (Or.inr (Or.inr ⟨rfl, _, rfl, hR, sy_fail hS6 k8 f8⟩))))
      rcases hof with ⟨ht, hw⟩
      by_cases hwet : isW' X p g wWet
      · have e13 : ofR X tk p g = some 13 := by
          unfold ofR
          exact if_pos ⟨ht, hwet⟩
        rw [e13]
        exact i_neg (by first | decide | (unfold vp_in; decide)) (hgo 13 60 (Or.inl rfl) (if_pos hwet).symm hwet)
      · have hst : isW' X p g wStep := by
          rcases hw with h | h
          · exact absurd h hwet
          · exact h
        have e14 : ofR X tk p g = some 14 := by
          unfold ofR
          exact (if_neg (fun h => hwet h.2)).trans (if_pos ⟨ht, hst⟩)
        rw [e14]
        exact i_neg (by first | decide | (unfold vp_in; decide)) (hgo 14 61 (Or.inr rfl) (if_neg hwet).symm hst)
    · have hofn : ofR X tk p g = none := by
        unfold ofR
        first | refine i_neg (fun h => hof ⟨h.1, Or.inl h.2⟩) ?_ | rw [if_neg (fun h => hof ⟨h.1, Or.inl h.2⟩)]
        first | refine i_neg (fun h => hof ⟨h.1, Or.inr h.2⟩) ?_ | rw [if_neg (fun h => hof ⟨h.1, Or.inr h.2⟩)]
        try (with_reducible rfl)
      rw [hofn]
      refine i_pos rfl (hnext 0 (0, u6) (by omega) (Or.inr (Or.inl ⟨rfl, j + 1, p, g, W, C, o, rfl, hj, hS6, ?_, hs, hnm, hof⟩)))
      unfold Rn
      first | refine i_pos rfl ?_ | rw [if_pos rfl]
      first | refine i_neg hs ?_ | rw [if_neg hs]
      first | refine i_neg hnm ?_ | rw [if_neg hnm]
      try (with_reducible rfl)
      exact hR
  · simp only at e1 hS
    subst e1
    refine i_pos rfl ?_
    obtain ⟨a1, a2, a3, a4, a5, a6, a7⟩ := id hS
    have eg := er_get he a7
    have hp := a1.2.1
    have h16 := a1.1.1
    have htk := he.1
    cases k' with
    | zero => exact absurd hR id
    | succ k' =>
    unfold Rn at hR
    rw [if_pos rfl, if_neg n1, if_neg n2, if_neg n3] at hR
    unfold sX12_qPartTold_p186
    rw [a1.2.2.2.2.2.1]
    refine i_pos rfl (r_qWordOf eg.2.2 htk eg.2.1 a1 (fun u1 k1 b1 => ?_))
    have hS1 := sy_lex hS k1 b1.1 (Nat.le_refl _)
    have eg1 := er_get he hS1.2.2.2.2.2.2
    unfold sX12_qPartTold_p212 sX12_qPartTold_p237
    cases hf : fac X tk p g with
    | none =>
      rw [hf] at hR
      simp only at hR
      refine i_pos rfl (i_pos rfl ?_)
      refine r_number (least := 0) (most := 9999) (by omega) (by omega) b1.1 (fun u2 v k2 hv m2 _ => ?_) (fun u2 e rr k2 hv f2 => ?_)
      · rw [hv] at hR
        have hk2 : lkd X p g = 2 := by
          unfold nuR at hv
          by_cases e : lkd X p g = 2
          · exact e
          · rw [if_neg e] at hv
            exact absurd hv (by simp)
        have hwl := wrd_lt hp (Or.inr hk2)
        have hS2 := sy_lex hS1 k2 m2 (by omega)
        rw [show (1000 : Int32) + nI v = nI (1000 + v) from nI_add 1000 v]
        refine sy_code hS2 (by omega) (fun u3 hS3 => ?_)
        exact r_qEnds he k' _ _ _ _ _ u3 hS3 hR (fun u4 k4 W4 C4 o4 hk4 hS4 hR4 => hQ1 u4 k4 _ _ W4 C4 o4 (by omega) hS4 hR4)
      · rw [hv] at hR
        have hF := sy_fail hS1 k2 f2
        obtain ⟨m, hm, em⟩ := hF.2.1
        have hm2 : m ≤ 1601 := by
          have h1 := hS1.2.2.1.1
          rw [← k2.1 198 109 (by unfold SXr; omega), em, nI_e (by omega) (by omega)] at h1
          omega
        refine r_qCodeF em (by omega) (fun u3 k3 e3 => ?_)
        have f3 : Mf u3 X e := mf_K f2 k3 (fun a j h => by omega)
        exact r_qEndsF f3 (hQ0 u3 e hR ⟨f3, ⟨m + 1, by omega, e3⟩, kp_t hF.2.2 (kp_m k3 (fun a j h => by unfold SYq at h; omega))⟩)
    | some f =>
      rw [hf] at hR
      simp only at hR
      have hw : wIn X p g (wds 13) = some f := by
        unfold fac at hf
        cases e : wIn X p g (wds 13) with
        | none =>
          rw [e] at hf
          exact absurd hf (by simp)
        | some f' =>
          rw [e] at hf
          simp only at hf
          by_cases ha : al tk f' = true
          · rw [if_pos ha] at hf
            rw [Option.some.inj hf]
          · rw [if_neg ha] at hf
            exact absurd hf (by simp)
      have hf13 : f < 13 := wIn_b hw
      have hy : isW' X p g (wf f) := by
        unfold wf
        first | refine i_neg (by omega) ?_ | rw [if_neg (by omega)]
        first | refine i_neg (by omega) ?_ | rw [if_neg (by omega)]
        try (with_reducible rfl)
        exact wIn_get hw
      have hwl := wrd_lt hp (Or.inl hy.1)
      rw [show oI (some f) = nI f from rfl]
      have hn1 : ¬ nI f = (-1 : Int32) := by rw [x_ne1 (by omega)]; exact id
      refine i_neg hn1 (r_qAsksWord eg1.2.2 (by omega) b1.1 hy (fun u2 k2 m2 => i_neg hn1 ?_))
      have hS2 := sy_lex hS1 k2 m2 (by omega)
      rw [show (40 : Int32) + nI f = nI (40 + f) from nI_add 40 f]
      refine sy_code hS2 (by omega) (fun u3 hS3 => ?_)
      exact r_qEnds he k' _ _ _ _ _ u3 hS3 hR (fun u4 k4 W4 C4 o4 hk4 hS4 hR4 => hQ1 u4 k4 _ _ W4 C4 o4 (by omega) hS4 hR4)
  · simp only at e1 hF
    subst e1
    refine i_neg (by first | decide | (unfold vp_in; decide)) (i_neg (mf_bad hF.1) ?_)
    unfold sX12_qPartTold_p186
    exact i_neg (mf_bad hF.1) (hQ0 s e hr hF)
