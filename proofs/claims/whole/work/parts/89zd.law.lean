section
/-! ===== the start ===== -/
theorem init_emb {m : Mem} (h : Init m) : m = emb m.2.2 (m.1, m.2.1, 7, 24, 3, 24) := by
  have h1 := h.1
  have a1 : m.2.2 0 3 = some 7 := h1 (0, 3, 7) (by decide +kernel)
  have a2 : m.2.2 0 4 = some 24 := h1 (0, 4, 24) (by decide +kernel)
  have a3 : m.2.2 6 1 = some 3 := h1 (6, 1, 3) (by decide +kernel)
  have a4 : m.2.2 41 2 = some 24 := h1 (41, 2, 24) (by decide +kernel)
  have e : m.2.2 = (emb m.2.2 (m.1, m.2.1, 7, 24, 3, 24)).2.2 := by
    funext a k
    show m.2.2 a k = (if a = 0 ∧ k = 3 then some 7 else if a = 0 ∧ k = 4 then some 24 else if a = 6 ∧ k = 1 then some 3 else if a = 41 ∧ k = 2 then some 24 else m.2.2 a k)
    by_cases c1 : a = 0 ∧ k = 3
    · rw [if_pos c1, c1.1, c1.2]
      exact a1
    rw [if_neg c1]
    by_cases c2 : a = 0 ∧ k = 4
    · rw [if_pos c2, c2.1, c2.2]
      exact a2
    rw [if_neg c2]
    by_cases c3 : a = 6 ∧ k = 1
    · rw [if_pos c3, c3.1, c3.2]
      exact a3
    rw [if_neg c3]
    by_cases c4 : a = 41 ∧ k = 2
    · rw [if_pos c4, c4.1, c4.2]
      exact a4
    rw [if_neg c4]
  exact Prod.ext rfl (Prod.ext rfl e)
theorem init_dk (A : Nat → Nat → Int32) (B : Nat → Nat → Int64) : DK (A, B, 7, 24, 3, 24) := ⟨ob_i (n := 17) rfl (by decide), ob_i (n := 17) rfl (by decide), ob_i (n := 3) rfl (by decide), ob_i (n := 17) rfl (by decide)⟩
/-- no plain yet -/
def pl_no : Pl := (fun _ _ => 0, [], [])
theorem pl_no_vp : VP pl_no := ⟨Nat.zero_le _, Nat.zero_le _, fun _ => ⟨rfl, rfl, rfl, rfl⟩, fun h => absurd rfl h, Nat.zero_le _, Nat.zero_le _, fun f hf => absurd hf (Nat.not_lt_zero f), fun f _ hf => absurd hf (Nat.not_lt_zero f), fun c hc => absurd hc (Nat.not_lt_zero c), fun f hf => absurd hf (Nat.not_lt_zero f), fun c hc => absurd hc (Nat.not_lt_zero c)⟩
theorem pl_no_cel {c : Nat} (h : cel pl_no c) : False := Nat.not_lt_zero _ h.1
theorem init_fb {A : Nat → Nat → Int32} {B : Nat → Nat → Int64} {R : Nat × Nat × Nat × Nat} {a : Nat} (h : ∀ j, A a j = 0) : FB (A, B, R) a := by
  intro k hk
  show -1000000 ≤ (A a k).toInt ∧ (A a k).toInt ≤ 1000000
  rw [h k]
  decide
theorem init_inv {m : Mem} (h : Init m) : Inv (m.1, m.2.1, 7, 24, 3, 24) := by
  obtain ⟨_, h2, h3, h4, h5, h6, _⟩ := h
  have I : ∀ a k v, (a, k, v) ∈ I0L → m.1 a k = v := fun a k v q => h2 (a, k, v) q
  have hW : ∀ k, k < 5 → m.1 (178 + 4 * k) 5 = 0 := by
    intro k hk
    have : k = 0 ∨ k = 1 ∨ k = 2 ∨ k = 3 ∨ k = 4 := by omega
    rcases this with e | e | e | e | e
    · subst e
      exact I 178 5 0 (by decide +kernel)
    · subst e
      exact I 182 5 0 (by decide +kernel)
    · subst e
      exact I 186 5 0 (by decide +kernel)
    · subst e
      exact I 190 5 0 (by decide +kernel)
    · subst e
      exact I 194 5 0 (by decide +kernel)
  have hF : ∀ k, k < 5 → ∀ j, m.1 (178 + 4 * k + 3) j = 0 := by
    intro k hk
    have : k = 0 ∨ k = 1 ∨ k = 2 ∨ k = 3 ∨ k = 4 := by omega
    rcases this with e | e | e | e | e
    · subst e
      exact h3 181 (by decide +kernel)
    · subst e
      exact h3 185 (by decide +kernel)
    · subst e
      exact h3 189 (by decide +kernel)
    · subst e
      exact h3 193 (by decide +kernel)
    · subst e
      exact h3 197 (by decide +kernel)
  have gT : gTape (m.1, m.2.1, 7, 24, 3, 24) := ⟨0, fun _ => 0, by omega, I 1 1 0 (by decide +kernel), I 198 1 0 (by decide +kernel), fun k hk => absurd hk (by omega)⟩
  have gF : gFault (m.1, m.2.1, 7, 24, 3, 24) := ⟨(I 198 7 0 (by decide +kernel)).trans (I 1 5 0 (by decide +kernel)).symm, (I 198 8 (-1) (by decide +kernel)).trans (I 1 6 (-1) (by decide +kernel)).symm⟩
  have gR : gRef (m.1, m.2.1, 7, 24, 3, 24) := fun k _ => (h3 200 (by decide +kernel) k).trans (h3 177 (by decide +kernel) k).symm
  have gS : gSeed (m.1, m.2.1, 7, 24, 3, 24) := ⟨1, by omega, h5, h6⟩
  have gP : gPic (m.1, m.2.1, 7, 24, 3, 24) := ⟨0, by omega, h3 175 (by decide +kernel) 1, I 198 119 0 (by decide +kernel), fun k hk => absurd hk (by omega)⟩
  have gWd : gWords (m.1, m.2.1, 7, 24, 3, 24) := fun q hq => by
    unfold WL at hq
    exact h2 q (List.mem_filter.mp hq).1
  have c1 : cPl (m.1, m.2.1, 7, 24, 3, 24) 7 pl_no := ⟨⟨h3 7 (by decide +kernel) 0, h3 7 (by decide +kernel) 1, h3 7 (by decide +kernel) 2, h3 7 (by decide +kernel) 3, h3 7 (by decide +kernel) 4⟩, fun c hc => (pl_no_cel hc).elim, fun f hf => absurd hf (Nat.not_lt_zero f), fun c hc => absurd hc (Nat.not_lt_zero c), fun h => absurd rfl h⟩
  have c2 : mPl (m.1, m.2.1, 7, 24, 3, 24) pl_no := ⟨⟨(I 198 56 0 (by decide +kernel)).trans (if_pos rfl).symm, I 198 44 0 (by decide +kernel), h3 231 (by decide +kernel) 2, h3 231 (by decide +kernel) 3, h3 232 (by decide +kernel) 2, h3 232 (by decide +kernel) 3⟩, fun f hf => absurd hf (Nat.not_lt_zero f), fun c hc => absurd hc (Nat.not_lt_zero c), fun h => absurd rfl h⟩
  have gPl : gPlain (m.1, m.2.1, 7, 24, 3, 24) pl_no := ⟨Or.inl ⟨rfl, rfl⟩, pl_no_vp, c1, c2⟩
  have gSi : gSight (m.1, m.2.1, 7, 24, 3, 24) pl_no := ⟨0, fun _ => 0, fun _ => 0, by omega, h3 161 (by decide +kernel) 0, I 198 74 0 (by decide +kernel), fun k hk => absurd hk (by omega)⟩
  have n1 : VN pl_no (fun _ => 0) := ⟨Nat.zero_le _, fun c hc => (pl_no_cel hc).elim, fun _ _ _ => rfl, fun f hf => absurd hf (Nat.not_lt_zero f), fun _ _ _ => rfl, Nat.zero_le _, fun _ _ => Nat.zero_le _⟩
  have n2 : cLa (m.1, m.2.1, 7, 24, 3, 24) 42 pl_no (fun _ => 0) := ⟨h3 42 (by decide +kernel) 0, fun c hc => (pl_no_cel hc).elim, fun f _ => h3 46 (by decide +kernel) f, fun p _ _ => h3 44 (by decide +kernel) p⟩
  have n3 : mLa (m.1, m.2.1, 7, 24, 3, 24) (fun _ => 0) := fun k _ => h3 241 (by decide +kernel) k
  have kr : KR (fun _ _ => 0) 0 (fun _ => 0) := ⟨(by omega : 0 = min 0 40), fun k hk => absurd hk (by omega)⟩
  have gPa : gPast (m.1, m.2.1, 7, 24, 3, 24) pl_no (fun _ => 0) := ⟨0, fun _ _ => 0, 0, 0, 0, fun _ _ => 0, fun _ => 0, Nat.le_refl _, h3 42 (by decide +kernel) 1, fun k hk => absurd hk (by omega), kr, by omega, by omega, by omega, h3 52 (by decide +kernel) 0, I 198 78 0 (by decide +kernel), h3 52 (by decide +kernel) 1, I 198 79 0 (by decide +kernel), fun i hi => absurd hi (by omega)⟩
  have gWy : gWays (m.1, m.2.1, 7, 24, 3, 24) pl_no (fun _ => 0) := fun k hk => ⟨Or.inl (hW k hk), init_fb (hF k hk)⟩
  have gN : gNo (m.1, m.2.1, 7, 24, 3, 24) := ⟨I 169 2 (-1) (by decide +kernel), I 169 4 0 (by decide +kernel), fun j hj => h4 171 (by decide +kernel) j hj⟩
  have gFa : gFacts (m.1, m.2.1, 7, 24, 3, 24) := ⟨init_fb (h3 168 (by decide +kernel)), init_fb (h3 173 (by decide +kernel))⟩
  exact ⟨pl_no, fun _ => 0, ⟨gT, gF, gR, gS, gP, gWd, gPl, gSi, ⟨n1, n2, n3⟩, gPa, gN⟩, gWy, gFa⟩
/-! ===== a call of the law ===== -/
theorem i_cas {c A B : Prop} [Decidable c] (h1 : A) (h2 : B) : if c then A else B := by
  by_cases h : c
  · exact i_pos h h1
  · exact i_neg h h2
theorem ob_law0 : Ob SH 0 11 := ob_i (n := 19) rfl (by decide)
theorem ob_law198 : Ob SH 198 12 := ob_i (n := 120) rfl (by decide)
theorem b_feed {ρ : Nat → Nat → Option Nat} (hR : RfH ρ) {a1 a2 a3 a4 a5 : Int32} {K Z : Mem → Prop} (hK : ∀ u, DK u → Inv u → K (emb ρ u)) {u : St} (hd : DK u) (hi : Inv u) : Ob SH 0 11 ∧ wp_X11_feed SH 0 a1 a2 a3 a4 a5 (fun r m => Ob SH 198 12 ∧ wp_X12_feed SH 198 a1 a2 a3 a4 a5 (fun r2 m2 => if r = r2 then K m2 else Z m2) m) (emb ρ u) :=
  ⟨ob_law0, t_X11_feed (Q := fun r u1 => s_X12_feed a1 a2 a3 a4 a5 (fun r2 u2 => r = r2 ∧ Inv u2) u1) hR (fun r u1 d1 h1 => ⟨ob_law198, t_X12_feed (Q := fun r2 u2 => r = r2 ∧ Inv u2) hR (fun r2 u2 d2 h2 => i_pos h2.1 (hK u2 d2 h2.2)) d1 h1⟩) hd (call_feed a1 a2 a3 a4 a5 u hi)⟩
theorem b_end {ρ : Nat → Nat → Option Nat} (hR : RfH ρ) {a1 : Int32} {K Z : Mem → Prop} (hK : ∀ u, DK u → Inv u → K (emb ρ u)) {u : St} (hd : DK u) (hi : Inv u) : Ob SH 0 11 ∧ wp_X11_end SH 0 a1 (fun r m => Ob SH 198 12 ∧ wp_X12_end SH 198 a1 (fun r2 m2 => if r = r2 then K m2 else Z m2) m) (emb ρ u) :=
  ⟨ob_law0, t_X11_end (Q := fun r u1 => s_X12_end a1 (fun r2 u2 => r = r2 ∧ Inv u2) u1) hR (fun r u1 d1 h1 => ⟨ob_law198, t_X12_end (Q := fun r2 u2 => r = r2 ∧ Inv u2) hR (fun r2 u2 d2 h2 => i_pos h2.1 (hK u2 d2 h2.2)) d1 h1⟩) hd (call_end a1 u hi)⟩
theorem b_plain {ρ : Nat → Nat → Option Nat} (hR : RfH ρ) {K Z : Mem → Prop} (hK : ∀ u, DK u → Inv u → K (emb ρ u)) {u : St} (hd : DK u) (hi : Inv u) : Ob SH 0 11 ∧ wp_X11_plain SH 0 (fun r m => Ob SH 198 12 ∧ wp_X12_plain SH 198 (fun r2 m2 => if r = r2 then K m2 else Z m2) m) (emb ρ u) :=
  ⟨ob_law0, t_X11_plain (Q := fun r u1 => s_X12_plain (fun r2 u2 => r = r2 ∧ Inv u2) u1) hR (fun r u1 d1 h1 => ⟨ob_law198, t_X12_plain (Q := fun r2 u2 => r = r2 ∧ Inv u2) hR (fun r2 u2 d2 h2 => i_pos h2.1 (hK u2 d2 h2.2)) d1 h1⟩) hd (call_plain u hi)⟩
theorem b_fault {ρ : Nat → Nat → Option Nat} (hR : RfH ρ) {a1 : Int32} {K Z : Mem → Prop} (hK : ∀ u, DK u → Inv u → K (emb ρ u)) {u : St} (hd : DK u) (hi : Inv u) : Ob SH 0 11 ∧ wp_X11_fault SH 0 a1 (fun r m => Ob SH 198 12 ∧ wp_X12_fault SH 198 a1 (fun r2 m2 => if r = r2 then K m2 else Z m2) m) (emb ρ u) :=
  ⟨ob_law0, t_X11_fault (Q := fun r u1 => s_X12_fault a1 (fun r2 u2 => r = r2 ∧ Inv u2) u1) hR (fun r u1 d1 h1 => ⟨ob_law198, t_X12_fault (Q := fun r2 u2 => r = r2 ∧ Inv u2) hR (fun r2 u2 d2 h2 => i_pos h2.1 (hK u2 d2 h2.2)) d1 h1⟩) hd (call_fault a1 u hi)⟩
theorem b_has {ρ : Nat → Nat → Option Nat} (hR : RfH ρ) {a1 : Int32} {K Z : Mem → Prop} (hK : ∀ u, DK u → Inv u → K (emb ρ u)) {u : St} (hd : DK u) (hi : Inv u) : Ob SH 0 11 ∧ wp_X11_has SH 0 a1 (fun r m => Ob SH 198 12 ∧ wp_X12_has SH 198 a1 (fun r2 m2 => if r = r2 then K m2 else Z m2) m) (emb ρ u) :=
  ⟨ob_law0, t_X11_has (Q := fun r u1 => s_X12_has a1 (fun r2 u2 => r = r2 ∧ Inv u2) u1) hR (fun r u1 d1 h1 => ⟨ob_law198, t_X12_has (Q := fun r2 u2 => r = r2 ∧ Inv u2) hR (fun r2 u2 d2 h2 => i_pos h2.1 (hK u2 d2 h2.2)) d1 h1⟩) hd (call_has a1 u hi)⟩
theorem b_letter {ρ : Nat → Nat → Option Nat} (hR : RfH ρ) {a1 a2 a3 : Int32} {K Z : Mem → Prop} (hK : ∀ u, DK u → Inv u → K (emb ρ u)) {u : St} (hd : DK u) (hi : Inv u) : Ob SH 0 11 ∧ wp_X11_letter SH 0 a1 a2 a3 (fun r m => Ob SH 198 12 ∧ wp_X12_letter SH 198 a1 a2 a3 (fun r2 m2 => if r = r2 then K m2 else Z m2) m) (emb ρ u) :=
  ⟨ob_law0, t_X11_letter (Q := fun r u1 => s_X12_letter a1 a2 a3 (fun r2 u2 => r = r2 ∧ Inv u2) u1) hR (fun r u1 d1 h1 => ⟨ob_law198, t_X12_letter (Q := fun r2 u2 => r = r2 ∧ Inv u2) hR (fun r2 u2 d2 h2 => i_pos h2.1 (hK u2 d2 h2.2)) d1 h1⟩) hd (call_letter a1 a2 a3 u hi)⟩
theorem b_cell {ρ : Nat → Nat → Option Nat} (hR : RfH ρ) {a1 a2 a3 : Int32} {K Z : Mem → Prop} (hK : ∀ u, DK u → Inv u → K (emb ρ u)) {u : St} (hd : DK u) (hi : Inv u) : Ob SH 0 11 ∧ wp_X11_cell SH 0 a1 a2 a3 (fun r m => Ob SH 198 12 ∧ wp_X12_cell SH 198 a1 a2 a3 (fun r2 m2 => if r = r2 then K m2 else Z m2) m) (emb ρ u) :=
  ⟨ob_law0, t_X11_cell (Q := fun r u1 => s_X12_cell a1 a2 a3 (fun r2 u2 => r = r2 ∧ Inv u2) u1) hR (fun r u1 d1 h1 => ⟨ob_law198, t_X12_cell (Q := fun r2 u2 => r = r2 ∧ Inv u2) hR (fun r2 u2 d2 h2 => i_pos h2.1 (hK u2 d2 h2.2)) d1 h1⟩) hd (call_cell a1 a2 a3 u hi)⟩
theorem b_farm {ρ : Nat → Nat → Option Nat} (hR : RfH ρ) {a1 a2 : Int32} {K Z : Mem → Prop} (hK : ∀ u, DK u → Inv u → K (emb ρ u)) {u : St} (hd : DK u) (hi : Inv u) : Ob SH 0 11 ∧ wp_X11_farm SH 0 a1 a2 (fun r m => Ob SH 198 12 ∧ wp_X12_farm SH 198 a1 a2 (fun r2 m2 => if r = r2 then K m2 else Z m2) m) (emb ρ u) :=
  ⟨ob_law0, t_X11_farm (Q := fun r u1 => s_X12_farm a1 a2 (fun r2 u2 => r = r2 ∧ Inv u2) u1) hR (fun r u1 d1 h1 => ⟨ob_law198, t_X12_farm (Q := fun r2 u2 => r = r2 ∧ Inv u2) hR (fun r2 u2 d2 h2 => i_pos h2.1 (hK u2 d2 h2.2)) d1 h1⟩) hd (call_farm a1 a2 u hi)⟩
theorem b_caller {ρ : Nat → Nat → Option Nat} (hR : RfH ρ) {a1 a2 : Int32} {K Z : Mem → Prop} (hK : ∀ u, DK u → Inv u → K (emb ρ u)) {u : St} (hd : DK u) (hi : Inv u) : Ob SH 0 11 ∧ wp_X11_caller SH 0 a1 a2 (fun r m => Ob SH 198 12 ∧ wp_X12_caller SH 198 a1 a2 (fun r2 m2 => if r = r2 then K m2 else Z m2) m) (emb ρ u) :=
  ⟨ob_law0, t_X11_caller (Q := fun r u1 => s_X12_caller a1 a2 (fun r2 u2 => r = r2 ∧ Inv u2) u1) hR (fun r u1 d1 h1 => ⟨ob_law198, t_X12_caller (Q := fun r2 u2 => r = r2 ∧ Inv u2) hR (fun r2 u2 d2 h2 => i_pos h2.1 (hK u2 d2 h2.2)) d1 h1⟩) hd (call_caller a1 a2 u hi)⟩
theorem b_kept {ρ : Nat → Nat → Option Nat} (hR : RfH ρ) {a1 a2 : Int32} {K Z : Mem → Prop} (hK : ∀ u, DK u → Inv u → K (emb ρ u)) {u : St} (hd : DK u) (hi : Inv u) : Ob SH 0 11 ∧ wp_X11_kept SH 0 a1 a2 (fun r m => Ob SH 198 12 ∧ wp_X12_kept SH 198 a1 a2 (fun r2 m2 => if r = r2 then K m2 else Z m2) m) (emb ρ u) :=
  ⟨ob_law0, t_X11_kept (Q := fun r u1 => s_X12_kept a1 a2 (fun r2 u2 => r = r2 ∧ Inv u2) u1) hR (fun r u1 d1 h1 => ⟨ob_law198, t_X12_kept (Q := fun r2 u2 => r = r2 ∧ Inv u2) hR (fun r2 u2 d2 h2 => i_pos h2.1 (hK u2 d2 h2.2)) d1 h1⟩) hd (call_kept a1 a2 u hi)⟩
theorem b_way {ρ : Nat → Nat → Option Nat} (hR : RfH ρ) {a1 a2 a3 : Int32} {K Z : Mem → Prop} (hK : ∀ u, DK u → Inv u → K (emb ρ u)) {u : St} (hd : DK u) (hi : Inv u) : Ob SH 0 11 ∧ wp_X11_way SH 0 a1 a2 a3 (fun r m => Ob SH 198 12 ∧ wp_X12_way SH 198 a1 a2 a3 (fun r2 m2 => if r = r2 then K m2 else Z m2) m) (emb ρ u) :=
  ⟨ob_law0, t_X11_way (Q := fun r u1 => s_X12_way a1 a2 a3 (fun r2 u2 => r = r2 ∧ Inv u2) u1) hR (fun r u1 d1 h1 => ⟨ob_law198, t_X12_way (Q := fun r2 u2 => r = r2 ∧ Inv u2) hR (fun r2 u2 d2 h2 => i_pos h2.1 (hK u2 d2 h2.2)) d1 h1⟩) hd (call_way a1 a2 a3 u hi)⟩
theorem b_leads {ρ : Nat → Nat → Option Nat} (hR : RfH ρ) {a1 a2 : Int32} {K Z : Mem → Prop} (hK : ∀ u, DK u → Inv u → K (emb ρ u)) {u : St} (hd : DK u) (hi : Inv u) : Ob SH 0 11 ∧ wp_X11_leads SH 0 a1 a2 (fun r m => Ob SH 198 12 ∧ wp_X12_leads SH 198 a1 a2 (fun r2 m2 => if r = r2 then K m2 else Z m2) m) (emb ρ u) :=
  ⟨ob_law0, t_X11_leads (Q := fun r u1 => s_X12_leads a1 a2 (fun r2 u2 => r = r2 ∧ Inv u2) u1) hR (fun r u1 d1 h1 => ⟨ob_law198, t_X12_leads (Q := fun r2 u2 => r = r2 ∧ Inv u2) hR (fun r2 u2 d2 h2 => i_pos h2.1 (hK u2 d2 h2.2)) d1 h1⟩) hd (call_leads a1 a2 u hi)⟩
theorem b_best {ρ : Nat → Nat → Option Nat} (hR : RfH ρ) {K Z : Mem → Prop} (hK : ∀ u, DK u → Inv u → K (emb ρ u)) {u : St} (hd : DK u) (hi : Inv u) : Ob SH 0 11 ∧ wp_X11_best SH 0 (fun r m => Ob SH 198 12 ∧ wp_X12_best SH 198 (fun r2 m2 => if r = r2 then K m2 else Z m2) m) (emb ρ u) :=
  ⟨ob_law0, t_X11_best (Q := fun r u1 => s_X12_best (fun r2 u2 => r = r2 ∧ Inv u2) u1) hR (fun r u1 d1 h1 => ⟨ob_law198, t_X12_best (Q := fun r2 u2 => r = r2 ∧ Inv u2) hR (fun r2 u2 d2 h2 => i_pos h2.1 (hK u2 d2 h2.2)) d1 h1⟩) hd (call_best u hi)⟩
theorem b_least {ρ : Nat → Nat → Option Nat} (hR : RfH ρ) {a1 : Int32} {K Z : Mem → Prop} (hK : ∀ u, DK u → Inv u → K (emb ρ u)) {u : St} (hd : DK u) (hi : Inv u) : Ob SH 0 11 ∧ wp_X11_least SH 0 a1 (fun r m => Ob SH 198 12 ∧ wp_X12_least SH 198 a1 (fun r2 m2 => if r = r2 then K m2 else Z m2) m) (emb ρ u) :=
  ⟨ob_law0, t_X11_least (Q := fun r u1 => s_X12_least a1 (fun r2 u2 => r = r2 ∧ Inv u2) u1) hR (fun r u1 d1 h1 => ⟨ob_law198, t_X12_least (Q := fun r2 u2 => r = r2 ∧ Inv u2) hR (fun r2 u2 d2 h2 => i_pos h2.1 (hK u2 d2 h2.2)) d1 h1⟩) hd (call_least a1 u hi)⟩
theorem b_dry {ρ : Nat → Nat → Option Nat} (hR : RfH ρ) {K Z : Mem → Prop} (hK : ∀ u, DK u → Inv u → K (emb ρ u)) {u : St} (hd : DK u) (hi : Inv u) : Ob SH 0 11 ∧ wp_X11_dry SH 0 (fun r m => Ob SH 198 12 ∧ wp_X12_dry SH 198 (fun r2 m2 => if r = r2 then K m2 else Z m2) m) (emb ρ u) :=
  ⟨ob_law0, t_X11_dry (Q := fun r u1 => s_X12_dry (fun r2 u2 => r = r2 ∧ Inv u2) u1) hR (fun r u1 d1 h1 => ⟨ob_law198, t_X12_dry (Q := fun r2 u2 => r = r2 ∧ Inv u2) hR (fun r2 u2 d2 h2 => i_pos h2.1 (hK u2 d2 h2.2)) d1 h1⟩) hd (call_dry u hi)⟩
theorem b_bid {ρ : Nat → Nat → Option Nat} (hR : RfH ρ) {a1 a2 : Int32} {K Z : Mem → Prop} (hK : ∀ u, DK u → Inv u → K (emb ρ u)) {u : St} (hd : DK u) (hi : Inv u) : Ob SH 0 11 ∧ wp_X11_bid SH 0 a1 a2 (fun r m => Ob SH 198 12 ∧ wp_X12_bid SH 198 a1 a2 (fun r2 m2 => if r = r2 then K m2 else Z m2) m) (emb ρ u) :=
  ⟨ob_law0, t_X11_bid (Q := fun r u1 => s_X12_bid a1 a2 (fun r2 u2 => r = r2 ∧ Inv u2) u1) hR (fun r u1 d1 h1 => ⟨ob_law198, t_X12_bid (Q := fun r2 u2 => r = r2 ∧ Inv u2) hR (fun r2 u2 d2 h2 => i_pos h2.1 (hK u2 d2 h2.2)) d1 h1⟩) hd (call_bid a1 a2 u hi)⟩
theorem b_rest {ρ : Nat → Nat → Option Nat} (hR : RfH ρ) {a1 : Int32} {K Z : Mem → Prop} (hK : ∀ u, DK u → Inv u → K (emb ρ u)) {u : St} (hd : DK u) (hi : Inv u) : Ob SH 0 11 ∧ wp_X11_rest SH 0 a1 (fun r m => Ob SH 198 12 ∧ wp_X12_rest SH 198 a1 (fun r2 m2 => if r = r2 then K m2 else Z m2) m) (emb ρ u) :=
  ⟨ob_law0, t_X11_rest (Q := fun r u1 => s_X12_rest a1 (fun r2 u2 => r = r2 ∧ Inv u2) u1) hR (fun r u1 d1 h1 => ⟨ob_law198, t_X12_rest (Q := fun r2 u2 => r = r2 ∧ Inv u2) hR (fun r2 u2 d2 h2 => i_pos h2.1 (hK u2 d2 h2.2)) d1 h1⟩) hd (call_rest a1 u hi)⟩
theorem b_parts {ρ : Nat → Nat → Option Nat} (hR : RfH ρ) {a1 a2 a3 : Int32} {K Z : Mem → Prop} (hK : ∀ u, DK u → Inv u → K (emb ρ u)) {u : St} (hd : DK u) (hi : Inv u) : Ob SH 0 11 ∧ wp_X11_parts SH 0 a1 a2 a3 (fun r m => Ob SH 198 12 ∧ wp_X12_parts SH 198 a1 a2 a3 (fun r2 m2 => if r = r2 then K m2 else Z m2) m) (emb ρ u) :=
  ⟨ob_law0, t_X11_parts (Q := fun r u1 => s_X12_parts a1 a2 a3 (fun r2 u2 => r = r2 ∧ Inv u2) u1) hR (fun r u1 d1 h1 => ⟨ob_law198, t_X12_parts (Q := fun r2 u2 => r = r2 ∧ Inv u2) hR (fun r2 u2 d2 h2 => i_pos h2.1 (hK u2 d2 h2.2)) d1 h1⟩) hd (call_parts a1 a2 a3 u hi)⟩
theorem b_mill {ρ : Nat → Nat → Option Nat} (hR : RfH ρ) {a1 : Int32} {K Z : Mem → Prop} (hK : ∀ u, DK u → Inv u → K (emb ρ u)) {u : St} (hd : DK u) (hi : Inv u) : Ob SH 0 11 ∧ wp_X11_mill SH 0 a1 (fun r m => Ob SH 198 12 ∧ wp_X12_mill SH 198 a1 (fun r2 m2 => if r = r2 then K m2 else Z m2) m) (emb ρ u) :=
  ⟨ob_law0, t_X11_mill (Q := fun r u1 => s_X12_mill a1 (fun r2 u2 => r = r2 ∧ Inv u2) u1) hR (fun r u1 d1 h1 => ⟨ob_law198, t_X12_mill (Q := fun r2 u2 => r = r2 ∧ Inv u2) hR (fun r2 u2 d2 h2 => i_pos h2.1 (hK u2 d2 h2.2)) d1 h1⟩) hd (call_mill a1 u hi)⟩
theorem b_see {ρ : Nat → Nat → Option Nat} (hR : RfH ρ) {K Z : Mem → Prop} (hK : ∀ u, DK u → Inv u → K (emb ρ u)) {u : St} (hd : DK u) (hi : Inv u) : Ob SH 0 11 ∧ wp_X11_see SH 0 (fun r m => Ob SH 198 12 ∧ wp_X12_see SH 198 (fun r2 m2 => if r = r2 then K m2 else Z m2) m) (emb ρ u) :=
  ⟨ob_law0, t_X11_see (Q := fun r u1 => s_X12_see (fun r2 u2 => r = r2 ∧ Inv u2) u1) hR (fun r u1 d1 h1 => ⟨ob_law198, t_X12_see (Q := fun r2 u2 => r = r2 ∧ Inv u2) hR (fun r2 u2 d2 h2 => i_pos h2.1 (hK u2 d2 h2.2)) d1 h1⟩) hd (call_see u hi)⟩
theorem b_who {ρ : Nat → Nat → Option Nat} (hR : RfH ρ) {K Z : Mem → Prop} (hK : ∀ u, DK u → Inv u → K (emb ρ u)) {u : St} (hd : DK u) (hi : Inv u) : Ob SH 0 11 ∧ wp_X11_who SH 0 (fun r m => Ob SH 198 12 ∧ wp_X12_who SH 198 (fun r2 m2 => if r = r2 then K m2 else Z m2) m) (emb ρ u) :=
  ⟨ob_law0, t_X11_who (Q := fun r u1 => s_X12_who (fun r2 u2 => r = r2 ∧ Inv u2) u1) hR (fun r u1 d1 h1 => ⟨ob_law198, t_X12_who (Q := fun r2 u2 => r = r2 ∧ Inv u2) hR (fun r2 u2 d2 h2 => i_pos h2.1 (hK u2 d2 h2.2)) d1 h1⟩) hd (call_who u hi)⟩
theorem b_tells {ρ : Nat → Nat → Option Nat} (hR : RfH ρ) {a1 : Int32} {K Z : Mem → Prop} (hK : ∀ u, DK u → Inv u → K (emb ρ u)) {u : St} (hd : DK u) (hi : Inv u) : Ob SH 0 11 ∧ wp_X11_tells SH 0 a1 (fun r m => Ob SH 198 12 ∧ wp_X12_tells SH 198 a1 (fun r2 m2 => if r = r2 then K m2 else Z m2) m) (emb ρ u) :=
  ⟨ob_law0, t_X11_tells (Q := fun r u1 => s_X12_tells a1 (fun r2 u2 => r = r2 ∧ Inv u2) u1) hR (fun r u1 d1 h1 => ⟨ob_law198, t_X12_tells (Q := fun r2 u2 => r = r2 ∧ Inv u2) hR (fun r2 u2 d2 h2 => i_pos h2.1 (hK u2 d2 h2.2)) d1 h1⟩) hd (call_tells a1 u hi)⟩
theorem b_spring {ρ : Nat → Nat → Option Nat} (hR : RfH ρ) {a1 : Int32} {K Z : Mem → Prop} (hK : ∀ u, DK u → Inv u → K (emb ρ u)) {u : St} (hd : DK u) (hi : Inv u) : Ob SH 0 11 ∧ wp_X11_spring SH 0 a1 (fun r m => Ob SH 198 12 ∧ wp_X12_spring SH 198 a1 (fun r2 m2 => if r = r2 then K m2 else Z m2) m) (emb ρ u) :=
  ⟨ob_law0, t_X11_spring (Q := fun r u1 => s_X12_spring a1 (fun r2 u2 => r = r2 ∧ Inv u2) u1) hR (fun r u1 d1 h1 => ⟨ob_law198, t_X12_spring (Q := fun r2 u2 => r = r2 ∧ Inv u2) hR (fun r2 u2 d2 h2 => i_pos h2.1 (hK u2 d2 h2.2)) d1 h1⟩) hd (call_spring a1 u hi)⟩
theorem b_bake {ρ : Nat → Nat → Option Nat} (hR : RfH ρ) {a1 a2 : Int32} {K Z : Mem → Prop} (hK : ∀ u, DK u → Inv u → K (emb ρ u)) {u : St} (hd : DK u) (hi : Inv u) : Ob SH 0 11 ∧ wp_X11_bake SH 0 a1 a2 (fun r m => Ob SH 198 12 ∧ wp_X12_bake SH 198 a1 a2 (fun r2 m2 => if r = r2 then K m2 else Z m2) m) (emb ρ u) :=
  ⟨ob_law0, t_X11_bake (Q := fun r u1 => s_X12_bake a1 a2 (fun r2 u2 => r = r2 ∧ Inv u2) u1) hR (fun r u1 d1 h1 => ⟨ob_law198, t_X12_bake (Q := fun r2 u2 => r = r2 ∧ Inv u2) hR (fun r2 u2 d2 h2 => i_pos h2.1 (hK u2 d2 h2.2)) d1 h1⟩) hd (call_bake a1 a2 u hi)⟩
theorem b_dig {ρ : Nat → Nat → Option Nat} (hR : RfH ρ) {a1 a2 : Int32} {K Z : Mem → Prop} (hK : ∀ u, DK u → Inv u → K (emb ρ u)) {u : St} (hd : DK u) (hi : Inv u) : Ob SH 0 11 ∧ wp_X11_dig SH 0 a1 a2 (fun r m => Ob SH 198 12 ∧ wp_X12_dig SH 198 a1 a2 (fun r2 m2 => if r = r2 then K m2 else Z m2) m) (emb ρ u) :=
  ⟨ob_law0, t_X11_dig (Q := fun r u1 => s_X12_dig a1 a2 (fun r2 u2 => r = r2 ∧ Inv u2) u1) hR (fun r u1 d1 h1 => ⟨ob_law198, t_X12_dig (Q := fun r2 u2 => r = r2 ∧ Inv u2) hR (fun r2 u2 d2 h2 => i_pos h2.1 (hK u2 d2 h2.2)) d1 h1⟩) hd (call_dig a1 a2 u hi)⟩
theorem b_stone {ρ : Nat → Nat → Option Nat} (hR : RfH ρ) {a1 a2 a3 : Int32} {K Z : Mem → Prop} (hK : ∀ u, DK u → Inv u → K (emb ρ u)) {u : St} (hd : DK u) (hi : Inv u) : Ob SH 0 11 ∧ wp_X11_stone SH 0 a1 a2 a3 (fun r m => Ob SH 198 12 ∧ wp_X12_stone SH 198 a1 a2 a3 (fun r2 m2 => if r = r2 then K m2 else Z m2) m) (emb ρ u) :=
  ⟨ob_law0, t_X11_stone (Q := fun r u1 => s_X12_stone a1 a2 a3 (fun r2 u2 => r = r2 ∧ Inv u2) u1) hR (fun r u1 d1 h1 => ⟨ob_law198, t_X12_stone (Q := fun r2 u2 => r = r2 ∧ Inv u2) hR (fun r2 u2 d2 h2 => i_pos h2.1 (hK u2 d2 h2.2)) d1 h1⟩) hd (call_stone a1 a2 a3 u hi)⟩
theorem b_chance {ρ : Nat → Nat → Option Nat} (hR : RfH ρ) {a1 : Int32} {K Z : Mem → Prop} (hK : ∀ u, DK u → Inv u → K (emb ρ u)) {u : St} (hd : DK u) (hi : Inv u) : Ob SH 0 11 ∧ wp_X11_chance SH 0 a1 (fun r m => Ob SH 198 12 ∧ wp_X12_chance SH 198 a1 (fun r2 m2 => if r = r2 then K m2 else Z m2) m) (emb ρ u) :=
  ⟨ob_law0, t_X11_chance (Q := fun r u1 => s_X12_chance a1 (fun r2 u2 => r = r2 ∧ Inv u2) u1) hR (fun r u1 d1 h1 => ⟨ob_law198, t_X12_chance (Q := fun r2 u2 => r = r2 ∧ Inv u2) hR (fun r2 u2 d2 h2 => i_pos h2.1 (hK u2 d2 h2.2)) d1 h1⟩) hd (call_chance a1 u hi)⟩
theorem b_undo {ρ : Nat → Nat → Option Nat} (hR : RfH ρ) {K Z : Mem → Prop} (hK : ∀ u, DK u → Inv u → K (emb ρ u)) {u : St} (hd : DK u) (hi : Inv u) : Ob SH 0 11 ∧ wp_X11_undo SH 0 (fun r m => Ob SH 198 12 ∧ wp_X12_undo SH 198 (fun r2 m2 => if r = r2 then K m2 else Z m2) m) (emb ρ u) :=
  ⟨ob_law0, t_X11_undo (Q := fun r u1 => s_X12_undo (fun r2 u2 => r = r2 ∧ Inv u2) u1) hR (fun r u1 d1 h1 => ⟨ob_law198, t_X12_undo (Q := fun r2 u2 => r = r2 ∧ Inv u2) hR (fun r2 u2 d2 h2 => i_pos h2.1 (hK u2 d2 h2.2)) d1 h1⟩) hd (call_undo u hi)⟩
theorem b_seed {ρ : Nat → Nat → Option Nat} (hR : RfH ρ) {a1 : Int32} {K Z : Mem → Prop} (hK : ∀ u, DK u → Inv u → K (emb ρ u)) {u : St} (hd : DK u) (hi : Inv u) : Ob SH 0 11 ∧ wp_X11_seed SH 0 a1 (fun r m => Ob SH 198 12 ∧ wp_X12_seed SH 198 a1 (fun r2 m2 => if r = r2 then K m2 else Z m2) m) (emb ρ u) :=
  ⟨ob_law0, t_X11_seed (Q := fun r u1 => s_X12_seed a1 (fun r2 u2 => r = r2 ∧ Inv u2) u1) hR (fun r u1 d1 h1 => ⟨ob_law198, t_X12_seed (Q := fun r2 u2 => r = r2 ∧ Inv u2) hR (fun r2 u2 d2 h2 => i_pos h2.1 (hK u2 d2 h2.2)) d1 h1⟩) hd (call_seed a1 u hi)⟩
theorem b_ask {ρ : Nat → Nat → Option Nat} (hR : RfH ρ) {K Z : Mem → Prop} (hK : ∀ u, DK u → Inv u → K (emb ρ u)) {u : St} (hd : DK u) (hi : Inv u) : Ob SH 0 11 ∧ wp_X11_ask SH 0 (fun r m => Ob SH 198 12 ∧ wp_X12_ask SH 198 (fun r2 m2 => if (lg_cmp r r2) = 0 then K m2 else Z m2) m) (emb ρ u) :=
  ⟨ob_law0, t_X11_ask (Q := fun r u1 => s_X12_ask (fun r2 u2 => r = r2 ∧ Inv u2) u1) hR (fun r u1 d1 h1 => ⟨ob_law198, t_X12_ask (Q := fun r2 u2 => r = r2 ∧ Inv u2) hR (fun r2 u2 d2 h2 => i_pos ((lg_cmp_eq _ _).mpr h2.1) (hK u2 d2 h2.2)) d1 h1⟩) hd (call_ask u hi)⟩
theorem b_image {ρ : Nat → Nat → Option Nat} (hR : RfH ρ) {K Z : Mem → Prop} (hK : ∀ u, DK u → Inv u → K (emb ρ u)) {u : St} (hd : DK u) (hi : Inv u) : Ob SH 0 11 ∧ wp_X11_image SH 0 (fun r m => Ob SH 198 12 ∧ wp_X12_image SH 198 (fun r2 m2 => if r = r2 then K m2 else Z m2) m) (emb ρ u) :=
  ⟨ob_law0, t_X11_image (Q := fun r u1 => s_X12_image (fun r2 u2 => r = r2 ∧ Inv u2) u1) hR (fun r u1 d1 h1 => ⟨ob_law198, t_X12_image (Q := fun r2 u2 => r = r2 ∧ Inv u2) hR (fun r2 u2 d2 h2 => i_pos h2.1 (hK u2 d2 h2.2)) d1 h1⟩) hd (call_image u hi)⟩
theorem b_octet {ρ : Nat → Nat → Option Nat} (hR : RfH ρ) {a1 : Int32} {K Z : Mem → Prop} (hK : ∀ u, DK u → Inv u → K (emb ρ u)) {u : St} (hd : DK u) (hi : Inv u) : Ob SH 0 11 ∧ wp_X11_octet SH 0 a1 (fun r m => Ob SH 198 12 ∧ wp_X12_octet SH 198 a1 (fun r2 m2 => if r = r2 then K m2 else Z m2) m) (emb ρ u) :=
  ⟨ob_law0, t_X11_octet (Q := fun r u1 => s_X12_octet a1 (fun r2 u2 => r = r2 ∧ Inv u2) u1) hR (fun r u1 d1 h1 => ⟨ob_law198, t_X12_octet (Q := fun r2 u2 => r = r2 ∧ Inv u2) hR (fun r2 u2 d2 h2 => i_pos h2.1 (hK u2 d2 h2.2)) d1 h1⟩) hd (call_octet a1 u hi)⟩
theorem b_on {ρ : Nat → Nat → Option Nat} (hR : RfH ρ) {K Z : Mem → Prop} (hK : ∀ u, DK u → Inv u → K (emb ρ u)) {u : St} (hd : DK u) (hi : Inv u) : Ob SH 0 11 ∧ wp_X11_on SH 0 (fun r m => Ob SH 198 12 ∧ wp_X12_on SH 198 (fun r2 m2 => if r = r2 then K m2 else Z m2) m) (emb ρ u) :=
  ⟨ob_law0, t_X11_on (Q := fun r u1 => s_X12_on (fun r2 u2 => r = r2 ∧ Inv u2) u1) hR (fun r u1 d1 h1 => ⟨ob_law198, t_X12_on (Q := fun r2 u2 => r = r2 ∧ Inv u2) hR (fun r2 u2 d2 h2 => i_pos h2.1 (hK u2 d2 h2.2)) d1 h1⟩) hd (call_on u hi)⟩
theorem b_status {ρ : Nat → Nat → Option Nat} (hR : RfH ρ) {a1 : Int32} {K Z : Mem → Prop} (hK : ∀ u, DK u → Inv u → K (emb ρ u)) {u : St} (hd : DK u) (hi : Inv u) : Ob SH 0 11 ∧ wp_X11_status SH 0 a1 (fun r m => Ob SH 198 12 ∧ wp_X12_status SH 198 a1 (fun r2 m2 => if r = r2 then K m2 else Z m2) m) (emb ρ u) :=
  ⟨ob_law0, t_X11_status (Q := fun r u1 => s_X12_status a1 (fun r2 u2 => r = r2 ∧ Inv u2) u1) hR (fun r u1 d1 h1 => ⟨ob_law198, t_X12_status (Q := fun r2 u2 => r = r2 ∧ Inv u2) hR (fun r2 u2 d2 h2 => i_pos h2.1 (hK u2 d2 h2.2)) d1 h1⟩) hd (call_status a1 u hi)⟩
theorem law_small : ∀ L, L < 6 → ∀ i, i < 6 → i ≤ L → (nI L - 6 : Int32) < nI i := by decide +kernel
theorem law_end {L i : Nat} (hL : L ≤ 3072) (hi : i ≤ L) : (((nI L) - (6 : Int32)) < nI i) = (L < i + 6) := by
  by_cases h : L < 6
  · exact propext ⟨fun _ => by omega, fun _ => law_small L h i (by omega) hi⟩
  · rw [show ((nI L) - (6 : Int32)) = nI (L - 6) from x_sub (b := 6) (by omega), x_lt (by omega) (by omega)]
    exact propext ⟨fun _ => by omega, fun _ => by omega⟩
theorem law_in {L i j : Nat} {v : Int32} (hL : L ≤ 3072) (h : i + j < L) (hv : v = nI j) : vp_in (nI i + v) L := by
  subst hv
  rw [nI_add, x_in (by omega)]
  exact h
set_option maxRecDepth 100000 in
theorem law_loop {L b : Nat} {xs : Nat → Int32} {ρ : Nat → Nat → Option Nat} (hL : L ≤ 3072) (hR : RfH ρ) : ∀ (n i : Nat) (u : St), i ≤ L → L < i + 6 * n → DK u → Inv u → L_law_n L xs SH b 0 198 (fun x _ => x = 1) n (nI i) (emb ρ u) := by
  intro n
  induction n with
  | zero => exact fun i u h1 h2 _ _ => absurd h2 (by omega)
  | succ n ih =>
    intro i u h1 h2 hd hi
    show L_law_b L xs SH b 0 198 (fun x _ => x = 1) (L_law_n L xs SH b 0 198 (fun x _ => x = 1) n) (nI i) (emb ρ u)
    by_cases hc : L < i + 6
    · unfold L_law_b
      refine i_pos (by rw [law_end hL h1]; exact hc) ?_
      rfl
    have hK : ∀ u', DK u' → Inv u' → L_law_p1087 L xs SH b 0 198 (nI i) (fun x _ => x = 1) (L_law_n L xs SH b 0 198 (fun x _ => x = 1) n) (emb ρ u') := by
      intro u' d' i'
      unfold L_law_p1087
      rw [show nI i + (6 : Int32) = nI (i + 6) from nI_add i 6]
      exact ih (i + 6) u' (by omega) (by omega) d' i'
    have v0 : vp_in (nI i) L := by
      rw [x_in (by omega)]
      omega
    have v1 : vp_in (nI i + (1 : Int32)) L := law_in (j := 1) hL (by omega) rfl
    have v2 : vp_in (nI i + (2 : Int32)) L := law_in (j := 2) hL (by omega) rfl
    have v3 : vp_in (nI i + (3 : Int32)) L := law_in (j := 3) hL (by omega) rfl
    have v4 : vp_in (nI i + (4 : Int32)) L := law_in (j := 4) hL (by omega) rfl
    have v5 : vp_in (nI i + (5 : Int32)) L := law_in (j := 5) hL (by omega) rfl
    have he : ¬ (((nI L) - (6 : Int32)) < nI i) := by
      rw [law_end hL h1]
      exact hc
    generalize L_law_n L xs SH b 0 198 (fun x _ => x = 1) n = KK at hK
    unfold L_law_b
    refine i_neg he (And.intro v0 ?_)
    refine i_cas (And.intro v1 (And.intro v2 (And.intro v3 (And.intro v4 (And.intro v5 (b_feed hR hK hd hi)))))) ?_
    refine i_cas (And.intro v1 (b_end hR hK hd hi)) ?_
    refine i_cas (b_plain hR hK hd hi) ?_
    refine i_cas (And.intro v1 (b_fault hR hK hd hi)) ?_
    refine i_cas (And.intro v1 (b_has hR hK hd hi)) ?_
    refine i_cas (And.intro v1 (And.intro v2 (And.intro v3 (b_letter hR hK hd hi)))) ?_
    refine i_cas (And.intro v1 (And.intro v2 (And.intro v3 (b_cell hR hK hd hi)))) ?_
    refine i_cas (And.intro v1 (And.intro v2 (b_farm hR hK hd hi))) ?_
    refine i_cas (And.intro v1 (And.intro v2 (b_caller hR hK hd hi))) ?_
    refine i_cas (And.intro v1 (And.intro v2 (b_kept hR hK hd hi))) ?_
    refine i_cas (And.intro v1 (And.intro v2 (And.intro v3 (b_way hR hK hd hi)))) ?_
    refine i_cas (And.intro v1 (And.intro v2 (b_leads hR hK hd hi))) ?_
    refine i_cas (b_best hR hK hd hi) ?_
    refine i_cas (And.intro v1 (b_least hR hK hd hi)) ?_
    refine i_cas (b_dry hR hK hd hi) ?_
    refine i_cas (And.intro v1 (And.intro v2 (b_bid hR hK hd hi))) ?_
    refine i_cas (And.intro v1 (b_rest hR hK hd hi)) ?_
    refine i_cas (And.intro v1 (And.intro v2 (And.intro v3 (b_parts hR hK hd hi)))) ?_
    refine i_cas (And.intro v1 (b_mill hR hK hd hi)) ?_
    refine i_cas (b_see hR hK hd hi) ?_
    refine i_cas (b_who hR hK hd hi) ?_
    refine i_cas (And.intro v1 (b_tells hR hK hd hi)) ?_
    refine i_cas (And.intro v1 (b_spring hR hK hd hi)) ?_
    refine i_cas (And.intro v1 (And.intro v2 (b_bake hR hK hd hi))) ?_
    refine i_cas (And.intro v1 (And.intro v2 (b_dig hR hK hd hi))) ?_
    refine i_cas (And.intro v1 (And.intro v2 (And.intro v3 (b_stone hR hK hd hi)))) ?_
    refine i_cas (And.intro v1 (b_chance hR hK hd hi)) ?_
    refine i_cas (b_undo hR hK hd hi) ?_
    refine i_cas (And.intro v1 (b_seed hR hK hd hi)) ?_
    refine i_cas (b_ask hR hK hd hi) ?_
    refine i_cas (b_image hR hK hd hi) ?_
    refine i_cas (And.intro v1 (b_octet hR hK hd hi)) ?_
    refine i_cas (b_on hR hK hd hi) ?_
    refine i_cas (And.intro v1 (b_status hR hK hd hi)) ?_
    exact hK u hd hi
theorem law_ok (L : Nat) (xs : Nat → Int32) (b : Nat) (hL : L ≤ 3072) : LF L xs b := by
  refine init_ok (fun m hm => ⟨L + 1, ?_⟩)
  rw [init_emb hm]
  exact law_loop hL hm.1 (L + 1) 0 _ (Nat.zero_le L) (by omega) (init_dk _ _) (init_inv hm)
end
