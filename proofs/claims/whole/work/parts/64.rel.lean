/-! ===== the plain, the land, the relations of both memories to them ===== -/
/-- numbers of the plain by group and place; the tokens of goes; of bakes -/
abbrev Pl : Type := (Nat → Nat → Nat) × List Nat × List Nat
def pc (P : Pl) : Nat := P.1 0 0
def pr (P : Pl) : Nat := P.1 0 1
def ps (P : Pl) : Nat := P.1 0 2
def pf (P : Pl) : Nat := P.1 0 3
def pk (P : Pl) : Nat := P.1 0 4
def fce (P : Pl) (f : Nat) : Nat := P.1 1 f
def fda (P : Pl) (f : Nat) : Nat := P.1 2 f
def cbo (P : Pl) (c : Nat) : Nat := P.1 3 c
def cki (P : Pl) (c : Nat) : Nat := P.1 4 c
def fnm (P : Pl) (f k : Nat) : Nat := P.1 (20 + f) k
def cnm (P : Pl) (c k : Nat) : Nat := P.1 (30 + c) k
def pgo (P : Pl) : List Nat := P.2.1
def pba (P : Pl) : List Nat := P.2.2
/-- cells are numbered as the reference does: column + 6 row; the class: row by row -/
def cel (P : Pl) (c : Nat) : Prop := c % 6 < pc P ∧ c / 6 < pr P
def pl (P : Pl) (c : Nat) : Nat := c / 6 * pc P + c % 6
def ce (P : Pl) (p : Nat) : Nat := p % pc P + 6 * (p / pc P)
def oI : Option Nat → Int32
  | none => -1
  | some n => nI n
def fAtN (g : Nat → Nat) (c : Nat) : Nat → Option Nat
  | 0 => none
  | n + 1 => (fAtN g c n).or (if g n = c then some n else none)
def fAt (P : Pl) (c : Nat) : Option Nat := fAtN (fce P) c (pf P)
/-- a name's letters as the class packs them, as the reference does -/
def nmC (l : Nat → Nat) : Nat := l 0 + 32 * (l 1 + 32 * (l 2 + 32 * (l 3 + 32 * (l 4 + 32 * l 5))))
def nmL (l : Nat → Nat) : Nat → Nat
  | 0 => 0
  | n + 1 => 27 * nmL l n + l n
def nmK (l : Nat → Nat) : Nat → Nat
  | 0 => 0
  | n + 1 => if l n = 0 then nmK l n else n + 1
def NmV (l : Nat → Nat) : Prop := (∀ k, l k ≤ 26) ∧ 1 ≤ l 0 ∧ (∀ k, l k = 0 → l (k + 1) = 0) ∧ l 6 = 0
def OkT (S : List Nat) (c : List Nat) : Prop := ∀ t ∈ c, 1000 ≤ t ∨ (40 ≤ t ∧ t < 53 ∧ t - 40 ∈ S) ∨ t ≤ 9
def VP (P : Pl) : Prop := pc P ≤ 6 ∧ pr P ≤ 6 ∧ (pc P = 0 → pr P = 0 ∧ pf P = 0 ∧ pk P = 0 ∧ ps P = 0)
  ∧ (pc P ≠ 0 → 2 ≤ pc P ∧ 2 ≤ pr P ∧ ps P < pc P ∧ Good false 64 (pgo P) ∧ Good false 64 (pba P) ∧ OkT [0, 1, 2, 3, 4, 5, 6, 7] (pgo P) ∧ OkT [0, 1, 2, 8] (pba P) ∧ (pgo P).length ≤ 1600 ∧ (pba P).length ≤ 1600)
  ∧ pf P ≤ 6 ∧ pk P ≤ 5 ∧ (∀ f, f < pf P → cel P (fce P f) ∧ 1 ≤ fda P f ∧ fda P f ≤ 40) ∧ (∀ f g, f < pf P → g < pf P → fce P f = fce P g → f = g)
  ∧ (∀ c, c < pk P → cbo P c ≤ 9 ∧ cki P c ≤ 9) ∧ (∀ f, f < pf P → NmV (fnm P f)) ∧ (∀ c, c < pk P → NmV (cnm P c))
/-- a Code of the class, at cell g -/
def cCo (u : St) (g : Nat) (c : List Nat) : Prop := u.1 g 2 = nI c.length ∧ ∀ i, i < c.length → u.1 (g + 1) i = nI (kap (c.getD i 0))
/-- a Plain of the class, at cell t -/
def cPl (u : St) (t : Nat) (P : Pl) : Prop := (u.1 t 0 = nI (pc P) ∧ u.1 t 1 = nI (pr P) ∧ u.1 t 2 = nI (ps P) ∧ u.1 t 3 = nI (pf P) ∧ u.1 t 4 = nI (pk P))
  ∧ (∀ c, cel P c → u.1 (t + 3) (pl P c) = oI (fAt P c))
  ∧ (∀ f, f < pf P → u.1 (t + 4) f = nI (nmC (fnm P f)) ∧ u.1 (t + 5) f = nI (pl P (fce P f)) ∧ u.1 (t + 6) f = nI (fda P f))
  ∧ (∀ c, c < pk P → u.1 (t + 8) c = nI (nmC (cnm P c)) ∧ u.1 (t + 9) c = nI (cbo P c) ∧ u.1 (t + 10) c = nI (cki P c))
  ∧ (pc P ≠ 0 → cCo u (t + 11) (pgo P) ∧ cCo u (t + 14) (pba P))
/-- goes (w 0) or bakes (w 1) of the reference -/
def mCo (u : St) (w : Nat) (dfl c : List Nat) : Prop := (u.1 238 (2 + w) = -1 ∧ c = dfl) ∨ ∃ fr, u.1 238 (2 + w) = nI fr ∧ u.1 239 (2 + w) = nI (fr + c.length) ∧ fr + c.length ≤ 1600 ∧ ∀ i, i < c.length → u.1 240 (1600 + (fr + i)) = nI (c.getD i 0)
def mPl (u : St) (P : Pl) : Prop := (u.1 198 56 = (if pc P = 0 then 0 else 1) ∧ u.1 198 44 = nI (ps P) ∧ u.1 231 2 = nI (pc P) ∧ u.1 231 3 = nI (pr P) ∧ u.1 232 2 = nI (pf P) ∧ u.1 232 3 = nI (pk P))
  ∧ (∀ f, f < pf P → u.1 234 (18 + 3 * f) = nI (fce P f) ∧ u.1 234 (19 + 3 * f) = nI (fda P f) ∧ u.2.1 233 (16 + f) = lN (nmL (fnm P f) (nmK (fnm P f) 6)))
  ∧ (∀ c, c < pk P → u.1 235 (10 + 2 * c) = nI (cbo P c) ∧ u.1 235 (11 + 2 * c) = nI (cki P c) ∧ u.2.1 233 (24 + c) = lN (nmL (cnm P c) (nmK (cnm P c) 6)))
  ∧ (pc P ≠ 0 → mCo u 0 [1000, 46, 2] (pgo P) ∧ mCo u 1 [41] (pba P))
/-- the land, as the reference holds it: 0 the year; of cell c height 1 + 3 c, stone 2 + 3 c, wet 3 + 3 c; pies 109 + f; 115 how many are kept, 116 .. those -/
def VN (P : Pl) (N : Nat → Nat) : Prop := N 0 ≤ 999 ∧ (∀ c, cel P c → N (1 + 3 * c) ≤ 9 ∧ N (2 + 3 * c) ≤ 1 ∧ N (3 + 3 * c) ≤ 99) ∧ (∀ c, c < 36 → ¬ cel P c → N (2 + 3 * c) = 0)
  ∧ (∀ f, f < pf P → N (109 + f) ≤ 9) ∧ (∀ f, pf P ≤ f → f < 6 → N (109 + f) = 0) ∧ N 115 ≤ 40 ∧ (∀ k, k < 120 → N (116 + k) ≤ 999)
def mLa (u : St) (N : Nat → Nat) : Prop := ∀ k, k < 236 → u.1 241 k = nI (N k)
def cLa (u : St) (a : Nat) (P : Pl) (N : Nat → Nat) : Prop := u.1 a 0 = nI (N 0)
  ∧ (∀ c, cel P c → u.1 (a + 1) (pl P c) = nI (N (1 + 3 * c)) ∧ u.1 (a + 2) (pl P c) = nI (N (2 + 3 * c)) ∧ u.1 (a + 3) (pl P c) = nI (N (3 + 3 * c)))
  ∧ (∀ f, f < 6 → u.1 (a + 4) f = nI (N (109 + f))) ∧ (∀ p, p < 36 → pc P * pr P ≤ p → u.1 (a + 2) p = 0)
theorem cel_lt {P : Pl} (h : VP P) {c : Nat} (hc : cel P c) : c < 36 := by
  have h1 := h.1
  have h2 := h.2.1
  unfold cel at hc
  omega
theorem cel_pc {P : Pl} {c : Nat} (hc : cel P c) : 0 < pc P := by
  unfold cel at hc
  omega
theorem pl_lt {P : Pl} {c : Nat} (hc : cel P c) : pl P c < pc P * pr P := by
  unfold pl
  unfold cel at hc
  calc c / 6 * pc P + c % 6 < c / 6 * pc P + pc P := by omega
    _ = (c / 6 + 1) * pc P := by rw [Nat.add_mul, Nat.one_mul]
    _ ≤ pr P * pc P := Nat.mul_le_mul_right _ (by omega)
    _ = pc P * pr P := Nat.mul_comm _ _
theorem area_le {P : Pl} (h : VP P) : pc P * pr P ≤ 36 := by
  have := Nat.mul_le_mul h.1 h.2.1
  omega
theorem pl_36 {P : Pl} (h : VP P) {c : Nat} (hc : cel P c) : pl P c < 36 := by
  have := pl_lt hc
  have := area_le h
  omega
theorem pl_div {P : Pl} {c : Nat} (hc : cel P c) : pl P c / pc P = c / 6 := by
  unfold pl
  have h0 := cel_pc hc
  rw [Nat.mul_comm, Nat.mul_add_div h0, Nat.div_eq_of_lt hc.1, Nat.add_zero]
theorem pl_mod {P : Pl} {c : Nat} (hc : cel P c) : pl P c % pc P = c % 6 := by
  unfold pl
  rw [Nat.mul_comm, Nat.mul_add_mod, Nat.mod_eq_of_lt hc.1]
theorem ce_pl {P : Pl} {c : Nat} (hc : cel P c) : ce P (pl P c) = c := by
  unfold ce
  rw [pl_div hc, pl_mod hc]
  omega
theorem ce_cel {P : Pl} (h : VP P) {p : Nat} (hp : p < pc P * pr P) : cel P (ce P p) ∧ ce P p % 6 = p % pc P ∧ ce P p / 6 = p / pc P := by
  have h1 := h.1
  have h0 : 0 < pc P := by
    by_cases e : pc P = 0
    · rw [e] at hp
      omega
    · omega
  have h3 : p / pc P < pr P := by
    rw [Nat.div_lt_iff_lt_mul h0, Nat.mul_comm]
    exact hp
  have h4 := Nat.mod_lt p h0
  unfold ce cel
  omega
theorem pl_ce {P : Pl} (h : VP P) {p : Nat} (hp : p < pc P * pr P) : pl P (ce P p) = p := by
  have h1 := ce_cel h hp
  unfold pl
  rw [h1.2.1, h1.2.2]
  exact Nat.div_add_mod' p (pc P)
theorem pl_inj {P : Pl} {c d : Nat} (hc : cel P c) (hd : cel P d) (h : pl P c = pl P d) : c = d := by
  rw [← ce_pl hc, ← ce_pl hd, h]
theorem pl_mono {P : Pl} {c d : Nat} (hc : cel P c) (hd : cel P d) (h : c < d) : pl P c < pl P d := by
  have h1 : c / 6 ≤ d / 6 := Nat.div_le_div_right (by omega)
  unfold pl
  by_cases e : c / 6 = d / 6
  · rw [e]
    omega
  · have h2 : (c / 6 + 1) * pc P ≤ d / 6 * pc P := Nat.mul_le_mul_right _ (by omega)
    rw [Nat.add_mul, Nat.one_mul] at h2
    have := hc.1
    omega
theorem fAtN_some {g : Nat → Nat} {c : Nat} : ∀ {n f : Nat}, fAtN g c n = some f → f < n ∧ g f = c
  | 0, _, h => absurd h (by simp [fAtN])
  | n + 1, f, h => by
    unfold fAtN at h
    cases e : fAtN g c n with
    | some f' =>
      rw [e] at h
      have h2 := fAtN_some e
      have h3 : f' = f := Option.some.inj h
      subst h3
      exact ⟨by omega, h2.2⟩
    | none =>
      rw [e] at h
      by_cases hg : g n = c
      · rw [if_pos hg] at h
        have h3 : n = f := Option.some.inj h
        subst h3
        exact ⟨by omega, hg⟩
      · rw [if_neg hg] at h
        exact absurd h (by simp)
theorem fAtN_none {g : Nat → Nat} {c : Nat} : ∀ {n : Nat}, fAtN g c n = none → ∀ f, f < n → g f ≠ c
  | 0, _, f, hf => by omega
  | n + 1, h, f, hf => by
    unfold fAtN at h
    cases e : fAtN g c n with
    | some f' =>
      rw [e] at h
      exact absurd h (by simp)
    | none =>
      rw [e] at h
      by_cases hg : g n = c
      · rw [if_pos hg] at h
        exact absurd h (by simp)
      · by_cases hfn : f = n
        · rw [hfn]
          exact hg
        · exact fAtN_none e f (by omega)
theorem fAt_some {P : Pl} {c f : Nat} (h : fAt P c = some f) : f < pf P ∧ fce P f = c := fAtN_some h
theorem fAt_none {P : Pl} {c : Nat} (h : fAt P c = none) : ∀ f, f < pf P → fce P f ≠ c := fAtN_none h
theorem fAt_fce {P : Pl} (hP : VP P) {f : Nat} (h : f < pf P) : fAt P (fce P f) = some f := by
  cases e : fAt P (fce P f) with
  | none => exact absurd rfl (fAt_none e f h)
  | some g =>
    have h2 := fAt_some e
    rw [hP.2.2.2.2.2.2.2.1 g f h2.1 h h2.2]
theorem oI_m1 {o : Option Nat} (h : ∀ n, o = some n → n < 2147483648) : (oI o = -1) = (o = none) := by
  cases o with
  | none => simp [oI]
  | some n =>
    simp only [oI, reduceCtorEq]
    exact x_ne1 (h n rfl)
