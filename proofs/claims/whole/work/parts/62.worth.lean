/-! ===== whole numbers as Int32 and Int64 ===== -/
def iI (z : Int) : Int32 := Int32.ofInt z
def lI (z : Int) : Int64 := Int64.ofInt z
theorem iI_T {z : Int} (h1 : -2147483648 ≤ z) (h2 : z < 2147483648) : (iI z).toInt = z := Int32.toInt_ofInt_of_le (by omega) (by omega)
theorem lI_T {z : Int} (h1 : -9223372036854775808 ≤ z) (h2 : z < 9223372036854775808) : (lI z).toInt = z := Int64.toInt_ofInt_of_le (by omega) (by omega)
theorem iI_of {x : Int32} {z : Int} (h : x.toInt = z) : x = iI z := by
  rw [← h]
  exact (Int32.ofInt_toInt x).symm
theorem lI_of {x : Int64} {z : Int} (h : x.toInt = z) : x = lI z := by
  rw [← h]
  exact (Int64.ofInt_toInt x).symm
theorem iI_l {z : Int} (h1 : -2147483648 ≤ z) (h2 : z < 2147483648) : (iI z).toInt64 = lI z := lI_of (by rw [Int32.toInt_toInt64, iI_T h1 h2])
theorem lI_i {z : Int} (h1 : -2147483648 ≤ z) (h2 : z < 2147483648) : (lI z).toInt32 = iI z := by
  apply iI_of
  rw [Int64.toInt_toInt32, lI_T (by omega) (by omega)]
  exact Int.bmod_eq_of_le (by omega) (by omega)
theorem nI_iI {n : Nat} (h : n < 2147483648) : nI n = iI n := iI_of (nI_toInt h)
theorem lN_lI {n : Nat} (h : n < 9223372036854775808) : lN n = lI n := lI_of (pk_lT h)
theorem m1_iI : (-1 : Int32) = iI (-1) := iI_of x_m1T
theorem iI_inj {a b : Int} (ha : -2147483648 ≤ a) (ha2 : a < 2147483648) (hb : -2147483648 ≤ b) (hb2 : b < 2147483648) : (iI a = iI b) = (a = b) := by
  apply propext
  constructor
  · intro h
    rw [← iI_T ha ha2, ← iI_T hb hb2, h]
  · intro h
    rw [h]
theorem iI_le {a b : Int} (ha : -2147483648 ≤ a) (ha2 : a < 2147483648) (hb : -2147483648 ≤ b) (hb2 : b < 2147483648) : (iI a ≤ iI b) = (a ≤ b) := by
  apply propext
  rw [Int32.le_iff_toInt_le, iI_T ha ha2, iI_T hb hb2]
theorem iI_lt {a b : Int} (ha : -2147483648 ≤ a) (ha2 : a < 2147483648) (hb : -2147483648 ≤ b) (hb2 : b < 2147483648) : (iI a < iI b) = (a < b) := by
  apply propext
  rw [Int32.lt_iff_toInt_lt, iI_T ha ha2, iI_T hb hb2]
theorem iI_cl {a : Int} (ha : 0 ≤ a) (ha2 : a < 2147483648) : (iI a).toNatClampNeg = a.toNat := by
  obtain ⟨n, rfl⟩ := Int.eq_ofNat_of_zero_le ha
  rw [← nI_iI (by omega), nI_clamp (by omega)]
  rfl
theorem iI_add (a b : Int) : iI a + iI b = iI (a + b) := (Int32.ofInt_add a b).symm
theorem iI_sub (a b : Int) : iI a - iI b = iI (a - b) := (Int32.ofInt_sub a b).symm
theorem lI_add (a b : Int) : lI a + lI b = lI (a + b) := (Int64.ofInt_add a b).symm
theorem lI_sub (a b : Int) : lI a - lI b = lI (a - b) := (Int64.ofInt_sub a b).symm
theorem lI_mul (a b : Int) : lI a * lI b = lI (a * b) := (Int64.ofInt_mul a b).symm
theorem lI_lt {a b : Int} (ha : -9223372036854775808 ≤ a) (ha2 : a < 9223372036854775808) (hb : -9223372036854775808 ≤ b) (hb2 : b < 9223372036854775808) : (lI a < lI b) = (a < b) := by
  apply propext
  rw [Int64.lt_iff_toInt_lt, lI_T ha ha2, lI_T hb hb2]
theorem lI_le {a b : Int} (ha : -9223372036854775808 ≤ a) (ha2 : a < 9223372036854775808) (hb : -9223372036854775808 ≤ b) (hb2 : b < 9223372036854775808) : (lI a ≤ lI b) = (a ≤ b) := by
  apply propext
  rw [Int64.le_iff_toInt_le, lI_T ha ha2, lI_T hb hb2]
theorem lI_eq {a b : Int} (ha : -9223372036854775808 ≤ a) (ha2 : a < 9223372036854775808) (hb : -9223372036854775808 ≤ b) (hb2 : b < 9223372036854775808) : (lI a = lI b) = (a = b) := by
  apply propext
  constructor
  · intro h
    rw [← lI_T ha ha2, ← lI_T hb hb2, h]
  · intro h
    rw [h]
theorem l_0 : (0 : Int64) = lI 0 := rfl
theorem l_1 : (1 : Int64) = lI 1 := rfl
theorem l_M : (1000000 : Int64) = lI 1000000 := rfl
theorem l_m : (-1000000 : Int64) = lI (-1000000) := by first | decide | (unfold vp_in; decide)
theorem l_m1 : (-1 : Int64) = lI (-1) := by first | decide | (unfold vp_in; decide)
theorem i_0 : (0 : Int32) = iI 0 := rfl
theorem i_1 : (1 : Int32) = iI 1 := rfl
theorem lI_div {a b : Int} (ha : -4000000000000000000 ≤ a) (ha2 : a < 4000000000000000000) (hb : -4000000000000000000 ≤ b) (hb2 : b < 4000000000000000000) : lI a / lI b = lI (a.tdiv b) := by
  apply lI_of
  have h1 : (lI a).toInt = a := lI_T (by omega) (by omega)
  rw [Int64.toInt_div_of_ne_left, h1, lI_T (by omega) (by omega)]
  intro e
  rw [e] at h1
  have h2 : Int64.minValue.toInt = -9223372036854775808 := by first | decide | (unfold vp_in; decide)
  omega
/-- the sign of the exclusive or -/
theorem l_xor (x y : Int64) : (0 ≤ x ^^^ y) ↔ (x.toInt < 0 ↔ y.toInt < 0) := by
  have hz : ((0 : Int64)).toInt = 0 := by first | decide | (unfold vp_in; decide)
  rw [Int64.le_iff_toInt_le, hz]
  have e1 : ∀ z : Int64, (z.toInt < 0) ↔ z.toBitVec.msb = true := by
    intro z
    show z.toBitVec.toInt < 0 ↔ _
    rw [BitVec.msb_eq_toInt]
    simp
  have e2 : (0 ≤ (x ^^^ y).toInt) ↔ ¬ ((x ^^^ y).toInt < 0) := by omega
  rw [e2, e1, e1 x, e1 y, Int64.toBitVec_xor, BitVec.msb_xor]
  cases x.toBitVec.msb <;> cases y.toBitVec.msb <;> simp
/-! ===== the class's Code ===== -/
theorem q_floor {a b : Int} {Q : Int64 → St → Prop} {u : St} (ha : -2000000 ≤ a) (ha2 : a ≤ 2000000) (hb : -2000000 ≤ b) (hb2 : b ≤ 2000000) (h0 : b ≠ 0) (h : Q (lI (flo a b)) u) : s_J9_floorDiv_f86c9 (lI a) (lI b) Q u := by
  unfold s_J9_floorDiv_f86c9
  have hq := Int.natAbs_tdiv_le_natAbs a b
  have hm := Int.tdiv_mul_add_tmod a b
  have hm2 : (a.tmod b).natAbs ≤ a.natAbs := by
    rw [Int.natAbs_tmod]
    exact Nat.mod_le _ _
  refine ⟨fun e => h0 ?_, ?_⟩
  · rw [l_0, lI_eq (by omega) (by omega) (by omega) (by omega)] at e
    exact e
  · rw [lI_div (by omega) (by omega) (by omega) (by omega), lI_mul, l_1, lI_sub]
    simp only [lg_cmp_ge, lg_cmp_eq]
    have hx : ((0 : Int64) ≤ lI a ^^^ lI b) ↔ (a < 0 ↔ b < 0) := by
      rw [l_xor, lI_T (by omega) (by omega), lI_T (by omega) (by omega)]
    have hme : lI (a.tdiv b * b) = lI a ↔ a.tmod b = 0 := by
      first | rw [ite_e (lI_eq (by omega) (by omega) (by omega) (by omega))] | rw [lI_eq (by omega) (by omega) (by omega) (by omega)]
      omega
    unfold flo at h
    rw [if_neg h0] at h
    by_cases hs : (a < 0 ↔ b < 0)
    · first | refine i_pos (hx.mpr hs) ?_ | rw [if_pos (hx.mpr hs)]
      rw [if_neg (by omega)] at h
      exact h
    · first | refine i_neg (fun e => hs (hx.mp e)) ?_ | rw [if_neg (fun e => hs (hx.mp e))]
      by_cases hz : a.tmod b = 0
      · first | refine i_pos (hme.mpr hz) ?_ | rw [if_pos (hme.mpr hz)]
        rw [if_neg (fun e => e.1 hz)] at h
        exact h
      · first | refine i_neg (fun e => hz (hme.mp e)) ?_ | rw [if_neg (fun e => hz (hme.mp e))]
        have ha0 : a ≠ 0 := by
          intro e
          apply hz
          rw [e, Int.zero_tmod]
        rw [if_pos ⟨hz, by omega⟩] at h
        exact h
theorem q_held {z : Int} {Q : Int32 → St → Prop} {u : St} (h1 : -4000000000000000000 ≤ z) (h2 : z < 4000000000000000000) (h : Q (iI (clip z)) u) : s_X0_held (lI z) Q u := by
  unfold s_X0_held s_J9_min_f86c9 s_J9_max_f86c9
  simp only [lg_cmp_gt, lg_cmp_lt]
  rw [l_m, l_M]
  first | rw [ite_e (lI_lt (by omega) (by omega) (by omega) (by omega))] | rw [lI_lt (by omega) (by omega) (by omega) (by omega)]
  first | rw [ite_e (lI_lt (by omega) (by omega) (by omega) (by omega))] | rw [lI_lt (by omega) (by omega) (by omega) (by omega)]
  first | rw [ite_e (lI_lt (by omega) (by omega) (by omega) (by omega))] | rw [lI_lt (by omega) (by omega) (by omega) (by omega)]
  unfold clip at h
  by_cases c1 : 1000000 < z
  · rw [if_pos c1] at h
    first | refine i_pos c1 ?_ | rw [if_pos c1]
    first | refine i_pos (by omega) ?_ | rw [if_pos (by omega)]
    rw [lI_i (by omega) (by omega)]
    exact h
  · rw [if_neg c1] at h
    first | refine i_neg c1 ?_ | rw [if_neg c1]
    by_cases c2 : z < -1000000
    · rw [if_pos c2] at h
      first | refine i_neg (by omega) ?_ | rw [if_neg (by omega)]
      rw [lI_i (by omega) (by omega)]
      exact h
    · rw [if_neg c2] at h
      by_cases c3 : -1000000 < z
      · first | refine i_pos c3 ?_ | rw [if_pos c3]
        rw [lI_i (by omega) (by omega)]
        exact h
      · first | refine i_neg c3 ?_ | rw [if_neg c3]
        rw [lI_i (by omega) (by omega)]
        have : z = -1000000 := by omega
        rw [this] at h
        exact h
theorem x_ne {t k : Nat} (ht : t < 2147483648) (hk : k < 2147483648) (h : t ≠ k) : ¬ nI t = nI k := fun e => h ((nI_eq ht hk).mp e)
theorem q_two {t : Nat} {a b : Int} {Q : Int64 → St → Prop} {u : St} (ht : t < 20000) (ha : -2000000 ≤ a) (ha2 : a ≤ 2000000) (hb : -2000000 ≤ b) (hb2 : b ≤ 2000000) (h : Q (lI (o2 t a b)) u) : s_X0_ofTwo (nI t) (lI a) (lI b) Q u := by
  unfold s_X0_ofTwo
  unfold o2 at h
  by_cases c1 : t = 10026
  · subst c1
    rw [if_pos rfl] at h
    first | refine i_pos rfl ?_ | rw [if_pos rfl]
    rw [lI_add]
    exact h
  rw [if_neg c1] at h
  first | refine i_neg (x_ne (k := 10026) (by omega) (by omega) c1) ?_ | rw [if_neg (x_ne (k := 10026) (by omega) (by omega) c1)]
  by_cases c2 : t = 10027
  · subst c2
    rw [if_pos rfl] at h
    first | refine i_pos rfl ?_ | rw [if_pos rfl]
    rw [lI_sub]
    exact h
  rw [if_neg c2] at h
  first | refine i_neg (x_ne (k := 10027) (by omega) (by omega) c2) ?_ | rw [if_neg (x_ne (k := 10027) (by omega) (by omega) c2)]
  by_cases c3 : t = 10028
  · subst c3
    rw [if_pos rfl] at h
    first | refine i_pos rfl ?_ | rw [if_pos rfl]
    rw [lI_mul]
    exact h
  rw [if_neg c3] at h
  first | refine i_neg (x_ne (k := 10028) (by omega) (by omega) c3) ?_ | rw [if_neg (x_ne (k := 10028) (by omega) (by omega) c3)]
  by_cases c4 : t = 10029
  · subst c4
    rw [if_pos rfl] at h
    first | refine i_pos rfl ?_ | rw [if_pos rfl]
    simp only [lg_cmp_eq, l_0]
    first | rw [ite_e (lI_eq (by omega) (by omega) (by omega) (by omega))] | rw [lI_eq (by omega) (by omega) (by omega) (by omega)]
    by_cases hz : b = 0
    · first | refine i_pos hz ?_ | rw [if_pos hz]
      unfold flo at h
      rw [if_pos hz] at h
      exact h
    · first | refine i_neg hz ?_ | rw [if_neg hz]
      exact q_floor ha ha2 hb hb2 hz h
  rw [if_neg c4] at h
  first | refine i_neg (x_ne (k := 10029) (by omega) (by omega) c4) ?_ | rw [if_neg (x_ne (k := 10029) (by omega) (by omega) c4)]
  by_cases c5 : t = 10030
  · subst c5
    rw [if_pos rfl] at h
    first | refine i_pos rfl ?_ | rw [if_pos rfl]
    unfold s_J9_min_f86c9
    simp only [lg_cmp_gt]
    first | rw [ite_e (lI_lt (by omega) (by omega) (by omega) (by omega))] | rw [lI_lt (by omega) (by omega) (by omega) (by omega)]
    by_cases hz : b < a
    · rw [if_pos hz] at h
      first | refine i_pos hz ?_ | rw [if_pos hz]
      exact h
    · rw [if_neg hz] at h
      first | refine i_neg hz ?_ | rw [if_neg hz]
      exact h
  rw [if_neg c5] at h
  first | refine i_neg (x_ne (k := 10030) (by omega) (by omega) c5) ?_ | rw [if_neg (x_ne (k := 10030) (by omega) (by omega) c5)]
  by_cases c6 : t = 10031
  · subst c6
    rw [if_pos rfl] at h
    first | refine i_pos rfl ?_ | rw [if_pos rfl]
    unfold s_J9_max_f86c9
    simp only [lg_cmp_lt]
    first | rw [ite_e (lI_lt (by omega) (by omega) (by omega) (by omega))] | rw [lI_lt (by omega) (by omega) (by omega) (by omega)]
    by_cases hz : a < b
    · rw [if_pos hz] at h
      first | refine i_pos hz ?_ | rw [if_pos hz]
      exact h
    · rw [if_neg hz] at h
      first | refine i_neg hz ?_ | rw [if_neg hz]
      exact h
  rw [if_neg c6] at h
  first | refine i_neg (x_ne (k := 10031) (by omega) (by omega) c6) ?_ | rw [if_neg (x_ne (k := 10031) (by omega) (by omega) c6)]
  by_cases c7 : t = 10032
  · subst c7
    rw [if_pos rfl] at h
    first | refine i_pos rfl ?_ | rw [if_pos rfl]
    simp only [lg_cmp_ge]
    first | rw [ite_e (lI_le (by omega) (by omega) (by omega) (by omega))] | rw [lI_le (by omega) (by omega) (by omega) (by omega)]
    by_cases hz : b ≤ a
    · rw [if_pos hz] at h
      first | refine i_pos hz ?_ | rw [if_pos hz]
      exact h
    · rw [if_neg hz] at h
      first | refine i_neg hz ?_ | rw [if_neg hz]
      exact h
  rw [if_neg c7] at h
  first | refine i_neg (x_ne (k := 10032) (by omega) (by omega) c7) ?_ | rw [if_neg (x_ne (k := 10032) (by omega) (by omega) c7)]
  by_cases c8 : t = 10033
  · subst c8
    rw [if_pos rfl] at h
    first | refine i_pos rfl ?_ | rw [if_pos rfl]
    simp only [lg_cmp_le]
    first | rw [ite_e (lI_le (by omega) (by omega) (by omega) (by omega))] | rw [lI_le (by omega) (by omega) (by omega) (by omega)]
    by_cases hz : a ≤ b
    · rw [if_pos hz] at h
      first | refine i_pos hz ?_ | rw [if_pos hz]
      exact h
    · rw [if_neg hz] at h
      first | refine i_neg hz ?_ | rw [if_neg hz]
      exact h
  rw [if_neg c8] at h
  first | refine i_neg (x_ne (k := 10033) (by omega) (by omega) c8) ?_ | rw [if_neg (x_ne (k := 10033) (by omega) (by omega) c8)]
  by_cases c9 : t = 10034
  · subst c9
    rw [if_pos rfl] at h
    first | refine i_pos rfl ?_ | rw [if_pos rfl]
    simp only [lg_cmp_eq]
    first | rw [ite_e (lI_eq (by omega) (by omega) (by omega) (by omega))] | rw [lI_eq (by omega) (by omega) (by omega) (by omega)]
    by_cases hz : a = b
    · rw [if_pos hz] at h
      first | refine i_pos hz ?_ | rw [if_pos hz]
      exact h
    · rw [if_neg hz] at h
      first | refine i_neg hz ?_ | rw [if_neg hz]
      exact h
  rw [if_neg c9] at h
  first | refine i_neg (x_ne (k := 10034) (by omega) (by omega) c9) ?_ | rw [if_neg (x_ne (k := 10034) (by omega) (by omega) c9)]
  exact h
theorem q_one {t fa : Nat} {a : Int} {F : Nat → Int} {Q : Int32 → St → Prop} {u : St} (ht : t < 20000) (ha : -2000000 ≤ a) (ha2 : a ≤ 2000000) (hsh : SH[fa]? = some (100, 23)) (hF : ∀ k, k < 23 → u.1 fa k = iI (F k)) (h : Q (iI (o1 F t a)) u) : s_X0_ofOne (nI t) (iI a) fa Q u := by
  unfold s_X0_ofOne
  have hlt : (iI a < 0) = (a < 0) := by
    rw [i_0]
    first | rw [ite_e (iI_lt (by omega) (by omega) (by omega) (by omega))] | rw [iI_lt (by omega) (by omega) (by omega) (by omega)]
  have hle : ((5 : Int32) ≤ iI a) = (5 ≤ a) := by
    show (iI 5 ≤ iI a) = (5 ≤ a)
    first | rw [ite_e (iI_le (by omega) (by omega) (by omega) (by omega))] | rw [iI_le (by omega) (by omega) (by omega) (by omega)]
  have hP : ∀ s0 : Int32, (s0 = 0 → ¬ (0 ≤ a ∧ a < 5)) → (s0 = 1 → 0 ≤ a ∧ a < 5) → (s0 = 0 ∨ s0 = 1) → sX0_ofOne_p14 (nI t) (iI a) fa s0 Q u := by
    intro s0 h0 h1 h01
    unfold sX0_ofOne_p14
    unfold o1 at h
    by_cases c1 : t = 10023
    · subst c1
      rw [if_pos rfl] at h
      first | refine i_pos rfl ?_ | rw [if_pos rfl]
      rw [i_1, iI_sub]
      exact h
    rw [if_neg c1] at h
    first | refine i_neg (x_ne (k := 10023) (by omega) (by omega) c1) ?_ | rw [if_neg (x_ne (k := 10023) (by omega) (by omega) c1)]
    by_cases c2 : t = 10024
    · subst c2
      rw [if_pos rfl] at h
      first | refine i_pos rfl ?_ | rw [if_pos rfl]
      rcases h01 with e | e
      · first | refine i_pos e ?_ | rw [if_pos e]
        rw [if_neg (h0 e)] at h
        exact h
      · have h2 := h1 e
        first | refine i_neg (by rw [e]; decide) ?_ | rw [if_neg (by rw [e]; decide)]
        rw [if_pos h2] at h
        have e3 : (13 : Int32) + iI a = nI (13 + a.toNat) := by
          rw [nI_iI (by omega)]
          show iI 13 + iI a = _
          rw [iI_add]
          congr 1
          omega
        rw [e3]
        refine ⟨ix_n hsh (by omega) (by omega), ?_⟩
        rw [nI_clamp (by omega), hF _ (by omega)]
        exact h
    rw [if_neg c2] at h
    first | refine i_neg (x_ne (k := 10024) (by omega) (by omega) c2) ?_ | rw [if_neg (x_ne (k := 10024) (by omega) (by omega) c2)]
    by_cases c3 : t = 10025
    · subst c3
      rw [if_pos rfl] at h
      first | refine i_pos rfl ?_ | rw [if_pos rfl]
      rcases h01 with e | e
      · first | refine i_pos e ?_ | rw [if_pos e]
        rw [if_neg (h0 e)] at h
        rw [m1_iI]
        exact h
      · have h2 := h1 e
        first | refine i_neg (by rw [e]; decide) ?_ | rw [if_neg (by rw [e]; decide)]
        rw [if_pos h2] at h
        have e3 : (18 : Int32) + iI a = nI (18 + a.toNat) := by
          rw [nI_iI (by omega)]
          show iI 18 + iI a = _
          rw [iI_add]
          congr 1
          omega
        rw [e3]
        refine ⟨ix_n hsh (by omega) (by omega), ?_⟩
        rw [nI_clamp (by omega), hF _ (by omega)]
        exact h
    rw [if_neg c3] at h
    first | refine i_neg (x_ne (k := 10025) (by omega) (by omega) c3) ?_ | rw [if_neg (x_ne (k := 10025) (by omega) (by omega) c3)]
    exact h
  first | rw [ite_e (hlt)] | rw [hlt]
  first | rw [ite_e (hle)] | rw [hle]
  by_cases d1 : a < 0
  · first | refine i_pos d1 ?_ | rw [if_pos d1]
    exact hP 0 (fun _ => by omega) (fun e => absurd e (by first | decide | (unfold vp_in; decide))) (Or.inl rfl)
  · first | refine i_neg d1 ?_ | rw [if_neg d1]
    by_cases d2 : 5 ≤ a
    · first | refine i_pos d2 ?_ | rw [if_pos d2]
      exact hP 0 (fun _ => by omega) (fun e => absurd e (by first | decide | (unfold vp_in; decide))) (Or.inl rfl)
    · first | refine i_neg d2 ?_ | rw [if_neg d2]
      exact hP 1 (fun e => absurd e (by first | decide | (unfold vp_in; decide))) (fun _ => by omega) (Or.inr rfl)
/-- a pile of numbers in an array, the last one on top -/
def Stk (f : Nat → Int32) : List Int → Prop
  | [] => True
  | x :: st => f st.length = iI x ∧ Stk f st
theorem stk_c {f f' : Nat → Int32} : ∀ (st : List Int), (∀ i, i < st.length → f' i = f i) → Stk f st → Stk f' st
  | [], _, _ => trivial
  | x :: st, h, hs => ⟨(h st.length (by simp)).trans hs.1, stk_c st (fun i hi => h i (by simp only [List.length_cons]; omega)) hs.2⟩
def Bd (st : List Int) : Prop := ∀ x ∈ st, -1000000 ≤ x ∧ x ≤ 1000001
theorem bd_c {x : Int} {st : List Int} (h1 : -1000000 ≤ x) (h2 : x ≤ 1000001) (h : Bd st) : Bd (x :: st) := by
  intro y hy
  rcases List.mem_cons.mp hy with rfl | hy
  · exact ⟨h1, h2⟩
  · exact h y hy
theorem q_worth {g fa : Nat} {c : List Nat} {F : Nat → Int} {v : Int} {Q : Int32 → St → Prop} {u : St} (hfa : fa ≠ g + 2) (hL : u.1 g 2 = nI c.length) (hl : c.length ≤ 1600) (hc : ∀ i, i < c.length → u.1 (g + 1) i = nI (c.getD i 0)) (ht : ∀ i, i < c.length → c.getD i 0 < 20000) (hsh : SH[fa]? = some (100, 23)) (hF : ∀ k, k < 23 → u.1 fa k = iI (F k)) (hG : GF F) (hr : ruC F c [] = [v]) (hQ : ∀ u', Kp (fun a _ => a ≠ g + 2) u u' → Q (iI v) u') : s_X0_worth g fa Q u := by
  unfold s_X0_worth sX0_worth_p4
  have key := for_up (fun n i (s : Int32 × St) => sX0_worth_p4n g fa Q n s.1 i s.2) c.length (fun k s => ∃ st : List Int, s.1 = nI st.length ∧ st.length ≤ 64 ∧ Stk (s.2.1 (g + 2)) st ∧ Bd st ∧ ruC F (c.drop k) st = [v] ∧ Kp (fun a _ => a ≠ g + 2) u s.2) ?_ 0 (0, u) (Nat.zero_le _) ⟨[], rfl, by simp, trivial, fun x hx => absurd hx (by simp), by simpa using hr, kp_r u⟩
  · exact key
  rintro n k ⟨v2, u'⟩ hk ⟨st, rfl, hst, hS, hB, hrun, hK⟩ hnext
  simp only at hS hK hB hst
  show sX0_worth_p4b g fa Q (sX0_worth_p4n g fa Q n) (nI st.length) (nI k) u'
  unfold sX0_worth_p4b
  rw [(hK.1 g 2 (by omega)).trans hL]
  by_cases hke : k = c.length
  · first | refine i_pos (by rw [hke]; exact nI_le (Nat.le_refl _) (by omega)) ?_ | rw [if_pos (by rw [hke]; exact nI_le (Nat.le_refl _) (by omega))]
    rw [hke, List.drop_length] at hrun
    simp only [ruC] at hrun
    rw [hrun] at hS
    refine ⟨by first | decide | (unfold vp_in; decide), ?_⟩
    show Q (u'.1 (g + 2) 0) u'
    have hz : u'.1 (g + 2) 0 = iI v := hS.1
    rw [hz]
    exact hQ u' hK
  have hkl : k < c.length := by omega
  first | refine i_neg (nI_ge hkl (by omega)) ?_ | rw [if_neg (nI_ge hkl (by omega))]
  refine ⟨vp_in_nI (by omega) (by omega), ?_⟩
  rw [nI_clamp (by omega)]
  have et : u'.1 (g + 1) k = nI (c.getD k 0) := (hK.1 (g + 1) k (by omega)).trans (hc k hkl)
  rw [et]
  have htk := ht k hkl
  have hdr : c.drop k = c.getD k 0 :: c.drop (k + 1) := by
    rw [List.drop_eq_getElem_cons hkl]
    simp [List.getD_eq_getElem?_getD, hkl]
  rw [hdr] at hrun
  generalize c.getD k 0 = t at et htk hrun
  simp only [ruC] at hrun
  have hgo : ∀ (st' : List Int) (u2 : St), st'.length ≤ 64 → Stk (u2.1 (g + 2)) st' → Bd st' → ruC F (c.drop (k + 1)) st' = [v] → Kp (fun a _ => a ≠ g + 2) u u2 → sX0_worth_p144 g fa (nI st'.length) (nI k) Q (sX0_worth_p4n g fa Q n) u2 := by
    intro st' u2 a1 a2 a3 a4 a5
    show sX0_worth_p4n g fa Q n (nI st'.length) (nI k + 1) u2
    rw [nI_1]
    exact hnext hkl (nI st'.length, u2) ⟨st', rfl, a1, a2, a3, a4, a5⟩
  by_cases c1 : t < 10023
  · first | refine i_neg (nI_ge (b := 10023) c1 (by omega)) ?_ | rw [if_neg (nI_ge (b := 10023) c1 (by omega))]
    unfold evC at hrun
    rw [if_pos c1] at hrun
    by_cases c2 : st.length < 64
    · first | refine i_neg (nI_ge (b := 64) c2 (by omega)) ?_ | rw [if_neg (nI_ge (b := 64) c2 (by omega))]
      rw [if_pos c2] at hrun
      have push : ∀ z : Int, -1000000 ≤ z → z ≤ 1000001 → ruC F (c.drop (k + 1)) (z :: st) = [v] → sX0_worth_p60 g fa (nI st.length) (nI k) (iI z) (nI st.length) (g + 2) Q (sX0_worth_p4n g fa Q n) u' := by
        intro z z1 z2 z3
        unfold sX0_worth_p60
        refine ⟨vp_in_nI c2 (by omega), ?_⟩
        show sX0_worth_p144 g fa (nI st.length + 1) (nI k) Q (sX0_worth_p4n g fa Q n) (tI u' (g + 2) (nI st.length).toNatClampNeg (iI z))
        rw [nI_1, nI_clamp (by omega)]
        refine hgo (z :: st) _ (by simp only [List.length_cons]; omega) ⟨t_s _ _ _ _, stk_c st (fun i hi => t_n _ _ (Or.inr (by omega))) hS⟩ (bd_c z1 z2 hB) z3 (kp_I hK (by simp))
      by_cases c3 : t < 10000
      · first | refine i_neg (nI_ge (b := 10000) c3 (by omega)) ?_ | rw [if_neg (nI_ge (b := 10000) c3 (by omega))]
        rw [if_pos c3] at hrun
        have e : nI t = iI (t : Int) := nI_iI (by omega)
        rw [e]
        exact push _ (by omega) (by omega) hrun
      · first | refine i_pos (nI_le (a := 10000) (by omega) (by omega)) ?_ | rw [if_pos (nI_le (a := 10000) (by omega) (by omega))]
        rw [if_neg c3] at hrun
        have e : nI t - 10000 = nI (t - 10000) := pk_sub (b := 10000) (by omega)
        rw [e]
        refine ⟨ix_n hsh (by omega) (by omega), ?_⟩
        rw [nI_clamp (by omega), (hK.1 fa (t - 10000) hfa).trans (hF _ (by omega))]
        have hf := hG (t - 10000) (by omega)
        exact push _ hf.1 (by omega) hrun
    · first | refine i_pos (nI_le (a := 64) (by omega) (by omega)) ?_ | rw [if_pos (nI_le (a := 64) (by omega) (by omega))]
      rw [if_neg c2] at hrun
      exact hgo st u' hst hS hB hrun hK
  · first | refine i_pos (nI_le (a := 10023) (by omega) (by omega)) ?_ | rw [if_pos (nI_le (a := 10023) (by omega) (by omega))]
    unfold evC at hrun
    rw [if_neg c1] at hrun
    by_cases c2 : t < 10026
    · first | refine i_neg (nI_ge (b := 10026) c2 (by omega)) ?_ | rw [if_neg (nI_ge (b := 10026) c2 (by omega))]
      rw [if_pos c2] at hrun
      cases st with
      | nil =>
        first | refine i_pos (show nI ([] : List Int).length ≤ 0 by first | decide | (unfold vp_in; decide)) ?_ | rw [if_pos (show nI ([] : List Int).length ≤ 0 by first | decide | (unfold vp_in; decide))]
        exact hgo [] u' hst hS hB hrun hK
      | cons a r =>
        simp only [List.length_cons] at hst ⊢
        first | refine i_neg (nI_nle (by omega) (by omega)) ?_ | rw [if_neg (nI_nle (by omega) (by omega))]
        rw [nI_pred]
        refine ⟨vp_in_nI (by omega) (by omega), ?_⟩
        rw [nI_clamp (by omega), hS.1]
        have hb := hB a (by simp)
        refine q_one (F := F) (by omega) (by omega) (by omega) hsh (fun k2 hk2 => (hK.1 fa k2 hfa).trans (hF k2 hk2)) ?_
        show sX0_worth_p144 g fa (nI (r.length + 1)) (nI k) Q (sX0_worth_p4n g fa Q n) (tI u' (g + 2) r.length (iI (o1 F t a)))
        have hob : -1000000 ≤ o1 F t a ∧ o1 F t a ≤ 1000001 := by
          unfold o1
          split
          · omega
          · split
            · split
              · have := hG (13 + a.toNat) (by omega)
                omega
              · omega
            · split
              · split
                · have := hG (18 + a.toNat) (by omega)
                  omega
                · omega
              · omega
        exact hgo (o1 F t a :: r) _ (by simp only [List.length_cons]; omega) ⟨t_s _ _ _ _, stk_c r (fun i hi => t_n _ _ (Or.inr (by omega))) hS.2⟩ (bd_c hob.1 hob.2 (fun x hx => hB x (List.mem_cons_of_mem _ hx))) hrun (kp_I hK (by simp))
    · first | refine i_pos (nI_le (a := 10026) (by omega) (by omega)) ?_ | rw [if_pos (nI_le (a := 10026) (by omega) (by omega))]
      rw [if_neg c2] at hrun
      match st, hst, hS, hB, hrun, hgo with
      | [], hst, hS, hB, hrun, hgo =>
        first | refine i_pos (show nI ([] : List Int).length ≤ 1 by first | decide | (unfold vp_in; decide)) ?_ | rw [if_pos (show nI ([] : List Int).length ≤ 1 by first | decide | (unfold vp_in; decide))]
        exact hgo [] u' hst hS hB hrun hK
      | [a], hst, hS, hB, hrun, hgo =>
        first | refine i_pos (show nI ([a] : List Int).length ≤ 1 by exact nI_le (b := 1) (Nat.le_refl _) (by omega)) ?_ | rw [if_pos (show nI ([a] : List Int).length ≤ 1 by exact nI_le (b := 1) (Nat.le_refl _) (by omega))]
        exact hgo [a] u' hst hS hB hrun hK
      | b :: a :: r, hst, hS, hB, hrun, hgo =>
        simp only [List.length_cons] at hst ⊢
        first | refine i_neg (nI_ge (a := 1) (by omega) (by omega)) ?_ | rw [if_neg (nI_ge (a := 1) (by omega) (by omega))]
        rw [pk_m1, nI_pred]
        refine ⟨vp_in_nI (by omega) (by omega), vp_in_nI (by omega) (by omega), ?_⟩
        rw [nI_clamp (by omega), nI_clamp (by omega)]
        have hS1 : u'.1 (g + 2) (r.length + 1) = iI b := hS.1
        rw [hS1, hS.2.1]
        have hb := hB b (by simp)
        have ha := hB a (by simp)
        rw [iI_l (by omega) (by omega), iI_l (by omega) (by omega)]
        refine q_two (by omega) (by omega) (by omega) (by omega) (by omega) ?_
        have hob : -4000000000000000000 ≤ o2 t a b ∧ o2 t a b < 4000000000000000000 := by
          have hm : -4000000000000 ≤ a * b ∧ a * b ≤ 4000000000000 := by
            have h3 : (a * b).natAbs ≤ 2000000 * 2000000 := by
              rw [Int.natAbs_mul]
              exact Nat.mul_le_mul (by omega) (by omega)
            omega
          have hf : -4000000 ≤ flo a b ∧ flo a b ≤ 4000000 := by
            have h3 := Int.natAbs_tdiv_le_natAbs a b
            unfold flo
            split
            · omega
            · split <;> omega
          unfold o2
          repeat' split
          all_goals omega
        refine q_held hob.1 hob.2 ?_
        show sX0_worth_p144 g fa (nI (r.length + 1)) (nI k) Q (sX0_worth_p4n g fa Q n) (tI u' (g + 2) r.length (iI (clip (o2 t a b))))
        have hcb := clip_b (o2 t a b)
        exact hgo (clip (o2 t a b) :: r) _ (by simp only [List.length_cons]; omega) ⟨t_s _ _ _ _, stk_c r (fun i hi => t_n _ _ (Or.inr (by omega))) hS.2.2⟩ (bd_c hcb.1 (by omega) (fun x hx => hB x (List.mem_cons_of_mem _ (List.mem_cons_of_mem _ hx)))) hrun (kp_I hK (by simp))
