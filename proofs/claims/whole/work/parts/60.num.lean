/-! ===== numbers: comparisons, places, sums of small natural numbers as Int32 ===== -/
theorem x_lit (n : Nat) : (@OfNat.ofNat Int32 n Int32.instOfNat) = nI n := rfl
theorem x_le {a b : Nat} (ha : a < 2147483648) (hb : b < 2147483648) : (nI a ≤ nI b) = (a ≤ b) := propext (nI_leI ha hb)
theorem x_lt {a b : Nat} (ha : a < 2147483648) (hb : b < 2147483648) : (nI a < nI b) = (a < b) := propext (nI_ltI ha hb)
theorem x_eq {a b : Nat} (ha : a < 2147483648) (hb : b < 2147483648) : (nI a = nI b) = (a = b) := propext (nI_eq ha hb)
theorem x_cl {n : Nat} (h : n < 2147483648) : (nI n).toNatClampNeg = n := nI_clamp h
theorem x_m1T : ((-1 : Int32)).toInt = -1 := by decide
theorem x_ne1 {a : Nat} (ha : a < 2147483648) : (nI a = -1) = False := by
  apply eq_false
  intro h
  have h1 := congrArg Int32.toInt h
  rw [nI_toInt ha, x_m1T] at h1
  omega
theorem x_ne1' {a : Nat} (ha : a < 2147483648) : ((-1 : Int32) = nI a) = False := by
  rw [← x_ne1 ha]
  exact propext ⟨Eq.symm, Eq.symm⟩
theorem x_in {n N : Nat} (hn : n < 2147483648) : vp_in (nI n) N = (n < N) := by
  apply propext
  rw [vp_in_iff, nI_toInt hn]
  omega
theorem x_lt0 {a : Nat} (ha : a < 2147483648) : (nI a < 0) = False := eq_false (nI_pos ha)
theorem x_ge0 {a : Nat} (ha : a < 2147483648) : ((0 : Int32) ≤ nI a) = True := eq_true (nI_pos' ha)
theorem x_m1lt {a : Nat} (ha : a < 2147483648) : ((-1 : Int32) < nI a) = True := by
  apply eq_true
  rw [Int32.lt_iff_toInt_lt, nI_toInt ha, x_m1T]
  omega
theorem x_m1le {a : Nat} (ha : a < 2147483648) : ((-1 : Int32) ≤ nI a) = True := by
  apply eq_true
  rw [Int32.le_iff_toInt_le, nI_toInt ha, x_m1T]
  omega
theorem x_lem1 {a : Nat} (ha : a < 2147483648) : (nI a ≤ (-1 : Int32)) = False := by
  apply eq_false
  rw [Int32.le_iff_toInt_le, nI_toInt ha, x_m1T]
  omega
theorem x_ltm1 {a : Nat} (ha : a < 2147483648) : (nI a < (-1 : Int32)) = False := by
  apply eq_false
  rw [Int32.lt_iff_toInt_lt, nI_toInt ha, x_m1T]
  omega
theorem x_sub {a b : Nat} (h : b ≤ a) : nI a - nI b = nI (a - b) := pk_sub h
theorem x_div {a d : Nat} (ha : a < 2147483648) (h0 : 0 < d) (hd : d < 2147483648) : nI a / nI d = nI (a / d) := pk_div ha h0 hd
theorem x_rem {a d : Nat} (ha : a < 2147483648) (h0 : 0 < d) (hd : d < 2147483648) : nI a - nI (a / d) * nI d = nI (a % d) := by
  rw [← pk_div ha h0 hd]
  exact pk_rem ha h0 hd
theorem x_rem2 {a d : Nat} (ha : a < 2147483648) (h0 : 0 < d) (hd : d < 2147483648) : nI a - nI a / nI d * nI d = nI (a % d) := pk_rem ha h0 hd
theorem t_1 (u : St) (a k : Nat) (v : Int32) (a' k' : Nat) : (tI u a k v).1 a' k' = if a' = a ∧ k' = k then v else u.1 a' k' := rfl
theorem t_2 (u : St) (a k : Nat) (v : Int32) : (tI u a k v).2 = u.2 := rfl
theorem t_s (u : St) (a k : Nat) (v : Int32) : (tI u a k v).1 a k = v := by simp [t_1]
theorem t_n (u : St) {a k : Nat} (v : Int32) {a' k' : Nat} (h : a' ≠ a ∨ k' ≠ k) : (tI u a k v).1 a' k' = u.1 a' k' := by
  rw [t_1, if_neg]
  rintro ⟨rfl, rfl⟩
  omega
/-- all ints of these places stay, and all else but the pile of the reference -/
def Kp (S : Nat → Nat → Prop) (u u' : St) : Prop := (∀ a k, S a k → u'.1 a k = u.1 a k) ∧ (∀ a, a ≠ 284 → u'.2.1 a = u.2.1 a) ∧ u'.2.2 = u.2.2
theorem kp_r {S : Nat → Nat → Prop} (u : St) : Kp S u u := ⟨fun _ _ _ => rfl, fun _ _ => rfl, rfl⟩
theorem kp_t {S : Nat → Nat → Prop} {u v w : St} (h : Kp S u v) (h2 : Kp S v w) : Kp S u w := ⟨fun a k x => (h2.1 a k x).trans (h.1 a k x), fun a x => (h2.2.1 a x).trans (h.2.1 a x), h2.2.2.trans h.2.2⟩
theorem kp_m {S T : Nat → Nat → Prop} {u v : St} (h : Kp S u v) (hs : ∀ a k, T a k → S a k) : Kp T u v := ⟨fun a k x => h.1 a k (hs a k x), h.2⟩
theorem kp_I {S : Nat → Nat → Prop} {u v : St} {a k : Nat} {x : Int32} (h : Kp S u v) (hs : ¬ S a k) : Kp S u (tI v a k x) :=
  ⟨fun b j hb => by
    rw [t_n]
    · exact h.1 b j hb
    · by_cases e : b = a
      · by_cases e2 : j = k
        · rw [e, e2] at hb
          exact absurd hb hs
        · exact Or.inr e2
      · exact Or.inl e, h.2⟩
theorem kp_L {S : Nat → Nat → Prop} {u v : St} {k : Nat} {x : Int64} (h : Kp S u v) : Kp S u (tL v 284 k x) :=
  ⟨h.1, fun a ha => by
    rw [← h.2.1 a ha]
    funext j
    show (if a = 284 ∧ j = k then x else v.2.1 a j) = _
    rw [if_neg (fun e => ha e.1)], h.2.2⟩
theorem i_pos {c A B : Prop} [Decidable c] (hc : c) (h : A) : if c then A else B := by
  rw [if_pos hc]
  exact h
theorem i_neg {c A B : Prop} [Decidable c] (hc : ¬ c) (h : B) : if c then A else B := by
  rw [if_neg hc]
  exact h
theorem ite_c {c d A B : Prop} [Decidable c] [Decidable d] (h : c ↔ d) : (if c then A else B) = (if d then A else B) := by
  by_cases e : d
  · rw [if_pos e, if_pos (h.mpr e)]
  · rw [if_neg e, if_neg (fun x => e (h.mp x))]
theorem ite_e {c d A B : Prop} [Decidable c] [Decidable d] (h : c = d) : (if c then A else B) = (if d then A else B) := ite_c (iff_of_eq h)
