/-! ===== the class: places, ways ===== -/
theorem q_rowOf {t p n : Nat} {Q : Int32 → St → Prop} {u : St} (h : u.1 t 0 = nI n) (h0 : n ≠ 0) (hn : n < 1000) (hp : p < 1000000) (hQ : Q (nI (p / n)) u) : s_X5_rowOf t (nI p) Q u := by
  unfold s_X5_rowOf
  rw [h]
  first | refine i_neg (nI_ne0 (by omega) (by omega)) ?_ | rw [if_neg (nI_ne0 (by omega) (by omega))]
  refine ⟨nI_ne0 (by omega) (by omega), ?_⟩
  rw [pk_div (by omega) (by omega) (by omega)]
  exact hQ
theorem q_columnOf {t p n : Nat} {Q : Int32 → St → Prop} {u : St} (h : u.1 t 0 = nI n) (h0 : n ≠ 0) (hn : n < 1000) (hp : p < 1000000) (hQ : Q (nI (p % n)) u) : s_X5_columnOf t (nI p) Q u := by
  unfold s_X5_columnOf
  rw [h]
  first | refine i_neg (nI_ne0 (by omega) (by omega)) ?_ | rw [if_neg (nI_ne0 (by omega) (by omega))]
  refine ⟨nI_ne0 (by omega) (by omega), ?_⟩
  rw [pk_rem (by omega) (by omega) (by omega)]
  exact hQ
theorem q_placeOf {t n r : Nat} {v1 v2 : Int32} {Q : Int32 → St → Prop} {u : St} (h : u.1 t 0 = nI n) (h' : u.1 t 1 = nI r) (hn : n < 1000) (hr : r < 1000) (hQ : ∀ x y, x < n → y < r → v1 = nI x → v2 = nI y → Q (nI (y * n + x)) u) (hN : (¬ ∃ x, x < n ∧ v1 = nI x) ∨ (¬ ∃ y, y < r ∧ v2 = nI y) → Q (-1) u) : s_X5_placeOf t v1 v2 Q u := by
  unfold s_X5_placeOf sX5_placeOf_p28 sX5_placeOf_p29
  have z : ¬ (1 : Int32) = 0 := by first | decide | (unfold vp_in; decide)
  simp only [h, h', z, if_true, if_false]
  rcases pk_ix v1 (n := n) (by omega) with a | a | ⟨x, hx, rfl⟩
  · first | refine i_pos a ?_ | rw [if_pos a]
    refine hN (Or.inl ?_)
    rintro ⟨x, hx, rfl⟩
    exact nI_pos (by omega) a
  · by_cases b : v1 < 0
    · first | refine i_pos b ?_ | rw [if_pos b]
      refine hN (Or.inl ?_)
      rintro ⟨x, hx, rfl⟩
      exact nI_pos (by omega) b
    · first | refine i_neg b ?_ | rw [if_neg b]
      first | refine i_pos a ?_ | rw [if_pos a]
      refine hN (Or.inl ?_)
      rintro ⟨x, hx, rfl⟩
      exact nI_ge hx (by omega) a
  · first | refine i_neg (nI_pos (by omega)) ?_ | rw [if_neg (nI_pos (by omega))]
    first | refine i_neg (nI_ge hx (by omega)) ?_ | rw [if_neg (nI_ge hx (by omega))]
    rcases pk_ix v2 (n := r) (by omega) with a | a | ⟨y, hy, rfl⟩
    · first | refine i_pos a ?_ | rw [if_pos a]
      refine hN (Or.inr ?_)
      rintro ⟨x, hx, rfl⟩
      exact nI_pos (by omega) a
    · by_cases b : v2 < 0
      · first | refine i_pos b ?_ | rw [if_pos b]
        refine hN (Or.inr ?_)
        rintro ⟨x, hx, rfl⟩
        exact nI_pos (by omega) b
      · first | refine i_neg b ?_ | rw [if_neg b]
        first | refine i_pos a ?_ | rw [if_pos a]
        refine hN (Or.inr ?_)
        rintro ⟨x, hx, rfl⟩
        exact nI_ge hx (by omega) a
    · first | refine i_neg (nI_pos (by omega)) ?_ | rw [if_neg (nI_pos (by omega))]
      first | refine i_neg (nI_ge hy (by omega)) ?_ | rw [if_neg (nI_ge hy (by omega))]
      rw [pk_mul, nI_add]
      exact hQ x y hx hy rfl rfl
def nb (P : Pl) (c i : Nat) : Option Nat :=
  if i = 0 then (if 0 < c / 6 then some (c - 6) else none) else if i = 1 then (if 0 < c % 6 then some (c - 1) else none)
  else if i = 2 then (if c % 6 + 1 < pc P then some (c + 1) else none) else (if c / 6 + 1 < pr P then some (c + 6) else none)
theorem nb_cel {P : Pl} (hP : VP P) {c i d : Nat} (hc : cel P c) (h : nb P c i = some d) : cel P d ∧ Adj c d := by
  have h6 := hP.1
  unfold nb at h
  unfold cel at hc ⊢
  unfold Adj
  split at h
  · split at h
    · obtain rfl := Option.some.inj h
      omega
    · exact absurd h (by simp)
  · split at h
    · split at h
      · obtain rfl := Option.some.inj h
        omega
      · exact absurd h (by simp)
    · split at h
      · split at h
        · obtain rfl := Option.some.inj h
          omega
        · exact absurd h (by simp)
      · split at h
        · obtain rfl := Option.some.inj h
          omega
        · exact absurd h (by simp)
theorem nb_adj {P : Pl} (hP : VP P) {c d : Nat} (hc : cel P c) (hd : cel P d) (h : Adj c d) : ∃ i, i < 4 ∧ nb P c i = some d := by
  have h6 := hP.1
  unfold cel at hc hd
  unfold Adj at h
  rcases h with h | h | h | h
  · refine ⟨0, by omega, ?_⟩
    unfold nb
    first | refine i_pos rfl ?_ | rw [if_pos rfl]
    first | refine i_pos (by omega) ?_ | rw [if_pos (by omega)]
    congr 1
    omega
  · refine ⟨1, by omega, ?_⟩
    unfold nb
    first | refine i_neg (by omega) ?_ | rw [if_neg (by omega)]
    first | refine i_pos rfl ?_ | rw [if_pos rfl]
    first | refine i_pos (by omega) ?_ | rw [if_pos (by omega)]
    congr 1
    omega
  · refine ⟨2, by omega, ?_⟩
    unfold nb
    first | refine i_neg (by omega) ?_ | rw [if_neg (by omega)]
    first | refine i_neg (by omega) ?_ | rw [if_neg (by omega)]
    first | refine i_pos rfl ?_ | rw [if_pos rfl]
    first | refine i_pos (by omega) ?_ | rw [if_pos (by omega)]
    congr 1
    omega
  · refine ⟨3, by omega, ?_⟩
    unfold nb
    first | refine i_neg (by omega) ?_ | rw [if_neg (by omega)]
    first | refine i_neg (by omega) ?_ | rw [if_neg (by omega)]
    first | refine i_neg (by omega) ?_ | rw [if_neg (by omega)]
    first | refine i_pos (by omega) ?_ | rw [if_pos (by omega)]
    congr 1
    omega
theorem nb_lt {P : Pl} {c i j d e : Nat} (hij : i < j) (hj : j < 4) (hi : nb P c i = some d) (hj' : nb P c j = some e) : d < e := by
  unfold nb at hi hj'
  have : (i = 0 ∧ (j = 1 ∨ j = 2 ∨ j = 3)) ∨ (i = 1 ∧ (j = 2 ∨ j = 3)) ∨ (i = 2 ∧ j = 3) := by omega
  rcases this with ⟨rfl, rfl | rfl | rfl⟩ | ⟨rfl, rfl | rfl⟩ | ⟨rfl, rfl⟩ <;>
  · simp at hi hj'
    omega
theorem pl_of {P : Pl} {x y : Nat} (hx : x < pc P) (hy : y < pr P) (h6 : pc P ≤ 6) : cel P (x + 6 * y) ∧ pl P (x + 6 * y) = y * pc P + x := by
  have h1 : (x + 6 * y) / 6 = y := by omega
  have h2 : (x + 6 * y) % 6 = x := by omega
  unfold cel pl
  rw [h1, h2]
  exact ⟨⟨hx, hy⟩, rfl⟩
theorem x_m1n {n : Nat} (h : n < 2147483648) : ∀ x, (-1 : Int32) = nI x → x < 2147483648 → False := fun x e hx => by
  have := x_ne1' hx
  rw [this] at e
  exact e
theorem q_pl {P : Pl} {t : Nat} {X Y : Int32} {o : Option Nat} {Q : Int32 → St → Prop} {u : St} (hP : VP P) (h : u.1 t 0 = nI (pc P)) (h' : u.1 t 1 = nI (pr P)) (k1 : ∀ d, o = some d → X = nI (d % 6) ∧ Y = nI (d / 6) ∧ d % 6 < pc P ∧ d / 6 < pr P) (k2 : o = none → (X = -1 ∨ X = nI (pc P)) ∨ (Y = -1 ∨ Y = nI (pr P))) (k3 : Q (oI (o.map (pl P))) u) : s_X5_placeOf t X Y (fun r5 u6 => Q r5 u6) u := by
  have h6 := hP.1
  have h7 := hP.2.1
  refine q_placeOf h h' (by omega) (by omega) (fun x y hx hy ex ey => ?_) (fun hn => ?_)
  · cases o with
    | none =>
      rcases k2 rfl with e | e
      · rcases e with e | e
        · rw [e] at ex
          exact (x_m1n (n := 0) (by omega) x ex (by omega)).elim
        · rw [e, nI_eq (by omega) (by omega)] at ex
          omega
      · rcases e with e | e
        · rw [e] at ey
          exact (x_m1n (n := 0) (by omega) y ey (by omega)).elim
        · rw [e, nI_eq (by omega) (by omega)] at ey
          omega
    | some d =>
      obtain ⟨a1, a2, a3, a4⟩ := k1 d rfl
      rw [a1, nI_eq (by omega) (by omega)] at ex
      rw [a2, nI_eq (by omega) (by omega)] at ey
      subst ex ey
      exact k3
  · cases o with
    | none => exact k3
    | some d =>
      obtain ⟨a1, a2, a3, a4⟩ := k1 d rfl
      rcases hn with hn | hn
      · exact absurd ⟨_, a3, a1⟩ hn
      · exact absurd ⟨_, a4, a2⟩ hn
theorem q_b0 {P : Pl} {t c : Nat} {Q : Int32 → St → Prop} {u : St} (hP : VP P) (h : u.1 t 0 = nI (pc P)) (h' : u.1 t 1 = nI (pr P)) (hc' : c % 6 < pc P ∧ c / 6 < pr P) (hQ : Q (oI ((nb P c 0).map (pl P))) u) {X Y : Int32} (hX : X = nI (c % 6) + 0) (hY : Y = nI (c / 6) + -1) : s_X5_placeOf t X Y (fun r5 u6 => Q r5 u6) u := by
  have h6 := hP.1
  have h7 := hP.2.1
  have hz : ∀ n : Nat, nI n + 0 = nI n := fun n => nI_add n 0
  have hm0 : nI 0 + -1 = (-1 : Int32) := by first | decide | (unfold vp_in; decide)
  by_cases e : 0 < c / 6
  · have hn : nb P c 0 = some (c - 6) := by
      unfold nb
      first | refine i_pos rfl ?_ | rw [if_pos rfl]
      first | refine i_pos e ?_ | rw [if_pos e]
    rw [hn] at hQ
    rw [sb_m1 e] at hY
    rw [hz] at hX
    subst hX hY
    have e1 : (c - 6) % 6 = c % 6 := by omega
    have e2 : (c - 6) / 6 = c / 6 - 1 := by omega
    exact q_pl (o := some (c - 6)) hP h h' (fun x hx => by
      obtain rfl := Option.some.inj hx
      rw [e1, e2]
      exact ⟨rfl, rfl, by omega, by omega⟩) (fun hx => absurd hx (by simp)) hQ
  · have hn : nb P c 0 = none := by
      unfold nb
      first | refine i_pos rfl ?_ | rw [if_pos rfl]
      first | refine i_neg e ?_ | rw [if_neg e]
    rw [hn] at hQ
    rw [show c / 6 = 0 by omega, hm0] at hY
    rw [hz] at hX
    subst hX hY
    exact q_pl (o := none) hP h h' (fun x hx => absurd hx (by simp)) (fun _ => Or.inr (Or.inl rfl)) hQ
theorem q_b1 {P : Pl} {t c : Nat} {Q : Int32 → St → Prop} {u : St} (hP : VP P) (h : u.1 t 0 = nI (pc P)) (h' : u.1 t 1 = nI (pr P)) (hc' : c % 6 < pc P ∧ c / 6 < pr P) (hQ : Q (oI ((nb P c 1).map (pl P))) u) {X Y : Int32} (hX : X = nI (c % 6) + -1) (hY : Y = nI (c / 6) + 0) : s_X5_placeOf t X Y (fun r5 u6 => Q r5 u6) u := by
  have h6 := hP.1
  have h7 := hP.2.1
  have hz : ∀ n : Nat, nI n + 0 = nI n := fun n => nI_add n 0
  have hm0 : nI 0 + -1 = (-1 : Int32) := by first | decide | (unfold vp_in; decide)
  by_cases e : 0 < c % 6
  · have hn : nb P c 1 = some (c - 1) := by
      unfold nb
      first | refine i_neg (by omega) ?_ | rw [if_neg (by omega)]
      first | refine i_pos rfl ?_ | rw [if_pos rfl]
      first | refine i_pos e ?_ | rw [if_pos e]
    rw [hn] at hQ
    rw [sb_m1 e] at hX
    rw [hz] at hY
    subst hX hY
    have e1 : (c - 1) % 6 = c % 6 - 1 := by omega
    have e2 : (c - 1) / 6 = c / 6 := by omega
    exact q_pl (o := some (c - 1)) hP h h' (fun x hx => by
      obtain rfl := Option.some.inj hx
      rw [e1, e2]
      exact ⟨rfl, rfl, by omega, by omega⟩) (fun hx => absurd hx (by simp)) hQ
  · have hn : nb P c 1 = none := by
      unfold nb
      first | refine i_neg (by omega) ?_ | rw [if_neg (by omega)]
      first | refine i_pos rfl ?_ | rw [if_pos rfl]
      first | refine i_neg e ?_ | rw [if_neg e]
    rw [hn] at hQ
    rw [show c % 6 = 0 by omega, hm0] at hX
    rw [hz] at hY
    subst hX hY
    exact q_pl (o := none) hP h h' (fun x hx => absurd hx (by simp)) (fun _ => Or.inl (Or.inl rfl)) hQ
theorem q_b2 {P : Pl} {t c : Nat} {Q : Int32 → St → Prop} {u : St} (hP : VP P) (h : u.1 t 0 = nI (pc P)) (h' : u.1 t 1 = nI (pr P)) (hc' : c % 6 < pc P ∧ c / 6 < pr P) (hQ : Q (oI ((nb P c 2).map (pl P))) u) {X Y : Int32} (hX : X = nI (c % 6) + 1) (hY : Y = nI (c / 6) + 0) : s_X5_placeOf t X Y (fun r5 u6 => Q r5 u6) u := by
  have h6 := hP.1
  have h7 := hP.2.1
  have hz : ∀ n : Nat, nI n + 0 = nI n := fun n => nI_add n 0
  have hm0 : nI 0 + -1 = (-1 : Int32) := by first | decide | (unfold vp_in; decide)
  by_cases e : c % 6 + 1 < pc P
  · have hn : nb P c 2 = some (c + 1) := by
      unfold nb
      first | refine i_neg (by omega) ?_ | rw [if_neg (by omega)]
      first | refine i_neg (by omega) ?_ | rw [if_neg (by omega)]
      first | refine i_pos rfl ?_ | rw [if_pos rfl]
      first | refine i_pos e ?_ | rw [if_pos e]
    rw [hn] at hQ
    rw [nI_1] at hX
    rw [hz] at hY
    subst hX hY
    have e1 : (c + 1) % 6 = c % 6 + 1 := by omega
    have e2 : (c + 1) / 6 = c / 6 := by omega
    exact q_pl (o := some (c + 1)) hP h h' (fun x hx => by
      obtain rfl := Option.some.inj hx
      rw [e1, e2]
      exact ⟨rfl, rfl, by omega, by omega⟩) (fun hx => absurd hx (by simp)) hQ
  · have hn : nb P c 2 = none := by
      unfold nb
      first | refine i_neg (by omega) ?_ | rw [if_neg (by omega)]
      first | refine i_neg (by omega) ?_ | rw [if_neg (by omega)]
      first | refine i_pos rfl ?_ | rw [if_pos rfl]
      first | refine i_neg e ?_ | rw [if_neg e]
    rw [hn] at hQ
    rw [nI_1] at hX
    rw [hz] at hY
    subst hX hY
    exact q_pl (o := none) hP h h' (fun x hx => absurd hx (by simp)) (fun _ => Or.inl (Or.inr (by rw [show pc P = c % 6 + 1 by omega]))) hQ
theorem q_b3 {P : Pl} {t c : Nat} {Q : Int32 → St → Prop} {u : St} (hP : VP P) (h : u.1 t 0 = nI (pc P)) (h' : u.1 t 1 = nI (pr P)) (hc' : c % 6 < pc P ∧ c / 6 < pr P) (hQ : Q (oI ((nb P c 3).map (pl P))) u) {X Y : Int32} (hX : X = nI (c % 6) + 0) (hY : Y = nI (c / 6) + 1) : s_X5_placeOf t X Y (fun r5 u6 => Q r5 u6) u := by
  have h6 := hP.1
  have h7 := hP.2.1
  have hz : ∀ n : Nat, nI n + 0 = nI n := fun n => nI_add n 0
  have hm0 : nI 0 + -1 = (-1 : Int32) := by first | decide | (unfold vp_in; decide)
  by_cases e : c / 6 + 1 < pr P
  · have hn : nb P c 3 = some (c + 6) := by
      unfold nb
      first | refine i_neg (by omega) ?_ | rw [if_neg (by omega)]
      first | refine i_neg (by omega) ?_ | rw [if_neg (by omega)]
      first | refine i_neg (by omega) ?_ | rw [if_neg (by omega)]
      first | refine i_pos e ?_ | rw [if_pos e]
    rw [hn] at hQ
    rw [nI_1] at hY
    rw [hz] at hX
    subst hX hY
    have e1 : (c + 6) % 6 = c % 6 := by omega
    have e2 : (c + 6) / 6 = c / 6 + 1 := by omega
    exact q_pl (o := some (c + 6)) hP h h' (fun x hx => by
      obtain rfl := Option.some.inj hx
      rw [e1, e2]
      exact ⟨rfl, rfl, by omega, by omega⟩) (fun hx => absurd hx (by simp)) hQ
  · have hn : nb P c 3 = none := by
      unfold nb
      first | refine i_neg (by omega) ?_ | rw [if_neg (by omega)]
      first | refine i_neg (by omega) ?_ | rw [if_neg (by omega)]
      first | refine i_neg (by omega) ?_ | rw [if_neg (by omega)]
      first | refine i_neg e ?_ | rw [if_neg e]
    rw [hn] at hQ
    rw [nI_1] at hY
    rw [hz] at hX
    subst hX hY
    exact q_pl (o := none) hP h h' (fun x hx => absurd hx (by simp)) (fun _ => Or.inr (Or.inr (by rw [show pr P = c / 6 + 1 by omega]))) hQ
theorem q_beside {P : Pl} {t c i : Nat} {Q : Int32 → St → Prop} {u : St} (hP : VP P) (h : u.1 t 0 = nI (pc P)) (h' : u.1 t 1 = nI (pr P)) (hc : cel P c) (hi : i < 4) (hQ : Q (oI ((nb P c i).map (pl P))) u) : s_X5_beside t (nI (pl P c)) (nI i) Q u := by
  have h6 := hP.1
  have h7 := hP.2.1
  have h0 := cel_pc hc
  have h36 := pl_36 hP hc
  have hc' := hc
  unfold cel at hc'
  unfold s_X5_beside
  refine q_columnOf h (by omega) (by omega) (by omega) ⟨vp_in_nI hi (by omega), ?_⟩
  refine q_rowOf h (by omega) (by omega) (by omega) ⟨vp_in_nI hi (by omega), ?_⟩
  rw [pl_div hc, pl_mod hc, nI_clamp (by omega)]
  have hz : ∀ n : Nat, nI n + 0 = nI n := fun n => nI_add n 0
  have hm0 : nI 0 + -1 = (-1 : Int32) := by first | decide | (unfold vp_in; decide)
  have hi4 : i = 0 ∨ i = 1 ∨ i = 2 ∨ i = 3 := by omega
  obtain ⟨X, hX⟩ : ∃ X, X = nI (c % 6) + acr i := ⟨_, rfl⟩
  obtain ⟨Y, hY⟩ : ∃ Y, Y = nI (c / 6) + dwn i := ⟨_, rfl⟩
  rw [← hX, ← hY]
  rcases hi4 with rfl | rfl | rfl | rfl
  · exact q_b0 hP h h' hc' hQ hX hY
  · exact q_b1 hP h h' hc' hQ hX hY
  · exact q_b2 hP h h' hc' hQ hX hY
  · exact q_b3 hP h h' hc' hQ hX hY
theorem q_flows {P : Pl} {N : Nat → Nat} {b c d : Nat} {Q : Int32 → St → Prop} {u : St} (hP : VP P) (hN : VN P N) (hL : cLa u b P N) (hc : cel P c) (hd : cel P d) (hQ : ∀ r : Int32, (r = 1 ∧ N (2 + 3 * d) ≠ 1 ∧ N (1 + 3 * d) ≤ N (1 + 3 * c)) ∨ (r = 0 ∧ ¬ (N (2 + 3 * d) ≠ 1 ∧ N (1 + 3 * d) ≤ N (1 + 3 * c))) → Q r u) : s_X1_flows b (nI (pl P c)) (nI (pl P d)) Q u := by
  have p1 := pl_36 hP hc
  have p2 := pl_36 hP hd
  have n1 := hN.2.1 c hc
  have n2 := hN.2.1 d hd
  unfold s_X1_flows
  rw [nI_clamp (by omega), nI_clamp (by omega), (hL.2.1 d hd).2.1, (hL.2.1 d hd).1, (hL.2.1 c hc).1]
  refine ⟨vp_in_nI p2 (by omega), ?_⟩
  by_cases e : N (2 + 3 * d) = 0
  · rw [e]
    first | refine i_pos rfl ?_ | rw [if_pos rfl]
    refine ⟨vp_in_nI p2 (by omega), vp_in_nI p1 (by omega), ?_⟩
    by_cases e2 : N (1 + 3 * c) < N (1 + 3 * d)
    · first | refine i_pos (nI_lt e2 (by omega)) ?_ | rw [if_pos (nI_lt e2 (by omega))]
      exact hQ 0 (Or.inr ⟨rfl, by omega⟩)
    · first | refine i_neg (nI_nlt (by omega) (by omega)) ?_ | rw [if_neg (nI_nlt (by omega) (by omega))]
      exact hQ 1 (Or.inl ⟨rfl, by omega, by omega⟩)
  · first | refine i_neg (nI_ne0 (by omega) (by omega)) ?_ | rw [if_neg (nI_ne0 (by omega) (by omega))]
    exact hQ 0 (Or.inr ⟨rfl, by omega⟩)
