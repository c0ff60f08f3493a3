/-! ===== what holds between two calls ===== -/
def gTape (u : St) : Prop := ∃ (n : Nat) (B : Nat → Nat), n ≤ 1600 ∧ u.1 1 1 = nI n ∧ u.1 198 1 = nI n ∧ ∀ k, k < n → u.1 2 k = nI (B k) ∧ u.1 199 k = nI (B k) ∧ B k < 256
def gFault (u : St) : Prop := u.1 198 7 = u.1 1 5 ∧ u.1 198 8 = u.1 1 6
def gRef (u : St) : Prop := ∀ k, k < 6 → u.1 200 k = u.1 177 k
def gSeed (u : St) : Prop := ∃ s : Nat, s < 2147483648 ∧ u.2.1 0 18 = lN s ∧ u.2.1 198 80 = lN s
def gPic (u : St) : Prop := ∃ n : Nat, n ≤ 117 ∧ u.1 175 1 = nI n ∧ u.1 198 119 = nI n ∧ ∀ k, k < n → u.1 285 k = u.1 176 k
def WL : List (Nat × Nat × Int32) := I0L.filter (fun q => (decide (201 ≤ q.1) && decide (q.1 ≤ 230)) || (decide (255 ≤ q.1) && decide (q.1 ≤ 281)))
def gWords (u : St) : Prop := ∀ q ∈ WL, u.1 q.1 q.2.1 = q.2.2
def gPlain (u : St) (P : Pl) : Prop := ((u.2.2.1 = 7 ∧ u.2.2.2.1 = 24) ∨ (u.2.2.1 = 24 ∧ u.2.2.2.1 = 7)) ∧ VP P ∧ cPl u u.2.2.1 P ∧ mPl u P
def gSight (u : St) (P : Pl) : Prop := ∃ (n : Nat) (R C : Nat → Nat), n ≤ 16 ∧ u.1 161 0 = nI n ∧ u.1 198 74 = nI n ∧ ∀ k, k < n → R k ≤ 40 ∧ cel P (C k) ∧ u.1 162 k = nI (R k) ∧ u.1 163 k = nI (pl P (C k)) ∧ u.1 252 (2 * k) = nI (R k) ∧ u.1 252 (2 * k + 1) = nI (C k)
def gLand (u : St) (P : Pl) (N : Nat → Nat) : Prop := VN P N ∧ cLa u 42 P N ∧ mLa u N
/-- what is told as kept, of Y years in all -/
def KR (E : Nat → Nat → Nat) (Y : Nat) (N : Nat → Nat) : Prop := N 115 = min Y 40 ∧ ∀ k, k < min Y 40 → N (116 + 3 * k) = E 0 (Y - min Y 40 + k) ∧ N (117 + 3 * k) = E 1 (Y - min Y 40 + k) ∧ N (118 + 3 * k) = E 2 (Y - min Y 40 + k)
def ol (o i : Nat) : Nat := 57 + 5 * ((o + i) % 20)
def gPast (u : St) (P : Pl) (N : Nat → Nat) : Prop := ∃ (Y : Nat) (E : Nat → Nat → Nat) (n o w : Nat) (S : Nat → Nat → Nat) (ys : Nat → Nat), Y ≤ N 0 ∧ u.1 42 1 = nI Y ∧ (∀ k, k < Y → u.1 54 k = nI (E 0 k) ∧ u.1 55 k = nI (E 1 k) ∧ u.1 56 k = nI (E 2 k)) ∧ KR E Y N
  ∧ n ≤ 20 ∧ o < 20 ∧ w < 20 ∧ u.1 52 0 = nI n ∧ u.1 198 78 = nI n ∧ u.1 52 1 = nI o ∧ u.1 198 79 = nI w
  ∧ ∀ i, i < n → cLa u (ol o i) P (S i) ∧ u.1 (ol o i) 1 = nI (ys i) ∧ ys i ≤ Y ∧ (∀ j, i ≤ j → j < n → ys i ≤ ys j) ∧ ys i ≤ S i 0 ∧ KR E (ys i) (S i) ∧ VN P (S i) ∧ ∀ k, k < 236 → u.1 254 (236 * ((w + 20 - (n - 1 - i)) % 20) + k) = nI (S i k)
def gWays (u : St) (P : Pl) (N : Nat → Nat) : Prop := (∀ k, k < 5 → (u.1 (178 + 4 * k) 5 = 0 ∨ (u.1 (178 + 4 * k) 5 = 1 ∧ (k < pk P → WayR u (178 + 4 * k) P N k))) ∧ FB u (178 + 4 * k + 3))
def gNo (u : St) : Prop := u.1 169 2 = -1 ∧ u.1 169 4 = 0 ∧ (∀ j, j < 36 → u.1 171 j = -1)
def gFacts (u : St) : Prop := FB u 168 ∧ FB u 173
/-- the places on which each group hangs -/
def DTape (a k : Nat) : Prop := (a = 1 ∧ k = 1) ∨ a = 2 ∨ (a = 198 ∧ k = 1) ∨ a = 199
def DFault (a k : Nat) : Prop := (a = 1 ∧ (k = 5 ∨ k = 6)) ∨ (a = 198 ∧ (k = 7 ∨ k = 8))
def DRef (a k : Nat) : Prop := a = 177 ∨ a = 200
def DPic (a k : Nat) : Prop := a = 175 ∨ a = 176 ∨ (a = 198 ∧ k = 119) ∨ a = 285
def DWords (a k : Nat) : Prop := (201 ≤ a ∧ a ≤ 230) ∨ (255 ≤ a ∧ a ≤ 281)
def DTold (t a k : Nat) : Prop := t ≤ a ∧ a ≤ t + 16 ∧ a ≠ t + 13 ∧ a ≠ t + 16
def DPlan (a k : Nat) : Prop := (a = 198 ∧ (k = 44 ∨ k = 56)) ∨ ((a = 231 ∨ a = 232 ∨ a = 238 ∨ a = 239) ∧ 2 ≤ k) ∨ (a = 234 ∧ 18 ≤ k) ∨ (a = 235 ∧ 10 ≤ k) ∨ (a = 240 ∧ 1600 ≤ k)
def DSight (a k : Nat) : Prop := (161 ≤ a ∧ a ≤ 163) ∨ (a = 198 ∧ k = 74) ∨ a = 252
def DLand (a k : Nat) : Prop := (42 ≤ a ∧ a ≤ 46) ∨ a = 241
def DPast (a k : Nat) : Prop := (52 ≤ a ∧ a ≤ 156) ∨ (a = 198 ∧ (k = 78 ∨ k = 79)) ∨ a = 254
def DNo (a k : Nat) : Prop := 169 ≤ a ∧ a ≤ 171
/-- the places on which all but the ways of the class and the facts hangs, told lying at t -/
def SP (t a k : Nat) : Prop := DTape a k ∨ DFault a k ∨ DRef a k ∨ DPic a k ∨ DWords a k ∨ DTold t a k ∨ DPlan a k ∨ DSight a k ∨ DLand a k ∨ DPast a k ∨ DNo a k
def Inv0 (u : St) (P : Pl) (N : Nat → Nat) : Prop := gTape u ∧ gFault u ∧ gRef u ∧ gSeed u ∧ gPic u ∧ gWords u ∧ gPlain u P ∧ gSight u P ∧ gLand u P N ∧ gPast u P N ∧ gNo u
def Inv (u : St) : Prop := ∃ P N, Inv0 u P N ∧ gWays u P N ∧ gFacts u
theorem k_tape {S : Nat → Nat → Prop} {u u' : St} (h : gTape u) (hK : Kp S u u') (hS : ∀ a k, DTape a k → S a k) : gTape u' := by
  obtain ⟨n, B, h1, h2, h3, h4⟩ := h
  refine ⟨n, B, h1, ?_, ?_, fun k hk => ?_⟩
  · rw [hK.1 1 1 (hS _ _ (by unfold DTape; omega))]
    exact h2
  · rw [hK.1 198 1 (hS _ _ (by unfold DTape; omega))]
    exact h3
  · rw [hK.1 2 k (hS _ _ (by unfold DTape; omega)), hK.1 199 k (hS _ _ (by unfold DTape; omega))]
    exact h4 k hk
theorem k_fault {S : Nat → Nat → Prop} {u u' : St} (h : gFault u) (hK : Kp S u u') (hS : ∀ a k, DFault a k → S a k) : gFault u' := by
  unfold gFault
  rw [hK.1 198 7 (hS _ _ (by unfold DFault; omega)), hK.1 198 8 (hS _ _ (by unfold DFault; omega)), hK.1 1 5 (hS _ _ (by unfold DFault; omega)), hK.1 1 6 (hS _ _ (by unfold DFault; omega))]
  exact h
theorem k_ref {S : Nat → Nat → Prop} {u u' : St} (h : gRef u) (hK : Kp S u u') (hS : ∀ a k, DRef a k → S a k) : gRef u' := by
  intro k hk
  rw [hK.1 200 k (hS _ _ (by unfold DRef; omega)), hK.1 177 k (hS _ _ (by unfold DRef; omega))]
  exact h k hk
theorem k_seed {S : Nat → Nat → Prop} {u u' : St} (h : gSeed u) (hK : Kp S u u') : gSeed u' := by
  unfold gSeed
  rw [hK.2.1 0 (by omega), hK.2.1 198 (by omega)]
  exact h
theorem k_pic {S : Nat → Nat → Prop} {u u' : St} (h : gPic u) (hK : Kp S u u') (hS : ∀ a k, DPic a k → S a k) : gPic u' := by
  obtain ⟨n, h1, h2, h3, h4⟩ := h
  refine ⟨n, h1, ?_, ?_, fun k hk => ?_⟩
  · rw [hK.1 175 1 (hS _ _ (by unfold DPic; omega))]
    exact h2
  · rw [hK.1 198 119 (hS _ _ (by unfold DPic; omega))]
    exact h3
  · rw [hK.1 285 k (hS _ _ (by unfold DPic; omega)), hK.1 176 k (hS _ _ (by unfold DPic; omega))]
    exact h4 k hk
theorem wl_rng {q : Nat × Nat × Int32} (h : q ∈ WL) : (201 ≤ q.1 ∧ q.1 ≤ 230) ∨ (255 ≤ q.1 ∧ q.1 ≤ 281) := by
  unfold WL at h
  have h2 := (List.mem_filter.mp h).2
  simpa using h2
theorem k_words {S : Nat → Nat → Prop} {u u' : St} (h : gWords u) (hK : Kp S u u') (hS : ∀ a k, DWords a k → S a k) : gWords u' := by
  intro q hq
  rw [hK.1 _ _ (hS _ _ (wl_rng hq))]
  exact h q hq
theorem k_sight {S : Nat → Nat → Prop} {u u' : St} {P : Pl} (h : gSight u P) (hK : Kp S u u') (hS : ∀ a k, DSight a k → S a k) : gSight u' P := by
  obtain ⟨n, R, C, h1, h2, h3, h4⟩ := h
  refine ⟨n, R, C, h1, ?_, ?_, fun k hk => ?_⟩
  · rw [hK.1 161 0 (hS _ _ (by unfold DSight; omega))]
    exact h2
  · rw [hK.1 198 74 (hS _ _ (by unfold DSight; omega))]
    exact h3
  · rw [hK.1 162 _ (hS _ _ (by unfold DSight; omega)), hK.1 163 _ (hS _ _ (by unfold DSight; omega)), hK.1 252 _ (hS _ _ (by unfold DSight; omega)), hK.1 252 _ (hS _ _ (by unfold DSight; omega))]
    exact h4 k hk
theorem k_plain {S : Nat → Nat → Prop} {u u' : St} {P : Pl} (h : gPlain u P) (hK : Kp S u u') (hS : ∀ a k, DTold u.2.2.1 a k → S a k) (hS2 : ∀ a k, DPlan a k → S a k) : gPlain u' P := by
  have e : u'.2.2 = u.2.2 := hK.2.2
  refine ⟨?_, h.2.1, ?_, ?_⟩
  · rw [e]
    exact h.1
  · rw [e]
    exact cPl_K h.2.2.1 hK (fun x k h1 h2 h3 h4 => hS _ _ ⟨h1, h2, h3, h4⟩)
  · exact mPl_K h.2.2.2 hK (fun x k h1 => hS2 _ _ h1)
theorem k_land {S : Nat → Nat → Prop} {u u' : St} {P : Pl} {N : Nat → Nat} (h : gLand u P N) (hK : Kp S u u') (hS : ∀ a k, DLand a k → S a k) : gLand u' P N := by
  refine ⟨h.1, cLa_K h.2.1 hK (fun x k h1 h2 h3 => hS _ _ (by unfold DLand; omega)), mLa_K h.2.2 hK (fun k => hS _ _ (by unfold DLand; omega))⟩
theorem ol_rng (o i : Nat) : 57 ≤ ol o i ∧ ol o i ≤ 152 := by
  unfold ol
  omega
theorem k_past {S : Nat → Nat → Prop} {u u' : St} {P : Pl} {N : Nat → Nat} (h : gPast u P N) (hK : Kp S u u') (h42 : S 42 1) (hS : ∀ a k, DPast a k → S a k) : gPast u' P N := by
  obtain ⟨Y, E, n, o, w, Sk, ys, h1, h2, h3, h4, h5, h6, h7, h8, h9, h10, h11, h12⟩ := h
  refine ⟨Y, E, n, o, w, Sk, ys, h1, ?_, fun k hk => ?_, h4, h5, h6, h7, ?_, ?_, ?_, ?_, fun i hi => ?_⟩
  · rw [hK.1 42 1 h42]
    exact h2
  · rw [hK.1 54 _ (hS _ _ (by unfold DPast; omega)), hK.1 55 _ (hS _ _ (by unfold DPast; omega)), hK.1 56 _ (hS _ _ (by unfold DPast; omega))]
    exact h3 k hk
  · rw [hK.1 52 0 (hS _ _ (by unfold DPast; omega))]
    exact h8
  · rw [hK.1 198 78 (hS _ _ (by unfold DPast; omega))]
    exact h9
  · rw [hK.1 52 1 (hS _ _ (by unfold DPast; omega))]
    exact h10
  · rw [hK.1 198 79 (hS _ _ (by unfold DPast; omega))]
    exact h11
  · obtain ⟨a1, a2, a3, a4, a5, a6, a7, a8⟩ := h12 i hi
    have ho := ol_rng o i
    refine ⟨cLa_K a1 hK (fun x k q1 q2 q3 => hS _ _ (by unfold DPast; omega)), ?_, a3, a4, a5, a6, a7, fun k hk => ?_⟩
    · rw [hK.1 (ol o i) 1 (hS _ _ (by unfold DPast; omega))]
      exact a2
    · rw [hK.1 254 _ (hS _ _ (by unfold DPast; omega))]
      exact a8 k hk
theorem k_no {S : Nat → Nat → Prop} {u u' : St} (h : gNo u) (hK : Kp S u u') (hS : ∀ a k, DNo a k → S a k) : gNo u' := by
  unfold gNo
  rw [hK.1 169 2 (hS _ _ (by unfold DNo; omega)), hK.1 169 4 (hS _ _ (by unfold DNo; omega))]
  refine ⟨h.1, h.2.1, fun j hj => ?_⟩
  rw [hK.1 171 j (hS _ _ (by unfold DNo; omega))]
  exact h.2.2 j hj
theorem inv0_K {S : Nat → Nat → Prop} {u u' : St} {P : Pl} {N : Nat → Nat} (h : Inv0 u P N) (hK : Kp S u u') (hS : ∀ a k, SP u.2.2.1 a k → S a k) : Inv0 u' P N := by
  obtain ⟨h1, h2, h3, h4, h5, h6, h7, h8, h9, h10, h11⟩ := h
  have hL : ∀ a k, DLand a k → S a k := (fun a k h => hS a k (Or.inr (Or.inr (Or.inr (Or.inr (Or.inr (Or.inr (Or.inr (Or.inr (Or.inl h))))))))))
  exact ⟨k_tape h1 hK (fun a k h => hS a k (Or.inl h)), k_fault h2 hK (fun a k h => hS a k (Or.inr (Or.inl h))), k_ref h3 hK (fun a k h => hS a k (Or.inr (Or.inr (Or.inl h)))), k_seed h4 hK, k_pic h5 hK (fun a k h => hS a k (Or.inr (Or.inr (Or.inr (Or.inl h))))), k_words h6 hK (fun a k h => hS a k (Or.inr (Or.inr (Or.inr (Or.inr (Or.inl h)))))), k_plain h7 hK (fun a k h => hS a k (Or.inr (Or.inr (Or.inr (Or.inr (Or.inr (Or.inl h))))))) (fun a k h => hS a k (Or.inr (Or.inr (Or.inr (Or.inr (Or.inr (Or.inr (Or.inl h)))))))), k_sight h8 hK (fun a k h => hS a k (Or.inr (Or.inr (Or.inr (Or.inr (Or.inr (Or.inr (Or.inr (Or.inl h))))))))), k_land h9 hK hL, k_past h10 hK (hL _ _ (by unfold DLand; omega)) (fun a k h => hS a k (Or.inr (Or.inr (Or.inr (Or.inr (Or.inr (Or.inr (Or.inr (Or.inr (Or.inr (Or.inl h))))))))))), k_no h11 hK (fun a k h => hS a k (Or.inr (Or.inr (Or.inr (Or.inr (Or.inr (Or.inr (Or.inr (Or.inr (Or.inr (Or.inr (h))))))))))))⟩
theorem wayR_K {S : Nat → Nat → Prop} {u u' : St} {a k : Nat} {P : Pl} {N : Nat → Nat} (h : WayR u a P N k) (hK : Kp S u u') (hS : ∀ x j, a ≤ x → x ≤ a + 2 → S x j) : WayR u' a P N k := by
  obtain ⟨p, m, h1, h2⟩ := h
  exact ⟨p, m, h1, way_K h2 hK hS⟩
theorem k_ways {S : Nat → Nat → Prop} {u u' : St} {P : Pl} {N : Nat → Nat} (h : gWays u P N) (hK : Kp S u u') (hS : ∀ a k, 178 ≤ a ∧ a ≤ 197 → S a k) : gWays u' P N := by
  intro k hk
  obtain ⟨h1, h2⟩ := h k hk
  refine ⟨?_, fb_K h2 hK (fun j => hS _ _ (by omega))⟩
  rw [hK.1 _ _ (hS _ _ (by omega))]
  rcases h1 with h1 | ⟨h1, h3⟩
  · exact Or.inl h1
  · exact Or.inr ⟨h1, fun hp => wayR_K (h3 hp) hK (fun x j a b => hS _ _ (by omega))⟩
theorem k_facts {S : Nat → Nat → Prop} {u u' : St} (h : gFacts u) (hK : Kp S u u') (hS : ∀ a k, a = 168 ∨ a = 173 → S a k) : gFacts u' := ⟨fb_K h.1 hK (fun _ => hS _ _ (by omega)), fb_K h.2 hK (fun _ => hS _ _ (by omega))⟩
/-- both of a call: the class's answer, then the reference's, are the same, and all goes on -/
def Call (c m : (Int32 → St → Prop) → St → Prop) : Prop := ∀ u, Inv u → c (fun r u1 => m (fun r2 u2 => r = r2 ∧ Inv u2) u1) u
theorem inv_ref {u : St} {k : Nat} {y : Int32} (h : Inv u) (hk : k < 6) (hx : u.1 200 k = y) : Inv (tI (tI u 177 k (u.1 177 k + 1)) 200 k (y + 1)) := by
  obtain ⟨P, N, ⟨h1, h2, h3, h4, h5, h6, h7, h8, h9, h10, h11⟩, h12, h13⟩ := h
  have hK : Kp (fun a _ => a ≠ 177 ∧ a ≠ 200) u (tI (tI u 177 k (u.1 177 k + 1)) 200 k (y + 1)) := kp_I (kp_I (kp_r u) (by omega)) (by omega)
  have hr : gRef (tI (tI u 177 k (u.1 177 k + 1)) 200 k (y + 1)) := by
    intro j hj
    by_cases e : j = k
    · rw [e, t_s, t_n _ _ (by omega), t_s, ← hx, h3 k hk]
    · rw [t_n _ _ (by omega), t_n _ _ (by omega), t_n _ _ (by omega), t_n _ _ (by omega)]
      exact h3 j hj
  have ht : u.2.2.1 ≤ 24 := by
    rcases h7.1 with e | e <;> omega
  exact ⟨P, N, ⟨k_tape h1 hK (fun a k h => by unfold DTape at h; omega), k_fault h2 hK (fun a k h => by unfold DFault at h; omega), hr, k_seed h4 hK, k_pic h5 hK (fun a k h => by unfold DPic at h; omega), k_words h6 hK (fun a k h => by unfold DWords at h; omega), k_plain h7 hK (fun a k h => by unfold DTold at h; omega) (fun a k h => by unfold DPlan at h; omega), k_sight h8 hK (fun a k h => by unfold DSight at h; omega), k_land h9 hK (fun a k h => by unfold DLand at h; omega), k_past h10 hK (by omega) (fun a k h => by unfold DPast at h; omega), k_no h11 hK (fun a k h => by unfold DNo at h; omega)⟩, k_ways h12 hK (fun a k h => by omega), k_facts h13 hK (fun a k h => by omega)⟩
