/-! ===== the worth of a row of tokens, as the reference and as the class reckon it ===== -/
def clip (z : Int) : Int := if 1000000 < z then 1000000 else if z < -1000000 then -1000000 else z
def flo (a b : Int) : Int := if b = 0 then 0 else if a.tmod b ≠ 0 ∧ (a < 0 ∧ 0 < b ∨ 0 < a ∧ b < 0) then a.tdiv b - 1 else a.tdiv b
def jo (c : Nat) (a b : Int) : Int :=
  if c = 1 then clip (a + b) else if c = 2 then clip (a - b) else if c = 3 then clip (a * b) else if c = 4 then flo a b
  else if c = 5 then (if a < b then a else b) else if c = 6 then (if b < a then a else b)
  else if c = 7 then (if a < b then 1 else 0) else if c = 8 then (if b < a then 1 else 0) else if c = 9 then (if a = b then 1 else 0)
  else if c = 10 then a * b else (if 0 < a + b then 1 else 0)
def ofc (F : Nat → Int) (w : Nat) (a : Int) : Int := if 0 ≤ a ∧ a < 5 then F ((if w = 0 then 13 else 18) + a.toNat) else if w = 0 then 0 else -1
/-- a token of the reference: numbers from 1000 on, 60 and 61 of a caller, 40 and on facts, 13 all, 12 not, else of two -/
def evM (F : Nat → Int) (c : Nat) (st : List Int) : List Int :=
  if 1000 ≤ c then ((c - 1000 : Nat) : Int) :: st
  else if 60 ≤ c then (match st with | a :: r => ofc F (c - 60) a :: r | [] => [])
  else if 40 ≤ c then F (c - 40) :: st
  else if c = 13 then 1 :: st
  else if c = 12 then (match st with | a :: r => (1 - a) :: r | [] => [])
  else (match st with | b :: a :: r => jo c a b :: r | s => s)
/-- the class's token for the reference's one -/
def kap (c : Nat) : Nat :=
  if 1000 ≤ c then c - 1000 else if 60 ≤ c then 10024 + (c - 60) else if 40 ≤ c then 10000 + (c - 40) else if c = 13 then 1 else if c = 12 then 10023
  else if c = 10 then 10030 else if c = 11 then 10031 else 10025 + c
def o2 (c : Nat) (a b : Int) : Int :=
  if c = 10026 then a + b else if c = 10027 then a - b else if c = 10028 then a * b else if c = 10029 then flo a b
  else if c = 10030 then (if b < a then b else a) else if c = 10031 then (if a < b then b else a)
  else if c = 10032 then (if b ≤ a then 0 else 1) else if c = 10033 then (if a ≤ b then 0 else 1) else if c = 10034 then (if a = b then 1 else 0) else a
def o1 (F : Nat → Int) (c : Nat) (a : Int) : Int :=
  if c = 10023 then 1 - a else if c = 10024 then (if 0 ≤ a ∧ a < 5 then F (13 + a.toNat) else 0) else if c = 10025 then (if 0 ≤ a ∧ a < 5 then F (18 + a.toNat) else -1) else a
def evC (F : Nat → Int) (c : Nat) (st : List Int) : List Int :=
  if c < 10023 then (if st.length < 64 then (if c < 10000 then (c : Int) else F (c - 10000)) :: st else st)
  else if c < 10026 then (match st with | a :: r => o1 F c a :: r | [] => [])
  else (match st with | b :: a :: r => clip (o2 c a b) :: r | s => s)
def ruM (F : Nat → Int) : List Nat → List Int → List Int
  | [], st => st
  | c :: cs, st => ruM F cs (evM F c st)
def ruC (F : Nat → Int) : List Nat → List Int → List Int
  | [], st => st
  | c :: cs, st => ruC F cs (evC F c st)
theorem ruM_app (F : Nat → Int) : ∀ (a b : List Nat) (st : List Int), ruM F (a ++ b) st = ruM F b (ruM F a st)
  | [], _, _ => rfl
  | _ :: a, b, st => ruM_app F a b _
theorem ruC_app (F : Nat → Int) : ∀ (a b : List Nat) (st : List Int), ruC F (a ++ b) st = ruC F b (ruC F a st)
  | [], _, _ => rfl
  | _ :: a, b, st => ruC_app F a b _
def GF (F : Nat → Int) : Prop := ∀ k, k < 23 → -1000000 ≤ F k ∧ F k ≤ 1000000
/-- the kinds of what lies on the pile: true where it is a test's answer -/
def tyE (c : Nat) (ts : List Bool) : Option (List Bool) :=
  if 1000 ≤ c then (if c ≤ 10999 ∧ ts.length < 64 then some (false :: ts) else none)
  else if 60 ≤ c then (if c ≤ 61 then (match ts with | false :: r => some (false :: r) | _ => none) else none)
  else if 40 ≤ c then (if c < 53 ∧ ts.length < 64 then some (false :: ts) else none)
  else if c = 13 then (if ts.length < 64 then some (true :: ts) else none)
  else if c = 12 then (match ts with | true :: r => some (true :: r) | _ => none)
  else if c = 0 then none
  else if c ≤ 9 then (match ts with | false :: false :: r => some (decide (7 ≤ c) :: r) | _ => none)
  else if c ≤ 11 then (match ts with | true :: true :: r => some (true :: r) | _ => none)
  else none
def tyR : List Nat → List Bool → Option (List Bool)
  | [], ts => some ts
  | c :: cs, ts => (tyE c ts).bind (tyR cs)
theorem tyR_app : ∀ (a b : List Nat) (ts : List Bool), tyR (a ++ b) ts = (tyR a ts).bind (tyR b)
  | [], _, _ => rfl
  | c :: a, b, ts => by
    show (tyE c ts).bind (tyR (a ++ b)) = ((tyE c ts).bind (tyR a)).bind (tyR b)
    cases tyE c ts with
    | none => rfl
    | some x => exact tyR_app a b x
def Tyd : List Int → List Bool → Prop
  | [], [] => True
  | x :: st, t :: ts => (-1000000 ≤ x ∧ x ≤ 1000000 ∧ (t = true → x = 0 ∨ x = 1)) ∧ Tyd st ts
  | _, _ => False
theorem tyd_len : ∀ {st : List Int} {ts : List Bool}, Tyd st ts → st.length = ts.length
  | [], [], _ => rfl
  | _ :: _, _ :: _, h => congrArg (· + 1) (tyd_len h.2)
  | [], _ :: _, h => h.elim
  | _ :: _, [], h => h.elim
theorem clip_b (z : Int) : -1000000 ≤ clip z ∧ clip z ≤ 1000000 := by
  unfold clip
  split
  · omega
  · split <;> omega
theorem clip_i {z : Int} (h1 : -1000000 ≤ z) (h2 : z ≤ 1000000) : clip z = z := by
  unfold clip
  rw [if_neg (by omega), if_neg (by omega)]
theorem flo_b {a b : Int} (h1 : -1000000 ≤ a) (h2 : a ≤ 1000000) : -1000000 ≤ flo a b ∧ flo a b ≤ 1000000 := by
  unfold flo
  by_cases hb : b = 0
  · rw [if_pos hb]
    omega
  · rw [if_neg hb]
    have h := Int.natAbs_tdiv_le_natAbs a b
    by_cases hc : a.tmod b ≠ 0 ∧ (a < 0 ∧ 0 < b ∨ 0 < a ∧ b < 0)
    · rw [if_pos hc]
      have hb1 : b ≠ 1 := fun e => hc.1 (by rw [e, Int.tmod_one])
      have hb2 : b ≠ -1 := fun e => hc.1 (by rw [e, Int.tmod_neg, Int.tmod_one])
      have hd : (a.tdiv b).natAbs = a.natAbs / b.natAbs := Int.natAbs_tdiv a b
      have hl : a.natAbs / b.natAbs < a.natAbs := Nat.div_lt_self (by omega) (by omega)
      omega
    · rw [if_neg hc]
      omega
theorem jo_ok {c : Nat} {a b : Int} (a2 : -1000000 ≤ a) (a3 : a ≤ 1000000) (b2 : -1000000 ≤ b) (b3 : b ≤ 1000000) (hc : 1 ≤ c ∧ c ≤ 9) : clip (o2 (kap c) a b) = jo c a b ∧ -1000000 ≤ jo c a b ∧ jo c a b ≤ 1000000 ∧ (7 ≤ c → jo c a b = 0 ∨ jo c a b = 1) := by
  have hcl := clip_b (a + b)
  have hcl2 := clip_b (a - b)
  have hcl3 := clip_b (a * b)
  have hfl := flo_b (b := b) a2 a3
  have h : c = 1 ∨ c = 2 ∨ c = 3 ∨ c = 4 ∨ c = 5 ∨ c = 6 ∨ c = 7 ∨ c = 8 ∨ c = 9 := by omega
  rcases h with rfl | rfl | rfl | rfl | rfl | rfl | rfl | rfl | rfl
  · have e : jo 1 a b = clip (a + b) := by simp [jo]
    have e2 : o2 (kap 1) a b = a + b := by simp [o2, kap]
    rw [e, e2]
    exact ⟨rfl, hcl.1, hcl.2, by omega⟩
  · have e : jo 2 a b = clip (a - b) := by simp [jo]
    have e2 : o2 (kap 2) a b = a - b := by simp [o2, kap]
    rw [e, e2]
    exact ⟨rfl, hcl2.1, hcl2.2, by omega⟩
  · have e : jo 3 a b = clip (a * b) := by simp [jo]
    have e2 : o2 (kap 3) a b = a * b := by simp [o2, kap]
    rw [e, e2]
    exact ⟨rfl, hcl3.1, hcl3.2, by omega⟩
  · have e : jo 4 a b = flo a b := by simp [jo]
    have e2 : o2 (kap 4) a b = flo a b := by simp [o2, kap]
    rw [e, e2, clip_i hfl.1 hfl.2]
    exact ⟨rfl, hfl.1, hfl.2, by omega⟩
  · have e : jo 5 a b = if a < b then a else b := by simp [jo]
    have e2 : o2 (kap 5) a b = if b < a then b else a := by simp [o2, kap]
    rw [e, e2]
    by_cases h1 : a < b
    · rw [if_pos h1, if_neg (by omega), clip_i a2 a3]
      exact ⟨rfl, a2, a3, by omega⟩
    · rw [if_neg h1]
      by_cases h2 : b < a
      · rw [if_pos h2, clip_i b2 b3]
        exact ⟨rfl, b2, b3, by omega⟩
      · rw [if_neg h2, clip_i a2 a3]
        exact ⟨by omega, b2, b3, by omega⟩
  · have e : jo 6 a b = if b < a then a else b := by simp [jo]
    have e2 : o2 (kap 6) a b = if a < b then b else a := by simp [o2, kap]
    rw [e, e2]
    by_cases h1 : b < a
    · rw [if_pos h1, if_neg (by omega), clip_i a2 a3]
      exact ⟨rfl, a2, a3, by omega⟩
    · rw [if_neg h1]
      by_cases h2 : a < b
      · rw [if_pos h2, clip_i b2 b3]
        exact ⟨rfl, b2, b3, by omega⟩
      · rw [if_neg h2, clip_i a2 a3]
        exact ⟨by omega, b2, b3, by omega⟩
  · have e : jo 7 a b = if a < b then 1 else 0 := by simp [jo]
    have e2 : o2 (kap 7) a b = if b ≤ a then 0 else 1 := by simp [o2, kap]
    rw [e, e2]
    by_cases h1 : a < b
    · rw [if_pos h1, if_neg (by omega)]
      exact ⟨rfl, by omega, by omega, by omega⟩
    · rw [if_neg h1, if_pos (by omega)]
      exact ⟨rfl, by omega, by omega, by omega⟩
  · have e : jo 8 a b = if b < a then 1 else 0 := by simp [jo]
    have e2 : o2 (kap 8) a b = if a ≤ b then 0 else 1 := by simp [o2, kap]
    rw [e, e2]
    by_cases h1 : b < a
    · rw [if_pos h1, if_neg (by omega)]
      exact ⟨rfl, by omega, by omega, by omega⟩
    · rw [if_neg h1, if_pos (by omega)]
      exact ⟨rfl, by omega, by omega, by omega⟩
  · have e : jo 9 a b = if a = b then 1 else 0 := by simp [jo]
    have e2 : o2 (kap 9) a b = if a = b then 1 else 0 := by simp [o2, kap]
    rw [e, e2]
    by_cases h1 : a = b
    · rw [if_pos h1]
      exact ⟨rfl, by omega, by omega, by omega⟩
    · rw [if_neg h1]
      exact ⟨rfl, by omega, by omega, by omega⟩
theorem ev_ok {F : Nat → Int} (hF : GF F) {c : Nat} {st : List Int} {ts ts' : List Bool} (hs : Tyd st ts) (h : tyE c ts = some ts') : Tyd (evM F c st) ts' ∧ evC F (kap c) st = evM F c st := by
  have hlen := tyd_len hs
  unfold tyE at h
  by_cases c1 : 1000 ≤ c
  · rw [if_pos c1] at h
    by_cases c2 : c ≤ 10999 ∧ ts.length < 64
    · rw [if_pos c2] at h
      obtain rfl := Option.some.inj h
      have e : evM F c st = ((c - 1000 : Nat) : Int) :: st := by unfold evM; rw [if_pos c1]
      have e2 : kap c = c - 1000 := by unfold kap; rw [if_pos c1]
      rw [e, e2]
      refine ⟨⟨⟨by omega, by omega, by simp⟩, hs⟩, ?_⟩
      unfold evC
      rw [if_pos (by omega), if_pos (by omega), if_pos (by omega)]
    · rw [if_neg c2] at h
      exact absurd h (by simp)
  rw [if_neg c1] at h
  by_cases c2 : 60 ≤ c
  · rw [if_pos c2] at h
    by_cases c3 : c ≤ 61
    · rw [if_pos c3] at h
      match st, ts, hs, h with
      | x :: st, false :: r, hs, h =>
        obtain rfl := Option.some.inj h
        have e : evM F c (x :: st) = ofc F (c - 60) x :: st := by unfold evM; rw [if_neg c1, if_pos c2]
        have e2 : kap c = 10024 + (c - 60) := by unfold kap; rw [if_neg c1, if_pos c2]
        have hb : -1000000 ≤ ofc F (c - 60) x ∧ ofc F (c - 60) x ≤ 1000000 := by
          unfold ofc
          split
          · exact hF _ (by split <;> omega)
          · split <;> omega
        rw [e, e2]
        refine ⟨⟨⟨hb.1, hb.2, by simp⟩, hs.2⟩, ?_⟩
        have : c = 60 ∨ c = 61 := by omega
        rcases this with rfl | rfl <;> rfl
      | x :: st, true :: r, hs, h => exact absurd h (by simp)
      | [], [], hs, h => exact absurd h (by simp)
      | [], _ :: _, hs, h => exact hs.elim
      | _ :: _, [], hs, h => exact hs.elim
    · rw [if_neg c3] at h
      exact absurd h (by simp)
  rw [if_neg c2] at h
  by_cases c3 : 40 ≤ c
  · rw [if_pos c3] at h
    by_cases c4 : c < 53 ∧ ts.length < 64
    · rw [if_pos c4] at h
      obtain rfl := Option.some.inj h
      have e : evM F c st = F (c - 40) :: st := by unfold evM; rw [if_neg c1, if_neg c2, if_pos c3]
      have e2 : kap c = 10000 + (c - 40) := by unfold kap; rw [if_neg c1, if_neg c2, if_pos c3]
      have hb := hF (c - 40) (by omega)
      rw [e, e2]
      refine ⟨⟨⟨hb.1, hb.2, by simp⟩, hs⟩, ?_⟩
      unfold evC
      rw [if_pos (by omega), if_pos (by omega), if_neg (by omega), Nat.add_sub_cancel_left]
    · rw [if_neg c4] at h
      exact absurd h (by simp)
  rw [if_neg c3] at h
  by_cases c4 : c = 13
  · subst c4
    rw [if_pos rfl] at h
    by_cases c5 : ts.length < 64
    · rw [if_pos c5] at h
      obtain rfl := Option.some.inj h
      refine ⟨⟨⟨by omega, by omega, by simp⟩, hs⟩, ?_⟩
      show (if st.length < 64 then ((1 : Nat) : Int) :: st else st) = (1 : Int) :: st
      rw [if_pos (by omega)]
      rfl
    · rw [if_neg c5] at h
      exact absurd h (by simp)
  rw [if_neg c4] at h
  by_cases c5 : c = 12
  · subst c5
    rw [if_pos rfl] at h
    match st, ts, hs, h with
    | x :: st, true :: r, hs, h =>
      obtain rfl := Option.some.inj h
      have hx := hs.1.2.2 rfl
      exact ⟨⟨⟨by omega, by omega, fun _ => by omega⟩, hs.2⟩, rfl⟩
    | x :: st, false :: r, hs, h => exact absurd h (by simp)
    | [], [], hs, h => exact absurd h (by simp)
    | [], _ :: _, hs, h => exact hs.elim
    | _ :: _, [], hs, h => exact hs.elim
  rw [if_neg c5] at h
  by_cases c6 : c = 0
  · rw [if_pos c6] at h
    exact absurd h (by simp)
  rw [if_neg c6] at h
  have hkap : 10026 ≤ kap c := by
    unfold kap
    rw [if_neg c1, if_neg c2, if_neg c3, if_neg c4, if_neg c5]
    split
    · omega
    · split <;> omega
  have em : ∀ (b a : Int) (r : List Int), evM F c (b :: a :: r) = jo c a b :: r := by
    intro b a r
    unfold evM
    rw [if_neg c1, if_neg c2, if_neg c3, if_neg c4, if_neg c5]
  have ec : ∀ (b a : Int) (r : List Int), evC F (kap c) (b :: a :: r) = clip (o2 (kap c) a b) :: r := by
    intro b a r
    unfold evC
    rw [if_neg (by omega), if_neg (by omega)]
  by_cases c7 : c ≤ 9
  · rw [if_pos c7] at h
    match st, ts, hs, h with
    | b :: a :: st, false :: false :: r, hs, h =>
      obtain rfl := Option.some.inj h
      obtain ⟨k1, k2, k3, k4⟩ := jo_ok hs.2.1.1 hs.2.1.2.1 hs.1.1 hs.1.2.1 (c := c) ⟨by omega, c7⟩
      rw [em, ec, k1]
      exact ⟨⟨⟨k2, k3, fun x => k4 (of_decide_eq_true x)⟩, hs.2.2⟩, rfl⟩
    | b :: a :: st, true :: _ :: r, hs, h => exact absurd h (by simp)
    | b :: a :: st, false :: true :: r, hs, h => exact absurd h (by simp)
    | [], [], hs, h => exact absurd h (by simp)
    | [_], [true], hs, h => exact absurd h (by simp)
    | [_], [false], hs, h => exact absurd h (by simp)
    | [], _ :: _, hs, h => exact hs.elim
    | _ :: _, [], hs, h => exact hs.elim
    | [_], _ :: _ :: _, hs, h => exact hs.2.elim
    | _ :: _ :: _, [_], hs, h => exact hs.2.elim
  rw [if_neg c7] at h
  by_cases c8 : c ≤ 11
  · rw [if_pos c8] at h
    match st, ts, hs, h with
    | b :: a :: st, true :: true :: r, hs, h =>
      obtain rfl := Option.some.inj h
      rw [em, ec]
      have hb := hs.1.2.2 rfl
      have ha := hs.2.1.2.2 rfl
      have hcc : c = 10 ∨ c = 11 := by omega
      have hj : clip (o2 (kap c) a b) = jo c a b ∧ (jo c a b = 0 ∨ jo c a b = 1) := by
        rcases hcc with rfl | rfl <;> rcases ha with rfl | rfl <;> rcases hb with rfl | rfl <;> decide
      rw [hj.1]
      refine ⟨⟨⟨?_, ?_, fun _ => hj.2⟩, hs.2.2⟩, rfl⟩
      · rcases hj.2 with e | e <;> rw [e] <;> omega
      · rcases hj.2 with e | e <;> rw [e] <;> omega
    | b :: a :: st, false :: _ :: r, hs, h => exact absurd h (by simp)
    | b :: a :: st, true :: false :: r, hs, h => exact absurd h (by simp)
    | [], [], hs, h => exact absurd h (by simp)
    | [_], [true], hs, h => exact absurd h (by simp)
    | [_], [false], hs, h => exact absurd h (by simp)
    | [], _ :: _, hs, h => exact hs.elim
    | _ :: _, [], hs, h => exact hs.elim
    | [_], _ :: _ :: _, hs, h => exact hs.2.elim
    | _ :: _ :: _, [_], hs, h => exact hs.2.elim
  · rw [if_neg c8] at h
    exact absurd h (by simp)
theorem ru_ok {F : Nat → Int} (hF : GF F) : ∀ (c : List Nat) {st : List Int} {ts ts' : List Bool}, Tyd st ts → tyR c ts = some ts' → Tyd (ruM F c st) ts' ∧ ruC F (c.map kap) st = ruM F c st
  | [], st, ts, ts', hs, h => by
    obtain rfl := Option.some.inj h
    exact ⟨hs, rfl⟩
  | c :: cs, st, ts, ts', hs, h => by
    have h' : (tyE c ts).bind (tyR cs) = some ts' := h
    cases he : tyE c ts with
    | none => rw [he] at h'; exact absurd h' (by simp)
    | some t2 =>
      rw [he] at h'
      have e := ev_ok hF hs he
      have e2 := ru_ok hF cs e.1 h'
      refine ⟨e2.1, ?_⟩
      show ruC F (cs.map kap) (evC F (kap c) st) = _
      rw [e.2]
      exact e2.2
/-- tokens of one number (or test), with at most d more places on the pile -/
def Good (t : Bool) (d : Nat) (c : List Nat) : Prop := ∀ ts : List Bool, ts.length + d ≤ 64 → tyR c ts = some (t :: ts)
def valM (F : Nat → Int) (c : List Nat) : Int := (ruM F c []).headD 0
theorem good_val {t : Bool} {d : Nat} {c : List Nat} {F : Nat → Int} (hF : GF F) (hd : d ≤ 64) (h : Good t d c) : ruM F c [] = [valM F c] ∧ ruC F (c.map kap) [] = [valM F c] ∧ -1000000 ≤ valM F c ∧ valM F c ≤ 1000000 ∧ (t = true → valM F c = 0 ∨ valM F c = 1) := by
  have k := ru_ok hF c (st := []) (ts := []) (ts' := [t]) trivial (h [] (by simpa using hd))
  unfold valM
  match hr : ruM F c [], k with
  | [v], k => exact ⟨rfl, k.2, k.1.1.1, k.1.1.2.1, k.1.1.2.2⟩
  | [], k => exact k.1.elim
  | _ :: _ :: _, k => exact k.1.2.elim
theorem good_mono {t : Bool} {d e : Nat} {c : List Nat} (h : Good t d c) (hd : d ≤ e) : Good t e c := fun ts hs => h ts (by omega)
theorem good_num {n : Nat} (h : n ≤ 9999) : Good false 1 [1000 + n] := by
  intro ts hs
  show (tyE (1000 + n) ts).bind (tyR []) = _
  unfold tyE
  rw [if_pos (by omega), if_pos ⟨by omega, by omega⟩]
  rfl
theorem good_fact {k : Nat} (h : k < 13) : Good false 1 [40 + k] := by
  intro ts hs
  show (tyE (40 + k) ts).bind (tyR []) = _
  unfold tyE
  rw [if_neg (by omega), if_neg (by omega), if_pos (by omega), if_pos ⟨by omega, by omega⟩]
  rfl
theorem good_all : Good true 1 [13] := by
  intro ts hs
  show (tyE 13 ts).bind (tyR []) = _
  unfold tyE
  rw [if_neg (by omega), if_neg (by omega), if_neg (by omega), if_pos rfl, if_pos (by omega)]
  rfl
theorem good_not {d : Nat} {c : List Nat} (h : Good true d c) : Good true d (c ++ [12]) := by
  intro ts hs
  rw [tyR_app, h ts hs]
  rfl
theorem good_of {d w : Nat} {c : List Nat} (hw : w < 2) (h : Good false d c) : Good false d (c ++ [60 + w]) := by
  intro ts hs
  rw [tyR_app, h ts hs]
  have : w = 0 ∨ w = 1 := by omega
  rcases this with rfl | rfl <;> rfl
theorem good_two {t s : Bool} {d1 d2 op : Nat} {c1 c2 : List Nat} (h1 : Good t d1 c1) (h2 : Good t d2 c2) (hop : (t = false ∧ 1 ≤ op ∧ op ≤ 9 ∧ s = decide (7 ≤ op)) ∨ (t = true ∧ s = true ∧ (op = 10 ∨ op = 11))) : Good s (max d1 (d2 + 1)) (c1 ++ c2 ++ [op]) := by
  intro ts hs
  rw [tyR_app, tyR_app, h1 ts (by omega)]
  show ((tyR c2 (t :: ts)).bind (tyR [op])) = _
  rw [h2 (t :: ts) (by simp only [List.length_cons]; omega)]
  show (tyE op (t :: t :: ts)).bind (tyR []) = _
  unfold tyE
  rcases hop with ⟨rfl, a, b, rfl⟩ | ⟨rfl, rfl, a⟩
  · rw [if_neg (by omega), if_neg (by omega), if_neg (by omega), if_neg (by omega), if_neg (by omega), if_neg (by omega), if_pos b]
    rfl
  · rw [if_neg (by omega), if_neg (by omega), if_neg (by omega), if_neg (by omega), if_neg (by omega), if_neg (by omega), if_neg (by omega), if_pos (by omega)]
    rfl
