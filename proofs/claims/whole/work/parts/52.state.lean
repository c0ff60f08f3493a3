/-! ===== the state: ints, longs, and the four references that change (told, draft; the sum reader's code, the plain reader's plain); all other references stay ===== -/
abbrev St : Type := (Nat → Nat → Int32) × (Nat → Nat → Int64) × Nat × Nat × Nat × Nat
def emb (R : Nat → Nat → Option Nat) (u : St) : Mem := (u.1, u.2.1, fun a k => if a = 0 ∧ k = 3 then some u.2.2.1 else if a = 0 ∧ k = 4 then some u.2.2.2.1 else if a = 6 ∧ k = 1 then some u.2.2.2.2.1 else if a = 41 ∧ k = 2 then some u.2.2.2.2.2 else R a k)
def RfH (R : Nat → Nat → Option Nat) : Prop := ∀ q ∈ R0L, R q.1 q.2.1 = some q.2.2
def DK (u : St) : Prop := Ob SH u.2.2.1 5 ∧ Ob SH u.2.2.2.1 5 ∧ Ob SH u.2.2.2.2.1 0 ∧ Ob SH u.2.2.2.2.2 5
def tI (u : St) (a k : Nat) (v : Int32) : St := (fun a' k' => if a' = a ∧ k' = k then v else u.1 a' k', u.2)
def tL (u : St) (a k : Nat) (v : Int64) : St := (u.1, fun a' k' => if a' = a ∧ k' = k then v else u.2.1 a' k', u.2.2)
def tD1 (u : St) (b : Nat) : St := (u.1, u.2.1, b, u.2.2.2)
def tD2 (u : St) (b : Nat) : St := (u.1, u.2.1, u.2.2.1, b, u.2.2.2.2)
def tD3 (u : St) (b : Nat) : St := (u.1, u.2.1, u.2.2.1, u.2.2.2.1, b, u.2.2.2.2.2)
def tD4 (u : St) (b : Nat) : St := (u.1, u.2.1, u.2.2.1, u.2.2.2.1, u.2.2.2.2.1, b)
def tC (u : St) (a : Nat) (sp : Int32) (b : Nat) (dp n : Int32) : St := (fun a' k' => if a' = b then va_cpy (u.1 a) (u.1 b) sp.toNatClampNeg dp.toNatClampNeg n.toNatClampNeg k' else u.1 a' k', u.2)
theorem e_I (R : Nat → Nat → Option Nat) (u : St) (a k : Nat) (v : Int32) : sI (emb R u) a k v = emb R (tI u a k v) := rfl
theorem e_L (R : Nat → Nat → Option Nat) (u : St) (a k : Nat) (v : Int64) : sL (emb R u) a k v = emb R (tL u a k v) := rfl
theorem e_C (R : Nat → Nat → Option Nat) (u : St) (a : Nat) (sp : Int32) (b : Nat) (dp n : Int32) : cpI (emb R u) a sp b dp n = emb R (tC u a sp b dp n) := rfl
theorem e_D1 (R : Nat → Nat → Option Nat) (u : St) (b : Nat) : sR (emb R u) 0 3 (some b) = emb R (tD1 u b) := by
  simp only [sR, emb, tD1]
  congr 2
  funext a k
  by_cases h : a = 0 ∧ k = 3 <;> simp [h]
theorem e_D2 (R : Nat → Nat → Option Nat) (u : St) (b : Nat) : sR (emb R u) 0 4 (some b) = emb R (tD2 u b) := by
  simp only [sR, emb, tD2]
  congr 2
  funext a k
  by_cases h : a = 0 ∧ k = 4
  · simp [h]
  · simp [h]
theorem e_D3 (R : Nat → Nat → Option Nat) (u : St) (b : Nat) : sR (emb R u) 6 1 (some b) = emb R (tD3 u b) := by
  simp only [sR, emb, tD3]
  congr 2
  funext a k
  by_cases h : a = 6 ∧ k = 1
  · simp [h]
  · simp [h]
theorem e_D4 (R : Nat → Nat → Option Nat) (u : St) (b : Nat) : sR (emb R u) 41 2 (some b) = emb R (tD4 u b) := by
  simp only [sR, emb, tD4]
  congr 2
  funext a k
  by_cases h : a = 41 ∧ k = 2
  · simp [h]
  · simp [h]
set_option maxRecDepth 20000 in
theorem ob_of {a c : Nat} (h : Ob SH a c) : a < 286 ∧ (SH.getD a (999, 0)).1 = c := by
  obtain ⟨⟨n, h⟩, -⟩ := h
  have h1 : a < SH.length := (List.getElem?_eq_some_iff.mp h).1
  refine ⟨h1, ?_⟩
  rw [List.getD_eq_getElem?_getD, h]
  rfl
theorem rr_of {R : Nat → Nat → Option Nat} (hR : RfH R) (u : St) {a k b : Nat} (h : (a, k, b) ∈ R0L) (h1 : ¬ (a = 0 ∧ k = 3) ∧ ¬ (a = 0 ∧ k = 4) ∧ ¬ (a = 6 ∧ k = 1) ∧ ¬ (a = 41 ∧ k = 2)) : (emb R u).2.2 a k = some b := by
  show (if _ then _ else _) = _
  rw [if_neg h1.1, if_neg h1.2.1, if_neg h1.2.2.1, if_neg h1.2.2.2]
  exact hR _ h
theorem ite_mono {c A A' B B' : Prop} [Decidable c] (h1 : c → A' → A) (h2 : ¬ c → B' → B) (h : if c then A' else B') : if c then A else B := by
  by_cases hc : c
  · rw [if_pos hc] at h ⊢
    exact h1 hc h
  · rw [if_neg hc] at h ⊢
    exact h2 hc h
set_option maxHeartbeats 4000000 in
set_option maxRecDepth 100000 in
theorem cli_0 : ∀ a, a < 286 → ((SH.getD a (999, 0)).1 == 0) = true → a ∈ ([3, 18, 21, 35, 38] : List Nat) := by decide +kernel
set_option maxHeartbeats 4000000 in
set_option maxRecDepth 100000 in
theorem clf_0 : ∀ a ∈ ([3, 18, 21, 35, 38] : List Nat), (a ≠ 0 ∧ a ≠ 6 ∧ a ≠ 41) ∧ (a, 0, a + 1) ∈ R0L ∧ SH[a + 1]? = some (100, 1600) ∧ (a, 1, a + 2) ∈ R0L ∧ SH[a + 2]? = some (100, 64) := by
  intro a ha
  simp only [List.mem_cons, List.not_mem_nil, or_false] at ha
  rcases ha with rfl | rfl | rfl | rfl | rfl <;> exact ⟨by decide, by decide +kernel, by decide +kernel, by decide +kernel, by decide +kernel⟩
theorem cls_0 (a : Nat) (h1 : a < 286) (h2 : (SH.getD a (999, 0)).1 = 0) : (a ≠ 0 ∧ a ≠ 6 ∧ a ≠ 41) ∧ (a, 0, a + 1) ∈ R0L ∧ SH[a + 1]? = some (100, 1600) ∧ (a, 1, a + 2) ∈ R0L ∧ SH[a + 2]? = some (100, 64) := clf_0 a (cli_0 a h1 (by rw [h2]; rfl))
theorem rr_0_0 {R : Nat → Nat → Option Nat} (hR : RfH R) (u : St) {a : Nat} (h : Ob SH a 0) : (emb R u).2.2 a 0 = some (a + 1) := rr_of hR u (cls_0 a (ob_of h).1 (ob_of h).2).2.1 (by have := (cls_0 a (ob_of h).1 (ob_of h).2).1; omega)
theorem ce_0_0 {a : Nat} (h : Ob SH a 0) : SH[a + 1]? = some (100, 1600) := (cls_0 a (ob_of h).1 (ob_of h).2).2.2.1
theorem rr_0_1 {R : Nat → Nat → Option Nat} (hR : RfH R) (u : St) {a : Nat} (h : Ob SH a 0) : (emb R u).2.2 a 1 = some (a + 2) := rr_of hR u (cls_0 a (ob_of h).1 (ob_of h).2).2.2.2.1 (by have := (cls_0 a (ob_of h).1 (ob_of h).2).1; omega)
theorem ce_0_1 {a : Nat} (h : Ob SH a 0) : SH[a + 2]? = some (100, 64) := (cls_0 a (ob_of h).1 (ob_of h).2).2.2.2.2
set_option maxHeartbeats 4000000 in
set_option maxRecDepth 100000 in
theorem cli_5 : ∀ a, a < 286 → ((SH.getD a (999, 0)).1 == 5) = true → a ∈ ([7, 24] : List Nat) := by decide +kernel
set_option maxHeartbeats 4000000 in
set_option maxRecDepth 100000 in
theorem clf_5 : ∀ a ∈ ([7, 24] : List Nat), (a ≠ 0 ∧ a ≠ 6 ∧ a ≠ 41) ∧ (a, 5, a + 1) ∈ R0L ∧ SH[a + 1]? = some (100, 36) ∧ (a, 6, a + 2) ∈ R0L ∧ SH[a + 2]? = some (100, 36) ∧ (a, 7, a + 3) ∈ R0L ∧ SH[a + 3]? = some (100, 36) ∧ (a, 8, a + 4) ∈ R0L ∧ SH[a + 4]? = some (100, 6) ∧ (a, 9, a + 5) ∈ R0L ∧ SH[a + 5]? = some (100, 6) ∧ (a, 10, a + 6) ∈ R0L ∧ SH[a + 6]? = some (100, 6) ∧ (a, 11, a + 7) ∈ R0L ∧ SH[a + 7]? = some (100, 6) ∧ (a, 12, a + 8) ∈ R0L ∧ SH[a + 8]? = some (100, 5) ∧ (a, 13, a + 9) ∈ R0L ∧ SH[a + 9]? = some (100, 5) ∧ (a, 14, a + 10) ∈ R0L ∧ SH[a + 10]? = some (100, 5) ∧ (a, 15, a + 11) ∈ R0L ∧ SH[a + 11]? = some (0, 3) ∧ (a, 16, a + 14) ∈ R0L ∧ SH[a + 14]? = some (0, 3) := by
  intro a ha
  simp only [List.mem_cons, List.not_mem_nil, or_false] at ha
  rcases ha with rfl | rfl <;> exact ⟨by decide, by decide +kernel, by decide +kernel, by decide +kernel, by decide +kernel, by decide +kernel, by decide +kernel, by decide +kernel, by decide +kernel, by decide +kernel, by decide +kernel, by decide +kernel, by decide +kernel, by decide +kernel, by decide +kernel, by decide +kernel, by decide +kernel, by decide +kernel, by decide +kernel, by decide +kernel, by decide +kernel, by decide +kernel, by decide +kernel, by decide +kernel, by decide +kernel⟩
theorem cls_5 (a : Nat) (h1 : a < 286) (h2 : (SH.getD a (999, 0)).1 = 5) : (a ≠ 0 ∧ a ≠ 6 ∧ a ≠ 41) ∧ (a, 5, a + 1) ∈ R0L ∧ SH[a + 1]? = some (100, 36) ∧ (a, 6, a + 2) ∈ R0L ∧ SH[a + 2]? = some (100, 36) ∧ (a, 7, a + 3) ∈ R0L ∧ SH[a + 3]? = some (100, 36) ∧ (a, 8, a + 4) ∈ R0L ∧ SH[a + 4]? = some (100, 6) ∧ (a, 9, a + 5) ∈ R0L ∧ SH[a + 5]? = some (100, 6) ∧ (a, 10, a + 6) ∈ R0L ∧ SH[a + 6]? = some (100, 6) ∧ (a, 11, a + 7) ∈ R0L ∧ SH[a + 7]? = some (100, 6) ∧ (a, 12, a + 8) ∈ R0L ∧ SH[a + 8]? = some (100, 5) ∧ (a, 13, a + 9) ∈ R0L ∧ SH[a + 9]? = some (100, 5) ∧ (a, 14, a + 10) ∈ R0L ∧ SH[a + 10]? = some (100, 5) ∧ (a, 15, a + 11) ∈ R0L ∧ SH[a + 11]? = some (0, 3) ∧ (a, 16, a + 14) ∈ R0L ∧ SH[a + 14]? = some (0, 3) := clf_5 a (cli_5 a h1 (by rw [h2]; rfl))
theorem rr_5_5 {R : Nat → Nat → Option Nat} (hR : RfH R) (u : St) {a : Nat} (h : Ob SH a 5) : (emb R u).2.2 a 5 = some (a + 1) := rr_of hR u (cls_5 a (ob_of h).1 (ob_of h).2).2.1 (by have := (cls_5 a (ob_of h).1 (ob_of h).2).1; omega)
theorem ce_5_5 {a : Nat} (h : Ob SH a 5) : SH[a + 1]? = some (100, 36) := (cls_5 a (ob_of h).1 (ob_of h).2).2.2.1
theorem rr_5_6 {R : Nat → Nat → Option Nat} (hR : RfH R) (u : St) {a : Nat} (h : Ob SH a 5) : (emb R u).2.2 a 6 = some (a + 2) := rr_of hR u (cls_5 a (ob_of h).1 (ob_of h).2).2.2.2.1 (by have := (cls_5 a (ob_of h).1 (ob_of h).2).1; omega)
theorem ce_5_6 {a : Nat} (h : Ob SH a 5) : SH[a + 2]? = some (100, 36) := (cls_5 a (ob_of h).1 (ob_of h).2).2.2.2.2.1
theorem rr_5_7 {R : Nat → Nat → Option Nat} (hR : RfH R) (u : St) {a : Nat} (h : Ob SH a 5) : (emb R u).2.2 a 7 = some (a + 3) := rr_of hR u (cls_5 a (ob_of h).1 (ob_of h).2).2.2.2.2.2.1 (by have := (cls_5 a (ob_of h).1 (ob_of h).2).1; omega)
theorem ce_5_7 {a : Nat} (h : Ob SH a 5) : SH[a + 3]? = some (100, 36) := (cls_5 a (ob_of h).1 (ob_of h).2).2.2.2.2.2.2.1
theorem rr_5_8 {R : Nat → Nat → Option Nat} (hR : RfH R) (u : St) {a : Nat} (h : Ob SH a 5) : (emb R u).2.2 a 8 = some (a + 4) := rr_of hR u (cls_5 a (ob_of h).1 (ob_of h).2).2.2.2.2.2.2.2.1 (by have := (cls_5 a (ob_of h).1 (ob_of h).2).1; omega)
theorem ce_5_8 {a : Nat} (h : Ob SH a 5) : SH[a + 4]? = some (100, 6) := (cls_5 a (ob_of h).1 (ob_of h).2).2.2.2.2.2.2.2.2.1
theorem rr_5_9 {R : Nat → Nat → Option Nat} (hR : RfH R) (u : St) {a : Nat} (h : Ob SH a 5) : (emb R u).2.2 a 9 = some (a + 5) := rr_of hR u (cls_5 a (ob_of h).1 (ob_of h).2).2.2.2.2.2.2.2.2.2.1 (by have := (cls_5 a (ob_of h).1 (ob_of h).2).1; omega)
theorem ce_5_9 {a : Nat} (h : Ob SH a 5) : SH[a + 5]? = some (100, 6) := (cls_5 a (ob_of h).1 (ob_of h).2).2.2.2.2.2.2.2.2.2.2.1
theorem rr_5_10 {R : Nat → Nat → Option Nat} (hR : RfH R) (u : St) {a : Nat} (h : Ob SH a 5) : (emb R u).2.2 a 10 = some (a + 6) := rr_of hR u (cls_5 a (ob_of h).1 (ob_of h).2).2.2.2.2.2.2.2.2.2.2.2.1 (by have := (cls_5 a (ob_of h).1 (ob_of h).2).1; omega)
theorem ce_5_10 {a : Nat} (h : Ob SH a 5) : SH[a + 6]? = some (100, 6) := (cls_5 a (ob_of h).1 (ob_of h).2).2.2.2.2.2.2.2.2.2.2.2.2.1
theorem rr_5_11 {R : Nat → Nat → Option Nat} (hR : RfH R) (u : St) {a : Nat} (h : Ob SH a 5) : (emb R u).2.2 a 11 = some (a + 7) := rr_of hR u (cls_5 a (ob_of h).1 (ob_of h).2).2.2.2.2.2.2.2.2.2.2.2.2.2.1 (by have := (cls_5 a (ob_of h).1 (ob_of h).2).1; omega)
theorem ce_5_11 {a : Nat} (h : Ob SH a 5) : SH[a + 7]? = some (100, 6) := (cls_5 a (ob_of h).1 (ob_of h).2).2.2.2.2.2.2.2.2.2.2.2.2.2.2.1
theorem rr_5_12 {R : Nat → Nat → Option Nat} (hR : RfH R) (u : St) {a : Nat} (h : Ob SH a 5) : (emb R u).2.2 a 12 = some (a + 8) := rr_of hR u (cls_5 a (ob_of h).1 (ob_of h).2).2.2.2.2.2.2.2.2.2.2.2.2.2.2.2.1 (by have := (cls_5 a (ob_of h).1 (ob_of h).2).1; omega)
theorem ce_5_12 {a : Nat} (h : Ob SH a 5) : SH[a + 8]? = some (100, 5) := (cls_5 a (ob_of h).1 (ob_of h).2).2.2.2.2.2.2.2.2.2.2.2.2.2.2.2.2.1
theorem rr_5_13 {R : Nat → Nat → Option Nat} (hR : RfH R) (u : St) {a : Nat} (h : Ob SH a 5) : (emb R u).2.2 a 13 = some (a + 9) := rr_of hR u (cls_5 a (ob_of h).1 (ob_of h).2).2.2.2.2.2.2.2.2.2.2.2.2.2.2.2.2.2.1 (by have := (cls_5 a (ob_of h).1 (ob_of h).2).1; omega)
theorem ce_5_13 {a : Nat} (h : Ob SH a 5) : SH[a + 9]? = some (100, 5) := (cls_5 a (ob_of h).1 (ob_of h).2).2.2.2.2.2.2.2.2.2.2.2.2.2.2.2.2.2.2.1
theorem rr_5_14 {R : Nat → Nat → Option Nat} (hR : RfH R) (u : St) {a : Nat} (h : Ob SH a 5) : (emb R u).2.2 a 14 = some (a + 10) := rr_of hR u (cls_5 a (ob_of h).1 (ob_of h).2).2.2.2.2.2.2.2.2.2.2.2.2.2.2.2.2.2.2.2.1 (by have := (cls_5 a (ob_of h).1 (ob_of h).2).1; omega)
theorem ce_5_14 {a : Nat} (h : Ob SH a 5) : SH[a + 10]? = some (100, 5) := (cls_5 a (ob_of h).1 (ob_of h).2).2.2.2.2.2.2.2.2.2.2.2.2.2.2.2.2.2.2.2.2.1
theorem rr_5_15 {R : Nat → Nat → Option Nat} (hR : RfH R) (u : St) {a : Nat} (h : Ob SH a 5) : (emb R u).2.2 a 15 = some (a + 11) := rr_of hR u (cls_5 a (ob_of h).1 (ob_of h).2).2.2.2.2.2.2.2.2.2.2.2.2.2.2.2.2.2.2.2.2.2.1 (by have := (cls_5 a (ob_of h).1 (ob_of h).2).1; omega)
theorem ce_5_15 {a : Nat} (h : Ob SH a 5) : SH[a + 11]? = some (0, 3) := (cls_5 a (ob_of h).1 (ob_of h).2).2.2.2.2.2.2.2.2.2.2.2.2.2.2.2.2.2.2.2.2.2.2.1
theorem ob_5_15 {a : Nat} (h : Ob SH a 5) : Ob SH (a + 11) 0 := ob_i (ce_5_15 h) (by decide)
theorem rr_5_16 {R : Nat → Nat → Option Nat} (hR : RfH R) (u : St) {a : Nat} (h : Ob SH a 5) : (emb R u).2.2 a 16 = some (a + 14) := rr_of hR u (cls_5 a (ob_of h).1 (ob_of h).2).2.2.2.2.2.2.2.2.2.2.2.2.2.2.2.2.2.2.2.2.2.2.2.1 (by have := (cls_5 a (ob_of h).1 (ob_of h).2).1; omega)
theorem ce_5_16 {a : Nat} (h : Ob SH a 5) : SH[a + 14]? = some (0, 3) := (cls_5 a (ob_of h).1 (ob_of h).2).2.2.2.2.2.2.2.2.2.2.2.2.2.2.2.2.2.2.2.2.2.2.2.2
theorem ob_5_16 {a : Nat} (h : Ob SH a 5) : Ob SH (a + 14) 0 := ob_i (ce_5_16 h) (by decide)
set_option maxHeartbeats 4000000 in
set_option maxRecDepth 100000 in
theorem cli_1 : ∀ a, a < 286 → ((SH.getD a (999, 0)).1 == 1) = true → a ∈ ([42, 47, 57, 62, 67, 72, 77, 82, 87, 92, 97, 102, 107, 112, 117, 122, 127, 132, 137, 142, 147, 152] : List Nat) := by decide +kernel
set_option maxHeartbeats 4000000 in
set_option maxRecDepth 100000 in
theorem clf_1 : ∀ a ∈ ([42, 47, 57, 62, 67, 72, 77, 82, 87, 92, 97, 102, 107, 112, 117, 122, 127, 132, 137, 142, 147, 152] : List Nat), (a ≠ 0 ∧ a ≠ 6 ∧ a ≠ 41) ∧ (a, 2, a + 1) ∈ R0L ∧ SH[a + 1]? = some (100, 36) ∧ (a, 3, a + 2) ∈ R0L ∧ SH[a + 2]? = some (100, 36) ∧ (a, 4, a + 3) ∈ R0L ∧ SH[a + 3]? = some (100, 36) ∧ (a, 5, a + 4) ∈ R0L ∧ SH[a + 4]? = some (100, 6) := by
  intro a ha
  simp only [List.mem_cons, List.not_mem_nil, or_false] at ha
  rcases ha with rfl | rfl | rfl | rfl | rfl | rfl | rfl | rfl | rfl | rfl | rfl | rfl | rfl | rfl | rfl | rfl | rfl | rfl | rfl | rfl | rfl | rfl <;> exact ⟨by decide, by decide +kernel, by decide +kernel, by decide +kernel, by decide +kernel, by decide +kernel, by decide +kernel, by decide +kernel, by decide +kernel⟩
theorem cls_1 (a : Nat) (h1 : a < 286) (h2 : (SH.getD a (999, 0)).1 = 1) : (a ≠ 0 ∧ a ≠ 6 ∧ a ≠ 41) ∧ (a, 2, a + 1) ∈ R0L ∧ SH[a + 1]? = some (100, 36) ∧ (a, 3, a + 2) ∈ R0L ∧ SH[a + 2]? = some (100, 36) ∧ (a, 4, a + 3) ∈ R0L ∧ SH[a + 3]? = some (100, 36) ∧ (a, 5, a + 4) ∈ R0L ∧ SH[a + 4]? = some (100, 6) := clf_1 a (cli_1 a h1 (by rw [h2]; rfl))
theorem rr_1_2 {R : Nat → Nat → Option Nat} (hR : RfH R) (u : St) {a : Nat} (h : Ob SH a 1) : (emb R u).2.2 a 2 = some (a + 1) := rr_of hR u (cls_1 a (ob_of h).1 (ob_of h).2).2.1 (by have := (cls_1 a (ob_of h).1 (ob_of h).2).1; omega)
theorem ce_1_2 {a : Nat} (h : Ob SH a 1) : SH[a + 1]? = some (100, 36) := (cls_1 a (ob_of h).1 (ob_of h).2).2.2.1
theorem rr_1_3 {R : Nat → Nat → Option Nat} (hR : RfH R) (u : St) {a : Nat} (h : Ob SH a 1) : (emb R u).2.2 a 3 = some (a + 2) := rr_of hR u (cls_1 a (ob_of h).1 (ob_of h).2).2.2.2.1 (by have := (cls_1 a (ob_of h).1 (ob_of h).2).1; omega)
theorem ce_1_3 {a : Nat} (h : Ob SH a 1) : SH[a + 2]? = some (100, 36) := (cls_1 a (ob_of h).1 (ob_of h).2).2.2.2.2.1
theorem rr_1_4 {R : Nat → Nat → Option Nat} (hR : RfH R) (u : St) {a : Nat} (h : Ob SH a 1) : (emb R u).2.2 a 4 = some (a + 3) := rr_of hR u (cls_1 a (ob_of h).1 (ob_of h).2).2.2.2.2.2.1 (by have := (cls_1 a (ob_of h).1 (ob_of h).2).1; omega)
theorem ce_1_4 {a : Nat} (h : Ob SH a 1) : SH[a + 3]? = some (100, 36) := (cls_1 a (ob_of h).1 (ob_of h).2).2.2.2.2.2.2.1
theorem rr_1_5 {R : Nat → Nat → Option Nat} (hR : RfH R) (u : St) {a : Nat} (h : Ob SH a 1) : (emb R u).2.2 a 5 = some (a + 4) := rr_of hR u (cls_1 a (ob_of h).1 (ob_of h).2).2.2.2.2.2.2.2.1 (by have := (cls_1 a (ob_of h).1 (ob_of h).2).1; omega)
theorem ce_1_5 {a : Nat} (h : Ob SH a 1) : SH[a + 4]? = some (100, 6) := (cls_1 a (ob_of h).1 (ob_of h).2).2.2.2.2.2.2.2.2
set_option maxHeartbeats 4000000 in
set_option maxRecDepth 100000 in
theorem cli_10 : ∀ a, a < 286 → ((SH.getD a (999, 0)).1 == 10) = true → a ∈ ([165, 169, 178, 182, 186, 190, 194] : List Nat) := by decide +kernel
set_option maxHeartbeats 4000000 in
set_option maxRecDepth 100000 in
theorem clf_10 : ∀ a ∈ ([165, 169, 178, 182, 186, 190, 194] : List Nat), (a ≠ 0 ∧ a ≠ 6 ∧ a ≠ 41) ∧ (a, 0, a + 1) ∈ R0L ∧ SH[a + 1]? = some (100, 36) ∧ (a, 1, a + 2) ∈ R0L ∧ SH[a + 2]? = some (100, 36) ∧ (a, 6, a + 3) ∈ R0L ∧ SH[a + 3]? = some (100, 23) := by
  intro a ha
  simp only [List.mem_cons, List.not_mem_nil, or_false] at ha
  rcases ha with rfl | rfl | rfl | rfl | rfl | rfl | rfl <;> exact ⟨by decide, by decide +kernel, by decide +kernel, by decide +kernel, by decide +kernel, by decide +kernel, by decide +kernel⟩
theorem cls_10 (a : Nat) (h1 : a < 286) (h2 : (SH.getD a (999, 0)).1 = 10) : (a ≠ 0 ∧ a ≠ 6 ∧ a ≠ 41) ∧ (a, 0, a + 1) ∈ R0L ∧ SH[a + 1]? = some (100, 36) ∧ (a, 1, a + 2) ∈ R0L ∧ SH[a + 2]? = some (100, 36) ∧ (a, 6, a + 3) ∈ R0L ∧ SH[a + 3]? = some (100, 23) := clf_10 a (cli_10 a h1 (by rw [h2]; rfl))
theorem rr_10_0 {R : Nat → Nat → Option Nat} (hR : RfH R) (u : St) {a : Nat} (h : Ob SH a 10) : (emb R u).2.2 a 0 = some (a + 1) := rr_of hR u (cls_10 a (ob_of h).1 (ob_of h).2).2.1 (by have := (cls_10 a (ob_of h).1 (ob_of h).2).1; omega)
theorem ce_10_0 {a : Nat} (h : Ob SH a 10) : SH[a + 1]? = some (100, 36) := (cls_10 a (ob_of h).1 (ob_of h).2).2.2.1
theorem rr_10_1 {R : Nat → Nat → Option Nat} (hR : RfH R) (u : St) {a : Nat} (h : Ob SH a 10) : (emb R u).2.2 a 1 = some (a + 2) := rr_of hR u (cls_10 a (ob_of h).1 (ob_of h).2).2.2.2.1 (by have := (cls_10 a (ob_of h).1 (ob_of h).2).1; omega)
theorem ce_10_1 {a : Nat} (h : Ob SH a 10) : SH[a + 2]? = some (100, 36) := (cls_10 a (ob_of h).1 (ob_of h).2).2.2.2.2.1
theorem rr_10_6 {R : Nat → Nat → Option Nat} (hR : RfH R) (u : St) {a : Nat} (h : Ob SH a 10) : (emb R u).2.2 a 6 = some (a + 3) := rr_of hR u (cls_10 a (ob_of h).1 (ob_of h).2).2.2.2.2.2.1 (by have := (cls_10 a (ob_of h).1 (ob_of h).2).1; omega)
theorem ce_10_6 {a : Nat} (h : Ob SH a 10) : SH[a + 3]? = some (100, 23) := (cls_10 a (ob_of h).1 (ob_of h).2).2.2.2.2.2.2
theorem on_0 : Ob SH 0 11 := ob_i (n := 19) rfl (by decide)
theorem on_1 : Ob SH 1 9 := ob_i (n := 7) rfl (by decide)
theorem on_3 : Ob SH 3 0 := ob_i (n := 3) rfl (by decide)
theorem on_6 : Ob SH 6 8 := ob_i (n := 3) rfl (by decide)
theorem on_7 : Ob SH 7 5 := ob_i (n := 17) rfl (by decide)
theorem on_18 : Ob SH 18 0 := ob_i (n := 3) rfl (by decide)
theorem on_21 : Ob SH 21 0 := ob_i (n := 3) rfl (by decide)
theorem on_24 : Ob SH 24 5 := ob_i (n := 17) rfl (by decide)
theorem on_35 : Ob SH 35 0 := ob_i (n := 3) rfl (by decide)
theorem on_38 : Ob SH 38 0 := ob_i (n := 3) rfl (by decide)
theorem on_41 : Ob SH 41 6 := ob_i (n := 4) rfl (by decide)
theorem on_42 : Ob SH 42 1 := ob_i (n := 6) rfl (by decide)
theorem on_47 : Ob SH 47 1 := ob_i (n := 6) rfl (by decide)
theorem on_52 : Ob SH 52 3 := ob_i (n := 6) rfl (by decide)
theorem on_57 : Ob SH 57 1 := ob_i (n := 6) rfl (by decide)
theorem on_62 : Ob SH 62 1 := ob_i (n := 6) rfl (by decide)
theorem on_67 : Ob SH 67 1 := ob_i (n := 6) rfl (by decide)
theorem on_72 : Ob SH 72 1 := ob_i (n := 6) rfl (by decide)
theorem on_77 : Ob SH 77 1 := ob_i (n := 6) rfl (by decide)
theorem on_82 : Ob SH 82 1 := ob_i (n := 6) rfl (by decide)
theorem on_87 : Ob SH 87 1 := ob_i (n := 6) rfl (by decide)
theorem on_92 : Ob SH 92 1 := ob_i (n := 6) rfl (by decide)
theorem on_97 : Ob SH 97 1 := ob_i (n := 6) rfl (by decide)
theorem on_102 : Ob SH 102 1 := ob_i (n := 6) rfl (by decide)
theorem on_107 : Ob SH 107 1 := ob_i (n := 6) rfl (by decide)
theorem on_112 : Ob SH 112 1 := ob_i (n := 6) rfl (by decide)
theorem on_117 : Ob SH 117 1 := ob_i (n := 6) rfl (by decide)
theorem on_122 : Ob SH 122 1 := ob_i (n := 6) rfl (by decide)
theorem on_127 : Ob SH 127 1 := ob_i (n := 6) rfl (by decide)
theorem on_132 : Ob SH 132 1 := ob_i (n := 6) rfl (by decide)
theorem on_137 : Ob SH 137 1 := ob_i (n := 6) rfl (by decide)
theorem on_142 : Ob SH 142 1 := ob_i (n := 6) rfl (by decide)
theorem on_147 : Ob SH 147 1 := ob_i (n := 6) rfl (by decide)
theorem on_152 : Ob SH 152 1 := ob_i (n := 6) rfl (by decide)
theorem on_157 : Ob SH 157 2 := ob_i (n := 4) rfl (by decide)
theorem on_161 : Ob SH 161 7 := ob_i (n := 3) rfl (by decide)
theorem on_165 : Ob SH 165 10 := ob_i (n := 7) rfl (by decide)
theorem on_169 : Ob SH 169 10 := ob_i (n := 7) rfl (by decide)
theorem on_175 : Ob SH 175 4 := ob_i (n := 2) rfl (by decide)
theorem on_178 : Ob SH 178 10 := ob_i (n := 7) rfl (by decide)
theorem on_182 : Ob SH 182 10 := ob_i (n := 7) rfl (by decide)
theorem on_186 : Ob SH 186 10 := ob_i (n := 7) rfl (by decide)
theorem on_190 : Ob SH 190 10 := ob_i (n := 7) rfl (by decide)
theorem on_194 : Ob SH 194 10 := ob_i (n := 7) rfl (by decide)
theorem on_198 : Ob SH 198 12 := ob_i (n := 120) rfl (by decide)
theorem rn_0_0 {R : Nat → Nat → Option Nat} (hR : RfH R) (u : St) : (emb R u).2.2 0 0 = some 1 := rr_of hR u (List.mem_of_getElem? (i := 0) rfl) (by decide)
theorem rn_0_1 {R : Nat → Nat → Option Nat} (hR : RfH R) (u : St) : (emb R u).2.2 0 1 = some 3 := rr_of hR u (List.mem_of_getElem? (i := 1) rfl) (by decide)
theorem rn_0_2 {R : Nat → Nat → Option Nat} (hR : RfH R) (u : St) : (emb R u).2.2 0 2 = some 6 := rr_of hR u (List.mem_of_getElem? (i := 2) rfl) (by decide)
theorem rn_0_5 {R : Nat → Nat → Option Nat} (hR : RfH R) (u : St) : (emb R u).2.2 0 5 = some 41 := rr_of hR u (List.mem_of_getElem? (i := 5) rfl) (by decide)
theorem rn_0_6 {R : Nat → Nat → Option Nat} (hR : RfH R) (u : St) : (emb R u).2.2 0 6 = some 42 := rr_of hR u (List.mem_of_getElem? (i := 6) rfl) (by decide)
theorem rn_0_7 {R : Nat → Nat → Option Nat} (hR : RfH R) (u : St) : (emb R u).2.2 0 7 = some 47 := rr_of hR u (List.mem_of_getElem? (i := 7) rfl) (by decide)
theorem rn_0_8 {R : Nat → Nat → Option Nat} (hR : RfH R) (u : St) : (emb R u).2.2 0 8 = some 52 := rr_of hR u (List.mem_of_getElem? (i := 8) rfl) (by decide)
theorem rn_0_9 {R : Nat → Nat → Option Nat} (hR : RfH R) (u : St) : (emb R u).2.2 0 9 = some 157 := rr_of hR u (List.mem_of_getElem? (i := 9) rfl) (by decide)
theorem rn_0_10 {R : Nat → Nat → Option Nat} (hR : RfH R) (u : St) : (emb R u).2.2 0 10 = some 161 := rr_of hR u (List.mem_of_getElem? (i := 10) rfl) (by decide)
theorem rn_0_11 {R : Nat → Nat → Option Nat} (hR : RfH R) (u : St) : (emb R u).2.2 0 11 = some 164 := rr_of hR u (List.mem_of_getElem? (i := 11) rfl) (by decide)
theorem rn_0_12 {R : Nat → Nat → Option Nat} (hR : RfH R) (u : St) : (emb R u).2.2 0 12 = some 165 := rr_of hR u (List.mem_of_getElem? (i := 12) rfl) (by decide)
theorem rn_0_13 {R : Nat → Nat → Option Nat} (hR : RfH R) (u : St) : (emb R u).2.2 0 13 = some 169 := rr_of hR u (List.mem_of_getElem? (i := 13) rfl) (by decide)
theorem rn_0_14 {R : Nat → Nat → Option Nat} (hR : RfH R) (u : St) : (emb R u).2.2 0 14 = some 173 := rr_of hR u (List.mem_of_getElem? (i := 14) rfl) (by decide)
theorem rn_0_15 {R : Nat → Nat → Option Nat} (hR : RfH R) (u : St) : (emb R u).2.2 0 15 = some 174 := rr_of hR u (List.mem_of_getElem? (i := 15) rfl) (by decide)
theorem rn_0_16 {R : Nat → Nat → Option Nat} (hR : RfH R) (u : St) : (emb R u).2.2 0 16 = some 175 := rr_of hR u (List.mem_of_getElem? (i := 16) rfl) (by decide)
theorem rn_0_17 {R : Nat → Nat → Option Nat} (hR : RfH R) (u : St) : (emb R u).2.2 0 17 = some 177 := rr_of hR u (List.mem_of_getElem? (i := 17) rfl) (by decide)
theorem rn_1_0 {R : Nat → Nat → Option Nat} (hR : RfH R) (u : St) : (emb R u).2.2 1 0 = some 2 := rr_of hR u (List.mem_of_getElem? (i := 18) rfl) (by decide)
theorem rn_6_0 {R : Nat → Nat → Option Nat} (hR : RfH R) (u : St) : (emb R u).2.2 6 0 = some 1 := rr_of hR u (List.mem_of_getElem? (i := 21) rfl) (by decide)
theorem rn_41_0 {R : Nat → Nat → Option Nat} (hR : RfH R) (u : St) : (emb R u).2.2 41 0 = some 1 := rr_of hR u (List.mem_of_getElem? (i := 55) rfl) (by decide)
theorem rn_41_1 {R : Nat → Nat → Option Nat} (hR : RfH R) (u : St) : (emb R u).2.2 41 1 = some 6 := rr_of hR u (List.mem_of_getElem? (i := 56) rfl) (by decide)
theorem rn_52_2 {R : Nat → Nat → Option Nat} (hR : RfH R) (u : St) : (emb R u).2.2 52 2 = some 53 := rr_of hR u (List.mem_of_getElem? (i := 66) rfl) (by decide)
theorem rn_52_3 {R : Nat → Nat → Option Nat} (hR : RfH R) (u : St) : (emb R u).2.2 52 3 = some 54 := rr_of hR u (List.mem_of_getElem? (i := 67) rfl) (by decide)
theorem rn_52_4 {R : Nat → Nat → Option Nat} (hR : RfH R) (u : St) : (emb R u).2.2 52 4 = some 55 := rr_of hR u (List.mem_of_getElem? (i := 68) rfl) (by decide)
theorem rn_52_5 {R : Nat → Nat → Option Nat} (hR : RfH R) (u : St) : (emb R u).2.2 52 5 = some 56 := rr_of hR u (List.mem_of_getElem? (i := 69) rfl) (by decide)
theorem rn_157_0 {R : Nat → Nat → Option Nat} (hR : RfH R) (u : St) : (emb R u).2.2 157 0 = some 158 := rr_of hR u (List.mem_of_getElem? (i := 170) rfl) (by decide)
theorem rn_157_1 {R : Nat → Nat → Option Nat} (hR : RfH R) (u : St) : (emb R u).2.2 157 1 = some 159 := rr_of hR u (List.mem_of_getElem? (i := 171) rfl) (by decide)
theorem rn_157_3 {R : Nat → Nat → Option Nat} (hR : RfH R) (u : St) : (emb R u).2.2 157 3 = some 160 := rr_of hR u (List.mem_of_getElem? (i := 172) rfl) (by decide)
theorem rn_161_1 {R : Nat → Nat → Option Nat} (hR : RfH R) (u : St) : (emb R u).2.2 161 1 = some 162 := rr_of hR u (List.mem_of_getElem? (i := 173) rfl) (by decide)
theorem rn_161_2 {R : Nat → Nat → Option Nat} (hR : RfH R) (u : St) : (emb R u).2.2 161 2 = some 163 := rr_of hR u (List.mem_of_getElem? (i := 174) rfl) (by decide)
theorem rn_175_0 {R : Nat → Nat → Option Nat} (hR : RfH R) (u : St) : (emb R u).2.2 175 0 = some 176 := rr_of hR u (List.mem_of_getElem? (i := 186) rfl) (by decide)
theorem rn_198_0 {R : Nat → Nat → Option Nat} (hR : RfH R) (u : St) : (emb R u).2.2 198 0 = some 199 := rr_of hR u (List.mem_of_getElem? (i := 202) rfl) (by decide)
theorem rn_198_9 {R : Nat → Nat → Option Nat} (hR : RfH R) (u : St) : (emb R u).2.2 198 9 = some 200 := rr_of hR u (List.mem_of_getElem? (i := 203) rfl) (by decide)
theorem rn_198_11 {R : Nat → Nat → Option Nat} (hR : RfH R) (u : St) : (emb R u).2.2 198 11 = some 201 := rr_of hR u (List.mem_of_getElem? (i := 204) rfl) (by decide)
theorem rn_198_12 {R : Nat → Nat → Option Nat} (hR : RfH R) (u : St) : (emb R u).2.2 198 12 = some 202 := rr_of hR u (List.mem_of_getElem? (i := 205) rfl) (by decide)
theorem rn_198_13 {R : Nat → Nat → Option Nat} (hR : RfH R) (u : St) : (emb R u).2.2 198 13 = some 203 := rr_of hR u (List.mem_of_getElem? (i := 206) rfl) (by decide)
theorem rn_198_14 {R : Nat → Nat → Option Nat} (hR : RfH R) (u : St) : (emb R u).2.2 198 14 = some 204 := rr_of hR u (List.mem_of_getElem? (i := 207) rfl) (by decide)
theorem rn_198_15 {R : Nat → Nat → Option Nat} (hR : RfH R) (u : St) : (emb R u).2.2 198 15 = some 205 := rr_of hR u (List.mem_of_getElem? (i := 208) rfl) (by decide)
theorem rn_198_16 {R : Nat → Nat → Option Nat} (hR : RfH R) (u : St) : (emb R u).2.2 198 16 = some 206 := rr_of hR u (List.mem_of_getElem? (i := 209) rfl) (by decide)
theorem rn_198_17 {R : Nat → Nat → Option Nat} (hR : RfH R) (u : St) : (emb R u).2.2 198 17 = some 207 := rr_of hR u (List.mem_of_getElem? (i := 210) rfl) (by decide)
theorem rn_198_18 {R : Nat → Nat → Option Nat} (hR : RfH R) (u : St) : (emb R u).2.2 198 18 = some 208 := rr_of hR u (List.mem_of_getElem? (i := 211) rfl) (by decide)
theorem rn_198_19 {R : Nat → Nat → Option Nat} (hR : RfH R) (u : St) : (emb R u).2.2 198 19 = some 209 := rr_of hR u (List.mem_of_getElem? (i := 212) rfl) (by decide)
theorem rn_198_20 {R : Nat → Nat → Option Nat} (hR : RfH R) (u : St) : (emb R u).2.2 198 20 = some 210 := rr_of hR u (List.mem_of_getElem? (i := 213) rfl) (by decide)
theorem rn_198_21 {R : Nat → Nat → Option Nat} (hR : RfH R) (u : St) : (emb R u).2.2 198 21 = some 211 := rr_of hR u (List.mem_of_getElem? (i := 214) rfl) (by decide)
theorem rn_198_22 {R : Nat → Nat → Option Nat} (hR : RfH R) (u : St) : (emb R u).2.2 198 22 = some 212 := rr_of hR u (List.mem_of_getElem? (i := 215) rfl) (by decide)
theorem rn_198_23 {R : Nat → Nat → Option Nat} (hR : RfH R) (u : St) : (emb R u).2.2 198 23 = some 213 := rr_of hR u (List.mem_of_getElem? (i := 216) rfl) (by decide)
theorem rn_198_24 {R : Nat → Nat → Option Nat} (hR : RfH R) (u : St) : (emb R u).2.2 198 24 = some 214 := rr_of hR u (List.mem_of_getElem? (i := 217) rfl) (by decide)
theorem rn_198_25 {R : Nat → Nat → Option Nat} (hR : RfH R) (u : St) : (emb R u).2.2 198 25 = some 215 := rr_of hR u (List.mem_of_getElem? (i := 218) rfl) (by decide)
theorem rn_198_26 {R : Nat → Nat → Option Nat} (hR : RfH R) (u : St) : (emb R u).2.2 198 26 = some 216 := rr_of hR u (List.mem_of_getElem? (i := 219) rfl) (by decide)
theorem rn_198_27 {R : Nat → Nat → Option Nat} (hR : RfH R) (u : St) : (emb R u).2.2 198 27 = some 217 := rr_of hR u (List.mem_of_getElem? (i := 220) rfl) (by decide)
theorem rn_198_28 {R : Nat → Nat → Option Nat} (hR : RfH R) (u : St) : (emb R u).2.2 198 28 = some 218 := rr_of hR u (List.mem_of_getElem? (i := 221) rfl) (by decide)
theorem rn_198_29 {R : Nat → Nat → Option Nat} (hR : RfH R) (u : St) : (emb R u).2.2 198 29 = some 219 := rr_of hR u (List.mem_of_getElem? (i := 222) rfl) (by decide)
theorem rn_198_30 {R : Nat → Nat → Option Nat} (hR : RfH R) (u : St) : (emb R u).2.2 198 30 = some 220 := rr_of hR u (List.mem_of_getElem? (i := 223) rfl) (by decide)
theorem rn_198_31 {R : Nat → Nat → Option Nat} (hR : RfH R) (u : St) : (emb R u).2.2 198 31 = some 221 := rr_of hR u (List.mem_of_getElem? (i := 224) rfl) (by decide)
theorem rn_198_32 {R : Nat → Nat → Option Nat} (hR : RfH R) (u : St) : (emb R u).2.2 198 32 = some 222 := rr_of hR u (List.mem_of_getElem? (i := 225) rfl) (by decide)
theorem rn_198_33 {R : Nat → Nat → Option Nat} (hR : RfH R) (u : St) : (emb R u).2.2 198 33 = some 223 := rr_of hR u (List.mem_of_getElem? (i := 226) rfl) (by decide)
theorem rn_198_34 {R : Nat → Nat → Option Nat} (hR : RfH R) (u : St) : (emb R u).2.2 198 34 = some 224 := rr_of hR u (List.mem_of_getElem? (i := 227) rfl) (by decide)
theorem rn_198_35 {R : Nat → Nat → Option Nat} (hR : RfH R) (u : St) : (emb R u).2.2 198 35 = some 225 := rr_of hR u (List.mem_of_getElem? (i := 228) rfl) (by decide)
theorem rn_198_36 {R : Nat → Nat → Option Nat} (hR : RfH R) (u : St) : (emb R u).2.2 198 36 = some 226 := rr_of hR u (List.mem_of_getElem? (i := 229) rfl) (by decide)
theorem rn_198_37 {R : Nat → Nat → Option Nat} (hR : RfH R) (u : St) : (emb R u).2.2 198 37 = some 227 := rr_of hR u (List.mem_of_getElem? (i := 230) rfl) (by decide)
theorem rn_198_38 {R : Nat → Nat → Option Nat} (hR : RfH R) (u : St) : (emb R u).2.2 198 38 = some 228 := rr_of hR u (List.mem_of_getElem? (i := 231) rfl) (by decide)
theorem rn_198_39 {R : Nat → Nat → Option Nat} (hR : RfH R) (u : St) : (emb R u).2.2 198 39 = some 229 := rr_of hR u (List.mem_of_getElem? (i := 232) rfl) (by decide)
theorem rn_198_40 {R : Nat → Nat → Option Nat} (hR : RfH R) (u : St) : (emb R u).2.2 198 40 = some 230 := rr_of hR u (List.mem_of_getElem? (i := 233) rfl) (by decide)
theorem rn_198_42 {R : Nat → Nat → Option Nat} (hR : RfH R) (u : St) : (emb R u).2.2 198 42 = some 231 := rr_of hR u (List.mem_of_getElem? (i := 234) rfl) (by decide)
theorem rn_198_45 {R : Nat → Nat → Option Nat} (hR : RfH R) (u : St) : (emb R u).2.2 198 45 = some 232 := rr_of hR u (List.mem_of_getElem? (i := 235) rfl) (by decide)
theorem rn_198_46 {R : Nat → Nat → Option Nat} (hR : RfH R) (u : St) : (emb R u).2.2 198 46 = some 233 := rr_of hR u (List.mem_of_getElem? (i := 236) rfl) (by decide)
theorem rn_198_47 {R : Nat → Nat → Option Nat} (hR : RfH R) (u : St) : (emb R u).2.2 198 47 = some 234 := rr_of hR u (List.mem_of_getElem? (i := 237) rfl) (by decide)
theorem rn_198_48 {R : Nat → Nat → Option Nat} (hR : RfH R) (u : St) : (emb R u).2.2 198 48 = some 235 := rr_of hR u (List.mem_of_getElem? (i := 238) rfl) (by decide)
theorem rn_198_49 {R : Nat → Nat → Option Nat} (hR : RfH R) (u : St) : (emb R u).2.2 198 49 = some 236 := rr_of hR u (List.mem_of_getElem? (i := 239) rfl) (by decide)
theorem rn_198_50 {R : Nat → Nat → Option Nat} (hR : RfH R) (u : St) : (emb R u).2.2 198 50 = some 237 := rr_of hR u (List.mem_of_getElem? (i := 240) rfl) (by decide)
theorem rn_198_51 {R : Nat → Nat → Option Nat} (hR : RfH R) (u : St) : (emb R u).2.2 198 51 = some 238 := rr_of hR u (List.mem_of_getElem? (i := 241) rfl) (by decide)
theorem rn_198_52 {R : Nat → Nat → Option Nat} (hR : RfH R) (u : St) : (emb R u).2.2 198 52 = some 239 := rr_of hR u (List.mem_of_getElem? (i := 242) rfl) (by decide)
theorem rn_198_53 {R : Nat → Nat → Option Nat} (hR : RfH R) (u : St) : (emb R u).2.2 198 53 = some 240 := rr_of hR u (List.mem_of_getElem? (i := 243) rfl) (by decide)
theorem rn_198_58 {R : Nat → Nat → Option Nat} (hR : RfH R) (u : St) : (emb R u).2.2 198 58 = some 241 := rr_of hR u (List.mem_of_getElem? (i := 244) rfl) (by decide)
theorem rn_198_63 {R : Nat → Nat → Option Nat} (hR : RfH R) (u : St) : (emb R u).2.2 198 63 = some 242 := rr_of hR u (List.mem_of_getElem? (i := 245) rfl) (by decide)
theorem rn_198_65 {R : Nat → Nat → Option Nat} (hR : RfH R) (u : St) : (emb R u).2.2 198 65 = some 243 := rr_of hR u (List.mem_of_getElem? (i := 246) rfl) (by decide)
theorem rn_198_66 {R : Nat → Nat → Option Nat} (hR : RfH R) (u : St) : (emb R u).2.2 198 66 = some 244 := rr_of hR u (List.mem_of_getElem? (i := 247) rfl) (by decide)
theorem rn_198_67 {R : Nat → Nat → Option Nat} (hR : RfH R) (u : St) : (emb R u).2.2 198 67 = some 245 := rr_of hR u (List.mem_of_getElem? (i := 248) rfl) (by decide)
theorem rn_198_68 {R : Nat → Nat → Option Nat} (hR : RfH R) (u : St) : (emb R u).2.2 198 68 = some 246 := rr_of hR u (List.mem_of_getElem? (i := 249) rfl) (by decide)
theorem rn_198_69 {R : Nat → Nat → Option Nat} (hR : RfH R) (u : St) : (emb R u).2.2 198 69 = some 247 := rr_of hR u (List.mem_of_getElem? (i := 250) rfl) (by decide)
theorem rn_198_70 {R : Nat → Nat → Option Nat} (hR : RfH R) (u : St) : (emb R u).2.2 198 70 = some 248 := rr_of hR u (List.mem_of_getElem? (i := 251) rfl) (by decide)
theorem rn_198_71 {R : Nat → Nat → Option Nat} (hR : RfH R) (u : St) : (emb R u).2.2 198 71 = some 249 := rr_of hR u (List.mem_of_getElem? (i := 252) rfl) (by decide)
theorem rn_198_72 {R : Nat → Nat → Option Nat} (hR : RfH R) (u : St) : (emb R u).2.2 198 72 = some 250 := rr_of hR u (List.mem_of_getElem? (i := 253) rfl) (by decide)
theorem rn_198_73 {R : Nat → Nat → Option Nat} (hR : RfH R) (u : St) : (emb R u).2.2 198 73 = some 251 := rr_of hR u (List.mem_of_getElem? (i := 254) rfl) (by decide)
theorem rn_198_75 {R : Nat → Nat → Option Nat} (hR : RfH R) (u : St) : (emb R u).2.2 198 75 = some 252 := rr_of hR u (List.mem_of_getElem? (i := 255) rfl) (by decide)
theorem rn_198_76 {R : Nat → Nat → Option Nat} (hR : RfH R) (u : St) : (emb R u).2.2 198 76 = some 253 := rr_of hR u (List.mem_of_getElem? (i := 256) rfl) (by decide)
theorem rn_198_77 {R : Nat → Nat → Option Nat} (hR : RfH R) (u : St) : (emb R u).2.2 198 77 = some 254 := rr_of hR u (List.mem_of_getElem? (i := 257) rfl) (by decide)
theorem rn_198_81 {R : Nat → Nat → Option Nat} (hR : RfH R) (u : St) : (emb R u).2.2 198 81 = some 255 := rr_of hR u (List.mem_of_getElem? (i := 258) rfl) (by decide)
theorem rn_198_82 {R : Nat → Nat → Option Nat} (hR : RfH R) (u : St) : (emb R u).2.2 198 82 = some 256 := rr_of hR u (List.mem_of_getElem? (i := 259) rfl) (by decide)
theorem rn_198_83 {R : Nat → Nat → Option Nat} (hR : RfH R) (u : St) : (emb R u).2.2 198 83 = some 257 := rr_of hR u (List.mem_of_getElem? (i := 260) rfl) (by decide)
theorem rn_198_84 {R : Nat → Nat → Option Nat} (hR : RfH R) (u : St) : (emb R u).2.2 198 84 = some 258 := rr_of hR u (List.mem_of_getElem? (i := 261) rfl) (by decide)
theorem rn_198_85 {R : Nat → Nat → Option Nat} (hR : RfH R) (u : St) : (emb R u).2.2 198 85 = some 259 := rr_of hR u (List.mem_of_getElem? (i := 262) rfl) (by decide)
theorem rn_198_86 {R : Nat → Nat → Option Nat} (hR : RfH R) (u : St) : (emb R u).2.2 198 86 = some 260 := rr_of hR u (List.mem_of_getElem? (i := 263) rfl) (by decide)
theorem rn_198_87 {R : Nat → Nat → Option Nat} (hR : RfH R) (u : St) : (emb R u).2.2 198 87 = some 261 := rr_of hR u (List.mem_of_getElem? (i := 264) rfl) (by decide)
theorem rn_198_88 {R : Nat → Nat → Option Nat} (hR : RfH R) (u : St) : (emb R u).2.2 198 88 = some 262 := rr_of hR u (List.mem_of_getElem? (i := 265) rfl) (by decide)
theorem rn_198_89 {R : Nat → Nat → Option Nat} (hR : RfH R) (u : St) : (emb R u).2.2 198 89 = some 263 := rr_of hR u (List.mem_of_getElem? (i := 266) rfl) (by decide)
theorem rn_198_90 {R : Nat → Nat → Option Nat} (hR : RfH R) (u : St) : (emb R u).2.2 198 90 = some 264 := rr_of hR u (List.mem_of_getElem? (i := 267) rfl) (by decide)
theorem rn_198_91 {R : Nat → Nat → Option Nat} (hR : RfH R) (u : St) : (emb R u).2.2 198 91 = some 265 := rr_of hR u (List.mem_of_getElem? (i := 268) rfl) (by decide)
theorem rn_198_92 {R : Nat → Nat → Option Nat} (hR : RfH R) (u : St) : (emb R u).2.2 198 92 = some 266 := rr_of hR u (List.mem_of_getElem? (i := 269) rfl) (by decide)
theorem rn_198_93 {R : Nat → Nat → Option Nat} (hR : RfH R) (u : St) : (emb R u).2.2 198 93 = some 267 := rr_of hR u (List.mem_of_getElem? (i := 270) rfl) (by decide)
theorem rn_198_94 {R : Nat → Nat → Option Nat} (hR : RfH R) (u : St) : (emb R u).2.2 198 94 = some 268 := rr_of hR u (List.mem_of_getElem? (i := 271) rfl) (by decide)
theorem rn_198_95 {R : Nat → Nat → Option Nat} (hR : RfH R) (u : St) : (emb R u).2.2 198 95 = some 269 := rr_of hR u (List.mem_of_getElem? (i := 272) rfl) (by decide)
theorem rn_198_96 {R : Nat → Nat → Option Nat} (hR : RfH R) (u : St) : (emb R u).2.2 198 96 = some 270 := rr_of hR u (List.mem_of_getElem? (i := 273) rfl) (by decide)
theorem rn_198_97 {R : Nat → Nat → Option Nat} (hR : RfH R) (u : St) : (emb R u).2.2 198 97 = some 271 := rr_of hR u (List.mem_of_getElem? (i := 274) rfl) (by decide)
theorem rn_198_98 {R : Nat → Nat → Option Nat} (hR : RfH R) (u : St) : (emb R u).2.2 198 98 = some 272 := rr_of hR u (List.mem_of_getElem? (i := 275) rfl) (by decide)
theorem rn_198_99 {R : Nat → Nat → Option Nat} (hR : RfH R) (u : St) : (emb R u).2.2 198 99 = some 273 := rr_of hR u (List.mem_of_getElem? (i := 276) rfl) (by decide)
theorem rn_198_100 {R : Nat → Nat → Option Nat} (hR : RfH R) (u : St) : (emb R u).2.2 198 100 = some 274 := rr_of hR u (List.mem_of_getElem? (i := 277) rfl) (by decide)
theorem rn_198_101 {R : Nat → Nat → Option Nat} (hR : RfH R) (u : St) : (emb R u).2.2 198 101 = some 275 := rr_of hR u (List.mem_of_getElem? (i := 278) rfl) (by decide)
theorem rn_198_102 {R : Nat → Nat → Option Nat} (hR : RfH R) (u : St) : (emb R u).2.2 198 102 = some 276 := rr_of hR u (List.mem_of_getElem? (i := 279) rfl) (by decide)
theorem rn_198_103 {R : Nat → Nat → Option Nat} (hR : RfH R) (u : St) : (emb R u).2.2 198 103 = some 277 := rr_of hR u (List.mem_of_getElem? (i := 280) rfl) (by decide)
theorem rn_198_104 {R : Nat → Nat → Option Nat} (hR : RfH R) (u : St) : (emb R u).2.2 198 104 = some 278 := rr_of hR u (List.mem_of_getElem? (i := 281) rfl) (by decide)
theorem rn_198_105 {R : Nat → Nat → Option Nat} (hR : RfH R) (u : St) : (emb R u).2.2 198 105 = some 279 := rr_of hR u (List.mem_of_getElem? (i := 282) rfl) (by decide)
theorem rn_198_106 {R : Nat → Nat → Option Nat} (hR : RfH R) (u : St) : (emb R u).2.2 198 106 = some 280 := rr_of hR u (List.mem_of_getElem? (i := 283) rfl) (by decide)
theorem rn_198_107 {R : Nat → Nat → Option Nat} (hR : RfH R) (u : St) : (emb R u).2.2 198 107 = some 281 := rr_of hR u (List.mem_of_getElem? (i := 284) rfl) (by decide)
theorem rn_198_108 {R : Nat → Nat → Option Nat} (hR : RfH R) (u : St) : (emb R u).2.2 198 108 = some 282 := rr_of hR u (List.mem_of_getElem? (i := 285) rfl) (by decide)
theorem rn_198_110 {R : Nat → Nat → Option Nat} (hR : RfH R) (u : St) : (emb R u).2.2 198 110 = some 283 := rr_of hR u (List.mem_of_getElem? (i := 286) rfl) (by decide)
theorem rn_198_114 {R : Nat → Nat → Option Nat} (hR : RfH R) (u : St) : (emb R u).2.2 198 114 = some 284 := rr_of hR u (List.mem_of_getElem? (i := 287) rfl) (by decide)
theorem rn_198_118 {R : Nat → Nat → Option Nat} (hR : RfH R) (u : St) : (emb R u).2.2 198 118 = some 285 := rr_of hR u (List.mem_of_getElem? (i := 288) rfl) (by decide)
set_option maxHeartbeats 4000000 in
set_option maxRecDepth 100000 in
theorem wy_ : ∀ j, j < 5 → (164, j, 178 + 4 * j) ∈ R0L ∧ SH[178 + 4 * j]? = some (10, 7) := by decide +kernel
set_option maxHeartbeats 4000000 in
set_option maxRecDepth 100000 in
theorem ld_ : ∀ j, j < 20 → (53, j, 57 + 5 * j) ∈ R0L ∧ SH[57 + 5 * j]? = some (1, 6) := by decide +kernel
theorem rw_104 {R : Nat → Nat → Option Nat} (hR : RfH R) (u : St) {i : Int32} (h : vp_in i 5) : (emb R u).2.2 164 i.toNatClampNeg = some (178 + 4 * i.toNatClampNeg) := rr_of hR u (wy_ _ (Nat.not_le.mp fun q => h (Or.inr q))).1 (by omega)
theorem rw_105 {R : Nat → Nat → Option Nat} (hR : RfH R) (u : St) {i : Int32} (h : vp_in i 20) : (emb R u).2.2 53 i.toNatClampNeg = some (57 + 5 * i.toNatClampNeg) := rr_of hR u (ld_ _ (Nat.not_le.mp fun q => h (Or.inr q))).1 (by omega)
theorem ow_104 {i : Int32} (h : vp_in i 5) : Ob SH (178 + 4 * i.toNatClampNeg) 10 := ob_i (wy_ _ (Nat.not_le.mp fun q => h (Or.inr q))).2 (by decide)
theorem ow_105 {i : Int32} (h : vp_in i 20) : Ob SH (57 + 5 * i.toNatClampNeg) 1 := ob_i (ld_ _ (Nat.not_le.mp fun q => h (Or.inr q))).2 (by decide)
