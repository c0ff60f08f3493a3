/-! ===== the formulas: first words ===== -/
theorem bnd_i {α : Type} {x : α} {P : α → Prop} (h : P x) : bnd x P := h
theorem ob_i {sh : Shp} {a c n : Nat} (h : sh[a]? = some (c, n)) (hc : c < 100) : Ob sh a c := ⟨⟨n, h⟩, hc⟩
theorem ix_i {sh : Shp} {a k n : Nat} {i : Int32} (h : sh[a]? = some (k, n)) (hi : vp_in i n) : Ix sh a k i := ⟨n, h, hi⟩
theorem ix_n {sh : Shp} {a k n j : Nat} (h : sh[a]? = some (k, n)) (hj : j < n) (hn : n < 2 ^ 31) : Ix sh a k (nI j) := ⟨n, h, vp_in_nI hj hn⟩
theorem sI_1 (m : Mem) (a k : Nat) (v : Int32) (a' k' : Nat) : (sI m a k v).1 a' k' = if a' = a ∧ k' = k then v else m.1 a' k' := rfl
theorem sI_2 (m : Mem) (a k : Nat) (v : Int32) : (sI m a k v).2 = m.2 := rfl
theorem sL_1 (m : Mem) (a k : Nat) (v : Int64) : (sL m a k v).1 = m.1 := rfl
theorem sL_2 (m : Mem) (a k : Nat) (v : Int64) (a' k' : Nat) : (sL m a k v).2.1 a' k' = if a' = a ∧ k' = k then v else m.2.1 a' k' := rfl
theorem sL_3 (m : Mem) (a k : Nat) (v : Int64) : (sL m a k v).2.2 = m.2.2 := rfl
theorem sR_1 (m : Mem) (a k : Nat) (v : Option Nat) : (sR m a k v).1 = m.1 := rfl
theorem sR_2 (m : Mem) (a k : Nat) (v : Option Nat) : (sR m a k v).2.1 = m.2.1 := rfl
theorem sR_3 (m : Mem) (a k : Nat) (v : Option Nat) (a' k' : Nat) : (sR m a k v).2.2 a' k' = if a' = a ∧ k' = k then v else m.2.2 a' k' := rfl
/-- a loop that counts up to N by one: at each count either it ends or it goes on -/
theorem for_up {σ : Type} (W : Nat → Int32 → σ → Prop) (N : Nat) (I : Nat → σ → Prop) (hs : ∀ n i s, i ≤ N → I i s → (i < N → ∀ s', I (i + 1) s' → W n (nI (i + 1)) s') → W (n + 1) (nI i) s) : ∀ i s, i ≤ N → I i s → ∃ n, W n (nI i) s := by
  have key : ∀ d i s, i ≤ N → N - i = d → I i s → W (d + 1) (nI i) s := by
    intro d
    induction d with
    | zero => exact fun i s hi hd h => hs 0 i s hi h (fun h2 => absurd h2 (by omega))
    | succ d ih => exact fun i s hi hd h => hs (d + 1) i s hi h (fun h2 s' h3 => ih (i + 1) s' (by omega) (by omega) h3)
  exact fun i s hi h => ⟨_, key (N - i) i s hi rfl h⟩
/-- an array (or its first n places) filled with one number -/
def fillI (m : Mem) (a n : Nat) (x : Int32) : Mem := (fun a' k' => if a' = a ∧ k' < n then x else m.1 a' k', m.2)
theorem fillI_0 (m : Mem) (a : Nat) (x : Int32) : fillI m a 0 x = m := by simp [fillI]
theorem fillI_s (m : Mem) (a n : Nat) (x : Int32) : sI (fillI m a n x) a n x = fillI m a (n + 1) x := by
  simp only [sI, fillI]
  congr 1
  funext a' k'
  by_cases h : a' = a
  · by_cases h2 : k' = n
    · simp [h, h2]
    · by_cases h3 : k' < n
      · have h4 : k' < n + 1 := by omega
        simp [h, h2, h3, h4]
      · have h4 : ¬ k' < n + 1 := by omega
        simp [h, h2, h3, h4]
  · simp [h]
theorem s_fill {sh : Shp} {a n : Nat} {x : Int32} {Q : Mem → Prop} {m : Mem} (h : sh[a]? = some (100, n)) (hn : n < 2 ^ 31) (hQ : Q (fillI m a n x)) : wp_J7_fill_53178 sh a x Q m := by
  refine ⟨n, h, ?_⟩
  refine for_up (J7_fill_53178_p5n sh a x (nI n) Q) n (fun i m' => m' = fillI m a i x) ?_ 0 m (Nat.zero_le _) (fillI_0 m a x).symm
  rintro k i m' hi rfl hK
  unfold J7_fill_53178_p5n J7_fill_53178_p5b
  by_cases hc : i = n
  · subst hc
    rw [if_pos (nI_le (Nat.le_refl _) hn)]
    exact hQ
  · have hlt : i < n := by omega
    rw [if_neg (nI_ge hlt hn)]
    refine ⟨ix_n h hlt hn, bnd_i ?_⟩
    rw [nI_1, nI_clamp (by omega)]
    exact hK hlt _ (fillI_s m a i x)
