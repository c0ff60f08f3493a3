/-! ===== String constants: length, charAt (by hand) ===== -/
theorem nar_c {w : Nat} (hw : w < 19) (i : Int32) : ((sch w i &&& (255 : Int32)).toUInt32 % 65536).toInt32 = sch w i ∧ narrow .char (.int (sch w i)) = .int (sch w i) := by
  have key : ∀ l ∈ sbyt, ∀ x ∈ l, ((x &&& (255 : Int32)).toUInt32 % 65536).toInt32 = x ∧ narrow .char (.int x) = .int x := by decide +kernel
  have k0 : (((0 : Int32) &&& (255 : Int32)).toUInt32 % 65536).toInt32 = 0 ∧ narrow .char (.int 0) = .int 0 := by decide +kernel
  unfold sch
  by_cases h : i.toNatClampNeg < (sbyt.getD w []).length
  · have h2 : w < sbyt.length := hw
    have e1 : (sbyt.getD w []).getD i.toNatClampNeg 0 = (sbyt.getD w [])[i.toNatClampNeg] := by
      rw [List.getD_eq_getElem?_getD (l := sbyt.getD w []), List.getElem?_eq_getElem h]
      rfl
    have e2 : sbyt.getD w [] = sbyt[w] := by
      rw [List.getD_eq_getElem?_getD, List.getElem?_eq_getElem h2]
      rfl
    rw [e1]
    exact key (sbyt.getD w []) (by rw [e2]; exact List.getElem_mem h2) _ (List.getElem_mem h)
  · have e1 : (sbyt.getD w []).getD i.toNatClampNeg 0 = 0 := by
      rw [List.getD_eq_getElem?_getD (l := sbyt.getD w []), List.getElem?_eq_none (by omega)]
      rfl
    rw [e1]
    exact k0
theorem dJ0_charAt_5068e_0 : decode cJ0_charAt_5068e 0 = .ok (.aload_n 0, 1) := by decide +kernel
theorem dJ0_charAt_5068e_1 : decode cJ0_charAt_5068e 1 = .ok (.invokevirtual 492, 3) := by decide +kernel
theorem dJ0_charAt_5068e_4 : decode cJ0_charAt_5068e 4 = .ok (.ifCond .eq 12, 3) := by decide +kernel
theorem dJ0_charAt_5068e_7 : decode cJ0_charAt_5068e 7 = .ok (.aload_n 0, 1) := by decide +kernel
theorem dJ0_charAt_5068e_8 : decode cJ0_charAt_5068e 8 = .ok (.getfield 9, 3) := by decide +kernel
theorem dJ0_charAt_5068e_11 : decode cJ0_charAt_5068e 11 = .ok (.iload_n 1, 1) := by decide +kernel
theorem dJ0_charAt_5068e_12 : decode cJ0_charAt_5068e 12 = .ok (.invokestatic 495, 3) := by decide +kernel
theorem dJ0_charAt_5068e_15 : decode cJ0_charAt_5068e 15 = .ok (.ireturn, 1) := by decide +kernel
theorem dJ0_charAt_5068e_16 : decode cJ0_charAt_5068e 16 = .ok (.aload_n 0, 1) := by decide +kernel
theorem dJ0_charAt_5068e_17 : decode cJ0_charAt_5068e 17 = .ok (.getfield 9, 3) := by decide +kernel
theorem dJ0_charAt_5068e_20 : decode cJ0_charAt_5068e 20 = .ok (.iload_n 1, 1) := by decide +kernel
theorem dJ0_charAt_5068e_21 : decode cJ0_charAt_5068e 21 = .ok (.invokestatic 498, 3) := by decide +kernel
theorem dJ0_charAt_5068e_24 : decode cJ0_charAt_5068e 24 = .ok (.ireturn, 1) := by decide +kernel
theorem dJ0_checkIndex_df160_0 : decode cJ0_checkIndex_df160 0 = .ok (.iload_n 0, 1) := by decide +kernel
theorem dJ0_checkIndex_df160_1 : decode cJ0_checkIndex_df160 1 = .ok (.iload_n 1, 1) := by decide +kernel
theorem dJ0_checkIndex_df160_2 : decode cJ0_checkIndex_df160 2 = .ok (.getstatic 1053, 3) := by decide +kernel
theorem dJ0_checkIndex_df160_5 : decode cJ0_checkIndex_df160 5 = .ok (.invokestatic 1059, 3) := by decide +kernel
theorem dJ0_checkIndex_df160_8 : decode cJ0_checkIndex_df160 8 = .ok (.pop, 1) := by decide +kernel
theorem dJ0_checkIndex_df160_9 : decode cJ0_checkIndex_df160 9 = .ok (.return_, 1) := by decide +kernel
theorem dJ0_coder_7d493_0 : decode cJ0_coder_7d493 0 = .ok (.getstatic 38, 3) := by decide +kernel
theorem dJ0_coder_7d493_3 : decode cJ0_coder_7d493 3 = .ok (.ifCond .eq 10, 3) := by decide +kernel
theorem dJ0_coder_7d493_6 : decode cJ0_coder_7d493 6 = .ok (.aload_n 0, 1) := by decide +kernel
theorem dJ0_coder_7d493_7 : decode cJ0_coder_7d493 7 = .ok (.getfield 15, 3) := by decide +kernel
theorem dJ0_coder_7d493_10 : decode cJ0_coder_7d493 10 = .ok (.goto 4, 3) := by decide +kernel
theorem dJ0_coder_7d493_13 : decode cJ0_coder_7d493 13 = .ok (.iconst 1, 1) := by decide +kernel
theorem dJ0_coder_7d493_14 : decode cJ0_coder_7d493 14 = .ok (.ireturn, 1) := by decide +kernel
theorem dJ0_isLatin1_aae02_0 : decode cJ0_isLatin1_aae02 0 = .ok (.getstatic 38, 3) := by decide +kernel
theorem dJ0_isLatin1_aae02_3 : decode cJ0_isLatin1_aae02 3 = .ok (.ifCond .eq 14, 3) := by decide +kernel
theorem dJ0_isLatin1_aae02_6 : decode cJ0_isLatin1_aae02 6 = .ok (.aload_n 0, 1) := by decide +kernel
theorem dJ0_isLatin1_aae02_7 : decode cJ0_isLatin1_aae02 7 = .ok (.getfield 15, 3) := by decide +kernel
theorem dJ0_isLatin1_aae02_10 : decode cJ0_isLatin1_aae02 10 = .ok (.ifCond .ne 7, 3) := by decide +kernel
theorem dJ0_isLatin1_aae02_13 : decode cJ0_isLatin1_aae02 13 = .ok (.iconst 1, 1) := by decide +kernel
theorem dJ0_isLatin1_aae02_14 : decode cJ0_isLatin1_aae02 14 = .ok (.goto 4, 3) := by decide +kernel
theorem dJ0_isLatin1_aae02_17 : decode cJ0_isLatin1_aae02 17 = .ok (.iconst 0, 1) := by decide +kernel
theorem dJ0_isLatin1_aae02_18 : decode cJ0_isLatin1_aae02 18 = .ok (.ireturn, 1) := by decide +kernel
theorem dJ0_length_8abf5_0 : decode cJ0_length_8abf5 0 = .ok (.aload_n 0, 1) := by decide +kernel
theorem dJ0_length_8abf5_1 : decode cJ0_length_8abf5 1 = .ok (.getfield 9, 3) := by decide +kernel
theorem dJ0_length_8abf5_4 : decode cJ0_length_8abf5 4 = .ok (.arraylength, 1) := by decide +kernel
theorem dJ0_length_8abf5_5 : decode cJ0_length_8abf5 5 = .ok (.aload_n 0, 1) := by decide +kernel
theorem dJ0_length_8abf5_6 : decode cJ0_length_8abf5 6 = .ok (.invokevirtual 335, 3) := by decide +kernel
theorem dJ0_length_8abf5_9 : decode cJ0_length_8abf5 9 = .ok (.ishr, 1) := by decide +kernel
theorem dJ0_length_8abf5_10 : decode cJ0_length_8abf5 10 = .ok (.ireturn, 1) := by decide +kernel
theorem dJ1_charAt_3b067_0 : decode cJ1_charAt_3b067 0 = .ok (.iload_n 1, 1) := by decide +kernel
theorem dJ1_charAt_3b067_1 : decode cJ1_charAt_3b067 1 = .ok (.aload_n 0, 1) := by decide +kernel
theorem dJ1_charAt_3b067_2 : decode cJ1_charAt_3b067 2 = .ok (.arraylength, 1) := by decide +kernel
theorem dJ1_charAt_3b067_3 : decode cJ1_charAt_3b067 3 = .ok (.invokestatic 9, 3) := by decide +kernel
theorem dJ1_charAt_3b067_6 : decode cJ1_charAt_3b067 6 = .ok (.aload_n 0, 1) := by decide +kernel
theorem dJ1_charAt_3b067_7 : decode cJ1_charAt_3b067 7 = .ok (.iload_n 1, 1) := by decide +kernel
theorem dJ1_charAt_3b067_8 : decode cJ1_charAt_3b067 8 = .ok (.baload, 1) := by decide +kernel
theorem dJ1_charAt_3b067_9 : decode cJ1_charAt_3b067 9 = .ok (.sipush 255, 3) := by decide +kernel
theorem dJ1_charAt_3b067_12 : decode cJ1_charAt_3b067 12 = .ok (.iand, 1) := by decide +kernel
theorem dJ1_charAt_3b067_13 : decode cJ1_charAt_3b067 13 = .ok (.i2c, 1) := by decide +kernel
theorem dJ1_charAt_3b067_14 : decode cJ1_charAt_3b067 14 = .ok (.ireturn, 1) := by decide +kernel
theorem dJ3_checkIndex_8e157_0 : decode cJ3_checkIndex_8e157 0 = .ok (.iload_n 0, 1) := by decide +kernel
theorem dJ3_checkIndex_8e157_1 : decode cJ3_checkIndex_8e157 1 = .ok (.ifCond .lt 8, 3) := by decide +kernel
theorem dJ3_checkIndex_8e157_4 : decode cJ3_checkIndex_8e157 4 = .ok (.iload_n 0, 1) := by decide +kernel
theorem dJ3_checkIndex_8e157_5 : decode cJ3_checkIndex_8e157 5 = .ok (.iload_n 1, 1) := by decide +kernel
theorem dJ3_checkIndex_8e157_6 : decode cJ3_checkIndex_8e157 6 = .ok (.if_icmp .lt 10, 3) := by decide +kernel
theorem dJ3_checkIndex_8e157_9 : decode cJ3_checkIndex_8e157 9 = .ok (.aload_n 2, 1) := by decide +kernel
theorem dJ3_checkIndex_8e157_10 : decode cJ3_checkIndex_8e157 10 = .ok (.iload_n 0, 1) := by decide +kernel
theorem dJ3_checkIndex_8e157_11 : decode cJ3_checkIndex_8e157 11 = .ok (.iload_n 1, 1) := by decide +kernel
theorem dJ3_checkIndex_8e157_12 : decode cJ3_checkIndex_8e157 12 = .ok (.invokestatic 95, 3) := by decide +kernel
theorem dJ3_checkIndex_8e157_15 : decode cJ3_checkIndex_8e157 15 = .ok (.athrow, 1) := by decide +kernel
theorem dJ3_checkIndex_8e157_16 : decode cJ3_checkIndex_8e157 16 = .ok (.iload_n 0, 1) := by decide +kernel
theorem dJ3_checkIndex_8e157_17 : decode cJ3_checkIndex_8e157 17 = .ok (.ireturn, 1) := by decide +kernel
theorem c_J3_checkIndex_8e157 {l : Launch} {G : Gl} {sh : Shp} {i n : Int32} {v : Value} (hv : v = .null ∨ ∃ t, v = .ref t) (h0 : ¬ i < 0) (h1 : i < n) {m : Mem} {Q : Int32 → Mem → Prop} (h : Q i m) : Cni l G yJ3_checkIndex_8e157 cJ3_checkIndex_8e157 3 (some .int) 1 60 sh [.int i, .int n, v] m Q := by
  have key : ∀ F : Fr, V G F (cJ3_checkIndex_8e157, 3, RJ3, some .int, "checkIndex", 1, 60, 0, 0) sh 0 0 (Zi G F sh Q) 0 [(0, .int i), (1, .int n)] [] m := by
    intro F
    refine v_iload_n 0 0 dJ3_checkIndex_8e157_0 rfl rfl ?_
    refine v_if_lt 9 dJ3_checkIndex_8e157_1 (by decide) (fun hc => absurd hc h0) (fun hc => ?_)
    refine v_iload_n 0 0 dJ3_checkIndex_8e157_4 rfl rfl ?_
    refine v_iload_n 1 1 dJ3_checkIndex_8e157_5 rfl rfl ?_
    refine v_icmp_lt 16 dJ3_checkIndex_8e157_6 (by decide) (fun hc => ?_) (fun hc => absurd h1 hc)
    refine v_iload_n 0 0 dJ3_checkIndex_8e157_16 rfl rfl ?_
    exact v_iret dJ3_checkIndex_8e157_17 rfl rfl h
  rcases hv with rfl | ⟨t, rfl⟩
  · exact con_i (ls := [(0, .int i), (1, .int n), (2, .null)]) (by decide +kernel) rfl (Nat.le_of_ble_eq_true rfl) (fun F => v_sub [0, 1] rfl (key F))
  · exact con_i (ls := [(0, .int i), (1, .int n), (2, .ref t)]) (by decide +kernel) rfl (Nat.le_of_ble_eq_true rfl) (fun F => v_sub [0, 1] rfl (key F))
theorem c_J0_checkIndex_df160 {l : Launch} {G : Gl} {sh : Shp} {i n : Int32} (h0 : ¬ i < 0) (h1 : i < n) {m : Mem} {Q : Mem → Prop} (h : Q m) : Cnv l G yJ0_checkIndex_df160 cJ0_checkIndex_df160 2 none 2 90 sh [.int i, .int n] m Q := by
  refine con_v (ls := [(0, .int i), (1, .int n)]) (by decide +kernel) rfl (Nat.le_of_ble_eq_true rfl) (fun F => ?_)
  show V G F (cJ0_checkIndex_df160, 2, RJ0, none, "checkIndex", 2, 90, 0, 0) sh 0 0 (Zv G F sh Q) 0 [(0, .int i), (1, .int n)] [] m
  refine v_iload_n 0 0 dJ0_checkIndex_df160_0 rfl rfl ?_
  refine v_iload_n 1 1 dJ0_checkIndex_df160_1 rfl rfl ?_
  refine v_getsQ sl_1053 dJ0_checkIndex_df160_2 (fun v hv => ?_)
  refine v_cSi [.int i, .int n, v] mv_J3_checkIndex_8e157 ml_RJ0_1059 rfl rfl (Nat.le_of_ble_eq_true rfl) (Nat.le_of_ble_eq_true rfl) (Nat.le_of_ble_eq_true rfl) (Nat.zero_le _) (Nat.zero_le _) dJ0_checkIndex_df160_5 (c_J3_checkIndex_8e157 (Q := fun _ m' => Q m') hv h0 h1 h) (fun r m1 h => ?_)
  refine v_pop dJ0_checkIndex_df160_8 rfl ?_
  exact v_vret dJ0_checkIndex_df160_9 rfl h
theorem c_J1_charAt_3b067 {l : Launch} {G : Gl} {sh : Shp} {w : Nat} {i : Int32} (hw : w < 19) (hi : vp_in i (slen.getD w 0)) {m : Mem} {Q : Int32 → Mem → Prop} (h : Q (sch w i) m) : Cni l G yJ1_charAt_3b067 cJ1_charAt_3b067 2 (some .char) 3 120 sh [.ref (G.2.2.2.2.1 w), .int i] m Q := by
  refine con_i (ls := [(0, .ref (G.2.2.2.2.1 w)), (1, .int i)]) (by decide +kernel) rfl (Nat.le_of_ble_eq_true rfl) (fun F => ?_)
  show V G F (cJ1_charAt_3b067, 2, RJ1, some .char, "charAt", 3, 120, 0, 0) sh 0 0 (Zi G F sh Q) 0 [(0, .ref (G.2.2.2.2.1 w)), (1, .int i)] [] m
  have hb : slen.getD w 0 < 2 ^ 31 := by
    have : ∀ w, w < 19 → slen.getD w 0 < 2 ^ 31 := by decide +kernel
    exact this w hw
  have h0 : ¬ i < 0 := fun q => hi (Or.inl q)
  have h1 : i < nI (slen.getD w 0) := by
    obtain ⟨j, hj, rfl⟩ := vp_in_of hi hb
    exact nI_lt hj hb
  refine v_iload_n 1 1 dJ1_charAt_3b067_0 rfl rfl ?_
  refine v_aload_n 0 0 dJ1_charAt_3b067_1 rfl rfl ?_
  refine v_slen hw dJ1_charAt_3b067_2 ?_
  refine v_cSv [.int i, .int (nI (slen.getD w 0))] mv_J0_checkIndex_df160 ml_RJ1_9 rfl rfl (Nat.le_of_ble_eq_true rfl) (Nat.le_of_ble_eq_true rfl) (Nat.le_of_ble_eq_true rfl) (Nat.zero_le _) (Nat.zero_le _) dJ1_charAt_3b067_3 (c_J0_checkIndex_df160 (Q := fun m' => m' = m) h0 h1 rfl) (fun m1 e => ?_)
  subst e
  refine v_aload_n 0 0 dJ1_charAt_3b067_6 rfl rfl ?_
  refine v_iload_n 1 1 dJ1_charAt_3b067_7 rfl rfl ?_
  refine v_sbald hw hi dJ1_charAt_3b067_8 ?_
  refine v_sipush (255 : Int32) dJ1_charAt_3b067_9 (by decide) ?_
  refine v_iand dJ1_charAt_3b067_12 ?_
  refine v_i2c dJ1_charAt_3b067_13 ?_
  rw [(nar_c hw i).1]
  exact v_iret dJ1_charAt_3b067_14 rfl (nar_c hw i).2 h
theorem c_J0_isLatin1_aae02 {l : Launch} {G : Gl} {sh : Shp} {w : Nat} (hw : w < 19) {m : Mem} {Q : Int32 → Mem → Prop} (h : Q 1 m) : Cni l G yJ0_isLatin1_aae02 cJ0_isLatin1_aae02 1 (some .boolean) 1 60 sh [.ref (G.2.2.2.1 w)] m Q := by
  refine con_i (ls := [(0, .ref (G.2.2.2.1 w))]) (by decide +kernel) rfl (Nat.le_of_ble_eq_true rfl) (fun F => ?_)
  show V G F (cJ0_isLatin1_aae02, 1, RJ0, some .boolean, "isLatin1", 1, 60, 0, 0) sh 0 0 (Zi G F sh Q) 0 [(0, .ref (G.2.2.2.1 w))] [] m
  refine v_getsZ sl_38 dJ0_isLatin1_aae02_0 ?_
  refine v_if_eq 17 dJ0_isLatin1_aae02_3 (by decide) (fun hc => absurd hc (by decide)) (fun hc => ?_)
  refine v_aload_n 0 0 dJ0_isLatin1_aae02_6 rfl rfl ?_
  refine v_scod hw sl_15 dJ0_isLatin1_aae02_7 ?_
  refine v_if_ne 17 dJ0_isLatin1_aae02_10 (by decide) (fun hc => absurd rfl hc) (fun hc => ?_)
  refine v_iconst (1 : Int32) dJ0_isLatin1_aae02_13 (by decide) ?_
  refine v_goto 18 dJ0_isLatin1_aae02_14 (by decide) ?_
  exact v_iret dJ0_isLatin1_aae02_18 rfl (by decide) h
theorem c_J0_coder_7d493 {l : Launch} {G : Gl} {sh : Shp} {w : Nat} (hw : w < 19) {m : Mem} {Q : Int32 → Mem → Prop} (h : Q 0 m) : Cni l G yJ0_coder_7d493 cJ0_coder_7d493 1 (some .byte) 1 60 sh [.ref (G.2.2.2.1 w)] m Q := by
  refine con_i (ls := [(0, .ref (G.2.2.2.1 w))]) (by decide +kernel) rfl (Nat.le_of_ble_eq_true rfl) (fun F => ?_)
  show V G F (cJ0_coder_7d493, 1, RJ0, some .byte, "coder", 1, 60, 0, 0) sh 0 0 (Zi G F sh Q) 0 [(0, .ref (G.2.2.2.1 w))] [] m
  refine v_getsZ sl_38 dJ0_coder_7d493_0 ?_
  refine v_if_eq 13 dJ0_coder_7d493_3 (by decide) (fun hc => absurd hc (by decide)) (fun hc => ?_)
  refine v_aload_n 0 0 dJ0_coder_7d493_6 rfl rfl ?_
  refine v_scod hw sl_15 dJ0_coder_7d493_7 ?_
  refine v_goto 14 dJ0_coder_7d493_10 (by decide) ?_
  exact v_iret dJ0_coder_7d493_14 rfl (by decide) h
theorem c_J0_length_8abf5 {l : Launch} {G : Gl} {sh : Shp} {w : Nat} (hw : w < 19) {m : Mem} {Q : Int32 → Mem → Prop} (h : Q (nI (slen.getD w 0)) m) : Cni l G yJ0_length_8abf5 cJ0_length_8abf5 1 (some .int) 8 300 sh [.ref (G.2.2.2.1 w)] m Q := by
  refine con_i (ls := [(0, .ref (G.2.2.2.1 w))]) (by decide +kernel) rfl (Nat.le_of_ble_eq_true rfl) (fun F => ?_)
  show V G F (cJ0_length_8abf5, 1, RJ0, some .int, "length", 8, 300, 0, 0) sh 0 0 (Zi G F sh Q) 0 [(0, .ref (G.2.2.2.1 w))] [] m
  refine v_aload_n 0 0 dJ0_length_8abf5_0 rfl rfl ?_
  refine v_sval hw sl_9 dJ0_length_8abf5_1 ?_
  refine v_slen hw dJ0_length_8abf5_4 ?_
  refine v_aload_n 0 0 dJ0_length_8abf5_5 rfl rfl ?_
  refine v_cSt [] hw rfl mv_J0_coder_7d493 ml_RJ0_335 rfl rfl (Nat.le_of_ble_eq_true rfl) (Nat.le_of_ble_eq_true rfl) (Nat.le_of_ble_eq_true rfl) (Nat.zero_le _) (Nat.zero_le _) dJ0_length_8abf5_6 (c_J0_coder_7d493 (Q := fun r m' => r = 0 ∧ m' = m) hw ⟨rfl, rfl⟩) (fun r m1 e => ?_)
  obtain ⟨rfl, rfl⟩ := e
  refine v_ishr dJ0_length_8abf5_9 ?_
  rw [sb_shr0]
  exact v_iret dJ0_length_8abf5_10 rfl rfl h
theorem c_J0_charAt_5068e {l : Launch} {G : Gl} {sh : Shp} {w : Nat} {i : Int32} (hw : w < 19) (hi : vp_in i (slen.getD w 0)) {m : Mem} {Q : Int32 → Mem → Prop} (h : Q (sch w i) m) : Cni l G yJ0_charAt_5068e cJ0_charAt_5068e 2 (some .char) 8 300 sh [.ref (G.2.2.2.1 w), .int i] m Q := by
  refine con_i (ls := [(0, .ref (G.2.2.2.1 w)), (1, .int i)]) (by decide +kernel) rfl (Nat.le_of_ble_eq_true rfl) (fun F => ?_)
  show V G F (cJ0_charAt_5068e, 2, RJ0, some .char, "charAt", 8, 300, 0, 0) sh 0 0 (Zi G F sh Q) 0 [(0, .ref (G.2.2.2.1 w)), (1, .int i)] [] m
  refine v_aload_n 0 0 dJ0_charAt_5068e_0 rfl rfl ?_
  refine v_cSt [] hw rfl mv_J0_isLatin1_aae02 ml_RJ0_492 rfl rfl (Nat.le_of_ble_eq_true rfl) (Nat.le_of_ble_eq_true rfl) (Nat.le_of_ble_eq_true rfl) (Nat.zero_le _) (Nat.zero_le _) dJ0_charAt_5068e_1 (c_J0_isLatin1_aae02 (Q := fun r m' => r = 1 ∧ m' = m) hw ⟨rfl, rfl⟩) (fun r m1 e => ?_)
  obtain ⟨rfl, rfl⟩ := e
  refine v_if_eq 16 dJ0_charAt_5068e_4 (by decide) (fun hc => absurd hc (by decide)) (fun hc => ?_)
  refine v_aload_n 0 0 dJ0_charAt_5068e_7 rfl rfl ?_
  refine v_sval hw sl_9 dJ0_charAt_5068e_8 ?_
  refine v_iload_n 1 1 dJ0_charAt_5068e_11 rfl rfl ?_
  refine v_cSi [.ref (G.2.2.2.2.1 w), .int i] mv_J1_charAt_3b067 ml_RJ0_495 rfl rfl (Nat.le_of_ble_eq_true rfl) (Nat.le_of_ble_eq_true rfl) (Nat.le_of_ble_eq_true rfl) (Nat.zero_le _) (Nat.zero_le _) dJ0_charAt_5068e_12 (c_J1_charAt_3b067 (Q := fun r m' => r = sch w i ∧ m' = m1) hw hi ⟨rfl, rfl⟩) (fun r m2 e => ?_)
  obtain ⟨rfl, rfl⟩ := e
  exact v_iret dJ0_charAt_5068e_15 rfl (nar_c hw i).2 h
section Rows
variable {G : Gl} {F : Fr} {M : Mi} {sh : Shp} {nc ns : Nat} {Z : State → Prop} {pc : Nat} {ls : List (Nat × Value)} {st : List Value} {m : Mem}
theorem v_chr {w idx : Nat} {i : Int32} (hw : w < 19) (hi : vp_in i (slen.getD w 0)) (lk : Cond.methodLink M.2.2.1 idx yJ0_charAt_5068e ∈ TBg) (hcat : (st.map fun v => v.category).sum ≤ 8) (hfr : 8 + 1 ≤ M.2.2.2.2.2.1) (hlo : 8 + (2 + 11) + 300 ≤ M.2.2.2.2.2.2.1) (hnc : nc ≤ M.2.2.2.2.2.2.2.1) (hns : ns ≤ M.2.2.2.2.2.2.2.2) (d : decode M.1 pc = .ok (.invokevirtual idx, 3)) (K : V G F M sh nc ns Z (pc + 3) ls (.int (sch w i) :: st) m) : V G F M sh nc ns Z pc ls (.int i :: .ref (G.2.2.2.1 w) :: st) m := by
  refine v_cSt [.int i] hw rfl mv_J0_charAt_5068e lk rfl rfl hcat hfr hlo hnc hns d (c_J0_charAt_5068e (Q := fun r m' => r = sch w i ∧ m' = m) hw hi ⟨rfl, rfl⟩) (fun r m1 e => ?_)
  obtain ⟨rfl, rfl⟩ := e
  exact K
theorem v_sln {w idx : Nat} (hw : w < 19) (lk : Cond.methodLink M.2.2.1 idx yJ0_length_8abf5 ∈ TBg) (hcat : (st.map fun v => v.category).sum ≤ 8) (hfr : 8 + 1 ≤ M.2.2.2.2.2.1) (hlo : 8 + (1 + 11) + 300 ≤ M.2.2.2.2.2.2.1) (hnc : nc ≤ M.2.2.2.2.2.2.2.1) (hns : ns ≤ M.2.2.2.2.2.2.2.2) (d : decode M.1 pc = .ok (.invokevirtual idx, 3)) (K : V G F M sh nc ns Z (pc + 3) ls (.int (nI (slen.getD w 0)) :: st) m) : V G F M sh nc ns Z pc ls (.ref (G.2.2.2.1 w) :: st) m := by
  refine v_cSt [] hw rfl mv_J0_length_8abf5 lk rfl rfl hcat hfr hlo hnc hns d (c_J0_length_8abf5 (Q := fun r m' => r = nI (slen.getD w 0) ∧ m' = m) hw ⟨rfl, rfl⟩) (fun r m1 e => ?_)
  obtain ⟨rfl, rfl⟩ := e
  exact K
end Rows

/-! java/lang/Integer.bitCount -/
theorem dJ6_bitCount_0f7a4_0 : decode cJ6_bitCount_0f7a4 0 = .ok (.iload_n 0, 1) := by decide +kernel
theorem dJ6_bitCount_0f7a4_1 : decode cJ6_bitCount_0f7a4 1 = .ok (.iload_n 0, 1) := by decide +kernel
theorem dJ6_bitCount_0f7a4_2 : decode cJ6_bitCount_0f7a4 2 = .ok (.iconst 1, 1) := by decide +kernel
theorem dJ6_bitCount_0f7a4_3 : decode cJ6_bitCount_0f7a4 3 = .ok (.iushr, 1) := by decide +kernel
theorem dJ6_bitCount_0f7a4_4 : decode cJ6_bitCount_0f7a4 4 = .ok (.ldc_w 265, 3) := by decide +kernel
theorem dJ6_bitCount_0f7a4_7 : decode cJ6_bitCount_0f7a4 7 = .ok (.iand, 1) := by decide +kernel
theorem dJ6_bitCount_0f7a4_8 : decode cJ6_bitCount_0f7a4 8 = .ok (.isub, 1) := by decide +kernel
theorem dJ6_bitCount_0f7a4_9 : decode cJ6_bitCount_0f7a4 9 = .ok (.istore_n 0, 1) := by decide +kernel
theorem dJ6_bitCount_0f7a4_10 : decode cJ6_bitCount_0f7a4 10 = .ok (.iload_n 0, 1) := by decide +kernel
theorem dJ6_bitCount_0f7a4_11 : decode cJ6_bitCount_0f7a4 11 = .ok (.ldc_w 266, 3) := by decide +kernel
theorem dJ6_bitCount_0f7a4_14 : decode cJ6_bitCount_0f7a4 14 = .ok (.iand, 1) := by decide +kernel
theorem dJ6_bitCount_0f7a4_15 : decode cJ6_bitCount_0f7a4 15 = .ok (.iload_n 0, 1) := by decide +kernel
theorem dJ6_bitCount_0f7a4_16 : decode cJ6_bitCount_0f7a4 16 = .ok (.iconst 2, 1) := by decide +kernel
theorem dJ6_bitCount_0f7a4_17 : decode cJ6_bitCount_0f7a4 17 = .ok (.iushr, 1) := by decide +kernel
theorem dJ6_bitCount_0f7a4_18 : decode cJ6_bitCount_0f7a4 18 = .ok (.ldc_w 266, 3) := by decide +kernel
theorem dJ6_bitCount_0f7a4_21 : decode cJ6_bitCount_0f7a4 21 = .ok (.iand, 1) := by decide +kernel
theorem dJ6_bitCount_0f7a4_22 : decode cJ6_bitCount_0f7a4 22 = .ok (.iadd, 1) := by decide +kernel
theorem dJ6_bitCount_0f7a4_23 : decode cJ6_bitCount_0f7a4 23 = .ok (.istore_n 0, 1) := by decide +kernel
theorem dJ6_bitCount_0f7a4_24 : decode cJ6_bitCount_0f7a4 24 = .ok (.iload_n 0, 1) := by decide +kernel
theorem dJ6_bitCount_0f7a4_25 : decode cJ6_bitCount_0f7a4 25 = .ok (.iload_n 0, 1) := by decide +kernel
theorem dJ6_bitCount_0f7a4_26 : decode cJ6_bitCount_0f7a4 26 = .ok (.iconst 4, 1) := by decide +kernel
theorem dJ6_bitCount_0f7a4_27 : decode cJ6_bitCount_0f7a4 27 = .ok (.iushr, 1) := by decide +kernel
theorem dJ6_bitCount_0f7a4_28 : decode cJ6_bitCount_0f7a4 28 = .ok (.iadd, 1) := by decide +kernel
theorem dJ6_bitCount_0f7a4_29 : decode cJ6_bitCount_0f7a4 29 = .ok (.ldc_w 267, 3) := by decide +kernel
theorem dJ6_bitCount_0f7a4_32 : decode cJ6_bitCount_0f7a4 32 = .ok (.iand, 1) := by decide +kernel
theorem dJ6_bitCount_0f7a4_33 : decode cJ6_bitCount_0f7a4 33 = .ok (.istore_n 0, 1) := by decide +kernel
theorem dJ6_bitCount_0f7a4_34 : decode cJ6_bitCount_0f7a4 34 = .ok (.iload_n 0, 1) := by decide +kernel
theorem dJ6_bitCount_0f7a4_35 : decode cJ6_bitCount_0f7a4 35 = .ok (.iload_n 0, 1) := by decide +kernel
theorem dJ6_bitCount_0f7a4_36 : decode cJ6_bitCount_0f7a4 36 = .ok (.bipush 8, 2) := by decide +kernel
theorem dJ6_bitCount_0f7a4_38 : decode cJ6_bitCount_0f7a4 38 = .ok (.iushr, 1) := by decide +kernel
theorem dJ6_bitCount_0f7a4_39 : decode cJ6_bitCount_0f7a4 39 = .ok (.iadd, 1) := by decide +kernel
theorem dJ6_bitCount_0f7a4_40 : decode cJ6_bitCount_0f7a4 40 = .ok (.istore_n 0, 1) := by decide +kernel
theorem dJ6_bitCount_0f7a4_41 : decode cJ6_bitCount_0f7a4 41 = .ok (.iload_n 0, 1) := by decide +kernel
theorem dJ6_bitCount_0f7a4_42 : decode cJ6_bitCount_0f7a4 42 = .ok (.iload_n 0, 1) := by decide +kernel
theorem dJ6_bitCount_0f7a4_43 : decode cJ6_bitCount_0f7a4 43 = .ok (.bipush 16, 2) := by decide +kernel
theorem dJ6_bitCount_0f7a4_45 : decode cJ6_bitCount_0f7a4 45 = .ok (.iushr, 1) := by decide +kernel
theorem dJ6_bitCount_0f7a4_46 : decode cJ6_bitCount_0f7a4 46 = .ok (.iadd, 1) := by decide +kernel
theorem dJ6_bitCount_0f7a4_47 : decode cJ6_bitCount_0f7a4 47 = .ok (.istore_n 0, 1) := by decide +kernel
theorem dJ6_bitCount_0f7a4_48 : decode cJ6_bitCount_0f7a4 48 = .ok (.iload_n 0, 1) := by decide +kernel
theorem dJ6_bitCount_0f7a4_49 : decode cJ6_bitCount_0f7a4 49 = .ok (.bipush 63, 2) := by decide +kernel
theorem dJ6_bitCount_0f7a4_51 : decode cJ6_bitCount_0f7a4 51 = .ok (.iand, 1) := by decide +kernel
theorem dJ6_bitCount_0f7a4_52 : decode cJ6_bitCount_0f7a4 52 = .ok (.ireturn, 1) := by decide +kernel
def wp_J6_bitCount_0f7a4 (sh : Shp) (v0 : Int32) (Q : Int32 → Mem → Prop) (m : Mem) : Prop :=
  Q ((((((((v0 - ((v0.toUInt32 >>> ((1 : Int32).toUInt32 &&& Int32.toUInt32 31)).toInt32 &&& (1431655765 : Int32))) &&& (858993459 : Int32)) + (((v0 - ((v0.toUInt32 >>> ((1 : Int32).toUInt32 &&& Int32.toUInt32 31)).toInt32 &&& (1431655765 : Int32))).toUInt32 >>> ((2 : Int32).toUInt32 &&& Int32.toUInt32 31)).toInt32 &&& (858993459 : Int32))) + ((((v0 - ((v0.toUInt32 >>> ((1 : Int32).toUInt32 &&& Int32.toUInt32 31)).toInt32 &&& (1431655765 : Int32))) &&& (858993459 : Int32)) + (((v0 - ((v0.toUInt32 >>> ((1 : Int32).toUInt32 &&& Int32.toUInt32 31)).toInt32 &&& (1431655765 : Int32))).toUInt32 >>> ((2 : Int32).toUInt32 &&& Int32.toUInt32 31)).toInt32 &&& (858993459 : Int32))).toUInt32 >>> ((4 : Int32).toUInt32 &&& Int32.toUInt32 31)).toInt32) &&& (252645135 : Int32)) + ((((((v0 - ((v0.toUInt32 >>> ((1 : Int32).toUInt32 &&& Int32.toUInt32 31)).toInt32 &&& (1431655765 : Int32))) &&& (858993459 : Int32)) + (((v0 - ((v0.toUInt32 >>> ((1 : Int32).toUInt32 &&& Int32.toUInt32 31)).toInt32 &&& (1431655765 : Int32))).toUInt32 >>> ((2 : Int32).toUInt32 &&& Int32.toUInt32 31)).toInt32 &&& (858993459 : Int32))) + ((((v0 - ((v0.toUInt32 >>> ((1 : Int32).toUInt32 &&& Int32.toUInt32 31)).toInt32 &&& (1431655765 : Int32))) &&& (858993459 : Int32)) + (((v0 - ((v0.toUInt32 >>> ((1 : Int32).toUInt32 &&& Int32.toUInt32 31)).toInt32 &&& (1431655765 : Int32))).toUInt32 >>> ((2 : Int32).toUInt32 &&& Int32.toUInt32 31)).toInt32 &&& (858993459 : Int32))).toUInt32 >>> ((4 : Int32).toUInt32 &&& Int32.toUInt32 31)).toInt32) &&& (252645135 : Int32)).toUInt32 >>> ((8 : Int32).toUInt32 &&& Int32.toUInt32 31)).toInt32) + (((((((v0 - ((v0.toUInt32 >>> ((1 : Int32).toUInt32 &&& Int32.toUInt32 31)).toInt32 &&& (1431655765 : Int32))) &&& (858993459 : Int32)) + (((v0 - ((v0.toUInt32 >>> ((1 : Int32).toUInt32 &&& Int32.toUInt32 31)).toInt32 &&& (1431655765 : Int32))).toUInt32 >>> ((2 : Int32).toUInt32 &&& Int32.toUInt32 31)).toInt32 &&& (858993459 : Int32))) + ((((v0 - ((v0.toUInt32 >>> ((1 : Int32).toUInt32 &&& Int32.toUInt32 31)).toInt32 &&& (1431655765 : Int32))) &&& (858993459 : Int32)) + (((v0 - ((v0.toUInt32 >>> ((1 : Int32).toUInt32 &&& Int32.toUInt32 31)).toInt32 &&& (1431655765 : Int32))).toUInt32 >>> ((2 : Int32).toUInt32 &&& Int32.toUInt32 31)).toInt32 &&& (858993459 : Int32))).toUInt32 >>> ((4 : Int32).toUInt32 &&& Int32.toUInt32 31)).toInt32) &&& (252645135 : Int32)) + ((((((v0 - ((v0.toUInt32 >>> ((1 : Int32).toUInt32 &&& Int32.toUInt32 31)).toInt32 &&& (1431655765 : Int32))) &&& (858993459 : Int32)) + (((v0 - ((v0.toUInt32 >>> ((1 : Int32).toUInt32 &&& Int32.toUInt32 31)).toInt32 &&& (1431655765 : Int32))).toUInt32 >>> ((2 : Int32).toUInt32 &&& Int32.toUInt32 31)).toInt32 &&& (858993459 : Int32))) + ((((v0 - ((v0.toUInt32 >>> ((1 : Int32).toUInt32 &&& Int32.toUInt32 31)).toInt32 &&& (1431655765 : Int32))) &&& (858993459 : Int32)) + (((v0 - ((v0.toUInt32 >>> ((1 : Int32).toUInt32 &&& Int32.toUInt32 31)).toInt32 &&& (1431655765 : Int32))).toUInt32 >>> ((2 : Int32).toUInt32 &&& Int32.toUInt32 31)).toInt32 &&& (858993459 : Int32))).toUInt32 >>> ((4 : Int32).toUInt32 &&& Int32.toUInt32 31)).toInt32) &&& (252645135 : Int32)).toUInt32 >>> ((8 : Int32).toUInt32 &&& Int32.toUInt32 31)).toInt32).toUInt32 >>> ((16 : Int32).toUInt32 &&& Int32.toUInt32 31)).toInt32) &&& (63 : Int32)) m
abbrev M_J6_bitCount_0f7a4 : Mi := (cJ6_bitCount_0f7a4, 1, RJ6, (Option.some FieldType.int), "bitCount", 1, 60, 0, 0)
set_option maxHeartbeats 4000000 in
set_option maxRecDepth 100000 in
theorem c_J6_bitCount_0f7a4 {l : Launch} {G : Gl} {sh : Shp} {v0 : Int32} {Q : Int32 → Mem → Prop} {m : Mem} (h : wp_J6_bitCount_0f7a4 sh v0 Q m) : Cni l G yJ6_bitCount_0f7a4 cJ6_bitCount_0f7a4 1 (Option.some FieldType.int) 1 60 sh [.int v0] m Q := by
  refine con_i (ls := [(0, .int v0)]) (by decide +kernel) rfl (Nat.le_of_ble_eq_true rfl) (fun F => ?_)
  show V G F M_J6_bitCount_0f7a4 sh 0 0 (Zi G F sh Q) 0 [(0, .int v0)] [] m
  unfold wp_J6_bitCount_0f7a4 at h
  refine v_iload_n 0 0 dJ6_bitCount_0f7a4_0 rfl rfl ?_
  refine v_iload_n 0 0 dJ6_bitCount_0f7a4_1 rfl rfl ?_
  refine v_iconst (1 : Int32) dJ6_bitCount_0f7a4_2 (by decide) ?_
  refine v_iushr dJ6_bitCount_0f7a4_3 ?_
  refine v_ldcw (1431655765 : Int32) dJ6_bitCount_0f7a4_4 cw_RJ6_265 ?_
  refine v_iand dJ6_bitCount_0f7a4_7 ?_
  refine v_isub dJ6_bitCount_0f7a4_8 ?_
  refine v_istore_n (ls' := [(0, .int _)]) 0 dJ6_bitCount_0f7a4_9 rfl (Nat.le_of_ble_eq_true rfl) rfl ?_
  refine v_iload_n 0 0 dJ6_bitCount_0f7a4_10 rfl rfl ?_
  refine v_ldcw (858993459 : Int32) dJ6_bitCount_0f7a4_11 cw_RJ6_266 ?_
  refine v_iand dJ6_bitCount_0f7a4_14 ?_
  refine v_iload_n 0 0 dJ6_bitCount_0f7a4_15 rfl rfl ?_
  refine v_iconst (2 : Int32) dJ6_bitCount_0f7a4_16 (by decide) ?_
  refine v_iushr dJ6_bitCount_0f7a4_17 ?_
  refine v_ldcw (858993459 : Int32) dJ6_bitCount_0f7a4_18 cw_RJ6_266 ?_
  refine v_iand dJ6_bitCount_0f7a4_21 ?_
  refine v_iadd dJ6_bitCount_0f7a4_22 ?_
  refine v_istore_n (ls' := [(0, .int _)]) 0 dJ6_bitCount_0f7a4_23 rfl (Nat.le_of_ble_eq_true rfl) rfl ?_
  refine v_iload_n 0 0 dJ6_bitCount_0f7a4_24 rfl rfl ?_
  refine v_iload_n 0 0 dJ6_bitCount_0f7a4_25 rfl rfl ?_
  refine v_iconst (4 : Int32) dJ6_bitCount_0f7a4_26 (by decide) ?_
  refine v_iushr dJ6_bitCount_0f7a4_27 ?_
  refine v_iadd dJ6_bitCount_0f7a4_28 ?_
  refine v_ldcw (252645135 : Int32) dJ6_bitCount_0f7a4_29 cw_RJ6_267 ?_
  refine v_iand dJ6_bitCount_0f7a4_32 ?_
  refine v_istore_n (ls' := [(0, .int _)]) 0 dJ6_bitCount_0f7a4_33 rfl (Nat.le_of_ble_eq_true rfl) rfl ?_
  refine v_iload_n 0 0 dJ6_bitCount_0f7a4_34 rfl rfl ?_
  refine v_iload_n 0 0 dJ6_bitCount_0f7a4_35 rfl rfl ?_
  refine v_bipush (8 : Int32) dJ6_bitCount_0f7a4_36 (by decide) ?_
  refine v_iushr dJ6_bitCount_0f7a4_38 ?_
  refine v_iadd dJ6_bitCount_0f7a4_39 ?_
  refine v_istore_n (ls' := [(0, .int _)]) 0 dJ6_bitCount_0f7a4_40 rfl (Nat.le_of_ble_eq_true rfl) rfl ?_
  refine v_iload_n 0 0 dJ6_bitCount_0f7a4_41 rfl rfl ?_
  refine v_iload_n 0 0 dJ6_bitCount_0f7a4_42 rfl rfl ?_
  refine v_bipush (16 : Int32) dJ6_bitCount_0f7a4_43 (by decide) ?_
  refine v_iushr dJ6_bitCount_0f7a4_45 ?_
  refine v_iadd dJ6_bitCount_0f7a4_46 ?_
  refine v_istore_n (ls' := [(0, .int _)]) 0 dJ6_bitCount_0f7a4_47 rfl (Nat.le_of_ble_eq_true rfl) rfl ?_
  refine v_iload_n 0 0 dJ6_bitCount_0f7a4_48 rfl rfl ?_
  refine v_bipush (63 : Int32) dJ6_bitCount_0f7a4_49 (by decide) ?_
  refine v_iand dJ6_bitCount_0f7a4_51 ?_
  exact v_iret dJ6_bitCount_0f7a4_52 rfl rfl h
/-! java/util/Arrays.fill -/
theorem dJ7_fill_53178_0 : decode cJ7_fill_53178 0 = .ok (.iconst 0, 1) := by decide +kernel
theorem dJ7_fill_53178_1 : decode cJ7_fill_53178 1 = .ok (.istore_n 2, 1) := by decide +kernel
theorem dJ7_fill_53178_2 : decode cJ7_fill_53178 2 = .ok (.aload_n 0, 1) := by decide +kernel
theorem dJ7_fill_53178_3 : decode cJ7_fill_53178 3 = .ok (.arraylength, 1) := by decide +kernel
theorem dJ7_fill_53178_4 : decode cJ7_fill_53178 4 = .ok (.istore_n 3, 1) := by decide +kernel
theorem dJ7_fill_53178_5 : decode cJ7_fill_53178 5 = .ok (.iload_n 2, 1) := by decide +kernel
theorem dJ7_fill_53178_6 : decode cJ7_fill_53178 6 = .ok (.iload_n 3, 1) := by decide +kernel
theorem dJ7_fill_53178_7 : decode cJ7_fill_53178 7 = .ok (.if_icmp .ge 13, 3) := by decide +kernel
theorem dJ7_fill_53178_10 : decode cJ7_fill_53178 10 = .ok (.aload_n 0, 1) := by decide +kernel
theorem dJ7_fill_53178_11 : decode cJ7_fill_53178 11 = .ok (.iload_n 2, 1) := by decide +kernel
theorem dJ7_fill_53178_12 : decode cJ7_fill_53178 12 = .ok (.iload_n 1, 1) := by decide +kernel
theorem dJ7_fill_53178_13 : decode cJ7_fill_53178 13 = .ok (.iastore, 1) := by decide +kernel
theorem dJ7_fill_53178_14 : decode cJ7_fill_53178 14 = .ok (.iinc 2 1, 3) := by decide +kernel
theorem dJ7_fill_53178_17 : decode cJ7_fill_53178 17 = .ok (.goto (-12), 3) := by decide +kernel
theorem dJ7_fill_53178_20 : decode cJ7_fill_53178 20 = .ok (.return_, 1) := by decide +kernel
def J7_fill_53178_p5b (sh : Shp) (v0 : Nat) (v1 : Int32) (v3 : Int32) (Q : Mem → Prop) (K5 : Int32 → Mem → Prop) (v2 : Int32) (m : Mem) : Prop :=
  if v3 ≤ v2 then (Q m) else (Ix sh v0 100 v2 ∧ bnd (sI m v0 v2.toNatClampNeg v1) (fun m4 => K5 (v2 + (1 : Int32)) m4))
def J7_fill_53178_p5n (sh : Shp) (v0 : Nat) (v1 : Int32) (v3 : Int32) (Q : Mem → Prop) : Nat → Int32 → Mem → Prop
  | 0 => fun _ _ => False
  | n + 1 => J7_fill_53178_p5b sh v0 v1 v3 Q (J7_fill_53178_p5n sh v0 v1 v3 Q n)
def J7_fill_53178_p5 (sh : Shp) (v0 : Nat) (v1 : Int32) (v3 : Int32) (Q : Mem → Prop) (v2 : Int32) (m : Mem) : Prop := ∃ n, J7_fill_53178_p5n sh v0 v1 v3 Q n v2 m
def wp_J7_fill_53178 (sh : Shp) (v0 : Nat) (v1 : Int32) (Q : Mem → Prop) (m : Mem) : Prop :=
  ∃ n1 : Nat, Ar sh v0 100 n1 ∧ (J7_fill_53178_p5 sh v0 v1 (nI n1) Q (0 : Int32) m)
abbrev M_J7_fill_53178 : Mi := (cJ7_fill_53178, 4, RJ7, (none : Option FieldType), "fill", 1, 60, 0, 0)
set_option maxHeartbeats 4000000 in
set_option maxRecDepth 100000 in
theorem v_J7_fill_53178_p5b {G : Gl} {F : Fr} {sh : Shp} {v0 : Nat} {v1 : Int32} {v2 : Int32} {v3 : Int32} {Q : Mem → Prop} {K5 : Int32 → Mem → Prop} {m : Mem} (hK5 : ∀ (x2 : Int32) (m : Mem), K5 x2 m → V G F M_J7_fill_53178 sh 0 0 (Zv G F sh Q) 5 [(0, .ref (G.1 + v0)), (1, .int v1), (2, .int x2), (3, .int v3)] [] m) (h : J7_fill_53178_p5b sh v0 v1 v3 Q K5 v2 m) : V G F M_J7_fill_53178 sh 0 0 (Zv G F sh Q) 5 [(0, .ref (G.1 + v0)), (1, .int v1), (2, .int v2), (3, .int v3)] [] m := by
  unfold J7_fill_53178_p5b at h
  refine v_iload_n 2 2 dJ7_fill_53178_5 rfl rfl ?_
  refine v_iload_n 3 3 dJ7_fill_53178_6 rfl rfl ?_
  refine v_icmp_ge 20 dJ7_fill_53178_7 (by decide) (fun hc => ?_) (fun hc => ?_)
  · replace h := Eq.mp (if_pos hc) h
    exact v_vret dJ7_fill_53178_20 rfl h
  · replace h := Eq.mp (if_neg hc) h
    refine v_aload_n 0 0 dJ7_fill_53178_10 rfl rfl ?_
    refine v_iload_n 2 2 dJ7_fill_53178_11 rfl rfl ?_
    refine v_iload_n 1 1 dJ7_fill_53178_12 rfl rfl ?_
    obtain ⟨i3, h⟩ := h
    refine v_iast dJ7_fill_53178_13 i3 ?_
    replace h := bnd_e h
    refine v_iinc (ls' := [(2, .int _), (0, .ref _), (1, .int _), (3, .int _)]) 2 2 dJ7_fill_53178_14 rfl (congrArg (HAdd.hAdd _) (by decide : Int32.ofInt (1) = (1 : Int32))) (Nat.le_of_ble_eq_true rfl) rfl ?_
    refine v_goto 5 dJ7_fill_53178_17 (by decide) ?_
    refine v_sub [1, 2, 0, 3] rfl ?_
    exact hK5 _ _ h
set_option maxHeartbeats 4000000 in
set_option maxRecDepth 100000 in
theorem v_J7_fill_53178_p5 {G : Gl} {F : Fr} {sh : Shp} {v0 : Nat} {v1 : Int32} {v2 : Int32} {v3 : Int32} {Q : Mem → Prop} {m : Mem} (h : J7_fill_53178_p5 sh v0 v1 v3 Q v2 m) : V G F M_J7_fill_53178 sh 0 0 (Zv G F sh Q) 5 [(0, .ref (G.1 + v0)), (1, .int v1), (2, .int v2), (3, .int v3)] [] m := by
  obtain ⟨n, h⟩ := h
  induction n generalizing v2 m with
  | zero => exact h.elim
  | succ n ih => exact v_J7_fill_53178_p5b (fun _ _ h => ih h) h
set_option maxHeartbeats 4000000 in
set_option maxRecDepth 100000 in
theorem c_J7_fill_53178 {l : Launch} {G : Gl} {sh : Shp} {v0 : Nat} {v1 : Int32} {Q : Mem → Prop} {m : Mem} (h : wp_J7_fill_53178 sh v0 v1 Q m) : Cnv l G yJ7_fill_53178 cJ7_fill_53178 4 (none : Option FieldType) 1 60 sh [.ref (G.1 + v0), .int v1] m Q := by
  refine con_v (ls := [(0, .ref (G.1 + v0)), (1, .int v1)]) (by decide +kernel) rfl (Nat.le_of_ble_eq_true rfl) (fun F => ?_)
  show V G F M_J7_fill_53178 sh 0 0 (Zv G F sh Q) 0 [(0, .ref (G.1 + v0)), (1, .int v1)] [] m
  unfold wp_J7_fill_53178 at h
  refine v_iconst (0 : Int32) dJ7_fill_53178_0 (by decide) ?_
  refine v_istore_n (ls' := [(2, .int _), (0, .ref _), (1, .int _)]) 2 dJ7_fill_53178_1 rfl (Nat.le_of_ble_eq_true rfl) rfl ?_
  refine v_aload_n 0 1 dJ7_fill_53178_2 rfl rfl ?_
  obtain ⟨n1, l2, h⟩ := h
  refine v_alen dJ7_fill_53178_3 l2 (by decide) ?_
  refine v_istore_n (ls' := [(3, .int _), (2, .int _), (0, .ref _), (1, .int _)]) 3 dJ7_fill_53178_4 rfl (Nat.le_of_ble_eq_true rfl) rfl ?_
  refine v_sub [2, 3, 1, 0] rfl ?_
  exact v_J7_fill_53178_p5 h
/-! java/lang/Math.floorDiv -/
theorem dJ9_floorDiv_f86c9_0 : decode cJ9_floorDiv_f86c9 0 = .ok (.lload_n 0, 1) := by decide +kernel
theorem dJ9_floorDiv_f86c9_1 : decode cJ9_floorDiv_f86c9 1 = .ok (.lload_n 2, 1) := by decide +kernel
theorem dJ9_floorDiv_f86c9_2 : decode cJ9_floorDiv_f86c9 2 = .ok (.ldiv, 1) := by decide +kernel
theorem dJ9_floorDiv_f86c9_3 : decode cJ9_floorDiv_f86c9 3 = .ok (.lstore 4, 2) := by decide +kernel
theorem dJ9_floorDiv_f86c9_5 : decode cJ9_floorDiv_f86c9 5 = .ok (.lload_n 0, 1) := by decide +kernel
theorem dJ9_floorDiv_f86c9_6 : decode cJ9_floorDiv_f86c9 6 = .ok (.lload_n 2, 1) := by decide +kernel
theorem dJ9_floorDiv_f86c9_7 : decode cJ9_floorDiv_f86c9 7 = .ok (.lxor, 1) := by decide +kernel
theorem dJ9_floorDiv_f86c9_8 : decode cJ9_floorDiv_f86c9 8 = .ok (.lconst 0, 1) := by decide +kernel
theorem dJ9_floorDiv_f86c9_9 : decode cJ9_floorDiv_f86c9 9 = .ok (.lcmp, 1) := by decide +kernel
theorem dJ9_floorDiv_f86c9_10 : decode cJ9_floorDiv_f86c9 10 = .ok (.ifCond .ge 17, 3) := by decide +kernel
theorem dJ9_floorDiv_f86c9_13 : decode cJ9_floorDiv_f86c9 13 = .ok (.lload 4, 2) := by decide +kernel
theorem dJ9_floorDiv_f86c9_15 : decode cJ9_floorDiv_f86c9 15 = .ok (.lload_n 2, 1) := by decide +kernel
theorem dJ9_floorDiv_f86c9_16 : decode cJ9_floorDiv_f86c9 16 = .ok (.lmul, 1) := by decide +kernel
theorem dJ9_floorDiv_f86c9_17 : decode cJ9_floorDiv_f86c9 17 = .ok (.lload_n 0, 1) := by decide +kernel
theorem dJ9_floorDiv_f86c9_18 : decode cJ9_floorDiv_f86c9 18 = .ok (.lcmp, 1) := by decide +kernel
theorem dJ9_floorDiv_f86c9_19 : decode cJ9_floorDiv_f86c9 19 = .ok (.ifCond .eq 8, 3) := by decide +kernel
theorem dJ9_floorDiv_f86c9_22 : decode cJ9_floorDiv_f86c9 22 = .ok (.lload 4, 2) := by decide +kernel
theorem dJ9_floorDiv_f86c9_24 : decode cJ9_floorDiv_f86c9 24 = .ok (.lconst 1, 1) := by decide +kernel
theorem dJ9_floorDiv_f86c9_25 : decode cJ9_floorDiv_f86c9 25 = .ok (.lsub, 1) := by decide +kernel
theorem dJ9_floorDiv_f86c9_26 : decode cJ9_floorDiv_f86c9 26 = .ok (.lreturn, 1) := by decide +kernel
theorem dJ9_floorDiv_f86c9_27 : decode cJ9_floorDiv_f86c9 27 = .ok (.lload 4, 2) := by decide +kernel
theorem dJ9_floorDiv_f86c9_29 : decode cJ9_floorDiv_f86c9 29 = .ok (.lreturn, 1) := by decide +kernel
def wp_J9_floorDiv_f86c9 (sh : Shp) (v0 : Int64) (v2 : Int64) (Q : Int64 → Mem → Prop) (m : Mem) : Prop :=
  ¬ v2 = 0 ∧ (if 0 ≤ (lg_cmp (v0 ^^^ v2) (0 : Int64)) then (Q (v0 / v2) m) else (if (lg_cmp ((v0 / v2) * v2) v0) = 0 then (Q (v0 / v2) m) else (Q ((v0 / v2) - (1 : Int64)) m)))
abbrev M_J9_floorDiv_f86c9 : Mi := (cJ9_floorDiv_f86c9, 6, RJ9, (Option.some FieldType.long), "floorDiv", 1, 60, 0, 0)
set_option maxHeartbeats 4000000 in
set_option maxRecDepth 100000 in
theorem c_J9_floorDiv_f86c9 {l : Launch} {G : Gl} {sh : Shp} {v0 : Int64} {v2 : Int64} {Q : Int64 → Mem → Prop} {m : Mem} (h : wp_J9_floorDiv_f86c9 sh v0 v2 Q m) : Cnl l G yJ9_floorDiv_f86c9 cJ9_floorDiv_f86c9 6 (Option.some FieldType.long) 1 60 sh [.long v0, .long v2] m Q := by
  refine con_l (ls := [(0, .long v0), (2, .long v2)]) (by decide +kernel) rfl (Nat.le_of_ble_eq_true rfl) (fun F => ?_)
  show V G F M_J9_floorDiv_f86c9 sh 0 0 (Zl G F sh Q) 0 [(0, .long v0), (2, .long v2)] [] m
  unfold wp_J9_floorDiv_f86c9 at h
  refine v_lload_n 0 0 dJ9_floorDiv_f86c9_0 rfl rfl ?_
  refine v_lload_n 2 1 dJ9_floorDiv_f86c9_1 rfl rfl ?_
  obtain ⟨hz, h⟩ := h
  refine v_ldiv dJ9_floorDiv_f86c9_2 hz ?_
  refine v_lstore (ls' := [(4, .long _), (0, .long _), (2, .long _)]) 4 dJ9_floorDiv_f86c9_3 (Nat.le_of_ble_eq_true rfl) rfl ?_
  refine v_lload_n 0 1 dJ9_floorDiv_f86c9_5 rfl rfl ?_
  refine v_lload_n 2 2 dJ9_floorDiv_f86c9_6 rfl rfl ?_
  refine v_lxor dJ9_floorDiv_f86c9_7 ?_
  refine v_lconst (0 : Int64) dJ9_floorDiv_f86c9_8 (by decide) ?_
  refine v_lcmp dJ9_floorDiv_f86c9_9 ?_
  refine v_if_ge 27 dJ9_floorDiv_f86c9_10 (by decide) (fun hc => ?_) (fun hc => ?_)
  · replace h := Eq.mp (if_pos hc) h
    refine v_lload 4 0 dJ9_floorDiv_f86c9_27 rfl ?_
    exact v_lret dJ9_floorDiv_f86c9_29 rfl h
  · replace h := Eq.mp (if_neg hc) h
    refine v_lload 4 0 dJ9_floorDiv_f86c9_13 rfl ?_
    refine v_lload_n 2 2 dJ9_floorDiv_f86c9_15 rfl rfl ?_
    refine v_lmul dJ9_floorDiv_f86c9_16 ?_
    refine v_lload_n 0 1 dJ9_floorDiv_f86c9_17 rfl rfl ?_
    refine v_lcmp dJ9_floorDiv_f86c9_18 ?_
    refine v_if_eq 27 dJ9_floorDiv_f86c9_19 (by decide) (fun hc => ?_) (fun hc => ?_)
    · replace h := Eq.mp (if_pos hc) h
      refine v_lload 4 0 dJ9_floorDiv_f86c9_27 rfl ?_
      exact v_lret dJ9_floorDiv_f86c9_29 rfl h
    · replace h := Eq.mp (if_neg hc) h
      refine v_lload 4 0 dJ9_floorDiv_f86c9_22 rfl ?_
      refine v_lconst (1 : Int64) dJ9_floorDiv_f86c9_24 (by decide) ?_
      refine v_lsub dJ9_floorDiv_f86c9_25 ?_
      exact v_lret dJ9_floorDiv_f86c9_26 rfl h
/-! java/lang/Math.max -/
theorem dJ9_max_7cf53_0 : decode cJ9_max_7cf53 0 = .ok (.iload_n 0, 1) := by decide +kernel
theorem dJ9_max_7cf53_1 : decode cJ9_max_7cf53 1 = .ok (.iload_n 1, 1) := by decide +kernel
theorem dJ9_max_7cf53_2 : decode cJ9_max_7cf53 2 = .ok (.if_icmp .lt 7, 3) := by decide +kernel
theorem dJ9_max_7cf53_5 : decode cJ9_max_7cf53 5 = .ok (.iload_n 0, 1) := by decide +kernel
theorem dJ9_max_7cf53_6 : decode cJ9_max_7cf53 6 = .ok (.goto 4, 3) := by decide +kernel
theorem dJ9_max_7cf53_9 : decode cJ9_max_7cf53 9 = .ok (.iload_n 1, 1) := by decide +kernel
theorem dJ9_max_7cf53_10 : decode cJ9_max_7cf53 10 = .ok (.ireturn, 1) := by decide +kernel
def wp_J9_max_7cf53 (sh : Shp) (v0 : Int32) (v1 : Int32) (Q : Int32 → Mem → Prop) (m : Mem) : Prop :=
  if v0 < v1 then (Q v1 m) else (Q v0 m)
abbrev M_J9_max_7cf53 : Mi := (cJ9_max_7cf53, 2, RJ9, (Option.some FieldType.int), "max", 1, 60, 0, 0)
set_option maxHeartbeats 4000000 in
set_option maxRecDepth 100000 in
theorem c_J9_max_7cf53 {l : Launch} {G : Gl} {sh : Shp} {v0 : Int32} {v1 : Int32} {Q : Int32 → Mem → Prop} {m : Mem} (h : wp_J9_max_7cf53 sh v0 v1 Q m) : Cni l G yJ9_max_7cf53 cJ9_max_7cf53 2 (Option.some FieldType.int) 1 60 sh [.int v0, .int v1] m Q := by
  refine con_i (ls := [(0, .int v0), (1, .int v1)]) (by decide +kernel) rfl (Nat.le_of_ble_eq_true rfl) (fun F => ?_)
  show V G F M_J9_max_7cf53 sh 0 0 (Zi G F sh Q) 0 [(0, .int v0), (1, .int v1)] [] m
  unfold wp_J9_max_7cf53 at h
  refine v_iload_n 0 0 dJ9_max_7cf53_0 rfl rfl ?_
  refine v_iload_n 1 1 dJ9_max_7cf53_1 rfl rfl ?_
  refine v_icmp_lt 9 dJ9_max_7cf53_2 (by decide) (fun hc => ?_) (fun hc => ?_)
  · replace h := Eq.mp (if_pos hc) h
    refine v_iload_n 1 1 dJ9_max_7cf53_9 rfl rfl ?_
    exact v_iret dJ9_max_7cf53_10 rfl rfl h
  · replace h := Eq.mp (if_neg hc) h
    refine v_iload_n 0 0 dJ9_max_7cf53_5 rfl rfl ?_
    refine v_goto 10 dJ9_max_7cf53_6 (by decide) ?_
    exact v_iret dJ9_max_7cf53_10 rfl rfl h
/-! java/lang/Math.max -/
theorem dJ9_max_f86c9_0 : decode cJ9_max_f86c9 0 = .ok (.lload_n 0, 1) := by decide +kernel
theorem dJ9_max_f86c9_1 : decode cJ9_max_f86c9 1 = .ok (.lload_n 2, 1) := by decide +kernel
theorem dJ9_max_f86c9_2 : decode cJ9_max_f86c9 2 = .ok (.lcmp, 1) := by decide +kernel
theorem dJ9_max_f86c9_3 : decode cJ9_max_f86c9 3 = .ok (.ifCond .lt 7, 3) := by decide +kernel
theorem dJ9_max_f86c9_6 : decode cJ9_max_f86c9 6 = .ok (.lload_n 0, 1) := by decide +kernel
theorem dJ9_max_f86c9_7 : decode cJ9_max_f86c9 7 = .ok (.goto 4, 3) := by decide +kernel
theorem dJ9_max_f86c9_10 : decode cJ9_max_f86c9 10 = .ok (.lload_n 2, 1) := by decide +kernel
theorem dJ9_max_f86c9_11 : decode cJ9_max_f86c9 11 = .ok (.lreturn, 1) := by decide +kernel
def wp_J9_max_f86c9 (sh : Shp) (v0 : Int64) (v2 : Int64) (Q : Int64 → Mem → Prop) (m : Mem) : Prop :=
  if (lg_cmp v0 v2) < 0 then (Q v2 m) else (Q v0 m)
abbrev M_J9_max_f86c9 : Mi := (cJ9_max_f86c9, 4, RJ9, (Option.some FieldType.long), "max", 1, 60, 0, 0)
set_option maxHeartbeats 4000000 in
set_option maxRecDepth 100000 in
theorem c_J9_max_f86c9 {l : Launch} {G : Gl} {sh : Shp} {v0 : Int64} {v2 : Int64} {Q : Int64 → Mem → Prop} {m : Mem} (h : wp_J9_max_f86c9 sh v0 v2 Q m) : Cnl l G yJ9_max_f86c9 cJ9_max_f86c9 4 (Option.some FieldType.long) 1 60 sh [.long v0, .long v2] m Q := by
  refine con_l (ls := [(0, .long v0), (2, .long v2)]) (by decide +kernel) rfl (Nat.le_of_ble_eq_true rfl) (fun F => ?_)
  show V G F M_J9_max_f86c9 sh 0 0 (Zl G F sh Q) 0 [(0, .long v0), (2, .long v2)] [] m
  unfold wp_J9_max_f86c9 at h
  refine v_lload_n 0 0 dJ9_max_f86c9_0 rfl rfl ?_
  refine v_lload_n 2 1 dJ9_max_f86c9_1 rfl rfl ?_
  refine v_lcmp dJ9_max_f86c9_2 ?_
  refine v_if_lt 10 dJ9_max_f86c9_3 (by decide) (fun hc => ?_) (fun hc => ?_)
  · replace h := Eq.mp (if_pos hc) h
    refine v_lload_n 2 1 dJ9_max_f86c9_10 rfl rfl ?_
    exact v_lret dJ9_max_f86c9_11 rfl h
  · replace h := Eq.mp (if_neg hc) h
    refine v_lload_n 0 0 dJ9_max_f86c9_6 rfl rfl ?_
    refine v_goto 11 dJ9_max_f86c9_7 (by decide) ?_
    exact v_lret dJ9_max_f86c9_11 rfl h
/-! java/lang/Math.min -/
theorem dJ9_min_7cf53_0 : decode cJ9_min_7cf53 0 = .ok (.iload_n 0, 1) := by decide +kernel
theorem dJ9_min_7cf53_1 : decode cJ9_min_7cf53 1 = .ok (.iload_n 1, 1) := by decide +kernel
theorem dJ9_min_7cf53_2 : decode cJ9_min_7cf53 2 = .ok (.if_icmp .gt 7, 3) := by decide +kernel
theorem dJ9_min_7cf53_5 : decode cJ9_min_7cf53 5 = .ok (.iload_n 0, 1) := by decide +kernel
theorem dJ9_min_7cf53_6 : decode cJ9_min_7cf53 6 = .ok (.goto 4, 3) := by decide +kernel
theorem dJ9_min_7cf53_9 : decode cJ9_min_7cf53 9 = .ok (.iload_n 1, 1) := by decide +kernel
theorem dJ9_min_7cf53_10 : decode cJ9_min_7cf53 10 = .ok (.ireturn, 1) := by decide +kernel
def wp_J9_min_7cf53 (sh : Shp) (v0 : Int32) (v1 : Int32) (Q : Int32 → Mem → Prop) (m : Mem) : Prop :=
  if v1 < v0 then (Q v1 m) else (Q v0 m)
abbrev M_J9_min_7cf53 : Mi := (cJ9_min_7cf53, 2, RJ9, (Option.some FieldType.int), "min", 1, 60, 0, 0)
set_option maxHeartbeats 4000000 in
set_option maxRecDepth 100000 in
theorem c_J9_min_7cf53 {l : Launch} {G : Gl} {sh : Shp} {v0 : Int32} {v1 : Int32} {Q : Int32 → Mem → Prop} {m : Mem} (h : wp_J9_min_7cf53 sh v0 v1 Q m) : Cni l G yJ9_min_7cf53 cJ9_min_7cf53 2 (Option.some FieldType.int) 1 60 sh [.int v0, .int v1] m Q := by
  refine con_i (ls := [(0, .int v0), (1, .int v1)]) (by decide +kernel) rfl (Nat.le_of_ble_eq_true rfl) (fun F => ?_)
  show V G F M_J9_min_7cf53 sh 0 0 (Zi G F sh Q) 0 [(0, .int v0), (1, .int v1)] [] m
  unfold wp_J9_min_7cf53 at h
  refine v_iload_n 0 0 dJ9_min_7cf53_0 rfl rfl ?_
  refine v_iload_n 1 1 dJ9_min_7cf53_1 rfl rfl ?_
  refine v_icmp_gt 9 dJ9_min_7cf53_2 (by decide) (fun hc => ?_) (fun hc => ?_)
  · replace h := Eq.mp (if_pos hc) h
    refine v_iload_n 1 1 dJ9_min_7cf53_9 rfl rfl ?_
    exact v_iret dJ9_min_7cf53_10 rfl rfl h
  · replace h := Eq.mp (if_neg hc) h
    refine v_iload_n 0 0 dJ9_min_7cf53_5 rfl rfl ?_
    refine v_goto 10 dJ9_min_7cf53_6 (by decide) ?_
    exact v_iret dJ9_min_7cf53_10 rfl rfl h
/-! java/lang/Math.min -/
theorem dJ9_min_f86c9_0 : decode cJ9_min_f86c9 0 = .ok (.lload_n 0, 1) := by decide +kernel
theorem dJ9_min_f86c9_1 : decode cJ9_min_f86c9 1 = .ok (.lload_n 2, 1) := by decide +kernel
theorem dJ9_min_f86c9_2 : decode cJ9_min_f86c9 2 = .ok (.lcmp, 1) := by decide +kernel
theorem dJ9_min_f86c9_3 : decode cJ9_min_f86c9 3 = .ok (.ifCond .gt 7, 3) := by decide +kernel
theorem dJ9_min_f86c9_6 : decode cJ9_min_f86c9 6 = .ok (.lload_n 0, 1) := by decide +kernel
theorem dJ9_min_f86c9_7 : decode cJ9_min_f86c9 7 = .ok (.goto 4, 3) := by decide +kernel
theorem dJ9_min_f86c9_10 : decode cJ9_min_f86c9 10 = .ok (.lload_n 2, 1) := by decide +kernel
theorem dJ9_min_f86c9_11 : decode cJ9_min_f86c9 11 = .ok (.lreturn, 1) := by decide +kernel
def wp_J9_min_f86c9 (sh : Shp) (v0 : Int64) (v2 : Int64) (Q : Int64 → Mem → Prop) (m : Mem) : Prop :=
  if 0 < (lg_cmp v0 v2) then (Q v2 m) else (Q v0 m)
abbrev M_J9_min_f86c9 : Mi := (cJ9_min_f86c9, 4, RJ9, (Option.some FieldType.long), "min", 1, 60, 0, 0)
set_option maxHeartbeats 4000000 in
set_option maxRecDepth 100000 in
theorem c_J9_min_f86c9 {l : Launch} {G : Gl} {sh : Shp} {v0 : Int64} {v2 : Int64} {Q : Int64 → Mem → Prop} {m : Mem} (h : wp_J9_min_f86c9 sh v0 v2 Q m) : Cnl l G yJ9_min_f86c9 cJ9_min_f86c9 4 (Option.some FieldType.long) 1 60 sh [.long v0, .long v2] m Q := by
  refine con_l (ls := [(0, .long v0), (2, .long v2)]) (by decide +kernel) rfl (Nat.le_of_ble_eq_true rfl) (fun F => ?_)
  show V G F M_J9_min_f86c9 sh 0 0 (Zl G F sh Q) 0 [(0, .long v0), (2, .long v2)] [] m
  unfold wp_J9_min_f86c9 at h
  refine v_lload_n 0 0 dJ9_min_f86c9_0 rfl rfl ?_
  refine v_lload_n 2 1 dJ9_min_f86c9_1 rfl rfl ?_
  refine v_lcmp dJ9_min_f86c9_2 ?_
  refine v_if_gt 10 dJ9_min_f86c9_3 (by decide) (fun hc => ?_) (fun hc => ?_)
  · replace h := Eq.mp (if_pos hc) h
    refine v_lload_n 2 1 dJ9_min_f86c9_10 rfl rfl ?_
    exact v_lret dJ9_min_f86c9_11 rfl h
  · replace h := Eq.mp (if_neg hc) h
    refine v_lload_n 0 0 dJ9_min_f86c9_6 rfl rfl ?_
    refine v_goto 11 dJ9_min_f86c9_7 (by decide) ?_
    exact v_lret dJ9_min_f86c9_11 rfl h
