/-! ===== the law's loop ===== -/
abbrev M_law (nm : String) : Mi := (code, 4, RL, some .boolean, nm, 2048, 84000, 600000, 7302250)
/-- the script -/
def XA (G : Gl) (F : Fr) (b L : Nat) (xs : Nat → Int32) : Prop := va_X b L xs (Fs F) (Fs F).heap ∧ b < (Fs F).heap.size ∧ ¬ G.1 ≤ b
section Rows
variable {G : Gl} {F : Fr} {M : Mi} {sh : Shp} {nc ns : Nat} {Z : State → Prop} {pc : Nat} {ls : List (Nat × Value)} {st : List Value} {m : Mem} {b L : Nat} {xs : Nat → Int32}
theorem v_xlen (hX : XA G F b L xs) (d : decode M.1 pc = .ok (.arraylength, 1)) (K : V G F M sh nc ns Z (pc + 1) ls (.int (nI L) :: st) m) : V G F M sh nc ns Z pc ls (.ref b :: st) m :=
  fun hF H locs LS hH hl => va_slen hF.1 hF.2.1 hX.1 hX.2.1 hX.2.2 hH.2.2.1 d (K hF H locs LS hH hl)
theorem v_xld (hX : XA G F b L xs) {i : Int32} (d : decode M.1 pc = .ok (.iaload, 1)) (hi : vp_in i L) (K : V G F M sh nc ns Z (pc + 1) ls (.int (xs i.toNatClampNeg) :: st) m) : V G F M sh nc ns Z pc ls (.int i :: .ref b :: st) m :=
  fun hF H locs LS hH hl => va_sld hF.1 hF.2.1 hX.1 hX.2.1 hX.2.2 hH.2.2.1 hi d (K hF H locs LS hH hl)
end Rows
def L_law_p1087 (L : Nat) (xs : Nat → Int32) (sh : Shp) (v0 : Nat) (v1 : Nat) (v2 : Nat) (v3 : Int32) (Q : Int32 → Mem → Prop) (K18 : Int32 → Mem → Prop) (m : Mem) : Prop :=
  K18 (v3 + (6 : Int32)) m
def L_law_b (L : Nat) (xs : Nat → Int32) (sh : Shp) (v0 v1 v2 : Nat) (Q : Int32 → Mem → Prop) (K18 : Int32 → Mem → Prop) (v3 : Int32) (m : Mem) : Prop :=
  if ((nI L) - (6 : Int32)) < v3 then (Q (1 : Int32) m) else (vp_in v3 L ∧ (if ((xs v3.toNatClampNeg) &&& (63 : Int32)) = (0 : Int32) then (vp_in (v3 + (1 : Int32)) L ∧ (vp_in (v3 + (2 : Int32)) L ∧ (vp_in (v3 + (3 : Int32)) L ∧ (vp_in (v3 + (4 : Int32)) L ∧ (vp_in (v3 + (5 : Int32)) L ∧ (Ob sh v1 11 ∧ wp_X11_feed sh v1 (xs (v3 + (1 : Int32)).toNatClampNeg) (xs (v3 + (2 : Int32)).toNatClampNeg) (xs (v3 + (3 : Int32)).toNatClampNeg) (xs (v3 + (4 : Int32)).toNatClampNeg) (xs (v3 + (5 : Int32)).toNatClampNeg) (fun r7 m8 => Ob sh v2 12 ∧ wp_X12_feed sh v2 (xs (v3 + (1 : Int32)).toNatClampNeg) (xs (v3 + (2 : Int32)).toNatClampNeg) (xs (v3 + (3 : Int32)).toNatClampNeg) (xs (v3 + (4 : Int32)).toNatClampNeg) (xs (v3 + (5 : Int32)).toNatClampNeg) (fun r10 m11 => if r7 = r10 then (L_law_p1087 L xs sh v0 v1 v2 v3 Q K18 m11) else (Q (0 : Int32) m11)) m8) m)))))) else if ((xs v3.toNatClampNeg) &&& (63 : Int32)) = (1 : Int32) then (vp_in (v3 + (1 : Int32)) L ∧ (Ob sh v1 11 ∧ wp_X11_end sh v1 (xs (v3 + (1 : Int32)).toNatClampNeg) (fun r14 m15 => Ob sh v2 12 ∧ wp_X12_end sh v2 (xs (v3 + (1 : Int32)).toNatClampNeg) (fun r17 m18 => if r14 = r17 then (L_law_p1087 L xs sh v0 v1 v2 v3 Q K18 m18) else (Q (0 : Int32) m18)) m15) m)) else if ((xs v3.toNatClampNeg) &&& (63 : Int32)) = (2 : Int32) then (Ob sh v1 11 ∧ wp_X11_plain sh v1 (fun r20 m21 => Ob sh v2 12 ∧ wp_X12_plain sh v2 (fun r23 m24 => if r20 = r23 then (L_law_p1087 L xs sh v0 v1 v2 v3 Q K18 m24) else (Q (0 : Int32) m24)) m21) m) else if ((xs v3.toNatClampNeg) &&& (63 : Int32)) = (3 : Int32) then (vp_in (v3 + (1 : Int32)) L ∧ (Ob sh v1 11 ∧ wp_X11_fault sh v1 (xs (v3 + (1 : Int32)).toNatClampNeg) (fun r27 m28 => Ob sh v2 12 ∧ wp_X12_fault sh v2 (xs (v3 + (1 : Int32)).toNatClampNeg) (fun r30 m31 => if r27 = r30 then (L_law_p1087 L xs sh v0 v1 v2 v3 Q K18 m31) else (Q (0 : Int32) m31)) m28) m)) else if ((xs v3.toNatClampNeg) &&& (63 : Int32)) = (4 : Int32) then (vp_in (v3 + (1 : Int32)) L ∧ (Ob sh v1 11 ∧ wp_X11_has sh v1 (xs (v3 + (1 : Int32)).toNatClampNeg) (fun r34 m35 => Ob sh v2 12 ∧ wp_X12_has sh v2 (xs (v3 + (1 : Int32)).toNatClampNeg) (fun r37 m38 => if r34 = r37 then (L_law_p1087 L xs sh v0 v1 v2 v3 Q K18 m38) else (Q (0 : Int32) m38)) m35) m)) else if ((xs v3.toNatClampNeg) &&& (63 : Int32)) = (5 : Int32) then (vp_in (v3 + (1 : Int32)) L ∧ (vp_in (v3 + (2 : Int32)) L ∧ (vp_in (v3 + (3 : Int32)) L ∧ (Ob sh v1 11 ∧ wp_X11_letter sh v1 (xs (v3 + (1 : Int32)).toNatClampNeg) (xs (v3 + (2 : Int32)).toNatClampNeg) (xs (v3 + (3 : Int32)).toNatClampNeg) (fun r43 m44 => Ob sh v2 12 ∧ wp_X12_letter sh v2 (xs (v3 + (1 : Int32)).toNatClampNeg) (xs (v3 + (2 : Int32)).toNatClampNeg) (xs (v3 + (3 : Int32)).toNatClampNeg) (fun r46 m47 => if r43 = r46 then (L_law_p1087 L xs sh v0 v1 v2 v3 Q K18 m47) else (Q (0 : Int32) m47)) m44) m)))) else if ((xs v3.toNatClampNeg) &&& (63 : Int32)) = (6 : Int32) then (vp_in (v3 + (1 : Int32)) L ∧ (vp_in (v3 + (2 : Int32)) L ∧ (vp_in (v3 + (3 : Int32)) L ∧ (Ob sh v1 11 ∧ wp_X11_cell sh v1 (xs (v3 + (1 : Int32)).toNatClampNeg) (xs (v3 + (2 : Int32)).toNatClampNeg) (xs (v3 + (3 : Int32)).toNatClampNeg) (fun r52 m53 => Ob sh v2 12 ∧ wp_X12_cell sh v2 (xs (v3 + (1 : Int32)).toNatClampNeg) (xs (v3 + (2 : Int32)).toNatClampNeg) (xs (v3 + (3 : Int32)).toNatClampNeg) (fun r55 m56 => if r52 = r55 then (L_law_p1087 L xs sh v0 v1 v2 v3 Q K18 m56) else (Q (0 : Int32) m56)) m53) m)))) else if ((xs v3.toNatClampNeg) &&& (63 : Int32)) = (7 : Int32) then (vp_in (v3 + (1 : Int32)) L ∧ (vp_in (v3 + (2 : Int32)) L ∧ (Ob sh v1 11 ∧ wp_X11_farm sh v1 (xs (v3 + (1 : Int32)).toNatClampNeg) (xs (v3 + (2 : Int32)).toNatClampNeg) (fun r60 m61 => Ob sh v2 12 ∧ wp_X12_farm sh v2 (xs (v3 + (1 : Int32)).toNatClampNeg) (xs (v3 + (2 : Int32)).toNatClampNeg) (fun r63 m64 => if r60 = r63 then (L_law_p1087 L xs sh v0 v1 v2 v3 Q K18 m64) else (Q (0 : Int32) m64)) m61) m))) else if ((xs v3.toNatClampNeg) &&& (63 : Int32)) = (8 : Int32) then (vp_in (v3 + (1 : Int32)) L ∧ (vp_in (v3 + (2 : Int32)) L ∧ (Ob sh v1 11 ∧ wp_X11_caller sh v1 (xs (v3 + (1 : Int32)).toNatClampNeg) (xs (v3 + (2 : Int32)).toNatClampNeg) (fun r68 m69 => Ob sh v2 12 ∧ wp_X12_caller sh v2 (xs (v3 + (1 : Int32)).toNatClampNeg) (xs (v3 + (2 : Int32)).toNatClampNeg) (fun r71 m72 => if r68 = r71 then (L_law_p1087 L xs sh v0 v1 v2 v3 Q K18 m72) else (Q (0 : Int32) m72)) m69) m))) else if ((xs v3.toNatClampNeg) &&& (63 : Int32)) = (9 : Int32) then (vp_in (v3 + (1 : Int32)) L ∧ (vp_in (v3 + (2 : Int32)) L ∧ (Ob sh v1 11 ∧ wp_X11_kept sh v1 (xs (v3 + (1 : Int32)).toNatClampNeg) (xs (v3 + (2 : Int32)).toNatClampNeg) (fun r76 m77 => Ob sh v2 12 ∧ wp_X12_kept sh v2 (xs (v3 + (1 : Int32)).toNatClampNeg) (xs (v3 + (2 : Int32)).toNatClampNeg) (fun r79 m80 => if r76 = r79 then (L_law_p1087 L xs sh v0 v1 v2 v3 Q K18 m80) else (Q (0 : Int32) m80)) m77) m))) else if ((xs v3.toNatClampNeg) &&& (63 : Int32)) = (10 : Int32) then (vp_in (v3 + (1 : Int32)) L ∧ (vp_in (v3 + (2 : Int32)) L ∧ (vp_in (v3 + (3 : Int32)) L ∧ (Ob sh v1 11 ∧ wp_X11_way sh v1 (xs (v3 + (1 : Int32)).toNatClampNeg) (xs (v3 + (2 : Int32)).toNatClampNeg) (xs (v3 + (3 : Int32)).toNatClampNeg) (fun r85 m86 => Ob sh v2 12 ∧ wp_X12_way sh v2 (xs (v3 + (1 : Int32)).toNatClampNeg) (xs (v3 + (2 : Int32)).toNatClampNeg) (xs (v3 + (3 : Int32)).toNatClampNeg) (fun r88 m89 => if r85 = r88 then (L_law_p1087 L xs sh v0 v1 v2 v3 Q K18 m89) else (Q (0 : Int32) m89)) m86) m)))) else if ((xs v3.toNatClampNeg) &&& (63 : Int32)) = (11 : Int32) then (vp_in (v3 + (1 : Int32)) L ∧ (vp_in (v3 + (2 : Int32)) L ∧ (Ob sh v1 11 ∧ wp_X11_leads sh v1 (xs (v3 + (1 : Int32)).toNatClampNeg) (xs (v3 + (2 : Int32)).toNatClampNeg) (fun r93 m94 => Ob sh v2 12 ∧ wp_X12_leads sh v2 (xs (v3 + (1 : Int32)).toNatClampNeg) (xs (v3 + (2 : Int32)).toNatClampNeg) (fun r96 m97 => if r93 = r96 then (L_law_p1087 L xs sh v0 v1 v2 v3 Q K18 m97) else (Q (0 : Int32) m97)) m94) m))) else if ((xs v3.toNatClampNeg) &&& (63 : Int32)) = (12 : Int32) then (Ob sh v1 11 ∧ wp_X11_best sh v1 (fun r99 m100 => Ob sh v2 12 ∧ wp_X12_best sh v2 (fun r102 m103 => if r99 = r102 then (L_law_p1087 L xs sh v0 v1 v2 v3 Q K18 m103) else (Q (0 : Int32) m103)) m100) m) else if ((xs v3.toNatClampNeg) &&& (63 : Int32)) = (13 : Int32) then (vp_in (v3 + (1 : Int32)) L ∧ (Ob sh v1 11 ∧ wp_X11_least sh v1 (xs (v3 + (1 : Int32)).toNatClampNeg) (fun r106 m107 => Ob sh v2 12 ∧ wp_X12_least sh v2 (xs (v3 + (1 : Int32)).toNatClampNeg) (fun r109 m110 => if r106 = r109 then (L_law_p1087 L xs sh v0 v1 v2 v3 Q K18 m110) else (Q (0 : Int32) m110)) m107) m)) else if ((xs v3.toNatClampNeg) &&& (63 : Int32)) = (14 : Int32) then (Ob sh v1 11 ∧ wp_X11_dry sh v1 (fun r112 m113 => Ob sh v2 12 ∧ wp_X12_dry sh v2 (fun r115 m116 => if r112 = r115 then (L_law_p1087 L xs sh v0 v1 v2 v3 Q K18 m116) else (Q (0 : Int32) m116)) m113) m) else if ((xs v3.toNatClampNeg) &&& (63 : Int32)) = (15 : Int32) then (vp_in (v3 + (1 : Int32)) L ∧ (vp_in (v3 + (2 : Int32)) L ∧ (Ob sh v1 11 ∧ wp_X11_bid sh v1 (xs (v3 + (1 : Int32)).toNatClampNeg) (xs (v3 + (2 : Int32)).toNatClampNeg) (fun r120 m121 => Ob sh v2 12 ∧ wp_X12_bid sh v2 (xs (v3 + (1 : Int32)).toNatClampNeg) (xs (v3 + (2 : Int32)).toNatClampNeg) (fun r123 m124 => if r120 = r123 then (L_law_p1087 L xs sh v0 v1 v2 v3 Q K18 m124) else (Q (0 : Int32) m124)) m121) m))) else if ((xs v3.toNatClampNeg) &&& (63 : Int32)) = (16 : Int32) then (vp_in (v3 + (1 : Int32)) L ∧ (Ob sh v1 11 ∧ wp_X11_rest sh v1 (xs (v3 + (1 : Int32)).toNatClampNeg) (fun r127 m128 => Ob sh v2 12 ∧ wp_X12_rest sh v2 (xs (v3 + (1 : Int32)).toNatClampNeg) (fun r130 m131 => if r127 = r130 then (L_law_p1087 L xs sh v0 v1 v2 v3 Q K18 m131) else (Q (0 : Int32) m131)) m128) m)) else if ((xs v3.toNatClampNeg) &&& (63 : Int32)) = (17 : Int32) then (vp_in (v3 + (1 : Int32)) L ∧ (vp_in (v3 + (2 : Int32)) L ∧ (vp_in (v3 + (3 : Int32)) L ∧ (Ob sh v1 11 ∧ wp_X11_parts sh v1 (xs (v3 + (1 : Int32)).toNatClampNeg) (xs (v3 + (2 : Int32)).toNatClampNeg) (xs (v3 + (3 : Int32)).toNatClampNeg) (fun r136 m137 => Ob sh v2 12 ∧ wp_X12_parts sh v2 (xs (v3 + (1 : Int32)).toNatClampNeg) (xs (v3 + (2 : Int32)).toNatClampNeg) (xs (v3 + (3 : Int32)).toNatClampNeg) (fun r139 m140 => if r136 = r139 then (L_law_p1087 L xs sh v0 v1 v2 v3 Q K18 m140) else (Q (0 : Int32) m140)) m137) m)))) else if ((xs v3.toNatClampNeg) &&& (63 : Int32)) = (18 : Int32) then (vp_in (v3 + (1 : Int32)) L ∧ (Ob sh v1 11 ∧ wp_X11_mill sh v1 (xs (v3 + (1 : Int32)).toNatClampNeg) (fun r143 m144 => Ob sh v2 12 ∧ wp_X12_mill sh v2 (xs (v3 + (1 : Int32)).toNatClampNeg) (fun r146 m147 => if r143 = r146 then (L_law_p1087 L xs sh v0 v1 v2 v3 Q K18 m147) else (Q (0 : Int32) m147)) m144) m)) else if ((xs v3.toNatClampNeg) &&& (63 : Int32)) = (19 : Int32) then (Ob sh v1 11 ∧ wp_X11_see sh v1 (fun r149 m150 => Ob sh v2 12 ∧ wp_X12_see sh v2 (fun r152 m153 => if r149 = r152 then (L_law_p1087 L xs sh v0 v1 v2 v3 Q K18 m153) else (Q (0 : Int32) m153)) m150) m) else if ((xs v3.toNatClampNeg) &&& (63 : Int32)) = (20 : Int32) then (Ob sh v1 11 ∧ wp_X11_who sh v1 (fun r155 m156 => Ob sh v2 12 ∧ wp_X12_who sh v2 (fun r158 m159 => if r155 = r158 then (L_law_p1087 L xs sh v0 v1 v2 v3 Q K18 m159) else (Q (0 : Int32) m159)) m156) m) else if ((xs v3.toNatClampNeg) &&& (63 : Int32)) = (21 : Int32) then (vp_in (v3 + (1 : Int32)) L ∧ (Ob sh v1 11 ∧ wp_X11_tells sh v1 (xs (v3 + (1 : Int32)).toNatClampNeg) (fun r162 m163 => Ob sh v2 12 ∧ wp_X12_tells sh v2 (xs (v3 + (1 : Int32)).toNatClampNeg) (fun r165 m166 => if r162 = r165 then (L_law_p1087 L xs sh v0 v1 v2 v3 Q K18 m166) else (Q (0 : Int32) m166)) m163) m)) else if ((xs v3.toNatClampNeg) &&& (63 : Int32)) = (22 : Int32) then (vp_in (v3 + (1 : Int32)) L ∧ (Ob sh v1 11 ∧ wp_X11_spring sh v1 (xs (v3 + (1 : Int32)).toNatClampNeg) (fun r169 m170 => Ob sh v2 12 ∧ wp_X12_spring sh v2 (xs (v3 + (1 : Int32)).toNatClampNeg) (fun r172 m173 => if r169 = r172 then (L_law_p1087 L xs sh v0 v1 v2 v3 Q K18 m173) else (Q (0 : Int32) m173)) m170) m)) else if ((xs v3.toNatClampNeg) &&& (63 : Int32)) = (23 : Int32) then (vp_in (v3 + (1 : Int32)) L ∧ (vp_in (v3 + (2 : Int32)) L ∧ (Ob sh v1 11 ∧ wp_X11_bake sh v1 (xs (v3 + (1 : Int32)).toNatClampNeg) (xs (v3 + (2 : Int32)).toNatClampNeg) (fun r177 m178 => Ob sh v2 12 ∧ wp_X12_bake sh v2 (xs (v3 + (1 : Int32)).toNatClampNeg) (xs (v3 + (2 : Int32)).toNatClampNeg) (fun r180 m181 => if r177 = r180 then (L_law_p1087 L xs sh v0 v1 v2 v3 Q K18 m181) else (Q (0 : Int32) m181)) m178) m))) else if ((xs v3.toNatClampNeg) &&& (63 : Int32)) = (24 : Int32) then (vp_in (v3 + (1 : Int32)) L ∧ (vp_in (v3 + (2 : Int32)) L ∧ (Ob sh v1 11 ∧ wp_X11_dig sh v1 (xs (v3 + (1 : Int32)).toNatClampNeg) (xs (v3 + (2 : Int32)).toNatClampNeg) (fun r185 m186 => Ob sh v2 12 ∧ wp_X12_dig sh v2 (xs (v3 + (1 : Int32)).toNatClampNeg) (xs (v3 + (2 : Int32)).toNatClampNeg) (fun r188 m189 => if r185 = r188 then (L_law_p1087 L xs sh v0 v1 v2 v3 Q K18 m189) else (Q (0 : Int32) m189)) m186) m))) else if ((xs v3.toNatClampNeg) &&& (63 : Int32)) = (25 : Int32) then (vp_in (v3 + (1 : Int32)) L ∧ (vp_in (v3 + (2 : Int32)) L ∧ (vp_in (v3 + (3 : Int32)) L ∧ (Ob sh v1 11 ∧ wp_X11_stone sh v1 (xs (v3 + (1 : Int32)).toNatClampNeg) (xs (v3 + (2 : Int32)).toNatClampNeg) (xs (v3 + (3 : Int32)).toNatClampNeg) (fun r194 m195 => Ob sh v2 12 ∧ wp_X12_stone sh v2 (xs (v3 + (1 : Int32)).toNatClampNeg) (xs (v3 + (2 : Int32)).toNatClampNeg) (xs (v3 + (3 : Int32)).toNatClampNeg) (fun r197 m198 => if r194 = r197 then (L_law_p1087 L xs sh v0 v1 v2 v3 Q K18 m198) else (Q (0 : Int32) m198)) m195) m)))) else if ((xs v3.toNatClampNeg) &&& (63 : Int32)) = (26 : Int32) then (vp_in (v3 + (1 : Int32)) L ∧ (Ob sh v1 11 ∧ wp_X11_chance sh v1 (xs (v3 + (1 : Int32)).toNatClampNeg) (fun r201 m202 => Ob sh v2 12 ∧ wp_X12_chance sh v2 (xs (v3 + (1 : Int32)).toNatClampNeg) (fun r204 m205 => if r201 = r204 then (L_law_p1087 L xs sh v0 v1 v2 v3 Q K18 m205) else (Q (0 : Int32) m205)) m202) m)) else if ((xs v3.toNatClampNeg) &&& (63 : Int32)) = (27 : Int32) then (Ob sh v1 11 ∧ wp_X11_undo sh v1 (fun r207 m208 => Ob sh v2 12 ∧ wp_X12_undo sh v2 (fun r210 m211 => if r207 = r210 then (L_law_p1087 L xs sh v0 v1 v2 v3 Q K18 m211) else (Q (0 : Int32) m211)) m208) m) else if ((xs v3.toNatClampNeg) &&& (63 : Int32)) = (28 : Int32) then (vp_in (v3 + (1 : Int32)) L ∧ (Ob sh v1 11 ∧ wp_X11_seed sh v1 (xs (v3 + (1 : Int32)).toNatClampNeg) (fun r214 m215 => Ob sh v2 12 ∧ wp_X12_seed sh v2 (xs (v3 + (1 : Int32)).toNatClampNeg) (fun r217 m218 => if r214 = r217 then (L_law_p1087 L xs sh v0 v1 v2 v3 Q K18 m218) else (Q (0 : Int32) m218)) m215) m)) else if ((xs v3.toNatClampNeg) &&& (63 : Int32)) = (29 : Int32) then (Ob sh v1 11 ∧ wp_X11_ask sh v1 (fun r220 m221 => Ob sh v2 12 ∧ wp_X12_ask sh v2 (fun r223 m224 => if (lg_cmp r220 r223) = 0 then (L_law_p1087 L xs sh v0 v1 v2 v3 Q K18 m224) else (Q (0 : Int32) m224)) m221) m) else if ((xs v3.toNatClampNeg) &&& (63 : Int32)) = (30 : Int32) then (Ob sh v1 11 ∧ wp_X11_image sh v1 (fun r226 m227 => Ob sh v2 12 ∧ wp_X12_image sh v2 (fun r229 m230 => if r226 = r229 then (L_law_p1087 L xs sh v0 v1 v2 v3 Q K18 m230) else (Q (0 : Int32) m230)) m227) m) else if ((xs v3.toNatClampNeg) &&& (63 : Int32)) = (31 : Int32) then (vp_in (v3 + (1 : Int32)) L ∧ (Ob sh v1 11 ∧ wp_X11_octet sh v1 (xs (v3 + (1 : Int32)).toNatClampNeg) (fun r233 m234 => Ob sh v2 12 ∧ wp_X12_octet sh v2 (xs (v3 + (1 : Int32)).toNatClampNeg) (fun r236 m237 => if r233 = r236 then (L_law_p1087 L xs sh v0 v1 v2 v3 Q K18 m237) else (Q (0 : Int32) m237)) m234) m)) else if ((xs v3.toNatClampNeg) &&& (63 : Int32)) = (32 : Int32) then (Ob sh v1 11 ∧ wp_X11_on sh v1 (fun r239 m240 => Ob sh v2 12 ∧ wp_X12_on sh v2 (fun r242 m243 => if r239 = r242 then (L_law_p1087 L xs sh v0 v1 v2 v3 Q K18 m243) else (Q (0 : Int32) m243)) m240) m) else if ((xs v3.toNatClampNeg) &&& (63 : Int32)) = (33 : Int32) then (vp_in (v3 + (1 : Int32)) L ∧ (Ob sh v1 11 ∧ wp_X11_status sh v1 (xs (v3 + (1 : Int32)).toNatClampNeg) (fun r246 m247 => Ob sh v2 12 ∧ wp_X12_status sh v2 (xs (v3 + (1 : Int32)).toNatClampNeg) (fun r249 m250 => if r246 = r249 then (L_law_p1087 L xs sh v0 v1 v2 v3 Q K18 m250) else (Q (0 : Int32) m250)) m247) m)) else (L_law_p1087 L xs sh v0 v1 v2 v3 Q K18 m)))
def L_law_n (L : Nat) (xs : Nat → Int32) (sh : Shp) (v0 v1 v2 : Nat) (Q : Int32 → Mem → Prop) : Nat → Int32 → Mem → Prop
  | 0 => fun _ _ => False
  | n + 1 => L_law_b L xs sh v0 v1 v2 Q (L_law_n L xs sh v0 v1 v2 Q n)
set_option maxHeartbeats 4000000 in
set_option maxRecDepth 100000 in
theorem v_L_law_p1087 {G : Gl} {F : Fr} {nm : String} {L : Nat} {xs : Nat → Int32} {Z : State → Prop} {sh : Shp} {v0 v1 v2 : Nat} {v3 : Int32} {Q : Int32 → Mem → Prop} {K18 : Int32 → Mem → Prop} {m : Mem} (hX : XA G F v0 L xs) (hZ : ∀ (pc : Nat) (ls : List (Nat × Value)) (x : Int32) (m : Mem), decode (M_law nm).1 pc = .ok (.ireturn, 1) → Q x m → V G F (M_law nm) sh 286 42574 Z pc ls [.int x] m) (hK18 : ∀ (x3 : Int32) (m : Mem), K18 x3 m → V G F (M_law nm) sh 286 42574 Z 18 [(0, .ref v0), (1, .ref (G.1 + v1)), (2, .ref (G.1 + v2)), (3, .int x3)] [] m) (h : L_law_p1087 L xs sh v0 v1 v2 v3 Q K18 m) : V G F (M_law nm) sh 286 42574 Z 1087 [(0, .ref v0), (1, .ref (G.1 + v1)), (2, .ref (G.1 + v2)), (3, .int v3)] [] m := by
  unfold L_law_p1087 at h
  refine v_iinc (ls' := [(3, .int _), (0, .ref _), (1, .ref _), (2, .ref _)]) 3 3 dL_law_1087 rfl (congrArg (HAdd.hAdd _) (by decide : Int32.ofInt (6) = (6 : Int32))) (Nat.le_of_ble_eq_true rfl) rfl ?_
  refine v_goto 18 dL_law_1090 (by decide) ?_
  refine v_sub [1, 2, 3, 0] rfl ?_
  exact hK18 _ _ h
set_option maxHeartbeats 4000000 in
set_option maxRecDepth 100000 in
theorem v_L_law_b {G : Gl} {F : Fr} {nm : String} {L : Nat} {xs : Nat → Int32} {Z : State → Prop} {sh : Shp} {v0 v1 v2 : Nat} {v3 : Int32} {Q : Int32 → Mem → Prop} {K18 : Int32 → Mem → Prop} {m : Mem} (hX : XA G F v0 L xs) (hZ : ∀ (pc : Nat) (ls : List (Nat × Value)) (x : Int32) (m : Mem), decode (M_law nm).1 pc = .ok (.ireturn, 1) → Q x m → V G F (M_law nm) sh 286 42574 Z pc ls [.int x] m) (hK18 : ∀ (x3 : Int32) (m : Mem), K18 x3 m → V G F (M_law nm) sh 286 42574 Z 18 [(0, .ref v0), (1, .ref (G.1 + v1)), (2, .ref (G.1 + v2)), (3, .int x3)] [] m) (h : L_law_b L xs sh v0 v1 v2 Q K18 v3 m) : V G F (M_law nm) sh 286 42574 Z 18 [(0, .ref v0), (1, .ref (G.1 + v1)), (2, .ref (G.1 + v2)), (3, .int v3)] [] m := by
  unfold L_law_b at h
  refine v_iload_n 3 3 dL_law_18 rfl rfl ?_
  refine v_aload_n 0 0 dL_law_19 rfl rfl ?_
  refine v_xlen hX dL_law_20 ?_
  refine v_bipush (6 : Int32) dL_law_21 (by decide) ?_
  refine v_isub dL_law_23 ?_
  refine v_icmp_gt 1093 dL_law_24 (by decide) (fun hc => ?_) (fun hc => ?_)
  · replace h := Eq.mp (if_pos hc) h
    refine v_iconst (1 : Int32) dL_law_1093 (by decide) ?_
    exact hZ _ _ _ _ dL_law_1094 h
  · replace h := Eq.mp (if_neg hc) h
    refine v_aload_n 0 0 dL_law_27 rfl rfl ?_
    refine v_iload_n 3 3 dL_law_28 rfl rfl ?_
    obtain ⟨i1, h⟩ := h
    refine v_xld hX dL_law_29 i1 ?_
    refine v_bipush (63 : Int32) dL_law_30 (by decide) ?_
    refine v_iand dL_law_32 ?_
    by_cases hc0 : ((xs v3.toNatClampNeg) &&& (63 : Int32)) = (0 : Int32)
    · replace h := Eq.mp (if_pos hc0) h
      refine v_tabK (0 : Int32) hc0 184 dL_law_33 (by decide) (by decide) rfl (by decide) ?_
      refine v_aload_n 1 1 dL_law_184 rfl rfl ?_
      refine v_aload_n 0 0 dL_law_185 rfl rfl ?_
      refine v_iload_n 3 3 dL_law_186 rfl rfl ?_
      refine v_iconst (1 : Int32) dL_law_187 (by decide) ?_
      refine v_iadd dL_law_188 ?_
      obtain ⟨i2, h⟩ := h
      refine v_xld hX dL_law_189 i2 ?_
      refine v_aload_n 0 0 dL_law_190 rfl rfl ?_
      refine v_iload_n 3 3 dL_law_191 rfl rfl ?_
      refine v_iconst (2 : Int32) dL_law_192 (by decide) ?_
      refine v_iadd dL_law_193 ?_
      obtain ⟨i3, h⟩ := h
      refine v_xld hX dL_law_194 i3 ?_
      refine v_aload_n 0 0 dL_law_195 rfl rfl ?_
      refine v_iload_n 3 3 dL_law_196 rfl rfl ?_
      refine v_iconst (3 : Int32) dL_law_197 (by decide) ?_
      refine v_iadd dL_law_198 ?_
      obtain ⟨i4, h⟩ := h
      refine v_xld hX dL_law_199 i4 ?_
      refine v_aload_n 0 0 dL_law_200 rfl rfl ?_
      refine v_iload_n 3 3 dL_law_201 rfl rfl ?_
      refine v_iconst (4 : Int32) dL_law_202 (by decide) ?_
      refine v_iadd dL_law_203 ?_
      obtain ⟨i5, h⟩ := h
      refine v_xld hX dL_law_204 i5 ?_
      refine v_aload_n 0 0 dL_law_205 rfl rfl ?_
      refine v_iload_n 3 3 dL_law_206 rfl rfl ?_
      refine v_iconst (5 : Int32) dL_law_207 (by decide) ?_
      refine v_iadd dL_law_208 ?_
      obtain ⟨i6, h⟩ := h
      refine v_xld hX dL_law_209 i6 ?_
      obtain ⟨o9, h⟩ := h
      refine v_cVi [.int _, .int _, .int _, .int _, .int _] mv_X11_feed ml_RL_13 ⟨_, _, rfl⟩ o9 rfl rfl (Nat.le_of_ble_eq_true rfl) (Nat.le_of_ble_eq_true rfl) (Nat.le_of_ble_eq_true rfl) (Nat.le_of_ble_eq_true rfl) (Nat.le_of_ble_eq_true rfl) dL_law_210 (c_X11_feed h) (fun r7 m8 h => ?_)
      refine v_aload_n 2 2 dL_law_213 rfl rfl ?_
      refine v_aload_n 0 0 dL_law_214 rfl rfl ?_
      refine v_iload_n 3 3 dL_law_215 rfl rfl ?_
      refine v_iconst (1 : Int32) dL_law_216 (by decide) ?_
      refine v_iadd dL_law_217 ?_
      refine v_xld hX dL_law_218 i2 ?_
      refine v_aload_n 0 0 dL_law_219 rfl rfl ?_
      refine v_iload_n 3 3 dL_law_220 rfl rfl ?_
      refine v_iconst (2 : Int32) dL_law_221 (by decide) ?_
      refine v_iadd dL_law_222 ?_
      refine v_xld hX dL_law_223 i3 ?_
      refine v_aload_n 0 0 dL_law_224 rfl rfl ?_
      refine v_iload_n 3 3 dL_law_225 rfl rfl ?_
      refine v_iconst (3 : Int32) dL_law_226 (by decide) ?_
      refine v_iadd dL_law_227 ?_
      refine v_xld hX dL_law_228 i4 ?_
      refine v_aload_n 0 0 dL_law_229 rfl rfl ?_
      refine v_iload_n 3 3 dL_law_230 rfl rfl ?_
      refine v_iconst (4 : Int32) dL_law_231 (by decide) ?_
      refine v_iadd dL_law_232 ?_
      refine v_xld hX dL_law_233 i5 ?_
      refine v_aload_n 0 0 dL_law_234 rfl rfl ?_
      refine v_iload_n 3 3 dL_law_235 rfl rfl ?_
      refine v_iconst (5 : Int32) dL_law_236 (by decide) ?_
      refine v_iadd dL_law_237 ?_
      refine v_xld hX dL_law_238 i6 ?_
      obtain ⟨o12, h⟩ := h
      refine v_cVi [.int _, .int _, .int _, .int _, .int _] mv_X12_feed ml_RL_17 ⟨_, _, rfl⟩ o12 rfl rfl (Nat.le_of_ble_eq_true rfl) (Nat.le_of_ble_eq_true rfl) (Nat.le_of_ble_eq_true rfl) (Nat.le_of_ble_eq_true rfl) (Nat.le_of_ble_eq_true rfl) dL_law_239 (c_X12_feed h) (fun r10 m11 h => ?_)
      refine v_icmp_eq 1087 dL_law_242 (by decide) (fun hc => ?_) (fun hc => ?_)
      · replace h := Eq.mp (if_pos hc) h
        refine v_sub [0, 1, 2, 3] rfl ?_
        exact v_L_law_p1087 hX hZ hK18 h
      · replace h := Eq.mp (if_neg hc) h
        refine v_iconst (0 : Int32) dL_law_245 (by decide) ?_
        exact hZ _ _ _ _ dL_law_246 h
    replace h := Eq.mp (if_neg hc0) h
    by_cases hc1 : ((xs v3.toNatClampNeg) &&& (63 : Int32)) = (1 : Int32)
    · replace h := Eq.mp (if_pos hc1) h
      refine v_tabK (1 : Int32) hc1 247 dL_law_33 (by decide) (by decide) rfl (by decide) ?_
      refine v_aload_n 1 1 dL_law_247 rfl rfl ?_
      refine v_aload_n 0 0 dL_law_248 rfl rfl ?_
      refine v_iload_n 3 3 dL_law_249 rfl rfl ?_
      refine v_iconst (1 : Int32) dL_law_250 (by decide) ?_
      refine v_iadd dL_law_251 ?_
      obtain ⟨i13, h⟩ := h
      refine v_xld hX dL_law_252 i13 ?_
      obtain ⟨o16, h⟩ := h
      refine v_cVi [.int _] mv_X11_end ml_RL_18 ⟨_, _, rfl⟩ o16 rfl rfl (Nat.le_of_ble_eq_true rfl) (Nat.le_of_ble_eq_true rfl) (Nat.le_of_ble_eq_true rfl) (Nat.le_of_ble_eq_true rfl) (Nat.le_of_ble_eq_true rfl) dL_law_253 (c_X11_end h) (fun r14 m15 h => ?_)
      refine v_aload_n 2 2 dL_law_256 rfl rfl ?_
      refine v_aload_n 0 0 dL_law_257 rfl rfl ?_
      refine v_iload_n 3 3 dL_law_258 rfl rfl ?_
      refine v_iconst (1 : Int32) dL_law_259 (by decide) ?_
      refine v_iadd dL_law_260 ?_
      refine v_xld hX dL_law_261 i13 ?_
      obtain ⟨o19, h⟩ := h
      refine v_cVi [.int _] mv_X12_end ml_RL_22 ⟨_, _, rfl⟩ o19 rfl rfl (Nat.le_of_ble_eq_true rfl) (Nat.le_of_ble_eq_true rfl) (Nat.le_of_ble_eq_true rfl) (Nat.le_of_ble_eq_true rfl) (Nat.le_of_ble_eq_true rfl) dL_law_262 (c_X12_end h) (fun r17 m18 h => ?_)
      refine v_icmp_eq 1087 dL_law_265 (by decide) (fun hc => ?_) (fun hc => ?_)
      · replace h := Eq.mp (if_pos hc) h
        refine v_sub [0, 1, 2, 3] rfl ?_
        exact v_L_law_p1087 hX hZ hK18 h
      · replace h := Eq.mp (if_neg hc) h
        refine v_iconst (0 : Int32) dL_law_268 (by decide) ?_
        exact hZ _ _ _ _ dL_law_269 h
    replace h := Eq.mp (if_neg hc1) h
    by_cases hc2 : ((xs v3.toNatClampNeg) &&& (63 : Int32)) = (2 : Int32)
    · replace h := Eq.mp (if_pos hc2) h
      refine v_tabK (2 : Int32) hc2 270 dL_law_33 (by decide) (by decide) rfl (by decide) ?_
      refine v_aload_n 1 1 dL_law_270 rfl rfl ?_
      obtain ⟨o22, h⟩ := h
      refine v_cVi [] mv_X11_plain ml_RL_23 ⟨_, _, rfl⟩ o22 rfl rfl (Nat.le_of_ble_eq_true rfl) (Nat.le_of_ble_eq_true rfl) (Nat.le_of_ble_eq_true rfl) (Nat.le_of_ble_eq_true rfl) (Nat.le_of_ble_eq_true rfl) dL_law_271 (c_X11_plain h) (fun r20 m21 h => ?_)
      refine v_aload_n 2 2 dL_law_274 rfl rfl ?_
      obtain ⟨o25, h⟩ := h
      refine v_cVi [] mv_X12_plain ml_RL_27 ⟨_, _, rfl⟩ o25 rfl rfl (Nat.le_of_ble_eq_true rfl) (Nat.le_of_ble_eq_true rfl) (Nat.le_of_ble_eq_true rfl) (Nat.le_of_ble_eq_true rfl) (Nat.le_of_ble_eq_true rfl) dL_law_275 (c_X12_plain h) (fun r23 m24 h => ?_)
      refine v_icmp_eq 1087 dL_law_278 (by decide) (fun hc => ?_) (fun hc => ?_)
      · replace h := Eq.mp (if_pos hc) h
        refine v_sub [0, 1, 2, 3] rfl ?_
        exact v_L_law_p1087 hX hZ hK18 h
      · replace h := Eq.mp (if_neg hc) h
        refine v_iconst (0 : Int32) dL_law_281 (by decide) ?_
        exact hZ _ _ _ _ dL_law_282 h
    replace h := Eq.mp (if_neg hc2) h
    by_cases hc3 : ((xs v3.toNatClampNeg) &&& (63 : Int32)) = (3 : Int32)
    · replace h := Eq.mp (if_pos hc3) h
      refine v_tabK (3 : Int32) hc3 283 dL_law_33 (by decide) (by decide) rfl (by decide) ?_
      refine v_aload_n 1 1 dL_law_283 rfl rfl ?_
      refine v_aload_n 0 0 dL_law_284 rfl rfl ?_
      refine v_iload_n 3 3 dL_law_285 rfl rfl ?_
      refine v_iconst (1 : Int32) dL_law_286 (by decide) ?_
      refine v_iadd dL_law_287 ?_
      obtain ⟨i26, h⟩ := h
      refine v_xld hX dL_law_288 i26 ?_
      obtain ⟨o29, h⟩ := h
      refine v_cVi [.int _] mv_X11_fault ml_RL_28 ⟨_, _, rfl⟩ o29 rfl rfl (Nat.le_of_ble_eq_true rfl) (Nat.le_of_ble_eq_true rfl) (Nat.le_of_ble_eq_true rfl) (Nat.le_of_ble_eq_true rfl) (Nat.le_of_ble_eq_true rfl) dL_law_289 (c_X11_fault h) (fun r27 m28 h => ?_)
      refine v_aload_n 2 2 dL_law_292 rfl rfl ?_
      refine v_aload_n 0 0 dL_law_293 rfl rfl ?_
      refine v_iload_n 3 3 dL_law_294 rfl rfl ?_
      refine v_iconst (1 : Int32) dL_law_295 (by decide) ?_
      refine v_iadd dL_law_296 ?_
      refine v_xld hX dL_law_297 i26 ?_
      obtain ⟨o32, h⟩ := h
      refine v_cVi [.int _] mv_X12_fault ml_RL_32 ⟨_, _, rfl⟩ o32 rfl rfl (Nat.le_of_ble_eq_true rfl) (Nat.le_of_ble_eq_true rfl) (Nat.le_of_ble_eq_true rfl) (Nat.le_of_ble_eq_true rfl) (Nat.le_of_ble_eq_true rfl) dL_law_298 (c_X12_fault h) (fun r30 m31 h => ?_)
      refine v_icmp_eq 1087 dL_law_301 (by decide) (fun hc => ?_) (fun hc => ?_)
      · replace h := Eq.mp (if_pos hc) h
        refine v_sub [0, 1, 2, 3] rfl ?_
        exact v_L_law_p1087 hX hZ hK18 h
      · replace h := Eq.mp (if_neg hc) h
        refine v_iconst (0 : Int32) dL_law_304 (by decide) ?_
        exact hZ _ _ _ _ dL_law_305 h
    replace h := Eq.mp (if_neg hc3) h
    by_cases hc4 : ((xs v3.toNatClampNeg) &&& (63 : Int32)) = (4 : Int32)
    · replace h := Eq.mp (if_pos hc4) h
      refine v_tabK (4 : Int32) hc4 306 dL_law_33 (by decide) (by decide) rfl (by decide) ?_
      refine v_aload_n 1 1 dL_law_306 rfl rfl ?_
      refine v_aload_n 0 0 dL_law_307 rfl rfl ?_
      refine v_iload_n 3 3 dL_law_308 rfl rfl ?_
      refine v_iconst (1 : Int32) dL_law_309 (by decide) ?_
      refine v_iadd dL_law_310 ?_
      obtain ⟨i33, h⟩ := h
      refine v_xld hX dL_law_311 i33 ?_
      obtain ⟨o36, h⟩ := h
      refine v_cVi [.int _] mv_X11_has ml_RL_33 ⟨_, _, rfl⟩ o36 rfl rfl (Nat.le_of_ble_eq_true rfl) (Nat.le_of_ble_eq_true rfl) (Nat.le_of_ble_eq_true rfl) (Nat.le_of_ble_eq_true rfl) (Nat.le_of_ble_eq_true rfl) dL_law_312 (c_X11_has h) (fun r34 m35 h => ?_)
      refine v_aload_n 2 2 dL_law_315 rfl rfl ?_
      refine v_aload_n 0 0 dL_law_316 rfl rfl ?_
      refine v_iload_n 3 3 dL_law_317 rfl rfl ?_
      refine v_iconst (1 : Int32) dL_law_318 (by decide) ?_
      refine v_iadd dL_law_319 ?_
      refine v_xld hX dL_law_320 i33 ?_
      obtain ⟨o39, h⟩ := h
      refine v_cVi [.int _] mv_X12_has ml_RL_36 ⟨_, _, rfl⟩ o39 rfl rfl (Nat.le_of_ble_eq_true rfl) (Nat.le_of_ble_eq_true rfl) (Nat.le_of_ble_eq_true rfl) (Nat.le_of_ble_eq_true rfl) (Nat.le_of_ble_eq_true rfl) dL_law_321 (c_X12_has h) (fun r37 m38 h => ?_)
      refine v_icmp_eq 1087 dL_law_324 (by decide) (fun hc => ?_) (fun hc => ?_)
      · replace h := Eq.mp (if_pos hc) h
        refine v_sub [0, 1, 2, 3] rfl ?_
        exact v_L_law_p1087 hX hZ hK18 h
      · replace h := Eq.mp (if_neg hc) h
        refine v_iconst (0 : Int32) dL_law_327 (by decide) ?_
        exact hZ _ _ _ _ dL_law_328 h
    replace h := Eq.mp (if_neg hc4) h
    by_cases hc5 : ((xs v3.toNatClampNeg) &&& (63 : Int32)) = (5 : Int32)
    · replace h := Eq.mp (if_pos hc5) h
      refine v_tabK (5 : Int32) hc5 329 dL_law_33 (by decide) (by decide) rfl (by decide) ?_
      refine v_aload_n 1 1 dL_law_329 rfl rfl ?_
      refine v_aload_n 0 0 dL_law_330 rfl rfl ?_
      refine v_iload_n 3 3 dL_law_331 rfl rfl ?_
      refine v_iconst (1 : Int32) dL_law_332 (by decide) ?_
      refine v_iadd dL_law_333 ?_
      obtain ⟨i40, h⟩ := h
      refine v_xld hX dL_law_334 i40 ?_
      refine v_aload_n 0 0 dL_law_335 rfl rfl ?_
      refine v_iload_n 3 3 dL_law_336 rfl rfl ?_
      refine v_iconst (2 : Int32) dL_law_337 (by decide) ?_
      refine v_iadd dL_law_338 ?_
      obtain ⟨i41, h⟩ := h
      refine v_xld hX dL_law_339 i41 ?_
      refine v_aload_n 0 0 dL_law_340 rfl rfl ?_
      refine v_iload_n 3 3 dL_law_341 rfl rfl ?_
      refine v_iconst (3 : Int32) dL_law_342 (by decide) ?_
      refine v_iadd dL_law_343 ?_
      obtain ⟨i42, h⟩ := h
      refine v_xld hX dL_law_344 i42 ?_
      obtain ⟨o45, h⟩ := h
      refine v_cVi [.int _, .int _, .int _] mv_X11_letter ml_RL_37 ⟨_, _, rfl⟩ o45 rfl rfl (Nat.le_of_ble_eq_true rfl) (Nat.le_of_ble_eq_true rfl) (Nat.le_of_ble_eq_true rfl) (Nat.le_of_ble_eq_true rfl) (Nat.le_of_ble_eq_true rfl) dL_law_345 (c_X11_letter h) (fun r43 m44 h => ?_)
      refine v_aload_n 2 2 dL_law_348 rfl rfl ?_
      refine v_aload_n 0 0 dL_law_349 rfl rfl ?_
      refine v_iload_n 3 3 dL_law_350 rfl rfl ?_
      refine v_iconst (1 : Int32) dL_law_351 (by decide) ?_
      refine v_iadd dL_law_352 ?_
      refine v_xld hX dL_law_353 i40 ?_
      refine v_aload_n 0 0 dL_law_354 rfl rfl ?_
      refine v_iload_n 3 3 dL_law_355 rfl rfl ?_
      refine v_iconst (2 : Int32) dL_law_356 (by decide) ?_
      refine v_iadd dL_law_357 ?_
      refine v_xld hX dL_law_358 i41 ?_
      refine v_aload_n 0 0 dL_law_359 rfl rfl ?_
      refine v_iload_n 3 3 dL_law_360 rfl rfl ?_
      refine v_iconst (3 : Int32) dL_law_361 (by decide) ?_
      refine v_iadd dL_law_362 ?_
      refine v_xld hX dL_law_363 i42 ?_
      obtain ⟨o48, h⟩ := h
      refine v_cVi [.int _, .int _, .int _] mv_X12_letter ml_RL_41 ⟨_, _, rfl⟩ o48 rfl rfl (Nat.le_of_ble_eq_true rfl) (Nat.le_of_ble_eq_true rfl) (Nat.le_of_ble_eq_true rfl) (Nat.le_of_ble_eq_true rfl) (Nat.le_of_ble_eq_true rfl) dL_law_364 (c_X12_letter h) (fun r46 m47 h => ?_)
      refine v_icmp_eq 1087 dL_law_367 (by decide) (fun hc => ?_) (fun hc => ?_)
      · replace h := Eq.mp (if_pos hc) h
        refine v_sub [0, 1, 2, 3] rfl ?_
        exact v_L_law_p1087 hX hZ hK18 h
      · replace h := Eq.mp (if_neg hc) h
        refine v_iconst (0 : Int32) dL_law_370 (by decide) ?_
        exact hZ _ _ _ _ dL_law_371 h
    replace h := Eq.mp (if_neg hc5) h
    by_cases hc6 : ((xs v3.toNatClampNeg) &&& (63 : Int32)) = (6 : Int32)
    · replace h := Eq.mp (if_pos hc6) h
      refine v_tabK (6 : Int32) hc6 372 dL_law_33 (by decide) (by decide) rfl (by decide) ?_
      refine v_aload_n 1 1 dL_law_372 rfl rfl ?_
      refine v_aload_n 0 0 dL_law_373 rfl rfl ?_
      refine v_iload_n 3 3 dL_law_374 rfl rfl ?_
      refine v_iconst (1 : Int32) dL_law_375 (by decide) ?_
      refine v_iadd dL_law_376 ?_
      obtain ⟨i49, h⟩ := h
      refine v_xld hX dL_law_377 i49 ?_
      refine v_aload_n 0 0 dL_law_378 rfl rfl ?_
      refine v_iload_n 3 3 dL_law_379 rfl rfl ?_
      refine v_iconst (2 : Int32) dL_law_380 (by decide) ?_
      refine v_iadd dL_law_381 ?_
      obtain ⟨i50, h⟩ := h
      refine v_xld hX dL_law_382 i50 ?_
      refine v_aload_n 0 0 dL_law_383 rfl rfl ?_
      refine v_iload_n 3 3 dL_law_384 rfl rfl ?_
      refine v_iconst (3 : Int32) dL_law_385 (by decide) ?_
      refine v_iadd dL_law_386 ?_
      obtain ⟨i51, h⟩ := h
      refine v_xld hX dL_law_387 i51 ?_
      obtain ⟨o54, h⟩ := h
      refine v_cVi [.int _, .int _, .int _] mv_X11_cell ml_RL_42 ⟨_, _, rfl⟩ o54 rfl rfl (Nat.le_of_ble_eq_true rfl) (Nat.le_of_ble_eq_true rfl) (Nat.le_of_ble_eq_true rfl) (Nat.le_of_ble_eq_true rfl) (Nat.le_of_ble_eq_true rfl) dL_law_388 (c_X11_cell h) (fun r52 m53 h => ?_)
      refine v_aload_n 2 2 dL_law_391 rfl rfl ?_
      refine v_aload_n 0 0 dL_law_392 rfl rfl ?_
      refine v_iload_n 3 3 dL_law_393 rfl rfl ?_
      refine v_iconst (1 : Int32) dL_law_394 (by decide) ?_
      refine v_iadd dL_law_395 ?_
      refine v_xld hX dL_law_396 i49 ?_
      refine v_aload_n 0 0 dL_law_397 rfl rfl ?_
      refine v_iload_n 3 3 dL_law_398 rfl rfl ?_
      refine v_iconst (2 : Int32) dL_law_399 (by decide) ?_
      refine v_iadd dL_law_400 ?_
      refine v_xld hX dL_law_401 i50 ?_
      refine v_aload_n 0 0 dL_law_402 rfl rfl ?_
      refine v_iload_n 3 3 dL_law_403 rfl rfl ?_
      refine v_iconst (3 : Int32) dL_law_404 (by decide) ?_
      refine v_iadd dL_law_405 ?_
      refine v_xld hX dL_law_406 i51 ?_
      obtain ⟨o57, h⟩ := h
      refine v_cVi [.int _, .int _, .int _] mv_X12_cell ml_RL_45 ⟨_, _, rfl⟩ o57 rfl rfl (Nat.le_of_ble_eq_true rfl) (Nat.le_of_ble_eq_true rfl) (Nat.le_of_ble_eq_true rfl) (Nat.le_of_ble_eq_true rfl) (Nat.le_of_ble_eq_true rfl) dL_law_407 (c_X12_cell h) (fun r55 m56 h => ?_)
      refine v_icmp_eq 1087 dL_law_410 (by decide) (fun hc => ?_) (fun hc => ?_)
      · replace h := Eq.mp (if_pos hc) h
        refine v_sub [0, 1, 2, 3] rfl ?_
        exact v_L_law_p1087 hX hZ hK18 h
      · replace h := Eq.mp (if_neg hc) h
        refine v_iconst (0 : Int32) dL_law_413 (by decide) ?_
        exact hZ _ _ _ _ dL_law_414 h
    replace h := Eq.mp (if_neg hc6) h
    by_cases hc7 : ((xs v3.toNatClampNeg) &&& (63 : Int32)) = (7 : Int32)
    · replace h := Eq.mp (if_pos hc7) h
      refine v_tabK (7 : Int32) hc7 415 dL_law_33 (by decide) (by decide) rfl (by decide) ?_
      refine v_aload_n 1 1 dL_law_415 rfl rfl ?_
      refine v_aload_n 0 0 dL_law_416 rfl rfl ?_
      refine v_iload_n 3 3 dL_law_417 rfl rfl ?_
      refine v_iconst (1 : Int32) dL_law_418 (by decide) ?_
      refine v_iadd dL_law_419 ?_
      obtain ⟨i58, h⟩ := h
      refine v_xld hX dL_law_420 i58 ?_
      refine v_aload_n 0 0 dL_law_421 rfl rfl ?_
      refine v_iload_n 3 3 dL_law_422 rfl rfl ?_
      refine v_iconst (2 : Int32) dL_law_423 (by decide) ?_
      refine v_iadd dL_law_424 ?_
      obtain ⟨i59, h⟩ := h
      refine v_xld hX dL_law_425 i59 ?_
      obtain ⟨o62, h⟩ := h
      refine v_cVi [.int _, .int _] mv_X11_farm ml_RL_46 ⟨_, _, rfl⟩ o62 rfl rfl (Nat.le_of_ble_eq_true rfl) (Nat.le_of_ble_eq_true rfl) (Nat.le_of_ble_eq_true rfl) (Nat.le_of_ble_eq_true rfl) (Nat.le_of_ble_eq_true rfl) dL_law_426 (c_X11_farm h) (fun r60 m61 h => ?_)
      refine v_aload_n 2 2 dL_law_429 rfl rfl ?_
      refine v_aload_n 0 0 dL_law_430 rfl rfl ?_
      refine v_iload_n 3 3 dL_law_431 rfl rfl ?_
      refine v_iconst (1 : Int32) dL_law_432 (by decide) ?_
      refine v_iadd dL_law_433 ?_
      refine v_xld hX dL_law_434 i58 ?_
      refine v_aload_n 0 0 dL_law_435 rfl rfl ?_
      refine v_iload_n 3 3 dL_law_436 rfl rfl ?_
      refine v_iconst (2 : Int32) dL_law_437 (by decide) ?_
      refine v_iadd dL_law_438 ?_
      refine v_xld hX dL_law_439 i59 ?_
      obtain ⟨o65, h⟩ := h
      refine v_cVi [.int _, .int _] mv_X12_farm ml_RL_50 ⟨_, _, rfl⟩ o65 rfl rfl (Nat.le_of_ble_eq_true rfl) (Nat.le_of_ble_eq_true rfl) (Nat.le_of_ble_eq_true rfl) (Nat.le_of_ble_eq_true rfl) (Nat.le_of_ble_eq_true rfl) dL_law_440 (c_X12_farm h) (fun r63 m64 h => ?_)
      refine v_icmp_eq 1087 dL_law_443 (by decide) (fun hc => ?_) (fun hc => ?_)
      · replace h := Eq.mp (if_pos hc) h
        refine v_sub [0, 1, 2, 3] rfl ?_
        exact v_L_law_p1087 hX hZ hK18 h
      · replace h := Eq.mp (if_neg hc) h
        refine v_iconst (0 : Int32) dL_law_446 (by decide) ?_
        exact hZ _ _ _ _ dL_law_447 h
    replace h := Eq.mp (if_neg hc7) h
    by_cases hc8 : ((xs v3.toNatClampNeg) &&& (63 : Int32)) = (8 : Int32)
    · replace h := Eq.mp (if_pos hc8) h
      refine v_tabK (8 : Int32) hc8 448 dL_law_33 (by decide) (by decide) rfl (by decide) ?_
      refine v_aload_n 1 1 dL_law_448 rfl rfl ?_
      refine v_aload_n 0 0 dL_law_449 rfl rfl ?_
      refine v_iload_n 3 3 dL_law_450 rfl rfl ?_
      refine v_iconst (1 : Int32) dL_law_451 (by decide) ?_
      refine v_iadd dL_law_452 ?_
      obtain ⟨i66, h⟩ := h
      refine v_xld hX dL_law_453 i66 ?_
      refine v_aload_n 0 0 dL_law_454 rfl rfl ?_
      refine v_iload_n 3 3 dL_law_455 rfl rfl ?_
      refine v_iconst (2 : Int32) dL_law_456 (by decide) ?_
      refine v_iadd dL_law_457 ?_
      obtain ⟨i67, h⟩ := h
      refine v_xld hX dL_law_458 i67 ?_
      obtain ⟨o70, h⟩ := h
      refine v_cVi [.int _, .int _] mv_X11_caller ml_RL_51 ⟨_, _, rfl⟩ o70 rfl rfl (Nat.le_of_ble_eq_true rfl) (Nat.le_of_ble_eq_true rfl) (Nat.le_of_ble_eq_true rfl) (Nat.le_of_ble_eq_true rfl) (Nat.le_of_ble_eq_true rfl) dL_law_459 (c_X11_caller h) (fun r68 m69 h => ?_)
      refine v_aload_n 2 2 dL_law_462 rfl rfl ?_
      refine v_aload_n 0 0 dL_law_463 rfl rfl ?_
      refine v_iload_n 3 3 dL_law_464 rfl rfl ?_
      refine v_iconst (1 : Int32) dL_law_465 (by decide) ?_
      refine v_iadd dL_law_466 ?_
      refine v_xld hX dL_law_467 i66 ?_
      refine v_aload_n 0 0 dL_law_468 rfl rfl ?_
      refine v_iload_n 3 3 dL_law_469 rfl rfl ?_
      refine v_iconst (2 : Int32) dL_law_470 (by decide) ?_
      refine v_iadd dL_law_471 ?_
      refine v_xld hX dL_law_472 i67 ?_
      obtain ⟨o73, h⟩ := h
      refine v_cVi [.int _, .int _] mv_X12_caller ml_RL_54 ⟨_, _, rfl⟩ o73 rfl rfl (Nat.le_of_ble_eq_true rfl) (Nat.le_of_ble_eq_true rfl) (Nat.le_of_ble_eq_true rfl) (Nat.le_of_ble_eq_true rfl) (Nat.le_of_ble_eq_true rfl) dL_law_473 (c_X12_caller h) (fun r71 m72 h => ?_)
      refine v_icmp_eq 1087 dL_law_476 (by decide) (fun hc => ?_) (fun hc => ?_)
      · replace h := Eq.mp (if_pos hc) h
        refine v_sub [0, 1, 2, 3] rfl ?_
        exact v_L_law_p1087 hX hZ hK18 h
      · replace h := Eq.mp (if_neg hc) h
        refine v_iconst (0 : Int32) dL_law_479 (by decide) ?_
        exact hZ _ _ _ _ dL_law_480 h
    replace h := Eq.mp (if_neg hc8) h
    by_cases hc9 : ((xs v3.toNatClampNeg) &&& (63 : Int32)) = (9 : Int32)
    · replace h := Eq.mp (if_pos hc9) h
      refine v_tabK (9 : Int32) hc9 481 dL_law_33 (by decide) (by decide) rfl (by decide) ?_
      refine v_aload_n 1 1 dL_law_481 rfl rfl ?_
      refine v_aload_n 0 0 dL_law_482 rfl rfl ?_
      refine v_iload_n 3 3 dL_law_483 rfl rfl ?_
      refine v_iconst (1 : Int32) dL_law_484 (by decide) ?_
      refine v_iadd dL_law_485 ?_
      obtain ⟨i74, h⟩ := h
      refine v_xld hX dL_law_486 i74 ?_
      refine v_aload_n 0 0 dL_law_487 rfl rfl ?_
      refine v_iload_n 3 3 dL_law_488 rfl rfl ?_
      refine v_iconst (2 : Int32) dL_law_489 (by decide) ?_
      refine v_iadd dL_law_490 ?_
      obtain ⟨i75, h⟩ := h
      refine v_xld hX dL_law_491 i75 ?_
      obtain ⟨o78, h⟩ := h
      refine v_cVi [.int _, .int _] mv_X11_kept ml_RL_55 ⟨_, _, rfl⟩ o78 rfl rfl (Nat.le_of_ble_eq_true rfl) (Nat.le_of_ble_eq_true rfl) (Nat.le_of_ble_eq_true rfl) (Nat.le_of_ble_eq_true rfl) (Nat.le_of_ble_eq_true rfl) dL_law_492 (c_X11_kept h) (fun r76 m77 h => ?_)
      refine v_aload_n 2 2 dL_law_495 rfl rfl ?_
      refine v_aload_n 0 0 dL_law_496 rfl rfl ?_
      refine v_iload_n 3 3 dL_law_497 rfl rfl ?_
      refine v_iconst (1 : Int32) dL_law_498 (by decide) ?_
      refine v_iadd dL_law_499 ?_
      refine v_xld hX dL_law_500 i74 ?_
      refine v_aload_n 0 0 dL_law_501 rfl rfl ?_
      refine v_iload_n 3 3 dL_law_502 rfl rfl ?_
      refine v_iconst (2 : Int32) dL_law_503 (by decide) ?_
      refine v_iadd dL_law_504 ?_
      refine v_xld hX dL_law_505 i75 ?_
      obtain ⟨o81, h⟩ := h
      refine v_cVi [.int _, .int _] mv_X12_kept ml_RL_58 ⟨_, _, rfl⟩ o81 rfl rfl (Nat.le_of_ble_eq_true rfl) (Nat.le_of_ble_eq_true rfl) (Nat.le_of_ble_eq_true rfl) (Nat.le_of_ble_eq_true rfl) (Nat.le_of_ble_eq_true rfl) dL_law_506 (c_X12_kept h) (fun r79 m80 h => ?_)
      refine v_icmp_eq 1087 dL_law_509 (by decide) (fun hc => ?_) (fun hc => ?_)
      · replace h := Eq.mp (if_pos hc) h
        refine v_sub [0, 1, 2, 3] rfl ?_
        exact v_L_law_p1087 hX hZ hK18 h
      · replace h := Eq.mp (if_neg hc) h
        refine v_iconst (0 : Int32) dL_law_512 (by decide) ?_
        exact hZ _ _ _ _ dL_law_513 h
    replace h := Eq.mp (if_neg hc9) h
    by_cases hc10 : ((xs v3.toNatClampNeg) &&& (63 : Int32)) = (10 : Int32)
    · replace h := Eq.mp (if_pos hc10) h
      refine v_tabK (10 : Int32) hc10 514 dL_law_33 (by decide) (by decide) rfl (by decide) ?_
      refine v_aload_n 1 1 dL_law_514 rfl rfl ?_
      refine v_aload_n 0 0 dL_law_515 rfl rfl ?_
      refine v_iload_n 3 3 dL_law_516 rfl rfl ?_
      refine v_iconst (1 : Int32) dL_law_517 (by decide) ?_
      refine v_iadd dL_law_518 ?_
      obtain ⟨i82, h⟩ := h
      refine v_xld hX dL_law_519 i82 ?_
      refine v_aload_n 0 0 dL_law_520 rfl rfl ?_
      refine v_iload_n 3 3 dL_law_521 rfl rfl ?_
      refine v_iconst (2 : Int32) dL_law_522 (by decide) ?_
      refine v_iadd dL_law_523 ?_
      obtain ⟨i83, h⟩ := h
      refine v_xld hX dL_law_524 i83 ?_
      refine v_aload_n 0 0 dL_law_525 rfl rfl ?_
      refine v_iload_n 3 3 dL_law_526 rfl rfl ?_
      refine v_iconst (3 : Int32) dL_law_527 (by decide) ?_
      refine v_iadd dL_law_528 ?_
      obtain ⟨i84, h⟩ := h
      refine v_xld hX dL_law_529 i84 ?_
      obtain ⟨o87, h⟩ := h
      refine v_cVi [.int _, .int _, .int _] mv_X11_way ml_RL_59 ⟨_, _, rfl⟩ o87 rfl rfl (Nat.le_of_ble_eq_true rfl) (Nat.le_of_ble_eq_true rfl) (Nat.le_of_ble_eq_true rfl) (Nat.le_of_ble_eq_true rfl) (Nat.le_of_ble_eq_true rfl) dL_law_530 (c_X11_way h) (fun r85 m86 h => ?_)
      refine v_aload_n 2 2 dL_law_533 rfl rfl ?_
      refine v_aload_n 0 0 dL_law_534 rfl rfl ?_
      refine v_iload_n 3 3 dL_law_535 rfl rfl ?_
      refine v_iconst (1 : Int32) dL_law_536 (by decide) ?_
      refine v_iadd dL_law_537 ?_
      refine v_xld hX dL_law_538 i82 ?_
      refine v_aload_n 0 0 dL_law_539 rfl rfl ?_
      refine v_iload_n 3 3 dL_law_540 rfl rfl ?_
      refine v_iconst (2 : Int32) dL_law_541 (by decide) ?_
      refine v_iadd dL_law_542 ?_
      refine v_xld hX dL_law_543 i83 ?_
      refine v_aload_n 0 0 dL_law_544 rfl rfl ?_
      refine v_iload_n 3 3 dL_law_545 rfl rfl ?_
      refine v_iconst (3 : Int32) dL_law_546 (by decide) ?_
      refine v_iadd dL_law_547 ?_
      refine v_xld hX dL_law_548 i84 ?_
      obtain ⟨o90, h⟩ := h
      refine v_cVi [.int _, .int _, .int _] mv_X12_way ml_RL_62 ⟨_, _, rfl⟩ o90 rfl rfl (Nat.le_of_ble_eq_true rfl) (Nat.le_of_ble_eq_true rfl) (Nat.le_of_ble_eq_true rfl) (Nat.le_of_ble_eq_true rfl) (Nat.le_of_ble_eq_true rfl) dL_law_549 (c_X12_way h) (fun r88 m89 h => ?_)
      refine v_icmp_eq 1087 dL_law_552 (by decide) (fun hc => ?_) (fun hc => ?_)
      · replace h := Eq.mp (if_pos hc) h
        refine v_sub [0, 1, 2, 3] rfl ?_
        exact v_L_law_p1087 hX hZ hK18 h
      · replace h := Eq.mp (if_neg hc) h
        refine v_iconst (0 : Int32) dL_law_555 (by decide) ?_
        exact hZ _ _ _ _ dL_law_556 h
    replace h := Eq.mp (if_neg hc10) h
    by_cases hc11 : ((xs v3.toNatClampNeg) &&& (63 : Int32)) = (11 : Int32)
    · replace h := Eq.mp (if_pos hc11) h
      refine v_tabK (11 : Int32) hc11 557 dL_law_33 (by decide) (by decide) rfl (by decide) ?_
      refine v_aload_n 1 1 dL_law_557 rfl rfl ?_
      refine v_aload_n 0 0 dL_law_558 rfl rfl ?_
      refine v_iload_n 3 3 dL_law_559 rfl rfl ?_
      refine v_iconst (1 : Int32) dL_law_560 (by decide) ?_
      refine v_iadd dL_law_561 ?_
      obtain ⟨i91, h⟩ := h
      refine v_xld hX dL_law_562 i91 ?_
      refine v_aload_n 0 0 dL_law_563 rfl rfl ?_
      refine v_iload_n 3 3 dL_law_564 rfl rfl ?_
      refine v_iconst (2 : Int32) dL_law_565 (by decide) ?_
      refine v_iadd dL_law_566 ?_
      obtain ⟨i92, h⟩ := h
      refine v_xld hX dL_law_567 i92 ?_
      obtain ⟨o95, h⟩ := h
      refine v_cVi [.int _, .int _] mv_X11_leads ml_RL_63 ⟨_, _, rfl⟩ o95 rfl rfl (Nat.le_of_ble_eq_true rfl) (Nat.le_of_ble_eq_true rfl) (Nat.le_of_ble_eq_true rfl) (Nat.le_of_ble_eq_true rfl) (Nat.le_of_ble_eq_true rfl) dL_law_568 (c_X11_leads h) (fun r93 m94 h => ?_)
      refine v_aload_n 2 2 dL_law_571 rfl rfl ?_
      refine v_aload_n 0 0 dL_law_572 rfl rfl ?_
      refine v_iload_n 3 3 dL_law_573 rfl rfl ?_
      refine v_iconst (1 : Int32) dL_law_574 (by decide) ?_
      refine v_iadd dL_law_575 ?_
      refine v_xld hX dL_law_576 i91 ?_
      refine v_aload_n 0 0 dL_law_577 rfl rfl ?_
      refine v_iload_n 3 3 dL_law_578 rfl rfl ?_
      refine v_iconst (2 : Int32) dL_law_579 (by decide) ?_
      refine v_iadd dL_law_580 ?_
      refine v_xld hX dL_law_581 i92 ?_
      obtain ⟨o98, h⟩ := h
      refine v_cVi [.int _, .int _] mv_X12_leads ml_RL_66 ⟨_, _, rfl⟩ o98 rfl rfl (Nat.le_of_ble_eq_true rfl) (Nat.le_of_ble_eq_true rfl) (Nat.le_of_ble_eq_true rfl) (Nat.le_of_ble_eq_true rfl) (Nat.le_of_ble_eq_true rfl) dL_law_582 (c_X12_leads h) (fun r96 m97 h => ?_)
      refine v_icmp_eq 1087 dL_law_585 (by decide) (fun hc => ?_) (fun hc => ?_)
      · replace h := Eq.mp (if_pos hc) h
        refine v_sub [0, 1, 2, 3] rfl ?_
        exact v_L_law_p1087 hX hZ hK18 h
      · replace h := Eq.mp (if_neg hc) h
        refine v_iconst (0 : Int32) dL_law_588 (by decide) ?_
        exact hZ _ _ _ _ dL_law_589 h
    replace h := Eq.mp (if_neg hc11) h
    by_cases hc12 : ((xs v3.toNatClampNeg) &&& (63 : Int32)) = (12 : Int32)
    · replace h := Eq.mp (if_pos hc12) h
      refine v_tabK (12 : Int32) hc12 590 dL_law_33 (by decide) (by decide) rfl (by decide) ?_
      refine v_aload_n 1 1 dL_law_590 rfl rfl ?_
      obtain ⟨o101, h⟩ := h
      refine v_cVi [] mv_X11_best ml_RL_67 ⟨_, _, rfl⟩ o101 rfl rfl (Nat.le_of_ble_eq_true rfl) (Nat.le_of_ble_eq_true rfl) (Nat.le_of_ble_eq_true rfl) (Nat.le_of_ble_eq_true rfl) (Nat.le_of_ble_eq_true rfl) dL_law_591 (c_X11_best h) (fun r99 m100 h => ?_)
      refine v_aload_n 2 2 dL_law_594 rfl rfl ?_
      obtain ⟨o104, h⟩ := h
      refine v_cVi [] mv_X12_best ml_RL_70 ⟨_, _, rfl⟩ o104 rfl rfl (Nat.le_of_ble_eq_true rfl) (Nat.le_of_ble_eq_true rfl) (Nat.le_of_ble_eq_true rfl) (Nat.le_of_ble_eq_true rfl) (Nat.le_of_ble_eq_true rfl) dL_law_595 (c_X12_best h) (fun r102 m103 h => ?_)
      refine v_icmp_eq 1087 dL_law_598 (by decide) (fun hc => ?_) (fun hc => ?_)
      · replace h := Eq.mp (if_pos hc) h
        refine v_sub [0, 1, 2, 3] rfl ?_
        exact v_L_law_p1087 hX hZ hK18 h
      · replace h := Eq.mp (if_neg hc) h
        refine v_iconst (0 : Int32) dL_law_601 (by decide) ?_
        exact hZ _ _ _ _ dL_law_602 h
    replace h := Eq.mp (if_neg hc12) h
    by_cases hc13 : ((xs v3.toNatClampNeg) &&& (63 : Int32)) = (13 : Int32)
    · replace h := Eq.mp (if_pos hc13) h
      refine v_tabK (13 : Int32) hc13 603 dL_law_33 (by decide) (by decide) rfl (by decide) ?_
      refine v_aload_n 1 1 dL_law_603 rfl rfl ?_
      refine v_aload_n 0 0 dL_law_604 rfl rfl ?_
      refine v_iload_n 3 3 dL_law_605 rfl rfl ?_
      refine v_iconst (1 : Int32) dL_law_606 (by decide) ?_
      refine v_iadd dL_law_607 ?_
      obtain ⟨i105, h⟩ := h
      refine v_xld hX dL_law_608 i105 ?_
      obtain ⟨o108, h⟩ := h
      refine v_cVi [.int _] mv_X11_least ml_RL_71 ⟨_, _, rfl⟩ o108 rfl rfl (Nat.le_of_ble_eq_true rfl) (Nat.le_of_ble_eq_true rfl) (Nat.le_of_ble_eq_true rfl) (Nat.le_of_ble_eq_true rfl) (Nat.le_of_ble_eq_true rfl) dL_law_609 (c_X11_least h) (fun r106 m107 h => ?_)
      refine v_aload_n 2 2 dL_law_612 rfl rfl ?_
      refine v_aload_n 0 0 dL_law_613 rfl rfl ?_
      refine v_iload_n 3 3 dL_law_614 rfl rfl ?_
      refine v_iconst (1 : Int32) dL_law_615 (by decide) ?_
      refine v_iadd dL_law_616 ?_
      refine v_xld hX dL_law_617 i105 ?_
      obtain ⟨o111, h⟩ := h
      refine v_cVi [.int _] mv_X12_least ml_RL_74 ⟨_, _, rfl⟩ o111 rfl rfl (Nat.le_of_ble_eq_true rfl) (Nat.le_of_ble_eq_true rfl) (Nat.le_of_ble_eq_true rfl) (Nat.le_of_ble_eq_true rfl) (Nat.le_of_ble_eq_true rfl) dL_law_618 (c_X12_least h) (fun r109 m110 h => ?_)
      refine v_icmp_eq 1087 dL_law_621 (by decide) (fun hc => ?_) (fun hc => ?_)
      · replace h := Eq.mp (if_pos hc) h
        refine v_sub [0, 1, 2, 3] rfl ?_
        exact v_L_law_p1087 hX hZ hK18 h
      · replace h := Eq.mp (if_neg hc) h
        refine v_iconst (0 : Int32) dL_law_624 (by decide) ?_
        exact hZ _ _ _ _ dL_law_625 h
    replace h := Eq.mp (if_neg hc13) h
    by_cases hc14 : ((xs v3.toNatClampNeg) &&& (63 : Int32)) = (14 : Int32)
    · replace h := Eq.mp (if_pos hc14) h
      refine v_tabK (14 : Int32) hc14 626 dL_law_33 (by decide) (by decide) rfl (by decide) ?_
      refine v_aload_n 1 1 dL_law_626 rfl rfl ?_
      obtain ⟨o114, h⟩ := h
      refine v_cVi [] mv_X11_dry ml_RL_75 ⟨_, _, rfl⟩ o114 rfl rfl (Nat.le_of_ble_eq_true rfl) (Nat.le_of_ble_eq_true rfl) (Nat.le_of_ble_eq_true rfl) (Nat.le_of_ble_eq_true rfl) (Nat.le_of_ble_eq_true rfl) dL_law_627 (c_X11_dry h) (fun r112 m113 h => ?_)
      refine v_aload_n 2 2 dL_law_630 rfl rfl ?_
      obtain ⟨o117, h⟩ := h
      refine v_cVi [] mv_X12_dry ml_RL_78 ⟨_, _, rfl⟩ o117 rfl rfl (Nat.le_of_ble_eq_true rfl) (Nat.le_of_ble_eq_true rfl) (Nat.le_of_ble_eq_true rfl) (Nat.le_of_ble_eq_true rfl) (Nat.le_of_ble_eq_true rfl) dL_law_631 (c_X12_dry h) (fun r115 m116 h => ?_)
      refine v_icmp_eq 1087 dL_law_634 (by decide) (fun hc => ?_) (fun hc => ?_)
      · replace h := Eq.mp (if_pos hc) h
        refine v_sub [0, 1, 2, 3] rfl ?_
        exact v_L_law_p1087 hX hZ hK18 h
      · replace h := Eq.mp (if_neg hc) h
        refine v_iconst (0 : Int32) dL_law_637 (by decide) ?_
        exact hZ _ _ _ _ dL_law_638 h
    replace h := Eq.mp (if_neg hc14) h
    by_cases hc15 : ((xs v3.toNatClampNeg) &&& (63 : Int32)) = (15 : Int32)
    · replace h := Eq.mp (if_pos hc15) h
      refine v_tabK (15 : Int32) hc15 639 dL_law_33 (by decide) (by decide) rfl (by decide) ?_
      refine v_aload_n 1 1 dL_law_639 rfl rfl ?_
      refine v_aload_n 0 0 dL_law_640 rfl rfl ?_
      refine v_iload_n 3 3 dL_law_641 rfl rfl ?_
      refine v_iconst (1 : Int32) dL_law_642 (by decide) ?_
      refine v_iadd dL_law_643 ?_
      obtain ⟨i118, h⟩ := h
      refine v_xld hX dL_law_644 i118 ?_
      refine v_aload_n 0 0 dL_law_645 rfl rfl ?_
      refine v_iload_n 3 3 dL_law_646 rfl rfl ?_
      refine v_iconst (2 : Int32) dL_law_647 (by decide) ?_
      refine v_iadd dL_law_648 ?_
      obtain ⟨i119, h⟩ := h
      refine v_xld hX dL_law_649 i119 ?_
      obtain ⟨o122, h⟩ := h
      refine v_cVi [.int _, .int _] mv_X11_bid ml_RL_79 ⟨_, _, rfl⟩ o122 rfl rfl (Nat.le_of_ble_eq_true rfl) (Nat.le_of_ble_eq_true rfl) (Nat.le_of_ble_eq_true rfl) (Nat.le_of_ble_eq_true rfl) (Nat.le_of_ble_eq_true rfl) dL_law_650 (c_X11_bid h) (fun r120 m121 h => ?_)
      refine v_aload_n 2 2 dL_law_653 rfl rfl ?_
      refine v_aload_n 0 0 dL_law_654 rfl rfl ?_
      refine v_iload_n 3 3 dL_law_655 rfl rfl ?_
      refine v_iconst (1 : Int32) dL_law_656 (by decide) ?_
      refine v_iadd dL_law_657 ?_
      refine v_xld hX dL_law_658 i118 ?_
      refine v_aload_n 0 0 dL_law_659 rfl rfl ?_
      refine v_iload_n 3 3 dL_law_660 rfl rfl ?_
      refine v_iconst (2 : Int32) dL_law_661 (by decide) ?_
      refine v_iadd dL_law_662 ?_
      refine v_xld hX dL_law_663 i119 ?_
      obtain ⟨o125, h⟩ := h
      refine v_cVi [.int _, .int _] mv_X12_bid ml_RL_82 ⟨_, _, rfl⟩ o125 rfl rfl (Nat.le_of_ble_eq_true rfl) (Nat.le_of_ble_eq_true rfl) (Nat.le_of_ble_eq_true rfl) (Nat.le_of_ble_eq_true rfl) (Nat.le_of_ble_eq_true rfl) dL_law_664 (c_X12_bid h) (fun r123 m124 h => ?_)
      refine v_icmp_eq 1087 dL_law_667 (by decide) (fun hc => ?_) (fun hc => ?_)
      · replace h := Eq.mp (if_pos hc) h
        refine v_sub [0, 1, 2, 3] rfl ?_
        exact v_L_law_p1087 hX hZ hK18 h
      · replace h := Eq.mp (if_neg hc) h
        refine v_iconst (0 : Int32) dL_law_670 (by decide) ?_
        exact hZ _ _ _ _ dL_law_671 h
    replace h := Eq.mp (if_neg hc15) h
    by_cases hc16 : ((xs v3.toNatClampNeg) &&& (63 : Int32)) = (16 : Int32)
    · replace h := Eq.mp (if_pos hc16) h
      refine v_tabK (16 : Int32) hc16 672 dL_law_33 (by decide) (by decide) rfl (by decide) ?_
      refine v_aload_n 1 1 dL_law_672 rfl rfl ?_
      refine v_aload_n 0 0 dL_law_673 rfl rfl ?_
      refine v_iload_n 3 3 dL_law_674 rfl rfl ?_
      refine v_iconst (1 : Int32) dL_law_675 (by decide) ?_
      refine v_iadd dL_law_676 ?_
      obtain ⟨i126, h⟩ := h
      refine v_xld hX dL_law_677 i126 ?_
      obtain ⟨o129, h⟩ := h
      refine v_cVi [.int _] mv_X11_rest ml_RL_83 ⟨_, _, rfl⟩ o129 rfl rfl (Nat.le_of_ble_eq_true rfl) (Nat.le_of_ble_eq_true rfl) (Nat.le_of_ble_eq_true rfl) (Nat.le_of_ble_eq_true rfl) (Nat.le_of_ble_eq_true rfl) dL_law_678 (c_X11_rest h) (fun r127 m128 h => ?_)
      refine v_aload_n 2 2 dL_law_681 rfl rfl ?_
      refine v_aload_n 0 0 dL_law_682 rfl rfl ?_
      refine v_iload_n 3 3 dL_law_683 rfl rfl ?_
      refine v_iconst (1 : Int32) dL_law_684 (by decide) ?_
      refine v_iadd dL_law_685 ?_
      refine v_xld hX dL_law_686 i126 ?_
      obtain ⟨o132, h⟩ := h
      refine v_cVi [.int _] mv_X12_rest ml_RL_86 ⟨_, _, rfl⟩ o132 rfl rfl (Nat.le_of_ble_eq_true rfl) (Nat.le_of_ble_eq_true rfl) (Nat.le_of_ble_eq_true rfl) (Nat.le_of_ble_eq_true rfl) (Nat.le_of_ble_eq_true rfl) dL_law_687 (c_X12_rest h) (fun r130 m131 h => ?_)
      refine v_icmp_eq 1087 dL_law_690 (by decide) (fun hc => ?_) (fun hc => ?_)
      · replace h := Eq.mp (if_pos hc) h
        refine v_sub [0, 1, 2, 3] rfl ?_
        exact v_L_law_p1087 hX hZ hK18 h
      · replace h := Eq.mp (if_neg hc) h
        refine v_iconst (0 : Int32) dL_law_693 (by decide) ?_
        exact hZ _ _ _ _ dL_law_694 h
    replace h := Eq.mp (if_neg hc16) h
    by_cases hc17 : ((xs v3.toNatClampNeg) &&& (63 : Int32)) = (17 : Int32)
    · replace h := Eq.mp (if_pos hc17) h
      refine v_tabK (17 : Int32) hc17 695 dL_law_33 (by decide) (by decide) rfl (by decide) ?_
      refine v_aload_n 1 1 dL_law_695 rfl rfl ?_
      refine v_aload_n 0 0 dL_law_696 rfl rfl ?_
      refine v_iload_n 3 3 dL_law_697 rfl rfl ?_
      refine v_iconst (1 : Int32) dL_law_698 (by decide) ?_
      refine v_iadd dL_law_699 ?_
      obtain ⟨i133, h⟩ := h
      refine v_xld hX dL_law_700 i133 ?_
      refine v_aload_n 0 0 dL_law_701 rfl rfl ?_
      refine v_iload_n 3 3 dL_law_702 rfl rfl ?_
      refine v_iconst (2 : Int32) dL_law_703 (by decide) ?_
      refine v_iadd dL_law_704 ?_
      obtain ⟨i134, h⟩ := h
      refine v_xld hX dL_law_705 i134 ?_
      refine v_aload_n 0 0 dL_law_706 rfl rfl ?_
      refine v_iload_n 3 3 dL_law_707 rfl rfl ?_
      refine v_iconst (3 : Int32) dL_law_708 (by decide) ?_
      refine v_iadd dL_law_709 ?_
      obtain ⟨i135, h⟩ := h
      refine v_xld hX dL_law_710 i135 ?_
      obtain ⟨o138, h⟩ := h
      refine v_cVi [.int _, .int _, .int _] mv_X11_parts ml_RL_87 ⟨_, _, rfl⟩ o138 rfl rfl (Nat.le_of_ble_eq_true rfl) (Nat.le_of_ble_eq_true rfl) (Nat.le_of_ble_eq_true rfl) (Nat.le_of_ble_eq_true rfl) (Nat.le_of_ble_eq_true rfl) dL_law_711 (c_X11_parts h) (fun r136 m137 h => ?_)
      refine v_aload_n 2 2 dL_law_714 rfl rfl ?_
      refine v_aload_n 0 0 dL_law_715 rfl rfl ?_
      refine v_iload_n 3 3 dL_law_716 rfl rfl ?_
      refine v_iconst (1 : Int32) dL_law_717 (by decide) ?_
      refine v_iadd dL_law_718 ?_
      refine v_xld hX dL_law_719 i133 ?_
      refine v_aload_n 0 0 dL_law_720 rfl rfl ?_
      refine v_iload_n 3 3 dL_law_721 rfl rfl ?_
      refine v_iconst (2 : Int32) dL_law_722 (by decide) ?_
      refine v_iadd dL_law_723 ?_
      refine v_xld hX dL_law_724 i134 ?_
      refine v_aload_n 0 0 dL_law_725 rfl rfl ?_
      refine v_iload_n 3 3 dL_law_726 rfl rfl ?_
      refine v_iconst (3 : Int32) dL_law_727 (by decide) ?_
      refine v_iadd dL_law_728 ?_
      refine v_xld hX dL_law_729 i135 ?_
      obtain ⟨o141, h⟩ := h
      refine v_cVi [.int _, .int _, .int _] mv_X12_parts ml_RL_90 ⟨_, _, rfl⟩ o141 rfl rfl (Nat.le_of_ble_eq_true rfl) (Nat.le_of_ble_eq_true rfl) (Nat.le_of_ble_eq_true rfl) (Nat.le_of_ble_eq_true rfl) (Nat.le_of_ble_eq_true rfl) dL_law_730 (c_X12_parts h) (fun r139 m140 h => ?_)
      refine v_icmp_eq 1087 dL_law_733 (by decide) (fun hc => ?_) (fun hc => ?_)
      · replace h := Eq.mp (if_pos hc) h
        refine v_sub [0, 1, 2, 3] rfl ?_
        exact v_L_law_p1087 hX hZ hK18 h
      · replace h := Eq.mp (if_neg hc) h
        refine v_iconst (0 : Int32) dL_law_736 (by decide) ?_
        exact hZ _ _ _ _ dL_law_737 h
    replace h := Eq.mp (if_neg hc17) h
    by_cases hc18 : ((xs v3.toNatClampNeg) &&& (63 : Int32)) = (18 : Int32)
    · replace h := Eq.mp (if_pos hc18) h
      refine v_tabK (18 : Int32) hc18 738 dL_law_33 (by decide) (by decide) rfl (by decide) ?_
      refine v_aload_n 1 1 dL_law_738 rfl rfl ?_
      refine v_aload_n 0 0 dL_law_739 rfl rfl ?_
      refine v_iload_n 3 3 dL_law_740 rfl rfl ?_
      refine v_iconst (1 : Int32) dL_law_741 (by decide) ?_
      refine v_iadd dL_law_742 ?_
      obtain ⟨i142, h⟩ := h
      refine v_xld hX dL_law_743 i142 ?_
      obtain ⟨o145, h⟩ := h
      refine v_cVi [.int _] mv_X11_mill ml_RL_91 ⟨_, _, rfl⟩ o145 rfl rfl (Nat.le_of_ble_eq_true rfl) (Nat.le_of_ble_eq_true rfl) (Nat.le_of_ble_eq_true rfl) (Nat.le_of_ble_eq_true rfl) (Nat.le_of_ble_eq_true rfl) dL_law_744 (c_X11_mill h) (fun r143 m144 h => ?_)
      refine v_aload_n 2 2 dL_law_747 rfl rfl ?_
      refine v_aload_n 0 0 dL_law_748 rfl rfl ?_
      refine v_iload_n 3 3 dL_law_749 rfl rfl ?_
      refine v_iconst (1 : Int32) dL_law_750 (by decide) ?_
      refine v_iadd dL_law_751 ?_
      refine v_xld hX dL_law_752 i142 ?_
      obtain ⟨o148, h⟩ := h
      refine v_cVi [.int _] mv_X12_mill ml_RL_94 ⟨_, _, rfl⟩ o148 rfl rfl (Nat.le_of_ble_eq_true rfl) (Nat.le_of_ble_eq_true rfl) (Nat.le_of_ble_eq_true rfl) (Nat.le_of_ble_eq_true rfl) (Nat.le_of_ble_eq_true rfl) dL_law_753 (c_X12_mill h) (fun r146 m147 h => ?_)
      refine v_icmp_eq 1087 dL_law_756 (by decide) (fun hc => ?_) (fun hc => ?_)
      · replace h := Eq.mp (if_pos hc) h
        refine v_sub [0, 1, 2, 3] rfl ?_
        exact v_L_law_p1087 hX hZ hK18 h
      · replace h := Eq.mp (if_neg hc) h
        refine v_iconst (0 : Int32) dL_law_759 (by decide) ?_
        exact hZ _ _ _ _ dL_law_760 h
    replace h := Eq.mp (if_neg hc18) h
    by_cases hc19 : ((xs v3.toNatClampNeg) &&& (63 : Int32)) = (19 : Int32)
    · replace h := Eq.mp (if_pos hc19) h
      refine v_tabK (19 : Int32) hc19 761 dL_law_33 (by decide) (by decide) rfl (by decide) ?_
      refine v_aload_n 1 1 dL_law_761 rfl rfl ?_
      obtain ⟨o151, h⟩ := h
      refine v_cVi [] mv_X11_see ml_RL_95 ⟨_, _, rfl⟩ o151 rfl rfl (Nat.le_of_ble_eq_true rfl) (Nat.le_of_ble_eq_true rfl) (Nat.le_of_ble_eq_true rfl) (Nat.le_of_ble_eq_true rfl) (Nat.le_of_ble_eq_true rfl) dL_law_762 (c_X11_see h) (fun r149 m150 h => ?_)
      refine v_aload_n 2 2 dL_law_765 rfl rfl ?_
      obtain ⟨o154, h⟩ := h
      refine v_cVi [] mv_X12_see ml_RL_98 ⟨_, _, rfl⟩ o154 rfl rfl (Nat.le_of_ble_eq_true rfl) (Nat.le_of_ble_eq_true rfl) (Nat.le_of_ble_eq_true rfl) (Nat.le_of_ble_eq_true rfl) (Nat.le_of_ble_eq_true rfl) dL_law_766 (c_X12_see h) (fun r152 m153 h => ?_)
      refine v_icmp_eq 1087 dL_law_769 (by decide) (fun hc => ?_) (fun hc => ?_)
      · replace h := Eq.mp (if_pos hc) h
        refine v_sub [0, 1, 2, 3] rfl ?_
        exact v_L_law_p1087 hX hZ hK18 h
      · replace h := Eq.mp (if_neg hc) h
        refine v_iconst (0 : Int32) dL_law_772 (by decide) ?_
        exact hZ _ _ _ _ dL_law_773 h
    replace h := Eq.mp (if_neg hc19) h
    by_cases hc20 : ((xs v3.toNatClampNeg) &&& (63 : Int32)) = (20 : Int32)
    · replace h := Eq.mp (if_pos hc20) h
      refine v_tabK (20 : Int32) hc20 774 dL_law_33 (by decide) (by decide) rfl (by decide) ?_
      refine v_aload_n 1 1 dL_law_774 rfl rfl ?_
      obtain ⟨o157, h⟩ := h
      refine v_cVi [] mv_X11_who ml_RL_99 ⟨_, _, rfl⟩ o157 rfl rfl (Nat.le_of_ble_eq_true rfl) (Nat.le_of_ble_eq_true rfl) (Nat.le_of_ble_eq_true rfl) (Nat.le_of_ble_eq_true rfl) (Nat.le_of_ble_eq_true rfl) dL_law_775 (c_X11_who h) (fun r155 m156 h => ?_)
      refine v_aload_n 2 2 dL_law_778 rfl rfl ?_
      obtain ⟨o160, h⟩ := h
      refine v_cVi [] mv_X12_who ml_RL_102 ⟨_, _, rfl⟩ o160 rfl rfl (Nat.le_of_ble_eq_true rfl) (Nat.le_of_ble_eq_true rfl) (Nat.le_of_ble_eq_true rfl) (Nat.le_of_ble_eq_true rfl) (Nat.le_of_ble_eq_true rfl) dL_law_779 (c_X12_who h) (fun r158 m159 h => ?_)
      refine v_icmp_eq 1087 dL_law_782 (by decide) (fun hc => ?_) (fun hc => ?_)
      · replace h := Eq.mp (if_pos hc) h
        refine v_sub [0, 1, 2, 3] rfl ?_
        exact v_L_law_p1087 hX hZ hK18 h
      · replace h := Eq.mp (if_neg hc) h
        refine v_iconst (0 : Int32) dL_law_785 (by decide) ?_
        exact hZ _ _ _ _ dL_law_786 h
    replace h := Eq.mp (if_neg hc20) h
    by_cases hc21 : ((xs v3.toNatClampNeg) &&& (63 : Int32)) = (21 : Int32)
    · replace h := Eq.mp (if_pos hc21) h
      refine v_tabK (21 : Int32) hc21 787 dL_law_33 (by decide) (by decide) rfl (by decide) ?_
      refine v_aload_n 1 1 dL_law_787 rfl rfl ?_
      refine v_aload_n 0 0 dL_law_788 rfl rfl ?_
      refine v_iload_n 3 3 dL_law_789 rfl rfl ?_
      refine v_iconst (1 : Int32) dL_law_790 (by decide) ?_
      refine v_iadd dL_law_791 ?_
      obtain ⟨i161, h⟩ := h
      refine v_xld hX dL_law_792 i161 ?_
      obtain ⟨o164, h⟩ := h
      refine v_cVi [.int _] mv_X11_tells ml_RL_103 ⟨_, _, rfl⟩ o164 rfl rfl (Nat.le_of_ble_eq_true rfl) (Nat.le_of_ble_eq_true rfl) (Nat.le_of_ble_eq_true rfl) (Nat.le_of_ble_eq_true rfl) (Nat.le_of_ble_eq_true rfl) dL_law_793 (c_X11_tells h) (fun r162 m163 h => ?_)
      refine v_aload_n 2 2 dL_law_796 rfl rfl ?_
      refine v_aload_n 0 0 dL_law_797 rfl rfl ?_
      refine v_iload_n 3 3 dL_law_798 rfl rfl ?_
      refine v_iconst (1 : Int32) dL_law_799 (by decide) ?_
      refine v_iadd dL_law_800 ?_
      refine v_xld hX dL_law_801 i161 ?_
      obtain ⟨o167, h⟩ := h
      refine v_cVi [.int _] mv_X12_tells ml_RL_106 ⟨_, _, rfl⟩ o167 rfl rfl (Nat.le_of_ble_eq_true rfl) (Nat.le_of_ble_eq_true rfl) (Nat.le_of_ble_eq_true rfl) (Nat.le_of_ble_eq_true rfl) (Nat.le_of_ble_eq_true rfl) dL_law_802 (c_X12_tells h) (fun r165 m166 h => ?_)
      refine v_icmp_eq 1087 dL_law_805 (by decide) (fun hc => ?_) (fun hc => ?_)
      · replace h := Eq.mp (if_pos hc) h
        refine v_sub [0, 1, 2, 3] rfl ?_
        exact v_L_law_p1087 hX hZ hK18 h
      · replace h := Eq.mp (if_neg hc) h
        refine v_iconst (0 : Int32) dL_law_808 (by decide) ?_
        exact hZ _ _ _ _ dL_law_809 h
    replace h := Eq.mp (if_neg hc21) h
    by_cases hc22 : ((xs v3.toNatClampNeg) &&& (63 : Int32)) = (22 : Int32)
    · replace h := Eq.mp (if_pos hc22) h
      refine v_tabK (22 : Int32) hc22 810 dL_law_33 (by decide) (by decide) rfl (by decide) ?_
      refine v_aload_n 1 1 dL_law_810 rfl rfl ?_
      refine v_aload_n 0 0 dL_law_811 rfl rfl ?_
      refine v_iload_n 3 3 dL_law_812 rfl rfl ?_
      refine v_iconst (1 : Int32) dL_law_813 (by decide) ?_
      refine v_iadd dL_law_814 ?_
      obtain ⟨i168, h⟩ := h
      refine v_xld hX dL_law_815 i168 ?_
      obtain ⟨o171, h⟩ := h
      refine v_cVi [.int _] mv_X11_spring ml_RL_107 ⟨_, _, rfl⟩ o171 rfl rfl (Nat.le_of_ble_eq_true rfl) (Nat.le_of_ble_eq_true rfl) (Nat.le_of_ble_eq_true rfl) (Nat.le_of_ble_eq_true rfl) (Nat.le_of_ble_eq_true rfl) dL_law_816 (c_X11_spring h) (fun r169 m170 h => ?_)
      refine v_aload_n 2 2 dL_law_819 rfl rfl ?_
      refine v_aload_n 0 0 dL_law_820 rfl rfl ?_
      refine v_iload_n 3 3 dL_law_821 rfl rfl ?_
      refine v_iconst (1 : Int32) dL_law_822 (by decide) ?_
      refine v_iadd dL_law_823 ?_
      refine v_xld hX dL_law_824 i168 ?_
      obtain ⟨o174, h⟩ := h
      refine v_cVi [.int _] mv_X12_spring ml_RL_110 ⟨_, _, rfl⟩ o174 rfl rfl (Nat.le_of_ble_eq_true rfl) (Nat.le_of_ble_eq_true rfl) (Nat.le_of_ble_eq_true rfl) (Nat.le_of_ble_eq_true rfl) (Nat.le_of_ble_eq_true rfl) dL_law_825 (c_X12_spring h) (fun r172 m173 h => ?_)
      refine v_icmp_eq 1087 dL_law_828 (by decide) (fun hc => ?_) (fun hc => ?_)
      · replace h := Eq.mp (if_pos hc) h
        refine v_sub [0, 1, 2, 3] rfl ?_
        exact v_L_law_p1087 hX hZ hK18 h
      · replace h := Eq.mp (if_neg hc) h
        refine v_iconst (0 : Int32) dL_law_831 (by decide) ?_
        exact hZ _ _ _ _ dL_law_832 h
    replace h := Eq.mp (if_neg hc22) h
    by_cases hc23 : ((xs v3.toNatClampNeg) &&& (63 : Int32)) = (23 : Int32)
    · replace h := Eq.mp (if_pos hc23) h
      refine v_tabK (23 : Int32) hc23 833 dL_law_33 (by decide) (by decide) rfl (by decide) ?_
      refine v_aload_n 1 1 dL_law_833 rfl rfl ?_
      refine v_aload_n 0 0 dL_law_834 rfl rfl ?_
      refine v_iload_n 3 3 dL_law_835 rfl rfl ?_
      refine v_iconst (1 : Int32) dL_law_836 (by decide) ?_
      refine v_iadd dL_law_837 ?_
      obtain ⟨i175, h⟩ := h
      refine v_xld hX dL_law_838 i175 ?_
      refine v_aload_n 0 0 dL_law_839 rfl rfl ?_
      refine v_iload_n 3 3 dL_law_840 rfl rfl ?_
      refine v_iconst (2 : Int32) dL_law_841 (by decide) ?_
      refine v_iadd dL_law_842 ?_
      obtain ⟨i176, h⟩ := h
      refine v_xld hX dL_law_843 i176 ?_
      obtain ⟨o179, h⟩ := h
      refine v_cVi [.int _, .int _] mv_X11_bake ml_RL_111 ⟨_, _, rfl⟩ o179 rfl rfl (Nat.le_of_ble_eq_true rfl) (Nat.le_of_ble_eq_true rfl) (Nat.le_of_ble_eq_true rfl) (Nat.le_of_ble_eq_true rfl) (Nat.le_of_ble_eq_true rfl) dL_law_844 (c_X11_bake h) (fun r177 m178 h => ?_)
      refine v_aload_n 2 2 dL_law_847 rfl rfl ?_
      refine v_aload_n 0 0 dL_law_848 rfl rfl ?_
      refine v_iload_n 3 3 dL_law_849 rfl rfl ?_
      refine v_iconst (1 : Int32) dL_law_850 (by decide) ?_
      refine v_iadd dL_law_851 ?_
      refine v_xld hX dL_law_852 i175 ?_
      refine v_aload_n 0 0 dL_law_853 rfl rfl ?_
      refine v_iload_n 3 3 dL_law_854 rfl rfl ?_
      refine v_iconst (2 : Int32) dL_law_855 (by decide) ?_
      refine v_iadd dL_law_856 ?_
      refine v_xld hX dL_law_857 i176 ?_
      obtain ⟨o182, h⟩ := h
      refine v_cVi [.int _, .int _] mv_X12_bake ml_RL_115 ⟨_, _, rfl⟩ o182 rfl rfl (Nat.le_of_ble_eq_true rfl) (Nat.le_of_ble_eq_true rfl) (Nat.le_of_ble_eq_true rfl) (Nat.le_of_ble_eq_true rfl) (Nat.le_of_ble_eq_true rfl) dL_law_858 (c_X12_bake h) (fun r180 m181 h => ?_)
      refine v_icmp_eq 1087 dL_law_861 (by decide) (fun hc => ?_) (fun hc => ?_)
      · replace h := Eq.mp (if_pos hc) h
        refine v_sub [0, 1, 2, 3] rfl ?_
        exact v_L_law_p1087 hX hZ hK18 h
      · replace h := Eq.mp (if_neg hc) h
        refine v_iconst (0 : Int32) dL_law_864 (by decide) ?_
        exact hZ _ _ _ _ dL_law_865 h
    replace h := Eq.mp (if_neg hc23) h
    by_cases hc24 : ((xs v3.toNatClampNeg) &&& (63 : Int32)) = (24 : Int32)
    · replace h := Eq.mp (if_pos hc24) h
      refine v_tabK (24 : Int32) hc24 866 dL_law_33 (by decide) (by decide) rfl (by decide) ?_
      refine v_aload_n 1 1 dL_law_866 rfl rfl ?_
      refine v_aload_n 0 0 dL_law_867 rfl rfl ?_
      refine v_iload_n 3 3 dL_law_868 rfl rfl ?_
      refine v_iconst (1 : Int32) dL_law_869 (by decide) ?_
      refine v_iadd dL_law_870 ?_
      obtain ⟨i183, h⟩ := h
      refine v_xld hX dL_law_871 i183 ?_
      refine v_aload_n 0 0 dL_law_872 rfl rfl ?_
      refine v_iload_n 3 3 dL_law_873 rfl rfl ?_
      refine v_iconst (2 : Int32) dL_law_874 (by decide) ?_
      refine v_iadd dL_law_875 ?_
      obtain ⟨i184, h⟩ := h
      refine v_xld hX dL_law_876 i184 ?_
      obtain ⟨o187, h⟩ := h
      refine v_cVi [.int _, .int _] mv_X11_dig ml_RL_116 ⟨_, _, rfl⟩ o187 rfl rfl (Nat.le_of_ble_eq_true rfl) (Nat.le_of_ble_eq_true rfl) (Nat.le_of_ble_eq_true rfl) (Nat.le_of_ble_eq_true rfl) (Nat.le_of_ble_eq_true rfl) dL_law_877 (c_X11_dig h) (fun r185 m186 h => ?_)
      refine v_aload_n 2 2 dL_law_880 rfl rfl ?_
      refine v_aload_n 0 0 dL_law_881 rfl rfl ?_
      refine v_iload_n 3 3 dL_law_882 rfl rfl ?_
      refine v_iconst (1 : Int32) dL_law_883 (by decide) ?_
      refine v_iadd dL_law_884 ?_
      refine v_xld hX dL_law_885 i183 ?_
      refine v_aload_n 0 0 dL_law_886 rfl rfl ?_
      refine v_iload_n 3 3 dL_law_887 rfl rfl ?_
      refine v_iconst (2 : Int32) dL_law_888 (by decide) ?_
      refine v_iadd dL_law_889 ?_
      refine v_xld hX dL_law_890 i184 ?_
      obtain ⟨o190, h⟩ := h
      refine v_cVi [.int _, .int _] mv_X12_dig ml_RL_119 ⟨_, _, rfl⟩ o190 rfl rfl (Nat.le_of_ble_eq_true rfl) (Nat.le_of_ble_eq_true rfl) (Nat.le_of_ble_eq_true rfl) (Nat.le_of_ble_eq_true rfl) (Nat.le_of_ble_eq_true rfl) dL_law_891 (c_X12_dig h) (fun r188 m189 h => ?_)
      refine v_icmp_eq 1087 dL_law_894 (by decide) (fun hc => ?_) (fun hc => ?_)
      · replace h := Eq.mp (if_pos hc) h
        refine v_sub [0, 1, 2, 3] rfl ?_
        exact v_L_law_p1087 hX hZ hK18 h
      · replace h := Eq.mp (if_neg hc) h
        refine v_iconst (0 : Int32) dL_law_897 (by decide) ?_
        exact hZ _ _ _ _ dL_law_898 h
    replace h := Eq.mp (if_neg hc24) h
    by_cases hc25 : ((xs v3.toNatClampNeg) &&& (63 : Int32)) = (25 : Int32)
    · replace h := Eq.mp (if_pos hc25) h
      refine v_tabK (25 : Int32) hc25 899 dL_law_33 (by decide) (by decide) rfl (by decide) ?_
      refine v_aload_n 1 1 dL_law_899 rfl rfl ?_
      refine v_aload_n 0 0 dL_law_900 rfl rfl ?_
      refine v_iload_n 3 3 dL_law_901 rfl rfl ?_
      refine v_iconst (1 : Int32) dL_law_902 (by decide) ?_
      refine v_iadd dL_law_903 ?_
      obtain ⟨i191, h⟩ := h
      refine v_xld hX dL_law_904 i191 ?_
      refine v_aload_n 0 0 dL_law_905 rfl rfl ?_
      refine v_iload_n 3 3 dL_law_906 rfl rfl ?_
      refine v_iconst (2 : Int32) dL_law_907 (by decide) ?_
      refine v_iadd dL_law_908 ?_
      obtain ⟨i192, h⟩ := h
      refine v_xld hX dL_law_909 i192 ?_
      refine v_aload_n 0 0 dL_law_910 rfl rfl ?_
      refine v_iload_n 3 3 dL_law_911 rfl rfl ?_
      refine v_iconst (3 : Int32) dL_law_912 (by decide) ?_
      refine v_iadd dL_law_913 ?_
      obtain ⟨i193, h⟩ := h
      refine v_xld hX dL_law_914 i193 ?_
      obtain ⟨o196, h⟩ := h
      refine v_cVi [.int _, .int _, .int _] mv_X11_stone ml_RL_120 ⟨_, _, rfl⟩ o196 rfl rfl (Nat.le_of_ble_eq_true rfl) (Nat.le_of_ble_eq_true rfl) (Nat.le_of_ble_eq_true rfl) (Nat.le_of_ble_eq_true rfl) (Nat.le_of_ble_eq_true rfl) dL_law_915 (c_X11_stone h) (fun r194 m195 h => ?_)
      refine v_aload_n 2 2 dL_law_918 rfl rfl ?_
      refine v_aload_n 0 0 dL_law_919 rfl rfl ?_
      refine v_iload_n 3 3 dL_law_920 rfl rfl ?_
      refine v_iconst (1 : Int32) dL_law_921 (by decide) ?_
      refine v_iadd dL_law_922 ?_
      refine v_xld hX dL_law_923 i191 ?_
      refine v_aload_n 0 0 dL_law_924 rfl rfl ?_
      refine v_iload_n 3 3 dL_law_925 rfl rfl ?_
      refine v_iconst (2 : Int32) dL_law_926 (by decide) ?_
      refine v_iadd dL_law_927 ?_
      refine v_xld hX dL_law_928 i192 ?_
      refine v_aload_n 0 0 dL_law_929 rfl rfl ?_
      refine v_iload_n 3 3 dL_law_930 rfl rfl ?_
      refine v_iconst (3 : Int32) dL_law_931 (by decide) ?_
      refine v_iadd dL_law_932 ?_
      refine v_xld hX dL_law_933 i193 ?_
      obtain ⟨o199, h⟩ := h
      refine v_cVi [.int _, .int _, .int _] mv_X12_stone ml_RL_124 ⟨_, _, rfl⟩ o199 rfl rfl (Nat.le_of_ble_eq_true rfl) (Nat.le_of_ble_eq_true rfl) (Nat.le_of_ble_eq_true rfl) (Nat.le_of_ble_eq_true rfl) (Nat.le_of_ble_eq_true rfl) dL_law_934 (c_X12_stone h) (fun r197 m198 h => ?_)
      refine v_icmp_eq 1087 dL_law_937 (by decide) (fun hc => ?_) (fun hc => ?_)
      · replace h := Eq.mp (if_pos hc) h
        refine v_sub [0, 1, 2, 3] rfl ?_
        exact v_L_law_p1087 hX hZ hK18 h
      · replace h := Eq.mp (if_neg hc) h
        refine v_iconst (0 : Int32) dL_law_940 (by decide) ?_
        exact hZ _ _ _ _ dL_law_941 h
    replace h := Eq.mp (if_neg hc25) h
    by_cases hc26 : ((xs v3.toNatClampNeg) &&& (63 : Int32)) = (26 : Int32)
    · replace h := Eq.mp (if_pos hc26) h
      refine v_tabK (26 : Int32) hc26 942 dL_law_33 (by decide) (by decide) rfl (by decide) ?_
      refine v_aload_n 1 1 dL_law_942 rfl rfl ?_
      refine v_aload_n 0 0 dL_law_943 rfl rfl ?_
      refine v_iload_n 3 3 dL_law_944 rfl rfl ?_
      refine v_iconst (1 : Int32) dL_law_945 (by decide) ?_
      refine v_iadd dL_law_946 ?_
      obtain ⟨i200, h⟩ := h
      refine v_xld hX dL_law_947 i200 ?_
      obtain ⟨o203, h⟩ := h
      refine v_cVi [.int _] mv_X11_chance ml_RL_125 ⟨_, _, rfl⟩ o203 rfl rfl (Nat.le_of_ble_eq_true rfl) (Nat.le_of_ble_eq_true rfl) (Nat.le_of_ble_eq_true rfl) (Nat.le_of_ble_eq_true rfl) (Nat.le_of_ble_eq_true rfl) dL_law_948 (c_X11_chance h) (fun r201 m202 h => ?_)
      refine v_aload_n 2 2 dL_law_951 rfl rfl ?_
      refine v_aload_n 0 0 dL_law_952 rfl rfl ?_
      refine v_iload_n 3 3 dL_law_953 rfl rfl ?_
      refine v_iconst (1 : Int32) dL_law_954 (by decide) ?_
      refine v_iadd dL_law_955 ?_
      refine v_xld hX dL_law_956 i200 ?_
      obtain ⟨o206, h⟩ := h
      refine v_cVi [.int _] mv_X12_chance ml_RL_128 ⟨_, _, rfl⟩ o206 rfl rfl (Nat.le_of_ble_eq_true rfl) (Nat.le_of_ble_eq_true rfl) (Nat.le_of_ble_eq_true rfl) (Nat.le_of_ble_eq_true rfl) (Nat.le_of_ble_eq_true rfl) dL_law_957 (c_X12_chance h) (fun r204 m205 h => ?_)
      refine v_icmp_eq 1087 dL_law_960 (by decide) (fun hc => ?_) (fun hc => ?_)
      · replace h := Eq.mp (if_pos hc) h
        refine v_sub [0, 1, 2, 3] rfl ?_
        exact v_L_law_p1087 hX hZ hK18 h
      · replace h := Eq.mp (if_neg hc) h
        refine v_iconst (0 : Int32) dL_law_963 (by decide) ?_
        exact hZ _ _ _ _ dL_law_964 h
    replace h := Eq.mp (if_neg hc26) h
    by_cases hc27 : ((xs v3.toNatClampNeg) &&& (63 : Int32)) = (27 : Int32)
    · replace h := Eq.mp (if_pos hc27) h
      refine v_tabK (27 : Int32) hc27 965 dL_law_33 (by decide) (by decide) rfl (by decide) ?_
      refine v_aload_n 1 1 dL_law_965 rfl rfl ?_
      obtain ⟨o209, h⟩ := h
      refine v_cVi [] mv_X11_undo ml_RL_129 ⟨_, _, rfl⟩ o209 rfl rfl (Nat.le_of_ble_eq_true rfl) (Nat.le_of_ble_eq_true rfl) (Nat.le_of_ble_eq_true rfl) (Nat.le_of_ble_eq_true rfl) (Nat.le_of_ble_eq_true rfl) dL_law_966 (c_X11_undo h) (fun r207 m208 h => ?_)
      refine v_aload_n 2 2 dL_law_969 rfl rfl ?_
      obtain ⟨o212, h⟩ := h
      refine v_cVi [] mv_X12_undo ml_RL_133 ⟨_, _, rfl⟩ o212 rfl rfl (Nat.le_of_ble_eq_true rfl) (Nat.le_of_ble_eq_true rfl) (Nat.le_of_ble_eq_true rfl) (Nat.le_of_ble_eq_true rfl) (Nat.le_of_ble_eq_true rfl) dL_law_970 (c_X12_undo h) (fun r210 m211 h => ?_)
      refine v_icmp_eq 1087 dL_law_973 (by decide) (fun hc => ?_) (fun hc => ?_)
      · replace h := Eq.mp (if_pos hc) h
        refine v_sub [0, 1, 2, 3] rfl ?_
        exact v_L_law_p1087 hX hZ hK18 h
      · replace h := Eq.mp (if_neg hc) h
        refine v_iconst (0 : Int32) dL_law_976 (by decide) ?_
        exact hZ _ _ _ _ dL_law_977 h
    replace h := Eq.mp (if_neg hc27) h
    by_cases hc28 : ((xs v3.toNatClampNeg) &&& (63 : Int32)) = (28 : Int32)
    · replace h := Eq.mp (if_pos hc28) h
      refine v_tabK (28 : Int32) hc28 978 dL_law_33 (by decide) (by decide) rfl (by decide) ?_
      refine v_aload_n 1 1 dL_law_978 rfl rfl ?_
      refine v_aload_n 0 0 dL_law_979 rfl rfl ?_
      refine v_iload_n 3 3 dL_law_980 rfl rfl ?_
      refine v_iconst (1 : Int32) dL_law_981 (by decide) ?_
      refine v_iadd dL_law_982 ?_
      obtain ⟨i213, h⟩ := h
      refine v_xld hX dL_law_983 i213 ?_
      obtain ⟨o216, h⟩ := h
      refine v_cVi [.int _] mv_X11_seed ml_RL_134 ⟨_, _, rfl⟩ o216 rfl rfl (Nat.le_of_ble_eq_true rfl) (Nat.le_of_ble_eq_true rfl) (Nat.le_of_ble_eq_true rfl) (Nat.le_of_ble_eq_true rfl) (Nat.le_of_ble_eq_true rfl) dL_law_984 (c_X11_seed h) (fun r214 m215 h => ?_)
      refine v_aload_n 2 2 dL_law_987 rfl rfl ?_
      refine v_aload_n 0 0 dL_law_988 rfl rfl ?_
      refine v_iload_n 3 3 dL_law_989 rfl rfl ?_
      refine v_iconst (1 : Int32) dL_law_990 (by decide) ?_
      refine v_iadd dL_law_991 ?_
      refine v_xld hX dL_law_992 i213 ?_
      obtain ⟨o219, h⟩ := h
      refine v_cVi [.int _] mv_X12_seed ml_RL_137 ⟨_, _, rfl⟩ o219 rfl rfl (Nat.le_of_ble_eq_true rfl) (Nat.le_of_ble_eq_true rfl) (Nat.le_of_ble_eq_true rfl) (Nat.le_of_ble_eq_true rfl) (Nat.le_of_ble_eq_true rfl) dL_law_993 (c_X12_seed h) (fun r217 m218 h => ?_)
      refine v_icmp_eq 1087 dL_law_996 (by decide) (fun hc => ?_) (fun hc => ?_)
      · replace h := Eq.mp (if_pos hc) h
        refine v_sub [0, 1, 2, 3] rfl ?_
        exact v_L_law_p1087 hX hZ hK18 h
      · replace h := Eq.mp (if_neg hc) h
        refine v_iconst (0 : Int32) dL_law_999 (by decide) ?_
        exact hZ _ _ _ _ dL_law_1000 h
    replace h := Eq.mp (if_neg hc28) h
    by_cases hc29 : ((xs v3.toNatClampNeg) &&& (63 : Int32)) = (29 : Int32)
    · replace h := Eq.mp (if_pos hc29) h
      refine v_tabK (29 : Int32) hc29 1001 dL_law_33 (by decide) (by decide) rfl (by decide) ?_
      refine v_aload_n 1 1 dL_law_1001 rfl rfl ?_
      obtain ⟨o222, h⟩ := h
      refine v_cVl [] mv_X11_ask ml_RL_138 ⟨_, _, rfl⟩ o222 rfl rfl (Nat.le_of_ble_eq_true rfl) (Nat.le_of_ble_eq_true rfl) (Nat.le_of_ble_eq_true rfl) (Nat.le_of_ble_eq_true rfl) (Nat.le_of_ble_eq_true rfl) dL_law_1002 (c_X11_ask h) (fun r220 m221 h => ?_)
      refine v_aload_n 2 2 dL_law_1005 rfl rfl ?_
      obtain ⟨o225, h⟩ := h
      refine v_cVl [] mv_X12_ask ml_RL_142 ⟨_, _, rfl⟩ o225 rfl rfl (Nat.le_of_ble_eq_true rfl) (Nat.le_of_ble_eq_true rfl) (Nat.le_of_ble_eq_true rfl) (Nat.le_of_ble_eq_true rfl) (Nat.le_of_ble_eq_true rfl) dL_law_1006 (c_X12_ask h) (fun r223 m224 h => ?_)
      refine v_lcmp dL_law_1009 ?_
      refine v_if_eq 1087 dL_law_1010 (by decide) (fun hc => ?_) (fun hc => ?_)
      · replace h := Eq.mp (if_pos hc) h
        refine v_sub [0, 1, 2, 3] rfl ?_
        exact v_L_law_p1087 hX hZ hK18 h
      · replace h := Eq.mp (if_neg hc) h
        refine v_iconst (0 : Int32) dL_law_1013 (by decide) ?_
        exact hZ _ _ _ _ dL_law_1014 h
    replace h := Eq.mp (if_neg hc29) h
    by_cases hc30 : ((xs v3.toNatClampNeg) &&& (63 : Int32)) = (30 : Int32)
    · replace h := Eq.mp (if_pos hc30) h
      refine v_tabK (30 : Int32) hc30 1015 dL_law_33 (by decide) (by decide) rfl (by decide) ?_
      refine v_aload_n 1 1 dL_law_1015 rfl rfl ?_
      obtain ⟨o228, h⟩ := h
      refine v_cVi [] mv_X11_image ml_RL_143 ⟨_, _, rfl⟩ o228 rfl rfl (Nat.le_of_ble_eq_true rfl) (Nat.le_of_ble_eq_true rfl) (Nat.le_of_ble_eq_true rfl) (Nat.le_of_ble_eq_true rfl) (Nat.le_of_ble_eq_true rfl) dL_law_1016 (c_X11_image h) (fun r226 m227 h => ?_)
      refine v_aload_n 2 2 dL_law_1019 rfl rfl ?_
      obtain ⟨o231, h⟩ := h
      refine v_cVi [] mv_X12_image ml_RL_146 ⟨_, _, rfl⟩ o231 rfl rfl (Nat.le_of_ble_eq_true rfl) (Nat.le_of_ble_eq_true rfl) (Nat.le_of_ble_eq_true rfl) (Nat.le_of_ble_eq_true rfl) (Nat.le_of_ble_eq_true rfl) dL_law_1020 (c_X12_image h) (fun r229 m230 h => ?_)
      refine v_icmp_eq 1087 dL_law_1023 (by decide) (fun hc => ?_) (fun hc => ?_)
      · replace h := Eq.mp (if_pos hc) h
        refine v_sub [0, 1, 2, 3] rfl ?_
        exact v_L_law_p1087 hX hZ hK18 h
      · replace h := Eq.mp (if_neg hc) h
        refine v_iconst (0 : Int32) dL_law_1026 (by decide) ?_
        exact hZ _ _ _ _ dL_law_1027 h
    replace h := Eq.mp (if_neg hc30) h
    by_cases hc31 : ((xs v3.toNatClampNeg) &&& (63 : Int32)) = (31 : Int32)
    · replace h := Eq.mp (if_pos hc31) h
      refine v_tabK (31 : Int32) hc31 1028 dL_law_33 (by decide) (by decide) rfl (by decide) ?_
      refine v_aload_n 1 1 dL_law_1028 rfl rfl ?_
      refine v_aload_n 0 0 dL_law_1029 rfl rfl ?_
      refine v_iload_n 3 3 dL_law_1030 rfl rfl ?_
      refine v_iconst (1 : Int32) dL_law_1031 (by decide) ?_
      refine v_iadd dL_law_1032 ?_
      obtain ⟨i232, h⟩ := h
      refine v_xld hX dL_law_1033 i232 ?_
      obtain ⟨o235, h⟩ := h
      refine v_cVi [.int _] mv_X11_octet ml_RL_147 ⟨_, _, rfl⟩ o235 rfl rfl (Nat.le_of_ble_eq_true rfl) (Nat.le_of_ble_eq_true rfl) (Nat.le_of_ble_eq_true rfl) (Nat.le_of_ble_eq_true rfl) (Nat.le_of_ble_eq_true rfl) dL_law_1034 (c_X11_octet h) (fun r233 m234 h => ?_)
      refine v_aload_n 2 2 dL_law_1037 rfl rfl ?_
      refine v_aload_n 0 0 dL_law_1038 rfl rfl ?_
      refine v_iload_n 3 3 dL_law_1039 rfl rfl ?_
      refine v_iconst (1 : Int32) dL_law_1040 (by decide) ?_
      refine v_iadd dL_law_1041 ?_
      refine v_xld hX dL_law_1042 i232 ?_
      obtain ⟨o238, h⟩ := h
      refine v_cVi [.int _] mv_X12_octet ml_RL_150 ⟨_, _, rfl⟩ o238 rfl rfl (Nat.le_of_ble_eq_true rfl) (Nat.le_of_ble_eq_true rfl) (Nat.le_of_ble_eq_true rfl) (Nat.le_of_ble_eq_true rfl) (Nat.le_of_ble_eq_true rfl) dL_law_1043 (c_X12_octet h) (fun r236 m237 h => ?_)
      refine v_icmp_eq 1087 dL_law_1046 (by decide) (fun hc => ?_) (fun hc => ?_)
      · replace h := Eq.mp (if_pos hc) h
        refine v_sub [0, 1, 2, 3] rfl ?_
        exact v_L_law_p1087 hX hZ hK18 h
      · replace h := Eq.mp (if_neg hc) h
        refine v_iconst (0 : Int32) dL_law_1049 (by decide) ?_
        exact hZ _ _ _ _ dL_law_1050 h
    replace h := Eq.mp (if_neg hc31) h
    by_cases hc32 : ((xs v3.toNatClampNeg) &&& (63 : Int32)) = (32 : Int32)
    · replace h := Eq.mp (if_pos hc32) h
      refine v_tabK (32 : Int32) hc32 1051 dL_law_33 (by decide) (by decide) rfl (by decide) ?_
      refine v_aload_n 1 1 dL_law_1051 rfl rfl ?_
      obtain ⟨o241, h⟩ := h
      refine v_cVi [] mv_X11_on ml_RL_151 ⟨_, _, rfl⟩ o241 rfl rfl (Nat.le_of_ble_eq_true rfl) (Nat.le_of_ble_eq_true rfl) (Nat.le_of_ble_eq_true rfl) (Nat.le_of_ble_eq_true rfl) (Nat.le_of_ble_eq_true rfl) dL_law_1052 (c_X11_on h) (fun r239 m240 h => ?_)
      refine v_aload_n 2 2 dL_law_1055 rfl rfl ?_
      obtain ⟨o244, h⟩ := h
      refine v_cVi [] mv_X12_on ml_RL_154 ⟨_, _, rfl⟩ o244 rfl rfl (Nat.le_of_ble_eq_true rfl) (Nat.le_of_ble_eq_true rfl) (Nat.le_of_ble_eq_true rfl) (Nat.le_of_ble_eq_true rfl) (Nat.le_of_ble_eq_true rfl) dL_law_1056 (c_X12_on h) (fun r242 m243 h => ?_)
      refine v_icmp_eq 1087 dL_law_1059 (by decide) (fun hc => ?_) (fun hc => ?_)
      · replace h := Eq.mp (if_pos hc) h
        refine v_sub [0, 1, 2, 3] rfl ?_
        exact v_L_law_p1087 hX hZ hK18 h
      · replace h := Eq.mp (if_neg hc) h
        refine v_iconst (0 : Int32) dL_law_1062 (by decide) ?_
        exact hZ _ _ _ _ dL_law_1063 h
    replace h := Eq.mp (if_neg hc32) h
    by_cases hc33 : ((xs v3.toNatClampNeg) &&& (63 : Int32)) = (33 : Int32)
    · replace h := Eq.mp (if_pos hc33) h
      refine v_tabK (33 : Int32) hc33 1064 dL_law_33 (by decide) (by decide) rfl (by decide) ?_
      refine v_aload_n 1 1 dL_law_1064 rfl rfl ?_
      refine v_aload_n 0 0 dL_law_1065 rfl rfl ?_
      refine v_iload_n 3 3 dL_law_1066 rfl rfl ?_
      refine v_iconst (1 : Int32) dL_law_1067 (by decide) ?_
      refine v_iadd dL_law_1068 ?_
      obtain ⟨i245, h⟩ := h
      refine v_xld hX dL_law_1069 i245 ?_
      obtain ⟨o248, h⟩ := h
      refine v_cVi [.int _] mv_X11_status ml_RL_155 ⟨_, _, rfl⟩ o248 rfl rfl (Nat.le_of_ble_eq_true rfl) (Nat.le_of_ble_eq_true rfl) (Nat.le_of_ble_eq_true rfl) (Nat.le_of_ble_eq_true rfl) (Nat.le_of_ble_eq_true rfl) dL_law_1070 (c_X11_status h) (fun r246 m247 h => ?_)
      refine v_aload_n 2 2 dL_law_1073 rfl rfl ?_
      refine v_aload_n 0 0 dL_law_1074 rfl rfl ?_
      refine v_iload_n 3 3 dL_law_1075 rfl rfl ?_
      refine v_iconst (1 : Int32) dL_law_1076 (by decide) ?_
      refine v_iadd dL_law_1077 ?_
      refine v_xld hX dL_law_1078 i245 ?_
      obtain ⟨o251, h⟩ := h
      refine v_cVi [.int _] mv_X12_status ml_RL_158 ⟨_, _, rfl⟩ o251 rfl rfl (Nat.le_of_ble_eq_true rfl) (Nat.le_of_ble_eq_true rfl) (Nat.le_of_ble_eq_true rfl) (Nat.le_of_ble_eq_true rfl) (Nat.le_of_ble_eq_true rfl) dL_law_1079 (c_X12_status h) (fun r249 m250 h => ?_)
      refine v_icmp_eq 1087 dL_law_1082 (by decide) (fun hc => ?_) (fun hc => ?_)
      · replace h := Eq.mp (if_pos hc) h
        refine v_sub [0, 1, 2, 3] rfl ?_
        exact v_L_law_p1087 hX hZ hK18 h
      · replace h := Eq.mp (if_neg hc) h
        refine v_iconst (0 : Int32) dL_law_1085 (by decide) ?_
        exact hZ _ _ _ _ dL_law_1086 h
    replace h := Eq.mp (if_neg hc33) h
    refine v_tabOut 1087 dL_law_33 (by have := lv_neT hc0 (a := 0) (by decide); have := lv_neT hc1 (a := 1) (by decide); have := lv_neT hc2 (a := 2) (by decide); have := lv_neT hc3 (a := 3) (by decide); have := lv_neT hc4 (a := 4) (by decide); have := lv_neT hc5 (a := 5) (by decide); have := lv_neT hc6 (a := 6) (by decide); have := lv_neT hc7 (a := 7) (by decide); have := lv_neT hc8 (a := 8) (by decide); have := lv_neT hc9 (a := 9) (by decide); have := lv_neT hc10 (a := 10) (by decide); have := lv_neT hc11 (a := 11) (by decide); have := lv_neT hc12 (a := 12) (by decide); have := lv_neT hc13 (a := 13) (by decide); have := lv_neT hc14 (a := 14) (by decide); have := lv_neT hc15 (a := 15) (by decide); have := lv_neT hc16 (a := 16) (by decide); have := lv_neT hc17 (a := 17) (by decide); have := lv_neT hc18 (a := 18) (by decide); have := lv_neT hc19 (a := 19) (by decide); have := lv_neT hc20 (a := 20) (by decide); have := lv_neT hc21 (a := 21) (by decide); have := lv_neT hc22 (a := 22) (by decide); have := lv_neT hc23 (a := 23) (by decide); have := lv_neT hc24 (a := 24) (by decide); have := lv_neT hc25 (a := 25) (by decide); have := lv_neT hc26 (a := 26) (by decide); have := lv_neT hc27 (a := 27) (by decide); have := lv_neT hc28 (a := 28) (by decide); have := lv_neT hc29 (a := 29) (by decide); have := lv_neT hc30 (a := 30) (by decide); have := lv_neT hc31 (a := 31) (by decide); have := lv_neT hc32 (a := 32) (by decide); have := lv_neT hc33 (a := 33) (by decide); omega) (by decide) ?_
    refine v_sub [0, 1, 2, 3] rfl ?_
    exact v_L_law_p1087 hX hZ hK18 h
set_option maxHeartbeats 4000000 in
set_option maxRecDepth 100000 in
theorem v_L_law_n {G : Gl} {F : Fr} {nm : String} {L : Nat} {xs : Nat → Int32} {Z : State → Prop} {sh : Shp} {v0 v1 v2 : Nat} {Q : Int32 → Mem → Prop} (hX : XA G F v0 L xs) (hZ : ∀ (pc : Nat) (ls : List (Nat × Value)) (x : Int32) (m : Mem), decode (M_law nm).1 pc = .ok (.ireturn, 1) → Q x m → V G F (M_law nm) sh 286 42574 Z pc ls [.int x] m) : ∀ (n : Nat) (v3 : Int32) (m : Mem), L_law_n L xs sh v0 v1 v2 Q n v3 m → V G F (M_law nm) sh 286 42574 Z 18 [(0, .ref v0), (1, .ref (G.1 + v1)), (2, .ref (G.1 + v2)), (3, .int v3)] [] m
  | 0, _, _, h => h.elim
  | n + 1, _, _, h => v_L_law_b hX hZ (fun x3 m h => v_L_law_n hX hZ n x3 m h) h
