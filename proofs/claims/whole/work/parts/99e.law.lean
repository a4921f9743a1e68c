/-! the law: image and write, the switch, the loop -/
section LWR
variable {Y : lw_Y} {E : on_E} {z L : Nat} {xs : Nat → Int32} {i cl sl n : Nat} {σ : on_S} {pc : Nat} {st : List Value}
set_option maxRecDepth 20000 in
theorem lw_q58 (hi : i + 6 ≤ L) (hI : bI n σ) (hN : 100 ≤ n) (hcl : cl + 25 ≤ 600000) (hsl : sl + 616 ≤ 7302250) (k : lw_K Y E z L xs i cl sl n) : lw_J Y E z L xs i cl sl n σ 2064 [] := by
  rcases o_image (p := lw_a xs (i + 1)) hI (lw_aR _ _) with hop | ⟨h0, h1, hz, hb, q, σ2, e1, e2, hI2⟩
  · exact lw_o1 (pc := 2064) (idx1 := 250) (idx2 := 253) (off := 207) (f := pf_X11_image n (lw_a xs (i + 1))) (g := pf_X12_image (lw_a xs (i + 1))) hi hN hcl hsl (by decide +kernel) (by decide) ms_X11_image kw_6_101 rfl rfl ms_X12_image kw_7_13 rfl (fun _ => rfl) (ct_X11_image hN) (fun _ => ct_X12_image hN) hop k
  · have h : on_tab code (lw_t1 2064 250 253 207) = true := by decide +kernel
    unfold lw_t1 at h
    refine lw_al1 (on_ta h 0 rfl) ?_
    refine lw_arg 1 1 rfl (by omega) (on_ta h 1 rfl) (on_ta h 2 rfl) (on_ta h 3 rfl) (on_ta h 4 rfl) (on_ta h 5 rfl) ?_
    refine lw_callM (c2 := 0) (ci := 11) (n2 := n + 25) (q := (0, q.2)) (As := [.int (on_i (lw_a xs (i + 1)))]) ms_X11_image kw_6_101 rfl rfl (by omega) (by decide) rfl (ct_X11_image0 hN h0 h1 hz hb e1) rfl (on_ta h 6 rfl) (by omega) (by omega) ?_
    refine lw_al2 (on_ta h 7 rfl) ?_
    refine lw_arg 1 1 rfl (by omega) (on_ta h 8 rfl) (on_ta h 9 rfl) (on_ta h 10 rfl) (on_ta h 11 rfl) (on_ta h 12 rfl) ?_
    refine lw_call (c2 := 77) (ci := 12) (As := [.int (on_i (lw_a xs (i + 1)))]) ms_X12_image kw_7_13 rfl rfl (by omega) (by decide) rfl (ct_X12_image (by omega)) e2 rfl (on_ta h 13 rfl) (by omega) (by omega) ?_
    refine lw_same (on_ta h 14 rfl) (tgt := 2289) (by decide) ?_
    exact k (n + 25) σ2 (by omega) hI2
def lw_tw : List (Nat × Nat × Nat × Instr) := [(2153, 1, 2154, .aload_n 1), (2154, 1, 2155, .aload_n 0), (2155, 1, 2156, .iload_n 3), (2156, 1, 2157, .iconst 1), (2157, 1, 2158, .iadd), (2158, 1, 2159, .iaload), (2159, 1, 2160, .aload_n 0), (2160, 1, 2161, .iload_n 3), (2161, 1, 2162, .iconst 2), (2162, 1, 2163, .iadd), (2163, 1, 2164, .iaload), (2164, 1, 2165, .aload_n 0), (2165, 1, 2166, .iload_n 3), (2166, 1, 2167, .iconst 3), (2167, 1, 2168, .iadd), (2168, 1, 2169, .iaload), (2169, 1, 2170, .i2l), (2170, 2, 2172, .bipush 32), (2172, 1, 2173, .lshl), (2173, 1, 2174, .aload_n 0), (2174, 1, 2175, .iload_n 3), (2175, 1, 2176, .iconst 4), (2176, 1, 2177, .iadd), (2177, 1, 2178, .iaload), (2178, 1, 2179, .i2l), (2179, 3, 2182, .ldc2_w 262), (2182, 1, 2183, .land), (2183, 1, 2184, .lor), (2184, 3, 2187, .invokevirtual 264), (2187, 1, 2188, .aload_n 2), (2188, 1, 2189, .aload_n 0), (2189, 1, 2190, .iload_n 3), (2190, 1, 2191, .iconst 1), (2191, 1, 2192, .iadd), (2192, 1, 2193, .iaload), (2193, 1, 2194, .aload_n 0), (2194, 1, 2195, .iload_n 3), (2195, 1, 2196, .iconst 2), (2196, 1, 2197, .iadd), (2197, 1, 2198, .iaload), (2198, 1, 2199, .aload_n 0), (2199, 1, 2200, .iload_n 3), (2200, 1, 2201, .iconst 3), (2201, 1, 2202, .iadd), (2202, 1, 2203, .iaload), (2203, 1, 2204, .i2l), (2204, 2, 2206, .bipush 32), (2206, 1, 2207, .lshl), (2207, 1, 2208, .aload_n 0), (2208, 1, 2209, .iload_n 3), (2209, 1, 2210, .iconst 4), (2210, 1, 2211, .iadd), (2211, 1, 2212, .iaload), (2212, 1, 2213, .i2l), (2213, 3, 2216, .ldc2_w 262), (2216, 1, 2217, .land), (2217, 1, 2218, .lor), (2218, 3, 2221, .invokevirtual 268), (2221, 3, 2224, .if_icmp .eq 68)]
def lw_wv (xs : Nat → Int32) (i : Nat) : Int64 := (on_l (lw_a xs (i + 3)) <<< ((32 : Int32).toInt64 &&& 63)) ||| (on_l (lw_a xs (i + 4)) &&& 4294967295)
theorem lw_lg {v : Int64} (k : lw_J Y E z L xs i cl sl n σ pc (.long (on_l v.toInt) :: st)) : lw_J Y E z L xs i cl sl n σ pc (.long v :: st) := by
  rw [on_tl] at k
  exact k
set_option maxRecDepth 20000 in
theorem lw_q61 (hi : i + 6 ≤ L) (hI : bI n σ) (hN : 100 ≤ n) (hcl : cl + 25 ≤ 600000) (hsl : sl + 616 ≤ 7302250) (k : lw_K Y E z L xs i cl sl n) : lw_J Y E z L xs i cl sl n σ 2153 [] := by
  have h : on_tab code lw_tw = true := by decide +kernel
  unfold lw_tw at h
  obtain ⟨r, σ1, σ2, e1, e2, hR, hI2⟩ := o_write (p := lw_a xs (i + 1)) (q := lw_a xs (i + 2)) (v := (lw_wv xs i).toInt) hI (lw_aR _ _) (lw_aR _ _) ⟨Int64.le_toInt _, Int64.toInt_lt _⟩
  refine lw_al1 (on_ta h 0 rfl) ?_
  refine lw_arg 1 1 rfl (by omega) (on_ta h 1 rfl) (on_ta h 2 rfl) (on_ta h 3 rfl) (on_ta h 4 rfl) (on_ta h 5 rfl) ?_
  refine lw_arg 2 2 rfl (by omega) (on_ta h 6 rfl) (on_ta h 7 rfl) (on_ta h 8 rfl) (on_ta h 9 rfl) (on_ta h 10 rfl) ?_
  refine lw_arg 3 3 rfl (by omega) (on_ta h 11 rfl) (on_ta h 12 rfl) (on_ta h 13 rfl) (on_ta h 14 rfl) (on_ta h 15 rfl) ?_
  refine lw_i2l (lw_aR _ _) (on_ta h 16 rfl) ?_
  refine lw_32 (on_ta h 17 rfl) (on_ta h 18 rfl) ?_
  refine lw_arg 4 4 rfl (by omega) (on_ta h 19 rfl) (on_ta h 20 rfl) (on_ta h 21 rfl) (on_ta h 22 rfl) (on_ta h 23 rfl) ?_
  refine lw_i2l (lw_aR _ _) (on_ta h 24 rfl) ?_
  refine lw_mask kw_9_187 (on_ta h 25 rfl) (on_ta h 26 rfl) (on_ta h 27 rfl) ?_
  refine lw_lg (v := lw_wv xs i) ?_
  refine lw_call (c2 := 0) (ci := 11) (As := [.int (on_i (lw_a xs (i + 1))), .int (on_i (lw_a xs (i + 2))), .long (on_l (lw_wv xs i).toInt)]) ms_X11_write kw_6_120 rfl rfl (by omega) (by decide) rfl (ct_X11_write hN) e1 rfl (on_ta h 28 rfl) (by omega) (by omega) ?_
  refine lw_al2 (on_ta h 29 rfl) ?_
  refine lw_arg 1 1 rfl (by omega) (on_ta h 30 rfl) (on_ta h 31 rfl) (on_ta h 32 rfl) (on_ta h 33 rfl) (on_ta h 34 rfl) ?_
  refine lw_arg 2 2 rfl (by omega) (on_ta h 35 rfl) (on_ta h 36 rfl) (on_ta h 37 rfl) (on_ta h 38 rfl) (on_ta h 39 rfl) ?_
  refine lw_arg 3 3 rfl (by omega) (on_ta h 40 rfl) (on_ta h 41 rfl) (on_ta h 42 rfl) (on_ta h 43 rfl) (on_ta h 44 rfl) ?_
  refine lw_i2l (lw_aR _ _) (on_ta h 45 rfl) ?_
  refine lw_32 (on_ta h 46 rfl) (on_ta h 47 rfl) ?_
  refine lw_arg 4 4 rfl (by omega) (on_ta h 48 rfl) (on_ta h 49 rfl) (on_ta h 50 rfl) (on_ta h 51 rfl) (on_ta h 52 rfl) ?_
  refine lw_i2l (lw_aR _ _) (on_ta h 53 rfl) ?_
  refine lw_mask kw_9_187 (on_ta h 54 rfl) (on_ta h 55 rfl) (on_ta h 56 rfl) ?_
  refine lw_lg (v := lw_wv xs i) ?_
  refine lw_call (c2 := 77) (ci := 12) (As := [.int (on_i (lw_a xs (i + 1))), .int (on_i (lw_a xs (i + 2))), .long (on_l (lw_wv xs i).toInt)]) ms_X12_write kw_9_176 rfl rfl (by omega) (by decide) rfl (ct_X12_write hN) e2 rfl (on_ta h 57 rfl) (by omega) (by omega) ?_
  refine lw_same (on_ta h 58 rfl) (tgt := 2289) (by decide) ?_
  exact lw_wide (by omega) (by omega) (k n σ2 (Nat.le_refl _) hI2)
def lw_offs : Array Int := #[267, 330, 353, 366, 389, 422, 455, 488, 531, 564, 597, 630, 663, 696, 719, 742, 775, 798, 811, 844, 877, 920, 953, 976, 1009, 1042, 1055, 1088, 1101, 1114, 1147, 1170, 1193, 1216, 1229, 1242, 1275, 1318, 1341, 1354, 1417, 1450, 1483, 1516, 1549, 1572, 1605, 1628, 1651, 1684, 1727, 1760, 1803, 1836, 1879, 1922, 1965, 2008, 2031, 2054, 2077, 2120, 2193]
def lw_tg : List Nat := [300, 363, 386, 399, 422, 455, 488, 521, 564, 597, 630, 663, 696, 729, 752, 775, 808, 831, 844, 877, 910, 953, 986, 1009, 1042, 1075, 1088, 1121, 1134, 1147, 1180, 1203, 1226, 1249, 1262, 1275, 1308, 1351, 1374, 1387, 1450, 1483, 1516, 1549, 1582, 1605, 1638, 1661, 1684, 1717, 1760, 1793, 1836, 1869, 1912, 1955, 1998, 2041, 2064, 2087, 2110, 2153, 2226]
def lw_th : List (Nat × Nat × Nat × Instr) := [(18, 1, 19, .iload_n 3), (19, 1, 20, .aload_n 0), (20, 1, 21, .arraylength), (21, 2, 23, .bipush 6), (23, 1, 24, .isub), (24, 3, 27, .if_icmp .gt 2271), (27, 1, 28, .aload_n 0), (28, 1, 29, .iload_n 3), (29, 1, 30, .iaload), (30, 2, 32, .bipush 63), (32, 1, 33, .iand), (33, 267, 300, .tableswitch 2256 0 62 lw_offs), (2289, 3, 2292, .iinc 3 6), (2292, 3, 2295, .goto (-2274)), (2295, 1, 2296, .iconst 1), (2296, 1, 2297, .ireturn)]
theorem lw_thk : on_tab code lw_th = true := by decide +kernel
theorem lw_tg_ok : ∀ j : Nat, j < 63 → lw_offs[j]? = some ((lw_tg.getD j 0 : Nat) - 33 : Int) := by decide +kernel
theorem lw_mod (a : Int32) : ∃ j : Nat, j < 64 ∧ (a &&& 63).toInt = (j : Int) := by
  have h1 : (a &&& 63).toBitVec.toNat ≤ 63 := by
    rw [Int32.toBitVec_and, BitVec.toNat_and]
    exact Nat.and_le_right
  refine ⟨(a &&& 63).toBitVec.toNat, by omega, ?_⟩
  show (a &&& 63).toBitVec.toInt = _
  rw [BitVec.toInt_eq_toNat_of_lt]
  omega
theorem nI_on (k : Nat) : nI k = on_i (k : Int) := by
  show Int32.ofNat k = Int32.ofInt (k : Int)
  rw [Int32.ofInt_eq_ofNat]
theorem lw_turn (hi : i + 6 ≤ L) (k : lw_J Y E z L xs i cl sl n σ 2289 []) (kk : ∀ j : Nat, j < 63 → lw_J Y E z L xs i cl sl n σ (lw_tg.getD j 0) []) : lw_J Y E z L xs i cl sl n σ 27 [] := by
  have h := lw_thk
  unfold lw_th at h
  obtain ⟨p, e, s, m, below, meth, c, b⟩ := Y
  intro hC H locs ls hP hS hl
  obtain ⟨⟨hx, hb, hr, hml, hown, hts, hX, hbl, hlocks, hgv⟩, hK, hE, hL, hz⟩ := id hC
  refine lv_aload_n hx hb (on_ta h 6 rfl).1 rfl (lv_at hl 0 rfl) ?_
  refine lv_iload_n hx hb (on_ta h 7 rfl).1 rfl (lv_at hl 3 rfl) ?_
  refine va_sld hx hb hX hbl (by show ¬ z ≤ b; omega) hS (vp_in_nI (show i < L by omega) (by omega)) (on_ta h 8 rfl).1 ?_
  refine lv_bipush (v := 63) hx hb (on_ta h 9 rfl).1 (by decide) ?_
  refine lv_iand hx hb (on_ta h 10 rfl).1 ?_
  obtain ⟨j, hj, e9⟩ := lw_mod (xs (nI i).toNatClampNeg)
  by_cases hj2 : j < 63
  · refine lv_tableIn hx hb (on_ta h 11 rfl).1 (by rw [e9]; omega) (by rw [e9]; omega) (by rw [e9, show ((j : Int) - 0).toNat = j by omega]; exact lw_tg_ok j hj2) (tgt := lw_tg.getD j 0) (by omega) (kk j hj2 hC H locs ls hP hS hl)
  · exact lv_tableOut hx hb (on_ta h 11 rfl).1 (by rw [e9]; omega) (tgt := 2289) (by decide) (k hC H locs ls hP hS hl)
theorem lw_head (hi : i ≤ L + 5) (hcl : cl ≤ 600000) (hsl : sl ≤ 7302250) (k : i + 6 ≤ L → lw_J Y E z L xs i cl sl n σ 27 []) : lw_J Y E z L xs i cl sl n σ 18 [] := by
  have h := lw_thk
  unfold lw_th at h
  obtain ⟨p, e, s, m, below, meth, c, b⟩ := Y
  intro hC H locs ls hP hS hl
  obtain ⟨⟨hx, hb, hr, hml, hown, hts, hX, hbl, hlocks, hgv⟩, hK, hE, hL, hz⟩ := id hC
  have eL : Int32.ofNat L - 6 = on_i ((L : Int) - 6) := by
    rw [on_i_sub]
    exact congrArg (fun q => q - 6) (nI_on L)
  have ei := nI_on i
  refine lv_iload_n hx hb (on_ta h 0 rfl).1 rfl (lv_at hl 3 rfl) ?_
  refine lv_aload_n hx hb (on_ta h 1 rfl).1 rfl (lv_at hl 0 rfl) ?_
  refine va_slen hx hb hX hbl (by show ¬ z ≤ b; omega) hS (on_ta h 2 rfl).1 ?_
  refine lv_bipush (v := 6) hx hb (on_ta h 3 rfl).1 (by decide) ?_
  refine lv_isub hx hb (on_ta h 4 rfl).1 ?_
  refine lv_icmp_gt hx hb (on_ta h 5 rfl).1 (tgt := 2295) (by decide) (fun _ => ?_) (fun hg => ?_)
  · refine lv_iconst (v := 1) hx hb (on_ta h 14 rfl).1 (by decide) ?_
    refine va_forget (fun q hq => by rw [hz]; exact hS.2.2 q hq) ?_
    refine W.widen (k := 600000) (n := 7302250) hcl hsl ?_
    exact lw_ret hx hb hr hlocks (on_ta h 15 rfl).1
  · rw [eL, ei, on_i_lt ⟨by omega, by omega⟩ ⟨by omega, by omega⟩] at hg
    exact k (by omega) hC H locs ls hP hS hl
theorem lw_tail (k : lw_J Y E z L xs (i + 6) cl sl n σ 18 []) : lw_J Y E z L xs i cl sl n σ 2289 [] := by
  have h := lw_thk
  unfold lw_th at h
  obtain ⟨p, e, s, m, below, meth, c, b⟩ := Y
  intro hC H locs ls hP hS hl
  obtain ⟨⟨hx, hb, hr, hml, hown, hts, hX, hbl, hlocks, hgv⟩, hK, hE, hL, hz⟩ := id hC
  refine lv_iinc (v := nI (i + 6)) (lv' := [(3, .int (nI (i + 6))), (0, .ref b), (1, .ref (z + 0)), (2, .ref (z + 77))]) hx hb (on_ta h 12 rfl).1 hl (k := 3) rfl (nI_add i 6) (by decide) rfl (fun ls hl => ?_)
  refine lv_goto hx hb (on_ta h 13 rfl).1 (tgt := 18) (by decide) ?_
  exact k hC H locs ls hP hS (lv_sub hl [1, 2, 3, 0] rfl)
theorem lw_all (hi : i + 6 ≤ L) (hI : bI n σ) (hN : 100 ≤ n) (hcl : cl + 25 ≤ 600000) (hsl : sl + 616 ≤ 7302250) (k : lw_K Y E z L xs i cl sl n) : ∀ j : Nat, j < 63 → lw_J Y E z L xs i cl sl n σ (lw_tg.getD j 0) [] := by
  intro j hj
  by_cases c16 : j < 16
  · rcases (show j = 0 ∨ j = 1 ∨ j = 2 ∨ j = 3 ∨ j = 4 ∨ j = 5 ∨ j = 6 ∨ j = 7 ∨ j = 8 ∨ j = 9 ∨ j = 10 ∨ j = 11 ∨ j = 12 ∨ j = 13 ∨ j = 14 ∨ j = 15 by omega) with h | h | h | h | h | h | h | h | h | h | h | h | h | h | h | h <;> subst h
    · exact lw_q0 hi hI hN hcl hsl k
    · exact lw_q1 hi hI hN hcl hsl k
    · exact lw_q2 hi hI hN hcl hsl k
    · exact lw_q3 hi hI hN hcl hsl k
    · exact lw_q4 hi hI hN hcl hsl k
    · exact lw_q5 hi hI hN hcl hsl k
    · exact lw_q6 hi hI hN hcl hsl k
    · exact lw_q7 hi hI hN hcl hsl k
    · exact lw_q8 hi hI hN hcl hsl k
    · exact lw_q9 hi hI hN hcl hsl k
    · exact lw_q10 hi hI hN hcl hsl k
    · exact lw_q11 hi hI hN hcl hsl k
    · exact lw_q12 hi hI hN hcl hsl k
    · exact lw_q13 hi hI hN hcl hsl k
    · exact lw_q14 hi hI hN hcl hsl k
    · exact lw_q15 hi hI hN hcl hsl k
  by_cases c32 : j < 32
  · rcases (show j = 16 ∨ j = 17 ∨ j = 18 ∨ j = 19 ∨ j = 20 ∨ j = 21 ∨ j = 22 ∨ j = 23 ∨ j = 24 ∨ j = 25 ∨ j = 26 ∨ j = 27 ∨ j = 28 ∨ j = 29 ∨ j = 30 ∨ j = 31 by omega) with h | h | h | h | h | h | h | h | h | h | h | h | h | h | h | h <;> subst h
    · exact lw_q16 hi hI hN hcl hsl k
    · exact lw_q17 hi hI hN hcl hsl k
    · exact lw_q18 hi hI hN hcl hsl k
    · exact lw_q19 hi hI hN hcl hsl k
    · exact lw_q20 hi hI hN hcl hsl k
    · exact lw_q21 hi hI hN hcl hsl k
    · exact lw_q22 hi hI hN hcl hsl k
    · exact lw_q23 hi hI hN hcl hsl k
    · exact lw_q24 hi hI hN hcl hsl k
    · exact lw_q25 hi hI hN hcl hsl k
    · exact lw_q26 hi hI hN hcl hsl k
    · exact lw_q27 hi hI hN hcl hsl k
    · exact lw_q28 hi hI hN hcl hsl k
    · exact lw_q29 hi hI hN hcl hsl k
    · exact lw_q30 hi hI hN hcl hsl k
    · exact lw_q31 hi hI hN hcl hsl k
  by_cases c48 : j < 48
  · rcases (show j = 32 ∨ j = 33 ∨ j = 34 ∨ j = 35 ∨ j = 36 ∨ j = 37 ∨ j = 38 ∨ j = 39 ∨ j = 40 ∨ j = 41 ∨ j = 42 ∨ j = 43 ∨ j = 44 ∨ j = 45 ∨ j = 46 ∨ j = 47 by omega) with h | h | h | h | h | h | h | h | h | h | h | h | h | h | h | h <;> subst h
    · exact lw_q32 hi hI hN hcl hsl k
    · exact lw_q33 hi hI hN hcl hsl k
    · exact lw_q34 hi hI hN hcl hsl k
    · exact lw_q35 hi hI hN hcl hsl k
    · exact lw_q36 hi hI hN hcl hsl k
    · exact lw_q37 hi hI hN hcl hsl k
    · exact lw_q38 hi hI hN hcl hsl k
    · exact lw_q39 hi hI hN hcl hsl k
    · exact lw_q40 hi hI hN hcl hsl k
    · exact lw_q41 hi hI hN hcl hsl k
    · exact lw_q42 hi hI hN hcl hsl k
    · exact lw_q43 hi hI hN hcl hsl k
    · exact lw_q44 hi hI hN hcl hsl k
    · exact lw_q45 hi hI hN hcl hsl k
    · exact lw_q46 hi hI hN hcl hsl k
    · exact lw_q47 hi hI hN hcl hsl k
  rcases (show j = 48 ∨ j = 49 ∨ j = 50 ∨ j = 51 ∨ j = 52 ∨ j = 53 ∨ j = 54 ∨ j = 55 ∨ j = 56 ∨ j = 57 ∨ j = 58 ∨ j = 59 ∨ j = 60 ∨ j = 61 ∨ j = 62 by omega) with h | h | h | h | h | h | h | h | h | h | h | h | h | h | h <;> subst h
  · exact lw_q48 hi hI hN hcl hsl k
  · exact lw_q49 hi hI hN hcl hsl k
  · exact lw_q50 hi hI hN hcl hsl k
  · exact lw_q51 hi hI hN hcl hsl k
  · exact lw_q52 hi hI hN hcl hsl k
  · exact lw_q53 hi hI hN hcl hsl k
  · exact lw_q54 hi hI hN hcl hsl k
  · exact lw_q55 hi hI hN hcl hsl k
  · exact lw_q56 hi hI hN hcl hsl k
  · exact lw_q57 hi hI hN hcl hsl k
  · exact lw_q58 hi hI hN hcl hsl k
  · exact lw_q59 hi hI hN hcl hsl k
  · exact lw_q60 hi hI hN hcl hsl k
  · exact lw_q61 hi hI hN hcl hsl k
  · exact lw_q62 hi hI hN hcl hsl k
theorem lw_loop : ∀ (w i cl sl n : Nat) (σ : on_S), i ≤ L + 5 → L < i + 6 * w → 100 ≤ n → cl + 25 * w ≤ 600000 → sl + 616 * w ≤ 7302250 → bI n σ → lw_J Y E z L xs i cl sl n σ 18 [] := by
  intro w
  induction w with
  | zero =>
    intro i cl sl n σ h1 h2 hN h3 h4 hI
    exact lw_head h1 (by omega) (by omega) (fun h => absurd h (by omega))
  | succ w ih =>
    intro i cl sl n σ h1 h2 hN h3 h4 hI
    refine lw_head h1 (by omega) (by omega) (fun h => ?_)
    have K : lw_K Y E z L xs i cl sl n := fun n2 σ2 hn hI2 => lw_tail (ih (i + 6) (cl + 25) (sl + 616) n2 σ2 (by omega) (by omega) (by omega) (by omega) (by omega) hI2)
    have a1 : cl + 25 ≤ 600000 := Nat.le_trans (Nat.add_le_add_left (Nat.le_mul_of_pos_right 25 (Nat.succ_pos w)) cl) h3
    have a2 : sl + 616 ≤ 7302250 := Nat.le_trans (Nat.add_le_add_left (Nat.le_mul_of_pos_right 616 (Nat.succ_pos w)) sl) h4
    have T : lw_J Y E z L xs i cl sl n σ 2289 [] := lw_wide (Nat.le_add_right cl 25) (Nat.le_add_right sl 616) (K n σ (Nat.le_refl n) hI)
    have A : ∀ j : Nat, j < 63 → lw_J Y E z L xs i cl sl n σ (lw_tg.getD j 0) [] := lw_all h hI hN a1 a2 K
    exact lw_turn h T A
end LWR
