/-! the law: the calls, one by one -/
section LWQ
variable {Y : lw_Y} {E : on_E} {z L : Nat} {xs : Nat → Int32} {i cl sl n : Nat} {σ : on_S}
set_option maxRecDepth 20000 in
theorem lw_q0 (hi : i + 6 ≤ L) (hI : bI n σ) (hN : 100 ≤ n) (hcl : cl + 25 ≤ 600000) (hsl : sl + 616 ≤ 7302250) (k : lw_K Y E z L xs i cl sl n) : lw_J Y E z L xs i cl sl n σ 300 [] :=
  lw_o5 (pc := 300) (idx1 := 13) (idx2 := 17) (off := 1931) (f := (pf_X11_feed (lw_a xs (i + 1)) (lw_a xs (i + 2)) (lw_a xs (i + 3)) (lw_a xs (i + 4)) (lw_a xs (i + 5)))) (g := (pf_X12_feed (lw_a xs (i + 1)) (lw_a xs (i + 2)) (lw_a xs (i + 3)) (lw_a xs (i + 4)) (lw_a xs (i + 5)))) hi hN hcl hsl (by decide +kernel) (by decide) ms_X11_feed kw_2_216 rfl rfl ms_X12_feed kw_7_25 rfl (fun _ => rfl) (ct_X11_feed hN) (fun _ => ct_X12_feed hN) (o_feed hI) k
set_option maxRecDepth 20000 in
theorem lw_q1 (hi : i + 6 ≤ L) (hI : bI n σ) (hN : 100 ≤ n) (hcl : cl + 25 ≤ 600000) (hsl : sl + 616 ≤ 7302250) (k : lw_K Y E z L xs i cl sl n) : lw_J Y E z L xs i cl sl n σ 363 [] :=
  lw_o1 (pc := 363) (idx1 := 18) (idx2 := 22) (off := 1908) (f := (pf_X11_end (lw_a xs (i + 1)))) (g := (pf_X12_end (lw_a xs (i + 1)))) hi hN hcl hsl (by decide +kernel) (by decide) ms_X11_end kw_2_224 rfl rfl ms_X12_end kw_7_29 rfl (fun _ => rfl) (ct_X11_end hN) (fun _ => ct_X12_end hN) (o_end hI (lw_aR _ _)) k
set_option maxRecDepth 20000 in
theorem lw_q2 (hi : i + 6 ≤ L) (hI : bI n σ) (hN : 100 ≤ n) (hcl : cl + 25 ≤ 600000) (hsl : sl + 616 ≤ 7302250) (k : lw_K Y E z L xs i cl sl n) : lw_J Y E z L xs i cl sl n σ 386 [] :=
  lw_o0 (pc := 386) (idx1 := 23) (idx2 := 27) (off := 1895) (f := (pf_X11_street )) (g := (pf_X12_street )) hi hN hcl hsl (by decide +kernel) (by decide) ms_X11_street kw_2_228 rfl rfl ms_X12_street kw_7_37 rfl (fun _ => rfl) (ct_X11_street hN) (fun _ => ct_X12_street hN) (o_street hI) k
set_option maxRecDepth 20000 in
theorem lw_q3 (hi : i + 6 ≤ L) (hI : bI n σ) (hN : 100 ≤ n) (hcl : cl + 25 ≤ 600000) (hsl : sl + 616 ≤ 7302250) (k : lw_K Y E z L xs i cl sl n) : lw_J Y E z L xs i cl sl n σ 399 [] :=
  lw_o1 (pc := 399) (idx1 := 28) (idx2 := 31) (off := 1872) (f := (pf_X11_fault (lw_a xs (i + 1)))) (g := (pf_X12_fault (lw_a xs (i + 1)))) hi hN hcl hsl (by decide +kernel) (by decide) ms_X11_fault kw_3_207 rfl rfl ms_X12_fault kw_7_33 rfl (fun _ => rfl) (ct_X11_fault hN) (fun _ => ct_X12_fault hN) (o_fault hI (lw_aR _ _)) k
set_option maxRecDepth 20000 in
theorem lw_q4 (hi : i + 6 ≤ L) (hI : bI n σ) (hN : 100 ≤ n) (hcl : cl + 25 ≤ 600000) (hsl : sl + 616 ≤ 7302250) (k : lw_K Y E z L xs i cl sl n) : lw_J Y E z L xs i cl sl n σ 422 [] :=
  lw_o2 (pc := 422) (idx1 := 32) (idx2 := 36) (off := 1839) (f := (pf_X11_window (lw_a xs (i + 1)) (lw_a xs (i + 2)))) (g := (pf_X12_window (lw_a xs (i + 1)) (lw_a xs (i + 2)))) hi hN hcl hsl (by decide +kernel) (by decide) ms_X11_window kw_3_211 rfl rfl ms_X12_window kw_7_142 rfl (fun _ => rfl) (ct_X11_window hN) (fun _ => ct_X12_window hN) (o_window hI (lw_aR _ _) (lw_aR _ _)) k
set_option maxRecDepth 20000 in
theorem lw_q5 (hi : i + 6 ≤ L) (hI : bI n σ) (hN : 100 ≤ n) (hcl : cl + 25 ≤ 600000) (hsl : sl + 616 ≤ 7302250) (k : lw_K Y E z L xs i cl sl n) : lw_J Y E z L xs i cl sl n σ 455 [] :=
  lw_o2 (pc := 455) (idx1 := 37) (idx2 := 40) (off := 1806) (f := (pf_X11_man (lw_a xs (i + 1)) (lw_a xs (i + 2)))) (g := (pf_X12_man (lw_a xs (i + 1)) (lw_a xs (i + 2)))) hi hN hcl hsl (by decide +kernel) (by decide) ms_X11_man kw_3_219 rfl rfl ms_X12_man kw_7_166 rfl (fun _ => rfl) (ct_X11_man hN) (fun _ => ct_X12_man hN) (o_man hI (lw_aR _ _) (lw_aR _ _)) k
set_option maxRecDepth 20000 in
theorem lw_q6 (hi : i + 6 ≤ L) (hI : bI n σ) (hN : 100 ≤ n) (hcl : cl + 25 ≤ 600000) (hsl : sl + 616 ≤ 7302250) (k : lw_K Y E z L xs i cl sl n) : lw_J Y E z L xs i cl sl n σ 488 [] :=
  lw_o2 (pc := 488) (idx1 := 41) (idx2 := 44) (off := 1773) (f := (pf_X11_net (lw_a xs (i + 1)) (lw_a xs (i + 2)))) (g := (pf_X12_net (lw_a xs (i + 1)) (lw_a xs (i + 2)))) hi hN hcl hsl (by decide +kernel) (by decide) ms_X11_net kw_3_227 rfl rfl ms_X12_net kw_7_179 rfl (fun _ => rfl) (ct_X11_net hN) (fun _ => ct_X12_net hN) (o_net hI (lw_aR _ _) (lw_aR _ _)) k
set_option maxRecDepth 20000 in
theorem lw_q7 (hi : i + 6 ≤ L) (hI : bI n σ) (hN : 100 ≤ n) (hcl : cl + 25 ≤ 600000) (hsl : sl + 616 ≤ 7302250) (k : lw_K Y E z L xs i cl sl n) : lw_J Y E z L xs i cl sl n σ 521 [] :=
  lw_o3 (pc := 521) (idx1 := 45) (idx2 := 49) (off := 1730) (f := (pf_X11_corner (lw_a xs (i + 1)) (lw_a xs (i + 2)) (lw_a xs (i + 3)))) (g := (pf_X12_corner (lw_a xs (i + 1)) (lw_a xs (i + 2)) (lw_a xs (i + 3)))) hi hN hcl hsl (by decide +kernel) (by decide) ms_X11_corner kw_4_35 rfl rfl ms_X12_corner kw_8_1 rfl (fun _ => rfl) (ct_X11_corner hN) (fun _ => ct_X12_corner hN) (o_corner hI (lw_aR _ _) (lw_aR _ _) (lw_aR _ _)) k
set_option maxRecDepth 20000 in
theorem lw_q8 (hi : i + 6 ≤ L) (hI : bI n σ) (hN : 100 ≤ n) (hcl : cl + 25 ≤ 600000) (hsl : sl + 616 ≤ 7302250) (k : lw_K Y E z L xs i cl sl n) : lw_J Y E z L xs i cl sl n σ 564 [] :=
  lw_o2 (pc := 564) (idx1 := 50) (idx2 := 53) (off := 1697) (f := (pf_X11_jumper (lw_a xs (i + 1)) (lw_a xs (i + 2)))) (g := (pf_X12_jumper (lw_a xs (i + 1)) (lw_a xs (i + 2)))) hi hN hcl hsl (by decide +kernel) (by decide) ms_X11_jumper kw_4_48 rfl rfl ms_X12_jumper kw_8_8 rfl (fun _ => rfl) (ct_X11_jumper hN) (fun _ => ct_X12_jumper hN) (o_jumper hI (lw_aR _ _) (lw_aR _ _)) k
set_option maxRecDepth 20000 in
theorem lw_q9 (hi : i + 6 ≤ L) (hI : bI n σ) (hN : 100 ≤ n) (hcl : cl + 25 ≤ 600000) (hsl : sl + 616 ≤ 7302250) (k : lw_K Y E z L xs i cl sl n) : lw_J Y E z L xs i cl sl n σ 597 [] :=
  lw_o2 (pc := 597) (idx1 := 54) (idx2 := 57) (off := 1664) (f := (pf_X11_quarrel (lw_a xs (i + 1)) (lw_a xs (i + 2)))) (g := (pf_X12_quarrel (lw_a xs (i + 1)) (lw_a xs (i + 2)))) hi hN hcl hsl (by decide +kernel) (by decide) ms_X11_quarrel kw_4_57 rfl rfl ms_X12_quarrel kw_8_16 rfl (fun _ => rfl) (ct_X11_quarrel hN) (fun _ => ct_X12_quarrel hN) (o_quarrel hI (lw_aR _ _) (lw_aR _ _)) k
set_option maxRecDepth 20000 in
theorem lw_q10 (hi : i + 6 ≤ L) (hI : bI n σ) (hN : 100 ≤ n) (hcl : cl + 25 ≤ 600000) (hsl : sl + 616 ≤ 7302250) (k : lw_K Y E z L xs i cl sl n) : lw_J Y E z L xs i cl sl n σ 630 [] :=
  lw_o2 (pc := 630) (idx1 := 58) (idx2 := 61) (off := 1631) (f := (pf_X11_feud (lw_a xs (i + 1)) (lw_a xs (i + 2)))) (g := (pf_X12_feud (lw_a xs (i + 1)) (lw_a xs (i + 2)))) hi hN hcl hsl (by decide +kernel) (by decide) ms_X11_feud kw_4_70 rfl rfl ms_X12_feud kw_8_24 rfl (fun _ => rfl) (ct_X11_feud hN) (fun _ => ct_X12_feud hN) (o_feud hI (lw_aR _ _) (lw_aR _ _)) k
set_option maxRecDepth 20000 in
theorem lw_q11 (hi : i + 6 ≤ L) (hI : bI n σ) (hN : 100 ≤ n) (hcl : cl + 25 ≤ 600000) (hsl : sl + 616 ≤ 7302250) (k : lw_K Y E z L xs i cl sl n) : lw_J Y E z L xs i cl sl n σ 663 [] :=
  lw_o2 (pc := 663) (idx1 := 62) (idx2 := 65) (off := 1598) (f := (pf_X11_will (lw_a xs (i + 1)) (lw_a xs (i + 2)))) (g := (pf_X12_will (lw_a xs (i + 1)) (lw_a xs (i + 2)))) hi hN hcl hsl (by decide +kernel) (by decide) ms_X11_will kw_4_82 rfl rfl ms_X12_will kw_8_36 rfl (fun _ => rfl) (ct_X11_will hN) (fun _ => ct_X12_will hN) (o_will hI (lw_aR _ _) (lw_aR _ _)) k
set_option maxRecDepth 20000 in
theorem lw_q12 (hi : i + 6 ≤ L) (hI : bI n σ) (hN : 100 ≤ n) (hcl : cl + 25 ≤ 600000) (hsl : sl + 616 ≤ 7302250) (k : lw_K Y E z L xs i cl sl n) : lw_J Y E z L xs i cl sl n σ 696 [] :=
  lw_o2 (pc := 696) (idx1 := 66) (idx2 := 69) (off := 1565) (f := (pf_X11_gives (lw_a xs (i + 1)) (lw_a xs (i + 2)))) (g := (pf_X12_gives (lw_a xs (i + 1)) (lw_a xs (i + 2)))) hi hN hcl hsl (by decide +kernel) (by decide) ms_X11_gives kw_4_87 rfl rfl ms_X12_gives kw_8_40 rfl (fun _ => rfl) (ct_X11_gives hN) (fun _ => ct_X12_gives hN) (o_gives hI (lw_aR _ _) (lw_aR _ _)) k
set_option maxRecDepth 20000 in
theorem lw_q13 (hi : i + 6 ≤ L) (hI : bI n σ) (hN : 100 ≤ n) (hcl : cl + 25 ≤ 600000) (hsl : sl + 616 ≤ 7302250) (k : lw_K Y E z L xs i cl sl n) : lw_J Y E z L xs i cl sl n σ 729 [] :=
  lw_o1 (pc := 729) (idx1 := 70) (idx2 := 73) (off := 1542) (f := (pf_X11_held (lw_a xs (i + 1)))) (g := (pf_X12_held (lw_a xs (i + 1)))) hi hN hcl hsl (by decide +kernel) (by decide) ms_X11_held kw_4_96 rfl rfl ms_X12_held kw_8_44 rfl (fun _ => rfl) (ct_X11_held hN) (fun _ => ct_X12_held hN) (o_held hI (lw_aR _ _)) k
set_option maxRecDepth 20000 in
theorem lw_q14 (hi : i + 6 ≤ L) (hI : bI n σ) (hN : 100 ≤ n) (hcl : cl + 25 ≤ 600000) (hsl : sl + 616 ≤ 7302250) (k : lw_K Y E z L xs i cl sl n) : lw_J Y E z L xs i cl sl n σ 752 [] :=
  lw_o1 (pc := 752) (idx1 := 74) (idx2 := 77) (off := 1519) (f := (pf_X11_heaviest (lw_a xs (i + 1)))) (g := (pf_X12_heaviest (lw_a xs (i + 1)))) hi hN hcl hsl (by decide +kernel) (by decide) ms_X11_heaviest kw_4_104 rfl rfl ms_X12_heaviest kw_8_52 rfl (fun _ => rfl) (ct_X11_heaviest hN) (fun _ => ct_X12_heaviest hN) (o_heaviest hI (lw_aR _ _)) k
set_option maxRecDepth 20000 in
theorem lw_q15 (hi : i + 6 ≤ L) (hI : bI n σ) (hN : 100 ≤ n) (hcl : cl + 25 ≤ 600000) (hsl : sl + 616 ≤ 7302250) (k : lw_K Y E z L xs i cl sl n) : lw_J Y E z L xs i cl sl n σ 775 [] :=
  lw_o2 (pc := 775) (idx1 := 78) (idx2 := 81) (off := 1486) (f := (pf_X11_highest (lw_a xs (i + 1)) (lw_a xs (i + 2)))) (g := (pf_X12_highest (lw_a xs (i + 1)) (lw_a xs (i + 2)))) hi hN hcl hsl (by decide +kernel) (by decide) ms_X11_highest kw_4_113 rfl rfl ms_X12_highest kw_8_56 rfl (fun _ => rfl) (ct_X11_highest hN) (fun _ => ct_X12_highest hN) (o_highest hI (lw_aR _ _) (lw_aR _ _)) k
set_option maxRecDepth 20000 in
theorem lw_q16 (hi : i + 6 ≤ L) (hI : bI n σ) (hN : 100 ≤ n) (hcl : cl + 25 ≤ 600000) (hsl : sl + 616 ≤ 7302250) (k : lw_K Y E z L xs i cl sl n) : lw_J Y E z L xs i cl sl n σ 808 [] :=
  lw_o1 (pc := 808) (idx1 := 82) (idx2 := 85) (off := 1463) (f := (pf_X11_jump (lw_a xs (i + 1)))) (g := (pf_X12_jump (lw_a xs (i + 1)))) hi hN hcl hsl (by decide +kernel) (by decide) ms_X11_jump kw_4_118 rfl rfl ms_X12_jump kw_8_61 rfl (fun _ => rfl) (ct_X11_jump hN) (fun _ => ct_X12_jump hN) (o_jump hI (lw_aR _ _)) k
set_option maxRecDepth 20000 in
theorem lw_q17 (hi : i + 6 ≤ L) (hI : bI n σ) (hN : 100 ≤ n) (hcl : cl + 25 ≤ 600000) (hsl : sl + 616 ≤ 7302250) (k : lw_K Y E z L xs i cl sl n) : lw_J Y E z L xs i cl sl n σ 831 [] :=
  lw_o0 (pc := 831) (idx1 := 86) (idx2 := 89) (off := 1450) (f := (pf_X11_undo )) (g := (pf_X12_undo )) hi hN hcl hsl (by decide +kernel) (by decide) ms_X11_undo kw_4_148 rfl rfl ms_X12_undo kw_8_69 rfl (fun _ => rfl) (ct_X11_undo hN) (fun _ => ct_X12_undo hN) (o_undo hI) k
set_option maxRecDepth 20000 in
theorem lw_q18 (hi : i + 6 ≤ L) (hI : bI n σ) (hN : 100 ≤ n) (hcl : cl + 25 ≤ 600000) (hsl : sl + 616 ≤ 7302250) (k : lw_K Y E z L xs i cl sl n) : lw_J Y E z L xs i cl sl n σ 844 [] :=
  lw_o2 (pc := 844) (idx1 := 90) (idx2 := 93) (off := 1417) (f := (pf_X11_led (lw_a xs (i + 1)) (lw_a xs (i + 2)))) (g := (pf_X12_led (lw_a xs (i + 1)) (lw_a xs (i + 2)))) hi hN hcl hsl (by decide +kernel) (by decide) ms_X11_led kw_4_157 rfl rfl ms_X12_led kw_8_77 rfl (fun _ => rfl) (ct_X11_led hN) (fun _ => ct_X12_led hN) (o_led hI (lw_aR _ _) (lw_aR _ _)) k
set_option maxRecDepth 20000 in
theorem lw_q19 (hi : i + 6 ≤ L) (hI : bI n σ) (hN : 100 ≤ n) (hcl : cl + 25 ≤ 600000) (hsl : sl + 616 ≤ 7302250) (k : lw_K Y E z L xs i cl sl n) : lw_J Y E z L xs i cl sl n σ 877 [] :=
  lw_o2 (pc := 877) (idx1 := 94) (idx2 := 97) (off := 1384) (f := (pf_X11_lasts (lw_a xs (i + 1)) (lw_a xs (i + 2)))) (g := (pf_X12_lasts (lw_a xs (i + 1)) (lw_a xs (i + 2)))) hi hN hcl hsl (by decide +kernel) (by decide) ms_X11_lasts kw_4_161 rfl rfl ms_X12_lasts kw_8_81 rfl (fun _ => rfl) (ct_X11_lasts hN) (fun _ => ct_X12_lasts hN) (o_lasts hI (lw_aR _ _) (lw_aR _ _)) k
set_option maxRecDepth 20000 in
theorem lw_q20 (hi : i + 6 ≤ L) (hI : bI n σ) (hN : 100 ≤ n) (hcl : cl + 25 ≤ 600000) (hsl : sl + 616 ≤ 7302250) (k : lw_K Y E z L xs i cl sl n) : lw_J Y E z L xs i cl sl n σ 910 [] :=
  lw_o3 (pc := 910) (idx1 := 98) (idx2 := 101) (off := 1341) (f := (pf_X11_stand (lw_a xs (i + 1)) (lw_a xs (i + 2)) (lw_a xs (i + 3)))) (g := (pf_X12_stand (lw_a xs (i + 1)) (lw_a xs (i + 2)) (lw_a xs (i + 3)))) hi hN hcl hsl (by decide +kernel) (by decide) ms_X11_stand kw_4_181 rfl rfl ms_X12_stand kw_8_93 rfl (fun _ => rfl) (ct_X11_stand hN) (fun _ => ct_X12_stand hN) (o_stand hI (lw_aR _ _) (lw_aR _ _) (lw_aR _ _)) k
end LWQ
