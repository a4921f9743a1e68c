/-! the law: the calls, one by one -/
section LWQ
variable {Y : lw_Y} {E : on_E} {z L : Nat} {xs : Nat → Int32} {i cl sl n : Nat} {σ : on_S}
set_option maxRecDepth 20000 in
theorem lw_q21 (hi : i + 6 ≤ L) (hI : bI n σ) (hN : 100 ≤ n) (hcl : cl + 25 ≤ 600000) (hsl : sl + 616 ≤ 7302250) (k : lw_K Y E z L xs i cl sl n) : lw_J Y E z L xs i cl sl n σ 953 [] :=
  lw_o2 (pc := 953) (idx1 := 102) (idx2 := 105) (off := 1308) (f := (pf_X11_change (lw_a xs (i + 1)) (lw_a xs (i + 2)))) (g := (pf_X12_change (lw_a xs (i + 1)) (lw_a xs (i + 2)))) hi hN hcl hsl (by decide +kernel) (by decide) ms_X11_change kw_4_194 rfl rfl ms_X12_change kw_8_105 rfl (fun _ => rfl) (ct_X11_change hN) (fun _ => ct_X12_change hN) (o_change hI (lw_aR _ _) (lw_aR _ _)) k
set_option maxRecDepth 20000 in
theorem lw_q22 (hi : i + 6 ≤ L) (hI : bI n σ) (hN : 100 ≤ n) (hcl : cl + 25 ≤ 600000) (hsl : sl + 616 ≤ 7302250) (k : lw_K Y E z L xs i cl sl n) : lw_J Y E z L xs i cl sl n σ 986 [] :=
  lw_o1 (pc := 986) (idx1 := 106) (idx2 := 109) (off := 1285) (f := (pf_X11_best (lw_a xs (i + 1)))) (g := (pf_X12_best (lw_a xs (i + 1)))) hi hN hcl hsl (by decide +kernel) (by decide) ms_X11_best kw_4_204 rfl rfl ms_X12_best kw_8_109 rfl (fun _ => rfl) (ct_X11_best hN) (fun _ => ct_X12_best hN) (o_best hI (lw_aR _ _)) k
set_option maxRecDepth 20000 in
theorem lw_q23 (hi : i + 6 ≤ L) (hI : bI n σ) (hN : 100 ≤ n) (hcl : cl + 25 ≤ 600000) (hsl : sl + 616 ≤ 7302250) (k : lw_K Y E z L xs i cl sl n) : lw_J Y E z L xs i cl sl n σ 1009 [] :=
  lw_o2 (pc := 1009) (idx1 := 110) (idx2 := 113) (off := 1252) (f := (pf_X11_post (lw_a xs (i + 1)) (lw_a xs (i + 2)))) (g := (pf_X12_post (lw_a xs (i + 1)) (lw_a xs (i + 2)))) hi hN hcl hsl (by decide +kernel) (by decide) ms_X11_post kw_5_0 rfl rfl ms_X12_post kw_8_145 rfl (fun _ => rfl) (ct_X11_post hN) (fun _ => ct_X12_post hN) (o_post hI (lw_aR _ _) (lw_aR _ _)) k
set_option maxRecDepth 20000 in
theorem lw_q24 (hi : i + 6 ≤ L) (hI : bI n σ) (hN : 100 ≤ n) (hcl : cl + 25 ≤ 600000) (hsl : sl + 616 ≤ 7302250) (k : lw_K Y E z L xs i cl sl n) : lw_J Y E z L xs i cl sl n σ 1042 [] :=
  lw_o2 (pc := 1042) (idx1 := 114) (idx2 := 117) (off := 1219) (f := (pf_X11_rows (lw_a xs (i + 1)) (lw_a xs (i + 2)))) (g := (pf_X12_rows (lw_a xs (i + 1)) (lw_a xs (i + 2)))) hi hN hcl hsl (by decide +kernel) (by decide) ms_X11_rows kw_5_6 rfl rfl ms_X12_rows kw_8_149 rfl (fun _ => rfl) (ct_X11_rows hN) (fun _ => ct_X12_rows hN) (o_rows hI (lw_aR _ _) (lw_aR _ _)) k
set_option maxRecDepth 20000 in
theorem lw_q25 (hi : i + 6 ≤ L) (hI : bI n σ) (hN : 100 ≤ n) (hcl : cl + 25 ≤ 600000) (hsl : sl + 616 ≤ 7302250) (k : lw_K Y E z L xs i cl sl n) : lw_J Y E z L xs i cl sl n σ 1075 [] :=
  lw_o0 (pc := 1075) (idx1 := 118) (idx2 := 121) (off := 1206) (f := (pf_X11_safe )) (g := (pf_X12_safe )) hi hN hcl hsl (by decide +kernel) (by decide) ms_X11_safe kw_5_14 rfl rfl ms_X12_safe kw_8_153 rfl (fun _ => rfl) (ct_X11_safe hN) (fun _ => ct_X12_safe hN) (o_safe hI) k
set_option maxRecDepth 20000 in
theorem lw_q26 (hi : i + 6 ≤ L) (hI : bI n σ) (hN : 100 ≤ n) (hcl : cl + 25 ≤ 600000) (hsl : sl + 616 ≤ 7302250) (k : lw_K Y E z L xs i cl sl n) : lw_J Y E z L xs i cl sl n σ 1088 [] :=
  lw_o2 (pc := 1088) (idx1 := 122) (idx2 := 125) (off := 1173) (f := (pf_X11_placed (lw_a xs (i + 1)) (lw_a xs (i + 2)))) (g := (pf_X12_placed (lw_a xs (i + 1)) (lw_a xs (i + 2)))) hi hN hcl hsl (by decide +kernel) (by decide) ms_X11_placed kw_5_59 rfl rfl ms_X12_placed kw_8_173 rfl (fun _ => rfl) (ct_X11_placed hN) (fun _ => ct_X12_placed hN) (o_placed hI (lw_aR _ _) (lw_aR _ _)) k
set_option maxRecDepth 20000 in
theorem lw_q27 (hi : i + 6 ≤ L) (hI : bI n σ) (hN : 100 ≤ n) (hcl : cl + 25 ≤ 600000) (hsl : sl + 616 ≤ 7302250) (k : lw_K Y E z L xs i cl sl n) : lw_J Y E z L xs i cl sl n σ 1121 [] :=
  lw_o0 (pc := 1121) (idx1 := 126) (idx2 := 129) (off := 1160) (f := (pf_X11_ways )) (g := (pf_X12_ways )) hi hN hcl hsl (by decide +kernel) (by decide) ms_X11_ways kw_5_63 rfl rfl ms_X12_ways kw_8_177 rfl (fun _ => rfl) (ct_X11_ways hN) (fun _ => ct_X12_ways hN) (o_ways hI) k
set_option maxRecDepth 20000 in
theorem lw_q28 (hi : i + 6 ≤ L) (hI : bI n σ) (hN : 100 ≤ n) (hcl : cl + 25 ≤ 600000) (hsl : sl + 616 ≤ 7302250) (k : lw_K Y E z L xs i cl sl n) : lw_J Y E z L xs i cl sl n σ 1134 [] :=
  lw_o0 (pc := 1134) (idx1 := 130) (idx2 := 133) (off := 1147) (f := (pf_X11_quarrels )) (g := (pf_X12_quarrels )) hi hN hcl hsl (by decide +kernel) (by decide) ms_X11_quarrels kw_5_67 rfl rfl ms_X12_quarrels kw_8_181 rfl (fun _ => rfl) (ct_X11_quarrels hN) (fun _ => ct_X12_quarrels hN) (o_quarrels hI) k
set_option maxRecDepth 20000 in
theorem lw_q29 (hi : i + 6 ≤ L) (hI : bI n σ) (hN : 100 ≤ n) (hcl : cl + 25 ≤ 600000) (hsl : sl + 616 ≤ 7302250) (k : lw_K Y E z L xs i cl sl n) : lw_J Y E z L xs i cl sl n σ 1147 [] :=
  lw_o2 (pc := 1147) (idx1 := 134) (idx2 := 137) (off := 1114) (f := (pf_X11_where (lw_a xs (i + 1)) (lw_a xs (i + 2)))) (g := (pf_X12_where (lw_a xs (i + 1)) (lw_a xs (i + 2)))) hi hN hcl hsl (by decide +kernel) (by decide) ms_X11_where kw_5_72 rfl rfl ms_X12_where kw_8_185 rfl (fun _ => rfl) (ct_X11_where hN) (fun _ => ct_X12_where hN) (o_where hI (lw_aR _ _) (lw_aR _ _)) k
set_option maxRecDepth 20000 in
theorem lw_q30 (hi : i + 6 ≤ L) (hI : bI n σ) (hN : 100 ≤ n) (hcl : cl + 25 ≤ 600000) (hsl : sl + 616 ≤ 7302250) (k : lw_K Y E z L xs i cl sl n) : lw_J Y E z L xs i cl sl n σ 1180 [] :=
  lw_o1 (pc := 1180) (idx1 := 138) (idx2 := 141) (off := 1091) (f := (pf_X11_peace (lw_a xs (i + 1)))) (g := (pf_X12_peace (lw_a xs (i + 1)))) hi hN hcl hsl (by decide +kernel) (by decide) ms_X11_peace kw_5_84 rfl rfl ms_X12_peace kw_8_193 rfl (fun _ => rfl) (ct_X11_peace hN) (fun _ => ct_X12_peace hN) (o_peace hI (lw_aR _ _)) k
set_option maxRecDepth 20000 in
theorem lw_q31 (hi : i + 6 ≤ L) (hI : bI n σ) (hN : 100 ≤ n) (hcl : cl + 25 ≤ 600000) (hsl : sl + 616 ≤ 7302250) (k : lw_K Y E z L xs i cl sl n) : lw_J Y E z L xs i cl sl n σ 1203 [] :=
  lw_o1 (pc := 1203) (idx1 := 142) (idx2 := 145) (off := 1068) (f := (pf_X11_mends (lw_a xs (i + 1)))) (g := (pf_X12_mends (lw_a xs (i + 1)))) hi hN hcl hsl (by decide +kernel) (by decide) ms_X11_mends kw_5_99 rfl rfl ms_X12_mends kw_8_212 rfl (fun _ => rfl) (ct_X11_mends hN) (fun _ => ct_X12_mends hN) (o_mends hI (lw_aR _ _)) k
set_option maxRecDepth 20000 in
theorem lw_q32 (hi : i + 6 ≤ L) (hI : bI n σ) (hN : 100 ≤ n) (hcl : cl + 25 ≤ 600000) (hsl : sl + 616 ≤ 7302250) (k : lw_K Y E z L xs i cl sl n) : lw_J Y E z L xs i cl sl n σ 1226 [] :=
  lw_o1 (pc := 1226) (idx1 := 146) (idx2 := 149) (off := 1045) (f := (pf_X11_harm (lw_a xs (i + 1)))) (g := (pf_X12_harm (lw_a xs (i + 1)))) hi hN hcl hsl (by decide +kernel) (by decide) ms_X11_harm kw_5_103 rfl rfl ms_X12_harm kw_8_216 rfl (fun _ => rfl) (ct_X11_harm hN) (fun _ => ct_X12_harm hN) (o_harm hI (lw_aR _ _)) k
set_option maxRecDepth 20000 in
theorem lw_q33 (hi : i + 6 ≤ L) (hI : bI n σ) (hN : 100 ≤ n) (hcl : cl + 25 ≤ 600000) (hsl : sl + 616 ≤ 7302250) (k : lw_K Y E z L xs i cl sl n) : lw_J Y E z L xs i cl sl n σ 1249 [] :=
  lw_o0 (pc := 1249) (idx1 := 150) (idx2 := 153) (off := 1032) (f := (pf_X11_key )) (g := (pf_X12_key )) hi hN hcl hsl (by decide +kernel) (by decide) ms_X11_key kw_5_115 rfl rfl ms_X12_key kw_8_228 rfl (fun _ => rfl) (ct_X11_key hN) (fun _ => ct_X12_key hN) (o_key hI) k
set_option maxRecDepth 20000 in
theorem lw_q34 (hi : i + 6 ≤ L) (hI : bI n σ) (hN : 100 ≤ n) (hcl : cl + 25 ≤ 600000) (hsl : sl + 616 ≤ 7302250) (k : lw_K Y E z L xs i cl sl n) : lw_J Y E z L xs i cl sl n σ 1262 [] :=
  lw_o0 (pc := 1262) (idx1 := 154) (idx2 := 157) (off := 1019) (f := (pf_X11_helps )) (g := (pf_X12_helps )) hi hN hcl hsl (by decide +kernel) (by decide) ms_X11_helps kw_5_119 rfl rfl ms_X12_helps kw_8_232 rfl (fun _ => rfl) (ct_X11_helps hN) (fun _ => ct_X12_helps hN) (o_helps hI) k
set_option maxRecDepth 20000 in
theorem lw_q35 (hi : i + 6 ≤ L) (hI : bI n σ) (hN : 100 ≤ n) (hcl : cl + 25 ≤ 600000) (hsl : sl + 616 ≤ 7302250) (k : lw_K Y E z L xs i cl sl n) : lw_J Y E z L xs i cl sl n σ 1275 [] :=
  lw_o2 (pc := 1275) (idx1 := 158) (idx2 := 161) (off := 986) (f := (pf_X11_alarm (lw_a xs (i + 1)) (lw_a xs (i + 2)))) (g := (pf_X12_alarm (lw_a xs (i + 1)) (lw_a xs (i + 2)))) hi hN hcl hsl (by decide +kernel) (by decide) ms_X11_alarm kw_5_127 rfl rfl ms_X12_alarm kw_8_236 rfl (fun _ => rfl) (ct_X11_alarm hN) (fun _ => ct_X12_alarm hN) (o_alarm hI (lw_aR _ _) (lw_aR _ _)) k
set_option maxRecDepth 20000 in
theorem lw_q36 (hi : i + 6 ≤ L) (hI : bI n σ) (hN : 100 ≤ n) (hcl : cl + 25 ≤ 600000) (hsl : sl + 616 ≤ 7302250) (k : lw_K Y E z L xs i cl sl n) : lw_J Y E z L xs i cl sl n σ 1308 [] :=
  lw_o3 (pc := 1308) (idx1 := 162) (idx2 := 165) (off := 943) (f := (pf_X11_route (lw_a xs (i + 1)) (lw_a xs (i + 2)) (lw_a xs (i + 3)))) (g := (pf_X12_route (lw_a xs (i + 1)) (lw_a xs (i + 2)) (lw_a xs (i + 3)))) hi hN hcl hsl (by decide +kernel) (by decide) ms_X11_route kw_5_142 rfl rfl ms_X12_route kw_9_9 rfl (fun _ => rfl) (ct_X11_route hN) (fun _ => ct_X12_route hN) (o_route hI (lw_aR _ _) (lw_aR _ _) (lw_aR _ _)) k
set_option maxRecDepth 20000 in
theorem lw_q37 (hi : i + 6 ≤ L) (hI : bI n σ) (hN : 100 ≤ n) (hcl : cl + 25 ≤ 600000) (hsl : sl + 616 ≤ 7302250) (k : lw_K Y E z L xs i cl sl n) : lw_J Y E z L xs i cl sl n σ 1351 [] :=
  lw_o1 (pc := 1351) (idx1 := 166) (idx2 := 169) (off := 920) (f := (pf_X11_last (lw_a xs (i + 1)))) (g := (pf_X12_last (lw_a xs (i + 1)))) hi hN hcl hsl (by decide +kernel) (by decide) ms_X11_last kw_5_155 rfl rfl ms_X12_last kw_9_13 rfl (fun _ => rfl) (ct_X11_last hN) (fun _ => ct_X12_last hN) (o_last hI (lw_aR _ _)) k
set_option maxRecDepth 20000 in
theorem lw_q38 (hi : i + 6 ≤ L) (hI : bI n σ) (hN : 100 ≤ n) (hcl : cl + 25 ≤ 600000) (hsl : sl + 616 ≤ 7302250) (k : lw_K Y E z L xs i cl sl n) : lw_J Y E z L xs i cl sl n σ 1374 [] :=
  lw_o0 (pc := 1374) (idx1 := 170) (idx2 := 173) (off := 907) (f := (pf_X11_middle )) (g := (pf_X12_middle )) hi hN hcl hsl (by decide +kernel) (by decide) ms_X11_middle kw_5_164 rfl rfl ms_X12_middle kw_9_21 rfl (fun _ => rfl) (ct_X11_middle hN) (fun _ => ct_X12_middle hN) (o_middle hI) k
set_option maxRecDepth 20000 in
theorem lw_q39 (hi : i + 6 ≤ L) (hI : bI n σ) (hN : 100 ≤ n) (hcl : cl + 25 ≤ 600000) (hsl : sl + 616 ≤ 7302250) (k : lw_K Y E z L xs i cl sl n) : lw_J Y E z L xs i cl sl n σ 1387 [] :=
  lw_o5 (pc := 1387) (idx1 := 174) (idx2 := 177) (off := 844) (f := (pf_X11_game (lw_a xs (i + 1)) (lw_a xs (i + 2)) (lw_a xs (i + 3)) (lw_a xs (i + 4)) (lw_a xs (i + 5)))) (g := (pf_X12_game (lw_a xs (i + 1)) (lw_a xs (i + 2)) (lw_a xs (i + 3)) (lw_a xs (i + 4)) (lw_a xs (i + 5)))) hi hN hcl hsl (by decide +kernel) (by decide) ms_X11_game kw_5_168 rfl rfl ms_X12_game kw_9_25 rfl (fun _ => rfl) (ct_X11_game hN) (fun _ => ct_X12_game hN) (o_game hI (lw_aR _ _) (lw_aR _ _) (lw_aR _ _) (lw_aR _ _) (lw_aR _ _)) k
set_option maxRecDepth 20000 in
theorem lw_q40 (hi : i + 6 ≤ L) (hI : bI n σ) (hN : 100 ≤ n) (hcl : cl + 25 ≤ 600000) (hsl : sl + 616 ≤ 7302250) (k : lw_K Y E z L xs i cl sl n) : lw_J Y E z L xs i cl sl n σ 1450 [] :=
  lw_o2 (pc := 1450) (idx1 := 178) (idx2 := 181) (off := 811) (f := (pf_X11_rests (lw_a xs (i + 1)) (lw_a xs (i + 2)))) (g := (pf_X12_rests (lw_a xs (i + 1)) (lw_a xs (i + 2)))) hi hN hcl hsl (by decide +kernel) (by decide) ms_X11_rests kw_5_179 rfl rfl ms_X12_rests kw_9_41 rfl (fun _ => rfl) (ct_X11_rests hN) (fun _ => ct_X12_rests hN) (o_rests hI (lw_aR _ _) (lw_aR _ _)) k
set_option maxRecDepth 20000 in
theorem lw_q41 (hi : i + 6 ≤ L) (hI : bI n σ) (hN : 100 ≤ n) (hcl : cl + 25 ≤ 600000) (hsl : sl + 616 ≤ 7302250) (k : lw_K Y E z L xs i cl sl n) : lw_J Y E z L xs i cl sl n σ 1483 [] :=
  lw_o2 (pc := 1483) (idx1 := 182) (idx2 := 185) (off := 778) (f := (pf_X11_tests (lw_a xs (i + 1)) (lw_a xs (i + 2)))) (g := (pf_X12_tests (lw_a xs (i + 1)) (lw_a xs (i + 2)))) hi hN hcl hsl (by decide +kernel) (by decide) ms_X11_tests kw_5_183 rfl rfl ms_X12_tests kw_9_45 rfl (fun _ => rfl) (ct_X11_tests hN) (fun _ => ct_X12_tests hN) (o_tests hI (lw_aR _ _) (lw_aR _ _)) k
end LWQ
