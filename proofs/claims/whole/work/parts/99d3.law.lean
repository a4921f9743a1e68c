/-! the law: the calls, one by one -/
theorem ms_X11_back : on_Mv yX11_back cX11_back 3 (some .int) 1 := ⟨kw_6_108, kw_6_106, kw_6_107, kw_1_1, by decide, by decide, by decide +kernel⟩
theorem ms_X11_image : on_Mv yX11_image cX11_image 3 (some .int) 1 := ⟨kw_6_104, kw_6_102, kw_6_103, kw_1_1, by decide, by decide, by decide +kernel⟩
section LWQ
variable {Y : lw_Y} {E : on_E} {z L : Nat} {xs : Nat → Int32} {i cl sl n : Nat} {σ : on_S}
set_option maxRecDepth 20000 in
theorem lw_q42 (hi : i + 6 ≤ L) (hI : bI n σ) (hN : 100 ≤ n) (hcl : cl + 25 ≤ 600000) (hsl : sl + 616 ≤ 7302250) (k : lw_K Y E z L xs i cl sl n) : lw_J Y E z L xs i cl sl n σ 1516 [] :=
  lw_o2 (pc := 1516) (idx1 := 186) (idx2 := 189) (off := 745) (f := (pf_X11_sought (lw_a xs (i + 1)) (lw_a xs (i + 2)))) (g := (pf_X12_sought (lw_a xs (i + 1)) (lw_a xs (i + 2)))) hi hN hcl hsl (by decide +kernel) (by decide) ms_X11_sought kw_5_197 rfl rfl ms_X12_sought kw_9_56 rfl (fun _ => rfl) (ct_X11_sought hN) (fun _ => ct_X12_sought hN) (o_sought hI (lw_aR _ _) (lw_aR _ _)) k
set_option maxRecDepth 20000 in
theorem lw_q43 (hi : i + 6 ≤ L) (hI : bI n σ) (hN : 100 ≤ n) (hcl : cl + 25 ≤ 600000) (hsl : sl + 616 ≤ 7302250) (k : lw_K Y E z L xs i cl sl n) : lw_J Y E z L xs i cl sl n σ 1549 [] :=
  lw_o2 (pc := 1549) (idx1 := 190) (idx2 := 193) (off := 712) (f := (pf_X11_firstFall (lw_a xs (i + 1)) (lw_a xs (i + 2)))) (g := (pf_X12_firstFall (lw_a xs (i + 1)) (lw_a xs (i + 2)))) hi hN hcl hsl (by decide +kernel) (by decide) ms_X11_firstFall kw_5_201 rfl rfl ms_X12_firstFall kw_9_61 rfl (fun _ => rfl) (ct_X11_firstFall hN) (fun _ => ct_X12_firstFall hN) (o_firstFall hI (lw_aR _ _) (lw_aR _ _)) k
set_option maxRecDepth 20000 in
theorem lw_q44 (hi : i + 6 ≤ L) (hI : bI n σ) (hN : 100 ≤ n) (hcl : cl + 25 ≤ 600000) (hsl : sl + 616 ≤ 7302250) (k : lw_K Y E z L xs i cl sl n) : lw_J Y E z L xs i cl sl n σ 1582 [] :=
  lw_o1 (pc := 1582) (idx1 := 194) (idx2 := 197) (off := 689) (f := (pf_X11_seen (lw_a xs (i + 1)))) (g := (pf_X12_seen (lw_a xs (i + 1)))) hi hN hcl hsl (by decide +kernel) (by decide) ms_X11_seen kw_5_205 rfl rfl ms_X12_seen kw_9_65 rfl (fun _ => rfl) (ct_X11_seen hN) (fun _ => ct_X12_seen hN) (o_seen hI (lw_aR _ _)) k
set_option maxRecDepth 20000 in
theorem lw_q45 (hi : i + 6 ≤ L) (hI : bI n σ) (hN : 100 ≤ n) (hcl : cl + 25 ≤ 600000) (hsl : sl + 616 ≤ 7302250) (k : lw_K Y E z L xs i cl sl n) : lw_J Y E z L xs i cl sl n σ 1605 [] :=
  lw_o2 (pc := 1605) (idx1 := 198) (idx2 := 201) (off := 656) (f := (pf_X11_sure (lw_a xs (i + 1)) (lw_a xs (i + 2)))) (g := (pf_X12_sure (lw_a xs (i + 1)) (lw_a xs (i + 2)))) hi hN hcl hsl (by decide +kernel) (by decide) ms_X11_sure kw_5_233 rfl rfl ms_X12_sure kw_9_88 rfl (fun _ => rfl) (ct_X11_sure hN) (fun _ => ct_X12_sure hN) (o_sure hI (lw_aR _ _) (lw_aR _ _)) k
set_option maxRecDepth 20000 in
theorem lw_q46 (hi : i + 6 ≤ L) (hI : bI n σ) (hN : 100 ≤ n) (hcl : cl + 25 ≤ 600000) (hsl : sl + 616 ≤ 7302250) (k : lw_K Y E z L xs i cl sl n) : lw_J Y E z L xs i cl sl n σ 1638 [] :=
  lw_o1 (pc := 1638) (idx1 := 202) (idx2 := 205) (off := 633) (f := (pf_X11_odd (lw_a xs (i + 1)))) (g := (pf_X12_odd (lw_a xs (i + 1)))) hi hN hcl hsl (by decide +kernel) (by decide) ms_X11_odd kw_5_237 rfl rfl ms_X12_odd kw_9_92 rfl (fun _ => rfl) (ct_X11_odd hN) (fun _ => ct_X12_odd hN) (o_odd hI (lw_aR _ _)) k
set_option maxRecDepth 20000 in
theorem lw_q47 (hi : i + 6 ≤ L) (hI : bI n σ) (hN : 100 ≤ n) (hcl : cl + 25 ≤ 600000) (hsl : sl + 616 ≤ 7302250) (k : lw_K Y E z L xs i cl sl n) : lw_J Y E z L xs i cl sl n σ 1661 [] :=
  lw_o1 (pc := 1661) (idx1 := 206) (idx2 := 209) (off := 610) (f := (pf_X11_corners (lw_a xs (i + 1)))) (g := (pf_X12_corners (lw_a xs (i + 1)))) hi hN hcl hsl (by decide +kernel) (by decide) ms_X11_corners kw_6_5 rfl rfl ms_X12_corners kw_9_96 rfl (fun _ => rfl) (ct_X11_corners hN) (fun _ => ct_X12_corners hN) (o_corners hI (lw_aR _ _)) k
set_option maxRecDepth 20000 in
theorem lw_q48 (hi : i + 6 ≤ L) (hI : bI n σ) (hN : 100 ≤ n) (hcl : cl + 25 ≤ 600000) (hsl : sl + 616 ≤ 7302250) (k : lw_K Y E z L xs i cl sl n) : lw_J Y E z L xs i cl sl n σ 1684 [] :=
  lw_o2 (pc := 1684) (idx1 := 210) (idx2 := 213) (off := 577) (f := (pf_X11_pays (lw_a xs (i + 1)) (lw_a xs (i + 2)))) (g := (pf_X12_pays (lw_a xs (i + 1)) (lw_a xs (i + 2)))) hi hN hcl hsl (by decide +kernel) (by decide) ms_X11_pays kw_6_13 rfl rfl ms_X12_pays kw_9_104 rfl (fun _ => rfl) (ct_X11_pays hN) (fun _ => ct_X12_pays hN) (o_pays hI (lw_aR _ _) (lw_aR _ _)) k
set_option maxRecDepth 20000 in
theorem lw_q49 (hi : i + 6 ≤ L) (hI : bI n σ) (hN : 100 ≤ n) (hcl : cl + 25 ≤ 600000) (hsl : sl + 616 ≤ 7302250) (k : lw_K Y E z L xs i cl sl n) : lw_J Y E z L xs i cl sl n σ 1717 [] :=
  lw_o3 (pc := 1717) (idx1 := 214) (idx2 := 217) (off := 534) (f := (pf_X11_fair (lw_a xs (i + 1)) (lw_a xs (i + 2)) (lw_a xs (i + 3)))) (g := (pf_X12_fair (lw_a xs (i + 1)) (lw_a xs (i + 2)) (lw_a xs (i + 3)))) hi hN hcl hsl (by decide +kernel) (by decide) ms_X11_fair kw_6_18 rfl rfl ms_X12_fair kw_9_109 rfl (fun _ => rfl) (ct_X11_fair hN) (fun _ => ct_X12_fair hN) (o_fair hI (lw_aR _ _) (lw_aR _ _) (lw_aR _ _)) k
set_option maxRecDepth 20000 in
theorem lw_q50 (hi : i + 6 ≤ L) (hI : bI n σ) (hN : 100 ≤ n) (hcl : cl + 25 ≤ 600000) (hsl : sl + 616 ≤ 7302250) (k : lw_K Y E z L xs i cl sl n) : lw_J Y E z L xs i cl sl n σ 1760 [] :=
  lw_o2 (pc := 1760) (idx1 := 218) (idx2 := 221) (off := 501) (f := (pf_X11_without (lw_a xs (i + 1)) (lw_a xs (i + 2)))) (g := (pf_X12_without (lw_a xs (i + 1)) (lw_a xs (i + 2)))) hi hN hcl hsl (by decide +kernel) (by decide) ms_X11_without kw_6_47 rfl rfl ms_X12_without kw_9_126 rfl (fun _ => rfl) (ct_X11_without hN) (fun _ => ct_X12_without hN) (o_without hI (lw_aR _ _) (lw_aR _ _)) k
set_option maxRecDepth 20000 in
theorem lw_q51 (hi : i + 6 ≤ L) (hI : bI n σ) (hN : 100 ≤ n) (hcl : cl + 25 ≤ 600000) (hsl : sl + 616 ≤ 7302250) (k : lw_K Y E z L xs i cl sl n) : lw_J Y E z L xs i cl sl n σ 1793 [] :=
  lw_o3 (pc := 1793) (idx1 := 222) (idx2 := 225) (off := 458) (f := (pf_X11_mend (lw_a xs (i + 1)) (lw_a xs (i + 2)) (lw_a xs (i + 3)))) (g := (pf_X12_mend (lw_a xs (i + 1)) (lw_a xs (i + 2)) (lw_a xs (i + 3)))) hi hN hcl hsl (by decide +kernel) (by decide) ms_X11_mend kw_6_52 rfl rfl ms_X12_mend kw_9_130 rfl (fun _ => rfl) (ct_X11_mend hN) (fun _ => ct_X12_mend hN) (o_mend hI (lw_aR _ _) (lw_aR _ _) (lw_aR _ _)) k
set_option maxRecDepth 20000 in
theorem lw_q52 (hi : i + 6 ≤ L) (hI : bI n σ) (hN : 100 ≤ n) (hcl : cl + 25 ≤ 600000) (hsl : sl + 616 ≤ 7302250) (k : lw_K Y E z L xs i cl sl n) : lw_J Y E z L xs i cl sl n σ 1836 [] :=
  lw_o2 (pc := 1836) (idx1 := 226) (idx2 := 229) (off := 425) (f := (pf_X11_wet (lw_a xs (i + 1)) (lw_a xs (i + 2)))) (g := (pf_X12_wet (lw_a xs (i + 1)) (lw_a xs (i + 2)))) hi hN hcl hsl (by decide +kernel) (by decide) ms_X11_wet kw_6_56 rfl rfl ms_X12_wet kw_9_134 rfl (fun _ => rfl) (ct_X11_wet hN) (fun _ => ct_X12_wet hN) (o_wet hI (lw_aR _ _) (lw_aR _ _)) k
set_option maxRecDepth 20000 in
theorem lw_q53 (hi : i + 6 ≤ L) (hI : bI n σ) (hN : 100 ≤ n) (hcl : cl + 25 ≤ 600000) (hsl : sl + 616 ≤ 7302250) (k : lw_K Y E z L xs i cl sl n) : lw_J Y E z L xs i cl sl n σ 1869 [] :=
  lw_o3 (pc := 1869) (idx1 := 230) (idx2 := 233) (off := 382) (f := (pf_X11_anger (lw_a xs (i + 1)) (lw_a xs (i + 2)) (lw_a xs (i + 3)))) (g := (pf_X12_anger (lw_a xs (i + 1)) (lw_a xs (i + 2)) (lw_a xs (i + 3)))) hi hN hcl hsl (by decide +kernel) (by decide) ms_X11_anger kw_6_60 rfl rfl ms_X12_anger kw_9_138 rfl (fun _ => rfl) (ct_X11_anger hN) (fun _ => ct_X12_anger hN) (o_anger hI (lw_aR _ _) (lw_aR _ _) (lw_aR _ _)) k
set_option maxRecDepth 20000 in
theorem lw_q54 (hi : i + 6 ≤ L) (hI : bI n σ) (hN : 100 ≤ n) (hcl : cl + 25 ≤ 600000) (hsl : sl + 616 ≤ 7302250) (k : lw_K Y E z L xs i cl sl n) : lw_J Y E z L xs i cl sl n σ 1912 [] :=
  lw_o3 (pc := 1912) (idx1 := 234) (idx2 := 237) (off := 339) (f := (pf_X11_truce (lw_a xs (i + 1)) (lw_a xs (i + 2)) (lw_a xs (i + 3)))) (g := (pf_X12_truce (lw_a xs (i + 1)) (lw_a xs (i + 2)) (lw_a xs (i + 3)))) hi hN hcl hsl (by decide +kernel) (by decide) ms_X11_truce kw_6_65 rfl rfl ms_X12_truce kw_9_142 rfl (fun _ => rfl) (ct_X11_truce hN) (fun _ => ct_X12_truce hN) (o_truce hI (lw_aR _ _) (lw_aR _ _) (lw_aR _ _)) k
set_option maxRecDepth 20000 in
theorem lw_q55 (hi : i + 6 ≤ L) (hI : bI n σ) (hN : 100 ≤ n) (hcl : cl + 25 ≤ 600000) (hsl : sl + 616 ≤ 7302250) (k : lw_K Y E z L xs i cl sl n) : lw_J Y E z L xs i cl sl n σ 1955 [] :=
  lw_o3 (pc := 1955) (idx1 := 238) (idx2 := 241) (off := 296) (f := (pf_X11_night (lw_a xs (i + 1)) (lw_a xs (i + 2)) (lw_a xs (i + 3)))) (g := (pf_X12_night (lw_a xs (i + 1)) (lw_a xs (i + 2)) (lw_a xs (i + 3)))) hi hN hcl hsl (by decide +kernel) (by decide) ms_X11_night kw_6_70 rfl rfl ms_X12_night kw_9_146 rfl (fun _ => rfl) (ct_X11_night hN) (fun _ => ct_X12_night hN) (o_night hI (lw_aR _ _) (lw_aR _ _) (lw_aR _ _)) k
set_option maxRecDepth 20000 in
theorem lw_q56 (hi : i + 6 ≤ L) (hI : bI n σ) (hN : 100 ≤ n) (hcl : cl + 25 ≤ 600000) (hsl : sl + 616 ≤ 7302250) (k : lw_K Y E z L xs i cl sl n) : lw_J Y E z L xs i cl sl n σ 1998 [] :=
  lw_o3 (pc := 1998) (idx1 := 242) (idx2 := 245) (off := 253) (f := (pf_X11_years (lw_a xs (i + 1)) (lw_a xs (i + 2)) (lw_a xs (i + 3)))) (g := (pf_X12_years (lw_a xs (i + 1)) (lw_a xs (i + 2)) (lw_a xs (i + 3)))) hi hN hcl hsl (by decide +kernel) (by decide) ms_X11_years kw_6_89 rfl rfl ms_X12_years kw_9_163 rfl (fun _ => rfl) (ct_X11_years hN) (fun _ => ct_X12_years hN) (o_years hI (lw_aR _ _) (lw_aR _ _) (lw_aR _ _)) k
set_option maxRecDepth 20000 in
theorem lw_q57 (hi : i + 6 ≤ L) (hI : bI n σ) (hN : 100 ≤ n) (hcl : cl + 25 ≤ 600000) (hsl : sl + 616 ≤ 7302250) (k : lw_K Y E z L xs i cl sl n) : lw_J Y E z L xs i cl sl n σ 2041 [] :=
  lw_o1 (pc := 2041) (idx1 := 246) (idx2 := 249) (off := 230) (f := (pf_X11_count (lw_a xs (i + 1)))) (g := (pf_X12_count (lw_a xs (i + 1)))) hi hN hcl hsl (by decide +kernel) (by decide) ms_X11_count kw_6_93 rfl rfl ms_X12_count kw_9_168 rfl (fun _ => rfl) (ct_X11_count hN) (fun _ => ct_X12_count hN) (o_count hI (lw_aR _ _)) k
set_option maxRecDepth 20000 in
theorem lw_q59 (hi : i + 6 ≤ L) (hI : bI n σ) (hN : 100 ≤ n) (hcl : cl + 25 ≤ 600000) (hsl : sl + 616 ≤ 7302250) (k : lw_K Y E z L xs i cl sl n) : lw_J Y E z L xs i cl sl n σ 2087 [] :=
  lw_o1 (pc := 2087) (idx1 := 254) (idx2 := 257) (off := 184) (f := (pf_X11_back n (lw_a xs (i + 1)))) (g := (pf_X12_back (lw_a xs (i + 1)))) hi hN hcl hsl (by decide +kernel) (by decide) ms_X11_back kw_6_105 rfl rfl ms_X12_back kw_7_21 rfl (fun _ => rfl) (ct_X11_back hN) (fun _ => ct_X12_back hN) (o_back hI (lw_aR _ _)) k
set_option maxRecDepth 20000 in
theorem lw_q60 (hi : i + 6 ≤ L) (hI : bI n σ) (hN : 100 ≤ n) (hcl : cl + 25 ≤ 600000) (hsl : sl + 616 ≤ 7302250) (k : lw_K Y E z L xs i cl sl n) : lw_J Y E z L xs i cl sl n σ 2110 [] :=
  lw_o3 (pc := 2110) (idx1 := 258) (idx2 := 261) (off := 141) (f := (pf_X11_row (lw_a xs (i + 1)) (lw_a xs (i + 2)) (lw_a xs (i + 3)))) (g := (pf_X12_row (lw_a xs (i + 1)) (lw_a xs (i + 2)) (lw_a xs (i + 3)))) hi hN hcl hsl (by decide +kernel) (by decide) ms_X11_row kw_6_109 rfl rfl ms_X12_row kw_9_172 rfl (fun _ => rfl) (ct_X11_row hN) (fun _ => ct_X12_row hN) (o_row hI (lw_aR _ _) (lw_aR _ _) (lw_aR _ _)) k
set_option maxRecDepth 20000 in
theorem lw_q62 (hi : i + 6 ≤ L) (hI : bI n σ) (hN : 100 ≤ n) (hcl : cl + 25 ≤ 600000) (hsl : sl + 616 ≤ 7302250) (k : lw_K Y E z L xs i cl sl n) : lw_J Y E z L xs i cl sl n σ 2226 [] :=
  lw_o5 (pc := 2226) (idx1 := 269) (idx2 := 272) (off := 5) (f := (pf_X11_paste (lw_a xs (i + 1)) (lw_a xs (i + 2)) (lw_a xs (i + 3)) (lw_a xs (i + 4)) (lw_a xs (i + 5)))) (g := (pf_X12_paste (lw_a xs (i + 1)) (lw_a xs (i + 2)) (lw_a xs (i + 3)) (lw_a xs (i + 4)) (lw_a xs (i + 5)))) hi hN hcl hsl (by decide +kernel) (by decide) ms_X11_paste kw_6_127 rfl rfl ms_X12_paste kw_9_183 rfl (fun _ => rfl) (ct_X11_paste hN) (fun _ => ct_X12_paste hN) (o_paste hI (lw_aR _ _) (lw_aR _ _) (lw_aR _ _) (lw_aR _ _) (lw_aR _ _)) k
end LWQ
