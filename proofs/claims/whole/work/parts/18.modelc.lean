def tb_X12_corner : List (Nat × Nat × Nat × Instr) := [(0, 1, 1, .aload_n 0), (1, 1, 2, .iload_n 1), (2, 1, 3, .i2l), (3, 3, 6, .invokevirtual 301), (6, 3, 9, .ifCond .eq 22), (9, 1, 10, .iload_n 2), (10, 3, 13, .invokestatic 310), (13, 3, 16, .ifCond .eq 15), (16, 1, 17, .iload_n 3), (17, 1, 18, .i2l), (18, 1, 19, .lconst 0), (19, 3, 22, .ldc2_w 86), (22, 3, 25, .invokestatic 88), (25, 3, 28, .ifCond .ne 6), (28, 2, 30, .bipush (-2)), (30, 1, 31, .ireturn), (31, 1, 32, .iload_n 3), (32, 3, 35, .ifCond .ne 12), (35, 1, 36, .aload_n 0), (36, 1, 37, .iload_n 1), (37, 1, 38, .iconst 3), (38, 1, 39, .iload_n 2), (39, 1, 40, .iadd), (40, 3, 43, .invokevirtual 94), (43, 1, 44, .ireturn), (44, 1, 45, .iload_n 3), (45, 1, 46, .iconst 1), (46, 3, 49, .if_icmp .ne 10), (49, 1, 50, .aload_n 0), (50, 1, 51, .iload_n 1), (51, 1, 52, .iload_n 2), (52, 3, 55, .invokevirtual 277), (55, 1, 56, .ireturn), (56, 1, 57, .aload_n 0), (57, 1, 58, .iload_n 1), (58, 3, 61, .invokevirtual 280), (61, 1, 62, .aload_n 0), (62, 1, 63, .iload_n 1), (63, 1, 64, .aload_n 0), (64, 1, 65, .iload_n 1), (65, 1, 66, .iconst 0), (66, 3, 69, .invokevirtual 94), (69, 1, 70, .aload_n 0), (70, 1, 71, .iload_n 1), (71, 1, 72, .iconst 2), (72, 3, 75, .invokevirtual 94), (75, 1, 76, .iload_n 2), (76, 3, 79, .invokevirtual 269), (79, 1, 80, .ireturn)]
set_option maxRecDepth 100000 in
theorem tk_X12_corner (k : Nat) {pc n pc2 : Nat} {i : Instr} (hk : tb_X12_corner[k]? = some (pc, n, pc2, i)) : on_dq cX12_corner pc n pc2 i := on_ta (by decide +kernel) k hk
theorem ms_X12_corner : on_Mv yX12_corner cX12_corner 4 (some .int) 3 := ⟨kw_8_4, kw_8_2, kw_8_3, kw_1_13, by decide, by decide, by decide +kernel⟩
def pf_X12_corner (p0 : Int) (p1 : Int) (p2 : Int) (σ : on_S) : Option on_O :=
  on_Ck p0 <|
  on_Cl (pf_X12_isNet p0 σ) fun v1 σ2 =>
  on_Eq v1 0 (
    some ((-2), σ2)) (
    on_Cl (pf_X12_isCorner p1 σ2) fun v3 σ4 =>
    on_Eq v3 0 (
      some ((-2), σ4)) (
      on_Ck p2 <|
      on_Cl (pf_X12_in p2 0 2 σ4) fun v5 σ6 =>
      on_Eq v5 0 (
        some ((-2), σ6)) (
        on_Eq p2 0 (
          on_Cl (pf_X12_ofNet p0 (3 + p1) σ6) fun v7 σ8 =>
          some (v7, σ8)) (
          on_Eq p2 1 (
            on_Cl (pf_X12_manAt p0 p1 σ6) fun v9 σ10 =>
            some (v9, σ10)) (
            on_Cl (pf_X12_layPosts p0 σ6) fun _ σ12 =>
            on_Cl (pf_X12_ofNet p0 0 σ12) fun v13 σ14 =>
            on_Cl (pf_X12_ofNet p0 2 σ14) fun v15 σ16 =>
            on_Cl (pf_X12_holdAt p0 v13 v15 p1 σ16) fun v17 σ18 =>
            some (v17, σ18))))))
set_option maxRecDepth 100000 in
set_option maxHeartbeats 4000000 in
theorem ct_X12_corner {E : on_E} {z n : Nat} {p0 : Int} {p1 : Int} {p2 : Int} (hN : 100 ≤ n) {σ : on_S} : on_Sp E yX12_corner cX12_corner 4 (some .int) 3 73 z n [.ref (z + 77), .int (on_i p0), .int (on_i p1), .int (on_i p2)] σ (pf_X12_corner p0 p1 p2 σ) := by
  refine on_met [some (.ref (z + 77)), some (.int (on_i p0)), some (.int (on_i p1)), some (.int (on_i p2))] (by decide) rfl rfl (fun X => ?_)
  rw [pf_X12_corner]
  refine on_al0 (tk_X12_corner 0 rfl) ?_
  refine on_il1 (tk_X12_corner 1 rfl) ?_
  refine on_xi2l (tk_X12_corner 2 rfl) ?_
  refine on_cV1z 12 ms_X12_isNet kw_7_183 rfl rfl (ltc_77 hN) sh_77 (ct_X12_isNet hN) rfl (tk_X12_corner 3 rfl) fun v1 σ2 => ?_
  refine on_if_eq (tk_X12_corner 4 rfl) (tgt := 28) (by decide) ?_ ?_
  · refine on_il2 (tk_X12_corner 5 rfl) ?_
    refine on_cS1z ms_X12_isCorner kw_8_5 (ct_X12_isCorner hN) rfl (tk_X12_corner 6 rfl) fun v3 σ4 => ?_
    refine on_if_eq (tk_X12_corner 7 rfl) (tgt := 28) (by decide) ?_ ?_
    · refine on_il3 (tk_X12_corner 8 rfl) ?_
      refine on_xi2l (tk_X12_corner 9 rfl) ?_
      refine on_lconst0 (tk_X12_corner 10 rfl) ?_
      refine on_ldc2 (a := 2) kw_7_17 (by decide +kernel) (tk_X12_corner 11 rfl) ?_
      refine on_cS3z ms_X12_in kw_7_18 (ct_X12_in hN) rfl (tk_X12_corner 12 rfl) fun v5 σ6 => ?_
      refine on_if_ne (tk_X12_corner 13 rfl) (tgt := 31) (by decide) ?_ ?_
      · refine on_bipush (tk_X12_corner 14 rfl) bp_m2 ?_
        exact on_iret (tk_X12_corner 15 rfl)
      · refine on_il3 (tk_X12_corner 16 rfl) ?_
        refine on_if_ne (tk_X12_corner 17 rfl) (tgt := 44) (by decide) ?_ ?_
        · refine on_al0 (tk_X12_corner 18 rfl) ?_
          refine on_il1 (tk_X12_corner 19 rfl) ?_
          refine on_iconst (tk_X12_corner 20 rfl) ?_
          refine on_il2 (tk_X12_corner 21 rfl) ?_
          refine on_iadd (tk_X12_corner 22 rfl) ?_
          refine on_cV2i 12 ms_X12_ofNet kw_7_162 rfl rfl (ltc_77 hN) sh_77 (ct_X12_ofNet hN) rfl (tk_X12_corner 23 rfl) fun v7 σ8 => ?_
          exact on_iret (tk_X12_corner 24 rfl)
        · refine on_il3 (tk_X12_corner 25 rfl) ?_
          refine on_iconst (tk_X12_corner 26 rfl) ?_
          refine on_icmp_ne (tk_X12_corner 27 rfl) (tgt := 56) (by decide) ?_ ?_
          · refine on_al0 (tk_X12_corner 28 rfl) ?_
            refine on_il1 (tk_X12_corner 29 rfl) ?_
            refine on_il2 (tk_X12_corner 30 rfl) ?_
            refine on_cV2i 12 ms_X12_manAt kw_7_213 rfl rfl (ltc_77 hN) sh_77 (ct_X12_manAt hN) rfl (tk_X12_corner 31 rfl) fun v9 σ10 => ?_
            exact on_iret (tk_X12_corner 32 rfl)
          · refine on_al0 (tk_X12_corner 33 rfl) ?_
            refine on_il1 (tk_X12_corner 34 rfl) ?_
            refine on_cV1v 12 ms_X12_layPosts kw_7_209 rfl rfl (ltc_77 hN) sh_77 (ct_X12_layPosts hN) rfl (tk_X12_corner 35 rfl) fun v11 σ12 => ?_
            refine on_al0 (tk_X12_corner 36 rfl) ?_
            refine on_il1 (tk_X12_corner 37 rfl) ?_
            refine on_al0 (tk_X12_corner 38 rfl) ?_
            refine on_il1 (tk_X12_corner 39 rfl) ?_
            refine on_iconst (tk_X12_corner 40 rfl) ?_
            refine on_cV2i 12 ms_X12_ofNet kw_7_162 rfl rfl (ltc_77 hN) sh_77 (ct_X12_ofNet hN) rfl (tk_X12_corner 41 rfl) fun v13 σ14 => ?_
            refine on_al0 (tk_X12_corner 42 rfl) ?_
            refine on_il1 (tk_X12_corner 43 rfl) ?_
            refine on_iconst (tk_X12_corner 44 rfl) ?_
            refine on_cV2i 12 ms_X12_ofNet kw_7_162 rfl rfl (ltc_77 hN) sh_77 (ct_X12_ofNet hN) rfl (tk_X12_corner 45 rfl) fun v15 σ16 => ?_
            refine on_il2 (tk_X12_corner 46 rfl) ?_
            refine on_cV4i 12 ms_X12_holdAt kw_7_225 rfl rfl (ltc_77 hN) sh_77 (ct_X12_holdAt hN) rfl (tk_X12_corner 47 rfl) fun v17 σ18 => ?_
            exact on_iret (tk_X12_corner 48 rfl)
    · refine on_bipush (tk_X12_corner 14 rfl) bp_m2 ?_
      exact on_iret (tk_X12_corner 15 rfl)
  · refine on_bipush (tk_X12_corner 14 rfl) bp_m2 ?_
    exact on_iret (tk_X12_corner 15 rfl)
def tb_X12_jumper : List (Nat × Nat × Nat × Instr) := [(0, 1, 1, .aload_n 0), (1, 1, 2, .iload_n 1), (2, 3, 5, .invokevirtual 313), (5, 3, 8, .ifCond .eq 15), (8, 1, 9, .iload_n 2), (9, 1, 10, .i2l), (10, 1, 11, .lconst 0), (11, 3, 14, .ldc2_w 86), (14, 3, 17, .invokestatic 88), (17, 3, 20, .ifCond .ne 6), (20, 2, 22, .bipush (-2)), (22, 1, 23, .ireturn), (23, 1, 24, .iload_n 2), (24, 3, 27, .ifCond .ne 11), (27, 1, 28, .aload_n 0), (28, 1, 29, .iload_n 1), (29, 3, 32, .invokevirtual 101), (32, 3, 35, .goto 21), (35, 1, 36, .iload_n 2), (36, 1, 37, .iconst 1), (37, 3, 40, .if_icmp .ne 11), (40, 1, 41, .aload_n 0), (41, 1, 42, .iload_n 1), (42, 3, 45, .invokevirtual 105), (45, 3, 48, .goto 8), (48, 1, 49, .aload_n 0), (49, 1, 50, .iload_n 1), (50, 3, 53, .invokevirtual 289), (53, 1, 54, .ireturn)]
set_option maxRecDepth 100000 in
theorem tk_X12_jumper (k : Nat) {pc n pc2 : Nat} {i : Instr} (hk : tb_X12_jumper[k]? = some (pc, n, pc2, i)) : on_dq cX12_jumper pc n pc2 i := on_ta (by decide +kernel) k hk
theorem ms_X12_jumper : on_Mv yX12_jumper cX12_jumper 3 (some .int) 2 := ⟨kw_8_11, kw_8_9, kw_8_10, kw_1_13, by decide, by decide, by decide +kernel⟩
def pf_X12_jumper (p0 : Int) (p1 : Int) (σ : on_S) : Option on_O :=
  on_Cl (pf_X12_isJumper p0 σ) fun v1 σ2 =>
  on_Eq v1 0 (
    some ((-2), σ2)) (
    on_Ck p1 <|
    on_Cl (pf_X12_in p1 0 2 σ2) fun v3 σ4 =>
    on_Eq v3 0 (
      some ((-2), σ4)) (
      on_Eq p1 0 (
        on_Cl (pf_X12_weightOf p0 σ4) fun v5 σ6 =>
        some (v5, σ6)) (
        on_Eq p1 1 (
          on_Cl (pf_X12_windowOf p0 σ4) fun v7 σ8 =>
          some (v7, σ8)) (
          on_Cl (pf_X12_forceOf p0 σ4) fun v9 σ10 =>
          some (v9, σ10)))))
set_option maxRecDepth 100000 in
set_option maxHeartbeats 4000000 in
theorem ct_X12_jumper {E : on_E} {z n : Nat} {p0 : Int} {p1 : Int} (hN : 100 ≤ n) {σ : on_S} : on_Sp E yX12_jumper cX12_jumper 3 (some .int) 2 46 z n [.ref (z + 77), .int (on_i p0), .int (on_i p1)] σ (pf_X12_jumper p0 p1 σ) := by
  refine on_met [some (.ref (z + 77)), some (.int (on_i p0)), some (.int (on_i p1))] (by decide) rfl rfl (fun X => ?_)
  rw [pf_X12_jumper]
  refine on_al0 (tk_X12_jumper 0 rfl) ?_
  refine on_il1 (tk_X12_jumper 1 rfl) ?_
  refine on_cV1z 12 ms_X12_isJumper kw_8_12 rfl rfl (ltc_77 hN) sh_77 (ct_X12_isJumper hN) rfl (tk_X12_jumper 2 rfl) fun v1 σ2 => ?_
  refine on_if_eq (tk_X12_jumper 3 rfl) (tgt := 20) (by decide) ?_ ?_
  · refine on_il2 (tk_X12_jumper 4 rfl) ?_
    refine on_xi2l (tk_X12_jumper 5 rfl) ?_
    refine on_lconst0 (tk_X12_jumper 6 rfl) ?_
    refine on_ldc2 (a := 2) kw_7_17 (by decide +kernel) (tk_X12_jumper 7 rfl) ?_
    refine on_cS3z ms_X12_in kw_7_18 (ct_X12_in hN) rfl (tk_X12_jumper 8 rfl) fun v3 σ4 => ?_
    refine on_if_ne (tk_X12_jumper 9 rfl) (tgt := 23) (by decide) ?_ ?_
    · refine on_bipush (tk_X12_jumper 10 rfl) bp_m2 ?_
      exact on_iret (tk_X12_jumper 11 rfl)
    · refine on_il2 (tk_X12_jumper 12 rfl) ?_
      refine on_if_ne (tk_X12_jumper 13 rfl) (tgt := 35) (by decide) ?_ ?_
      · refine on_al0 (tk_X12_jumper 14 rfl) ?_
        refine on_il1 (tk_X12_jumper 15 rfl) ?_
        refine on_cV1i 12 ms_X12_weightOf kw_7_200 rfl rfl (ltc_77 hN) sh_77 (ct_X12_weightOf hN) rfl (tk_X12_jumper 16 rfl) fun v5 σ6 => ?_
        refine on_goto (tk_X12_jumper 17 rfl) (tgt := 53) (by decide) ?_
        exact on_iret (tk_X12_jumper 28 rfl)
      · refine on_il2 (tk_X12_jumper 18 rfl) ?_
        refine on_iconst (tk_X12_jumper 19 rfl) ?_
        refine on_icmp_ne (tk_X12_jumper 20 rfl) (tgt := 48) (by decide) ?_ ?_
        · refine on_al0 (tk_X12_jumper 21 rfl) ?_
          refine on_il1 (tk_X12_jumper 22 rfl) ?_
          refine on_cV1i 12 ms_X12_windowOf kw_7_192 rfl rfl (ltc_77 hN) sh_77 (ct_X12_windowOf hN) rfl (tk_X12_jumper 23 rfl) fun v7 σ8 => ?_
          refine on_goto (tk_X12_jumper 24 rfl) (tgt := 53) (by decide) ?_
          exact on_iret (tk_X12_jumper 28 rfl)
        · refine on_al0 (tk_X12_jumper 25 rfl) ?_
          refine on_il1 (tk_X12_jumper 26 rfl) ?_
          refine on_cV1i 12 ms_X12_forceOf kw_7_196 rfl rfl (ltc_77 hN) sh_77 (ct_X12_forceOf hN) rfl (tk_X12_jumper 27 rfl) fun v9 σ10 => ?_
          exact on_iret (tk_X12_jumper 28 rfl)
  · refine on_bipush (tk_X12_jumper 10 rfl) bp_m2 ?_
    exact on_iret (tk_X12_jumper 11 rfl)
def tb_X12_areMen : List (Nat × Nat × Nat × Instr) := [(0, 1, 1, .aload_n 0), (1, 1, 2, .iload_n 1), (2, 3, 5, .invokevirtual 298), (5, 3, 8, .ifCond .eq 20), (8, 1, 9, .aload_n 0), (9, 1, 10, .iload_n 2), (10, 3, 13, .invokevirtual 298), (13, 3, 16, .ifCond .eq 12), (16, 1, 17, .iload_n 1), (17, 1, 18, .iload_n 2), (18, 3, 21, .if_icmp .eq 7), (21, 1, 22, .iconst 1), (22, 3, 25, .goto 4), (25, 1, 26, .iconst 0), (26, 1, 27, .ireturn)]
set_option maxRecDepth 100000 in
theorem tk_X12_areMen (k : Nat) {pc n pc2 : Nat} {i : Instr} (hk : tb_X12_areMen[k]? = some (pc, n, pc2, i)) : on_dq cX12_areMen pc n pc2 i := on_ta (by decide +kernel) k hk
theorem ms_X12_areMen : on_Mv yX12_areMen cX12_areMen 3 (some .boolean) 2 := ⟨kw_8_23, kw_8_22, (on_mp (q := (yX12_areMen, 37)) (by decide +kernel)), kw_1_13, by decide, by decide, by decide +kernel⟩
def pf_X12_areMen_25 (σ : on_S) : Option on_O :=
  some (0, σ)
def pf_X12_areMen (p0 : Int) (p1 : Int) (σ : on_S) : Option on_O :=
  on_Cl (pf_X12_isMan p0 σ) fun v1 σ2 =>
  on_Eq v1 0 (
    pf_X12_areMen_25 σ2) (
    on_Cl (pf_X12_isMan p1 σ2) fun v3 σ4 =>
    on_Eq v3 0 (
      pf_X12_areMen_25 σ4) (
      on_Eq p0 p1 (
        pf_X12_areMen_25 σ4) (
        some (1, σ4))))
set_option maxRecDepth 100000 in
set_option maxHeartbeats 4000000 in
theorem gb_X12_areMen_25 {E : on_E} {z n : Nat} (X : on_X) (hN : 100 ≤ n) (σ : on_S) : on_G X E cX12_areMen RX12 (some .boolean) 2 46 3 z n σ (pf_X12_areMen_25  σ) 25 [none, none, none] [] := by
  rw [pf_X12_areMen_25]
  refine on_iconst (tk_X12_areMen 13 rfl) ?_
  exact on_zret0 (tk_X12_areMen 14 rfl)
set_option maxRecDepth 100000 in
set_option maxHeartbeats 4000000 in
theorem ct_X12_areMen {E : on_E} {z n : Nat} {p0 : Int} {p1 : Int} (hN : 100 ≤ n) {σ : on_S} : on_Sp E yX12_areMen cX12_areMen 3 (some .boolean) 2 46 z n [.ref (z + 77), .int (on_i p0), .int (on_i p1)] σ (pf_X12_areMen p0 p1 σ) := by
  refine on_met [some (.ref (z + 77)), some (.int (on_i p0)), some (.int (on_i p1))] (by decide) rfl rfl (fun X => ?_)
  rw [pf_X12_areMen]
  refine on_al0 (tk_X12_areMen 0 rfl) ?_
  refine on_il1 (tk_X12_areMen 1 rfl) ?_
  refine on_cV1z 12 ms_X12_isMan kw_7_170 rfl rfl (ltc_77 hN) sh_77 (ct_X12_isMan hN) rfl (tk_X12_areMen 2 rfl) fun v1 σ2 => ?_
  refine on_if_eq (tk_X12_areMen 3 rfl) (tgt := 25) (by decide) ?_ ?_
  · refine on_al0 (tk_X12_areMen 4 rfl) ?_
    refine on_il2 (tk_X12_areMen 5 rfl) ?_
    refine on_cV1z 12 ms_X12_isMan kw_7_170 rfl rfl (ltc_77 hN) sh_77 (ct_X12_isMan hN) rfl (tk_X12_areMen 6 rfl) fun v3 σ4 => ?_
    refine on_if_eq (tk_X12_areMen 7 rfl) (tgt := 25) (by decide) ?_ ?_
    · refine on_il1 (tk_X12_areMen 8 rfl) ?_
      refine on_il2 (tk_X12_areMen 9 rfl) ?_
      refine on_icmp_eq (tk_X12_areMen 10 rfl) (tgt := 25) (by decide) ?_ ?_
      · refine on_iconst (tk_X12_areMen 11 rfl) ?_
        refine on_goto (tk_X12_areMen 12 rfl) (tgt := 26) (by decide) ?_
        exact on_zret1 (tk_X12_areMen 14 rfl)
      · refine on_dr0 ?_
        refine on_dr1 ?_
        refine on_dr2 ?_
        exact gb_X12_areMen_25 X  hN _
    · refine on_dr0 ?_
      refine on_dr1 ?_
      refine on_dr2 ?_
      exact gb_X12_areMen_25 X  hN _
  · refine on_dr0 ?_
    refine on_dr1 ?_
    refine on_dr2 ?_
    exact gb_X12_areMen_25 X  hN _
def tb_X12_areHouses : List (Nat × Nat × Nat × Instr) := [(0, 1, 1, .aload_n 0), (1, 1, 2, .iload_n 1), (2, 3, 5, .invokevirtual 316), (5, 3, 8, .ifCond .eq 20), (8, 1, 9, .aload_n 0), (9, 1, 10, .iload_n 2), (10, 3, 13, .invokevirtual 316), (13, 3, 16, .ifCond .eq 12), (16, 1, 17, .iload_n 1), (17, 1, 18, .iload_n 2), (18, 3, 21, .if_icmp .eq 7), (21, 1, 22, .iconst 1), (22, 3, 25, .goto 4), (25, 1, 26, .iconst 0), (26, 1, 27, .ireturn)]
set_option maxRecDepth 100000 in
theorem tk_X12_areHouses (k : Nat) {pc n pc2 : Nat} {i : Instr} (hk : tb_X12_areHouses[k]? = some (pc, n, pc2, i)) : on_dq cX12_areHouses pc n pc2 i := on_ta (by decide +kernel) k hk
theorem ms_X12_areHouses : on_Mv yX12_areHouses cX12_areHouses 3 (some .boolean) 2 := ⟨kw_8_31, kw_8_30, (on_mp (q := (yX12_areHouses, 37)) (by decide +kernel)), kw_1_13, by decide, by decide, by decide +kernel⟩
def pf_X12_areHouses_25 (σ : on_S) : Option on_O :=
  some (0, σ)
def pf_X12_areHouses (p0 : Int) (p1 : Int) (σ : on_S) : Option on_O :=
  on_Cl (pf_X12_isHouse p0 σ) fun v1 σ2 =>
  on_Eq v1 0 (
    pf_X12_areHouses_25 σ2) (
    on_Cl (pf_X12_isHouse p1 σ2) fun v3 σ4 =>
    on_Eq v3 0 (
      pf_X12_areHouses_25 σ4) (
      on_Eq p0 p1 (
        pf_X12_areHouses_25 σ4) (
        some (1, σ4))))
set_option maxRecDepth 100000 in
set_option maxHeartbeats 4000000 in
theorem gb_X12_areHouses_25 {E : on_E} {z n : Nat} (X : on_X) (hN : 100 ≤ n) (σ : on_S) : on_G X E cX12_areHouses RX12 (some .boolean) 2 46 3 z n σ (pf_X12_areHouses_25  σ) 25 [none, none, none] [] := by
  rw [pf_X12_areHouses_25]
  refine on_iconst (tk_X12_areHouses 13 rfl) ?_
  exact on_zret0 (tk_X12_areHouses 14 rfl)
set_option maxRecDepth 100000 in
set_option maxHeartbeats 4000000 in
theorem ct_X12_areHouses {E : on_E} {z n : Nat} {p0 : Int} {p1 : Int} (hN : 100 ≤ n) {σ : on_S} : on_Sp E yX12_areHouses cX12_areHouses 3 (some .boolean) 2 46 z n [.ref (z + 77), .int (on_i p0), .int (on_i p1)] σ (pf_X12_areHouses p0 p1 σ) := by
  refine on_met [some (.ref (z + 77)), some (.int (on_i p0)), some (.int (on_i p1))] (by decide) rfl rfl (fun X => ?_)
  rw [pf_X12_areHouses]
  refine on_al0 (tk_X12_areHouses 0 rfl) ?_
  refine on_il1 (tk_X12_areHouses 1 rfl) ?_
  refine on_cV1z 12 ms_X12_isHouse kw_8_32 rfl rfl (ltc_77 hN) sh_77 (ct_X12_isHouse hN) rfl (tk_X12_areHouses 2 rfl) fun v1 σ2 => ?_
  refine on_if_eq (tk_X12_areHouses 3 rfl) (tgt := 25) (by decide) ?_ ?_
  · refine on_al0 (tk_X12_areHouses 4 rfl) ?_
    refine on_il2 (tk_X12_areHouses 5 rfl) ?_
    refine on_cV1z 12 ms_X12_isHouse kw_8_32 rfl rfl (ltc_77 hN) sh_77 (ct_X12_isHouse hN) rfl (tk_X12_areHouses 6 rfl) fun v3 σ4 => ?_
    refine on_if_eq (tk_X12_areHouses 7 rfl) (tgt := 25) (by decide) ?_ ?_
    · refine on_il1 (tk_X12_areHouses 8 rfl) ?_
      refine on_il2 (tk_X12_areHouses 9 rfl) ?_
      refine on_icmp_eq (tk_X12_areHouses 10 rfl) (tgt := 25) (by decide) ?_ ?_
      · refine on_iconst (tk_X12_areHouses 11 rfl) ?_
        refine on_goto (tk_X12_areHouses 12 rfl) (tgt := 26) (by decide) ?_
        exact on_zret1 (tk_X12_areHouses 14 rfl)
      · refine on_dr0 ?_
        refine on_dr1 ?_
        refine on_dr2 ?_
        exact gb_X12_areHouses_25 X  hN _
    · refine on_dr0 ?_
      refine on_dr1 ?_
      refine on_dr2 ?_
      exact gb_X12_areHouses_25 X  hN _
  · refine on_dr0 ?_
    refine on_dr1 ?_
    refine on_dr2 ?_
    exact gb_X12_areHouses_25 X  hN _
def tb_X12_quarrel : List (Nat × Nat × Nat × Instr) := [(0, 1, 1, .aload_n 0), (1, 1, 2, .iload_n 1), (2, 1, 3, .iload_n 2), (3, 3, 6, .invokevirtual 319), (6, 3, 9, .ifCond .eq 12), (9, 1, 10, .aload_n 0), (10, 1, 11, .iload_n 1), (11, 1, 12, .iload_n 2), (12, 3, 15, .invokevirtual 263), (15, 3, 18, .goto 5), (18, 2, 20, .bipush (-2)), (20, 1, 21, .ireturn)]
set_option maxRecDepth 100000 in
theorem tk_X12_quarrel (k : Nat) {pc n pc2 : Nat} {i : Instr} (hk : tb_X12_quarrel[k]? = some (pc, n, pc2, i)) : on_dq cX12_quarrel pc n pc2 i := on_ta (by decide +kernel) k hk
theorem ms_X12_quarrel : on_Mv yX12_quarrel cX12_quarrel 3 (some .int) 2 := ⟨kw_8_19, kw_8_17, kw_8_18, kw_1_13, by decide, by decide, by decide +kernel⟩
def pf_X12_quarrel (p0 : Int) (p1 : Int) (σ : on_S) : Option on_O :=
  on_Cl (pf_X12_areMen p0 p1 σ) fun v1 σ2 =>
  on_Eq v1 0 (
    some ((-2), σ2)) (
    on_Cl (pf_X12_quarrelOf p0 p1 σ2) fun v3 σ4 =>
    some (v3, σ4))
set_option maxRecDepth 100000 in
set_option maxHeartbeats 4000000 in
theorem ct_X12_quarrel {E : on_E} {z n : Nat} {p0 : Int} {p1 : Int} (hN : 100 ≤ n) {σ : on_S} : on_Sp E yX12_quarrel cX12_quarrel 3 (some .int) 3 68 z n [.ref (z + 77), .int (on_i p0), .int (on_i p1)] σ (pf_X12_quarrel p0 p1 σ) := by
  refine on_met [some (.ref (z + 77)), some (.int (on_i p0)), some (.int (on_i p1))] (by decide) rfl rfl (fun X => ?_)
  rw [pf_X12_quarrel]
  refine on_al0 (tk_X12_quarrel 0 rfl) ?_
  refine on_il1 (tk_X12_quarrel 1 rfl) ?_
  refine on_il2 (tk_X12_quarrel 2 rfl) ?_
  refine on_cV2z 12 ms_X12_areMen kw_8_20 rfl rfl (ltc_77 hN) sh_77 (ct_X12_areMen hN) rfl (tk_X12_quarrel 3 rfl) fun v1 σ2 => ?_
  refine on_if_eq (tk_X12_quarrel 4 rfl) (tgt := 18) (by decide) ?_ ?_
  · refine on_al0 (tk_X12_quarrel 5 rfl) ?_
    refine on_il1 (tk_X12_quarrel 6 rfl) ?_
    refine on_il2 (tk_X12_quarrel 7 rfl) ?_
    refine on_cV2i 12 ms_X12_quarrelOf kw_7_237 rfl rfl (ltc_77 hN) sh_77 (ct_X12_quarrelOf hN) rfl (tk_X12_quarrel 8 rfl) fun v3 σ4 => ?_
    refine on_goto (tk_X12_quarrel 9 rfl) (tgt := 20) (by decide) ?_
    exact on_iret (tk_X12_quarrel 11 rfl)
  · refine on_bipush (tk_X12_quarrel 10 rfl) bp_m2 ?_
    exact on_iret (tk_X12_quarrel 11 rfl)
def tb_X12_feud : List (Nat × Nat × Nat × Instr) := [(0, 1, 1, .aload_n 0), (1, 1, 2, .iload_n 1), (2, 1, 3, .iload_n 2), (3, 3, 6, .invokevirtual 322), (6, 3, 9, .ifCond .eq 20), (9, 1, 10, .aload_n 0), (10, 1, 11, .iload_n 1), (11, 1, 12, .iload_n 2), (12, 3, 15, .invokevirtual 256), (15, 3, 18, .ifCond .eq 7), (18, 1, 19, .iconst 1), (19, 3, 22, .goto 9), (22, 1, 23, .iconst 0), (23, 3, 26, .goto 5), (26, 2, 28, .bipush (-2)), (28, 1, 29, .ireturn)]
set_option maxRecDepth 100000 in
theorem tk_X12_feud (k : Nat) {pc n pc2 : Nat} {i : Instr} (hk : tb_X12_feud[k]? = some (pc, n, pc2, i)) : on_dq cX12_feud pc n pc2 i := on_ta (by decide +kernel) k hk
theorem ms_X12_feud : on_Mv yX12_feud cX12_feud 3 (some .int) 2 := ⟨kw_8_27, kw_8_25, kw_8_26, kw_1_13, by decide, by decide, by decide +kernel⟩
def pf_X12_feud (p0 : Int) (p1 : Int) (σ : on_S) : Option on_O :=
  on_Cl (pf_X12_areHouses p0 p1 σ) fun v1 σ2 =>
  on_Eq v1 0 (
    some ((-2), σ2)) (
    on_Cl (pf_X12_isFeud p0 p1 σ2) fun v3 σ4 =>
    on_Eq v3 0 (
      some (0, σ4)) (
      some (1, σ4)))
set_option maxRecDepth 100000 in
set_option maxHeartbeats 4000000 in
theorem ct_X12_feud {E : on_E} {z n : Nat} {p0 : Int} {p1 : Int} (hN : 100 ≤ n) {σ : on_S} : on_Sp E yX12_feud cX12_feud 3 (some .int) 3 68 z n [.ref (z + 77), .int (on_i p0), .int (on_i p1)] σ (pf_X12_feud p0 p1 σ) := by
  refine on_met [some (.ref (z + 77)), some (.int (on_i p0)), some (.int (on_i p1))] (by decide) rfl rfl (fun X => ?_)
  rw [pf_X12_feud]
  refine on_al0 (tk_X12_feud 0 rfl) ?_
  refine on_il1 (tk_X12_feud 1 rfl) ?_
  refine on_il2 (tk_X12_feud 2 rfl) ?_
  refine on_cV2z 12 ms_X12_areHouses kw_8_28 rfl rfl (ltc_77 hN) sh_77 (ct_X12_areHouses hN) rfl (tk_X12_feud 3 rfl) fun v1 σ2 => ?_
  refine on_if_eq (tk_X12_feud 4 rfl) (tgt := 26) (by decide) ?_ ?_
  · refine on_al0 (tk_X12_feud 5 rfl) ?_
    refine on_il1 (tk_X12_feud 6 rfl) ?_
    refine on_il2 (tk_X12_feud 7 rfl) ?_
    refine on_cV2z 12 ms_X12_isFeud kw_7_233 rfl rfl (ltc_77 hN) sh_77 (ct_X12_isFeud hN) rfl (tk_X12_feud 8 rfl) fun v3 σ4 => ?_
    refine on_if_eq (tk_X12_feud 9 rfl) (tgt := 22) (by decide) ?_ ?_
    · refine on_iconst (tk_X12_feud 10 rfl) ?_
      refine on_goto (tk_X12_feud 11 rfl) (tgt := 28) (by decide) ?_
      exact on_iret (tk_X12_feud 15 rfl)
    · refine on_iconst (tk_X12_feud 12 rfl) ?_
      refine on_goto (tk_X12_feud 13 rfl) (tgt := 28) (by decide) ?_
      exact on_iret (tk_X12_feud 15 rfl)
  · refine on_bipush (tk_X12_feud 14 rfl) bp_m2 ?_
    exact on_iret (tk_X12_feud 15 rfl)
def tb_X12_will : List (Nat × Nat × Nat × Instr) := [(0, 1, 1, .aload_n 0), (1, 1, 2, .iload_n 1), (2, 3, 5, .invokevirtual 298), (5, 3, 8, .ifCond .eq 28), (8, 1, 9, .aload_n 0), (9, 1, 10, .iload_n 2), (10, 3, 13, .invokevirtual 292), (13, 3, 16, .ifCond .eq 20), (16, 1, 17, .aload_n 0), (17, 1, 18, .iload_n 1), (18, 1, 19, .iload_n 2), (19, 3, 22, .invokevirtual 260), (22, 3, 25, .ifCond .eq 7), (25, 1, 26, .iconst 1), (26, 3, 29, .goto 9), (29, 1, 30, .iconst 0), (30, 3, 33, .goto 5), (33, 2, 35, .bipush (-2)), (35, 1, 36, .ireturn)]
set_option maxRecDepth 100000 in
theorem tk_X12_will (k : Nat) {pc n pc2 : Nat} {i : Instr} (hk : tb_X12_will[k]? = some (pc, n, pc2, i)) : on_dq cX12_will pc n pc2 i := on_ta (by decide +kernel) k hk
theorem ms_X12_will : on_Mv yX12_will cX12_will 3 (some .int) 2 := ⟨kw_8_39, kw_8_37, kw_8_38, kw_1_13, by decide, by decide, by decide +kernel⟩
def pf_X12_will_33 (σ : on_S) : Option on_O :=
  some ((-2), σ)
def pf_X12_will (p0 : Int) (p1 : Int) (σ : on_S) : Option on_O :=
  on_Cl (pf_X12_isMan p0 σ) fun v1 σ2 =>
  on_Eq v1 0 (
    pf_X12_will_33 σ2) (
    on_Cl (pf_X12_isWindow p1 σ2) fun v3 σ4 =>
    on_Eq v3 0 (
      pf_X12_will_33 σ4) (
      on_Cl (pf_X12_isWilling p0 p1 σ4) fun v5 σ6 =>
      on_Eq v5 0 (
        some (0, σ6)) (
        some (1, σ6))))
set_option maxRecDepth 100000 in
set_option maxHeartbeats 4000000 in
theorem gb_X12_will_33 {E : on_E} {z n : Nat} (X : on_X) (hN : 100 ≤ n) (σ : on_S) : on_G X E cX12_will RX12 (some .int) 2 46 3 z n σ (pf_X12_will_33  σ) 33 [none, none, none] [] := by
  rw [pf_X12_will_33]
  refine on_bipush (tk_X12_will 17 rfl) bp_m2 ?_
  exact on_iret (tk_X12_will 18 rfl)
set_option maxRecDepth 100000 in
set_option maxHeartbeats 4000000 in
theorem ct_X12_will {E : on_E} {z n : Nat} {p0 : Int} {p1 : Int} (hN : 100 ≤ n) {σ : on_S} : on_Sp E yX12_will cX12_will 3 (some .int) 2 46 z n [.ref (z + 77), .int (on_i p0), .int (on_i p1)] σ (pf_X12_will p0 p1 σ) := by
  refine on_met [some (.ref (z + 77)), some (.int (on_i p0)), some (.int (on_i p1))] (by decide) rfl rfl (fun X => ?_)
  rw [pf_X12_will]
  refine on_al0 (tk_X12_will 0 rfl) ?_
  refine on_il1 (tk_X12_will 1 rfl) ?_
  refine on_cV1z 12 ms_X12_isMan kw_7_170 rfl rfl (ltc_77 hN) sh_77 (ct_X12_isMan hN) rfl (tk_X12_will 2 rfl) fun v1 σ2 => ?_
  refine on_if_eq (tk_X12_will 3 rfl) (tgt := 33) (by decide) ?_ ?_
  · refine on_al0 (tk_X12_will 4 rfl) ?_
    refine on_il2 (tk_X12_will 5 rfl) ?_
    refine on_cV1z 12 ms_X12_isWindow kw_7_146 rfl rfl (ltc_77 hN) sh_77 (ct_X12_isWindow hN) rfl (tk_X12_will 6 rfl) fun v3 σ4 => ?_
    refine on_if_eq (tk_X12_will 7 rfl) (tgt := 33) (by decide) ?_ ?_
    · refine on_al0 (tk_X12_will 8 rfl) ?_
      refine on_il1 (tk_X12_will 9 rfl) ?_
      refine on_il2 (tk_X12_will 10 rfl) ?_
      refine on_cV2z 12 ms_X12_isWilling kw_7_229 rfl rfl (ltc_77 hN) sh_77 (ct_X12_isWilling hN) rfl (tk_X12_will 11 rfl) fun v5 σ6 => ?_
      refine on_if_eq (tk_X12_will 12 rfl) (tgt := 29) (by decide) ?_ ?_
      · refine on_iconst (tk_X12_will 13 rfl) ?_
        refine on_goto (tk_X12_will 14 rfl) (tgt := 35) (by decide) ?_
        exact on_iret (tk_X12_will 18 rfl)
      · refine on_iconst (tk_X12_will 15 rfl) ?_
        refine on_goto (tk_X12_will 16 rfl) (tgt := 35) (by decide) ?_
        exact on_iret (tk_X12_will 18 rfl)
    · refine on_dr0 ?_
      refine on_dr1 ?_
      refine on_dr2 ?_
      exact gb_X12_will_33 X  hN _
  · refine on_dr0 ?_
    refine on_dr1 ?_
    refine on_dr2 ?_
    exact gb_X12_will_33 X  hN _
def tb_X12_gives : List (Nat × Nat × Nat × Instr) := [(0, 1, 1, .aload_n 0), (1, 1, 2, .iload_n 1), (2, 1, 3, .i2l), (3, 3, 6, .invokevirtual 301), (6, 3, 9, .ifCond .eq 7), (9, 1, 10, .iload_n 2), (10, 3, 13, .ifCond .ge 6), (13, 2, 15, .bipush (-2)), (15, 1, 16, .ireturn), (16, 1, 17, .iload_n 2), (17, 1, 18, .aload_n 0), (18, 1, 19, .iload_n 1), (19, 3, 22, .invokevirtual 286), (22, 3, 25, .if_icmp .gt 7), (25, 1, 26, .iconst (-1)), (26, 3, 29, .goto 20), (29, 1, 30, .aload_n 0), (30, 1, 31, .iload_n 1), (31, 1, 32, .aload_n 0), (32, 1, 33, .iload_n 1), (33, 1, 34, .iconst 0), (34, 3, 37, .invokevirtual 94), (37, 1, 38, .aload_n 0), (38, 1, 39, .iload_n 1), (39, 1, 40, .iconst 2), (40, 3, 43, .invokevirtual 94), (43, 3, 46, .invokevirtual 273), (46, 1, 47, .ireturn)]
set_option maxRecDepth 100000 in
theorem tk_X12_gives (k : Nat) {pc n pc2 : Nat} {i : Instr} (hk : tb_X12_gives[k]? = some (pc, n, pc2, i)) : on_dq cX12_gives pc n pc2 i := on_ta (by decide +kernel) k hk
theorem ms_X12_gives : on_Mv yX12_gives cX12_gives 3 (some .int) 2 := ⟨kw_8_43, kw_8_41, kw_8_42, kw_1_13, by decide, by decide, by decide +kernel⟩
def pf_X12_gives (p0 : Int) (p1 : Int) (σ : on_S) : Option on_O :=
  on_Ck p0 <|
  on_Cl (pf_X12_isNet p0 σ) fun v1 σ2 =>
  on_Eq v1 0 (
    some ((-2), σ2)) (
    on_Lt p1 0 (
      some ((-2), σ2)) (
      on_Cl (pf_X12_carries p0 σ2) fun v3 σ4 =>
      on_Le p1 v3 (
        some ((-1), σ4)) (
        on_Cl (pf_X12_ofNet p0 0 σ4) fun v5 σ6 =>
        on_Cl (pf_X12_ofNet p0 2 σ6) fun v7 σ8 =>
        on_Cl (pf_X12_weakest p0 v5 v7 σ8) fun v9 σ10 =>
        some (v9, σ10))))
set_option maxRecDepth 100000 in
set_option maxHeartbeats 4000000 in
theorem ct_X12_gives {E : on_E} {z n : Nat} {p0 : Int} {p1 : Int} (hN : 100 ≤ n) {σ : on_S} : on_Sp E yX12_gives cX12_gives 3 (some .int) 6 142 z n [.ref (z + 77), .int (on_i p0), .int (on_i p1)] σ (pf_X12_gives p0 p1 σ) := by
  refine on_met [some (.ref (z + 77)), some (.int (on_i p0)), some (.int (on_i p1))] (by decide) rfl rfl (fun X => ?_)
  rw [pf_X12_gives]
  refine on_al0 (tk_X12_gives 0 rfl) ?_
  refine on_il1 (tk_X12_gives 1 rfl) ?_
  refine on_xi2l (tk_X12_gives 2 rfl) ?_
  refine on_cV1z 12 ms_X12_isNet kw_7_183 rfl rfl (ltc_77 hN) sh_77 (ct_X12_isNet hN) rfl (tk_X12_gives 3 rfl) fun v1 σ2 => ?_
  refine on_if_eq (tk_X12_gives 4 rfl) (tgt := 13) (by decide) ?_ ?_
  · refine on_il2 (tk_X12_gives 5 rfl) ?_
    refine on_if_ge (tk_X12_gives 6 rfl) (tgt := 16) (by decide) ?_ ?_
    · refine on_bipush (tk_X12_gives 7 rfl) bp_m2 ?_
      exact on_iret (tk_X12_gives 8 rfl)
    · refine on_il2 (tk_X12_gives 9 rfl) ?_
      refine on_al0 (tk_X12_gives 10 rfl) ?_
      refine on_il1 (tk_X12_gives 11 rfl) ?_
      refine on_cV1i 12 ms_X12_carries kw_7_205 rfl rfl (ltc_77 hN) sh_77 (ct_X12_carries hN) rfl (tk_X12_gives 12 rfl) fun v3 σ4 => ?_
      refine on_icmp_gt (tk_X12_gives 13 rfl) (tgt := 29) (by decide) ?_ ?_
      · refine on_iconst (tk_X12_gives 14 rfl) ?_
        refine on_goto (tk_X12_gives 15 rfl) (tgt := 46) (by decide) ?_
        exact on_iret (tk_X12_gives 27 rfl)
      · refine on_al0 (tk_X12_gives 16 rfl) ?_
        refine on_il1 (tk_X12_gives 17 rfl) ?_
        refine on_al0 (tk_X12_gives 18 rfl) ?_
        refine on_il1 (tk_X12_gives 19 rfl) ?_
        refine on_iconst (tk_X12_gives 20 rfl) ?_
        refine on_cV2i 12 ms_X12_ofNet kw_7_162 rfl rfl (ltc_77 hN) sh_77 (ct_X12_ofNet hN) rfl (tk_X12_gives 21 rfl) fun v5 σ6 => ?_
        refine on_al0 (tk_X12_gives 22 rfl) ?_
        refine on_il1 (tk_X12_gives 23 rfl) ?_
        refine on_iconst (tk_X12_gives 24 rfl) ?_
        refine on_cV2i 12 ms_X12_ofNet kw_7_162 rfl rfl (ltc_77 hN) sh_77 (ct_X12_ofNet hN) rfl (tk_X12_gives 25 rfl) fun v7 σ8 => ?_
        refine on_cV3i 12 ms_X12_weakest kw_7_221 rfl rfl (ltc_77 hN) sh_77 (ct_X12_weakest hN) rfl (tk_X12_gives 26 rfl) fun v9 σ10 => ?_
        exact on_iret (tk_X12_gives 27 rfl)
  · refine on_bipush (tk_X12_gives 7 rfl) bp_m2 ?_
    exact on_iret (tk_X12_gives 8 rfl)
def tb_X12_isHeld : List (Nat × Nat × Nat × Instr) := [(0, 1, 1, .aload_n 0), (1, 1, 2, .aload_n 0), (2, 1, 3, .iload_n 1), (3, 3, 6, .invokevirtual 105), (6, 3, 9, .invokevirtual 295), (9, 1, 10, .istore_n 2), (10, 1, 11, .iload_n 2), (11, 1, 12, .iconst (-1)), (12, 3, 15, .if_icmp .eq 20), (15, 1, 16, .aload_n 0), (16, 1, 17, .iload_n 1), (17, 3, 20, .invokevirtual 289), (20, 1, 21, .aload_n 0), (21, 1, 22, .iload_n 2), (22, 3, 25, .invokevirtual 286), (25, 3, 28, .if_icmp .gt 7), (28, 1, 29, .iconst 1), (29, 3, 32, .goto 4), (32, 1, 33, .iconst 0), (33, 1, 34, .ireturn)]
set_option maxRecDepth 100000 in
theorem tk_X12_isHeld (k : Nat) {pc n pc2 : Nat} {i : Instr} (hk : tb_X12_isHeld[k]? = some (pc, n, pc2, i)) : on_dq cX12_isHeld pc n pc2 i := on_ta (by decide +kernel) k hk
theorem ms_X12_isHeld : on_Mv yX12_isHeld cX12_isHeld 3 (some .boolean) 1 := ⟨kw_8_51, kw_8_50, (on_mp (q := (yX12_isHeld, 37)) (by decide +kernel)), kw_1_13, by decide, by decide, by decide +kernel⟩
def pf_X12_isHeld_32 (σ : on_S) : Option on_O :=
  some (0, σ)
def pf_X12_isHeld (p0 : Int) (σ : on_S) : Option on_O :=
  on_Cl (pf_X12_windowOf p0 σ) fun v1 σ2 =>
  on_Cl (pf_X12_netAt v1 σ2) fun v3 σ4 =>
  on_Eq v3 (-1) (
    pf_X12_isHeld_32 σ4) (
    on_Cl (pf_X12_forceOf p0 σ4) fun v5 σ6 =>
    on_Cl (pf_X12_carries v3 σ6) fun v7 σ8 =>
    on_Le v5 v7 (
      some (1, σ8)) (
      pf_X12_isHeld_32 σ8))
set_option maxRecDepth 100000 in
set_option maxHeartbeats 4000000 in
theorem gb_X12_isHeld_32 {E : on_E} {z n : Nat} (X : on_X) (hN : 100 ≤ n) (σ : on_S) : on_G X E cX12_isHeld RX12 (some .boolean) 6 142 3 z n σ (pf_X12_isHeld_32  σ) 32 [none, none, none] [] := by
  rw [pf_X12_isHeld_32]
  refine on_iconst (tk_X12_isHeld 18 rfl) ?_
  exact on_zret0 (tk_X12_isHeld 19 rfl)
set_option maxRecDepth 100000 in
set_option maxHeartbeats 4000000 in
theorem ct_X12_isHeld {E : on_E} {z n : Nat} {p0 : Int} (hN : 100 ≤ n) {σ : on_S} : on_Sp E yX12_isHeld cX12_isHeld 3 (some .boolean) 6 142 z n [.ref (z + 77), .int (on_i p0)] σ (pf_X12_isHeld p0 σ) := by
  refine on_met [some (.ref (z + 77)), some (.int (on_i p0)), none] (by decide) rfl rfl (fun X => ?_)
  rw [pf_X12_isHeld]
  refine on_al0 (tk_X12_isHeld 0 rfl) ?_
  refine on_al0 (tk_X12_isHeld 1 rfl) ?_
  refine on_il1 (tk_X12_isHeld 2 rfl) ?_
  refine on_cV1i 12 ms_X12_windowOf kw_7_192 rfl rfl (ltc_77 hN) sh_77 (ct_X12_windowOf hN) rfl (tk_X12_isHeld 3 rfl) fun v1 σ2 => ?_
  refine on_cV1i 12 ms_X12_netAt kw_7_158 rfl rfl (ltc_77 hN) sh_77 (ct_X12_netAt hN) rfl (tk_X12_isHeld 4 rfl) fun v3 σ4 => ?_
  refine on_is2 rfl (tk_X12_isHeld 5 rfl) ?_
  refine on_il2 (tk_X12_isHeld 6 rfl) ?_
  refine on_iconst (tk_X12_isHeld 7 rfl) ?_
  refine on_icmp_eq (tk_X12_isHeld 8 rfl) (tgt := 32) (by decide) ?_ ?_
  · refine on_al0 (tk_X12_isHeld 9 rfl) ?_
    refine on_il1 (tk_X12_isHeld 10 rfl) ?_
    refine on_cV1i 12 ms_X12_forceOf kw_7_196 rfl rfl (ltc_77 hN) sh_77 (ct_X12_forceOf hN) rfl (tk_X12_isHeld 11 rfl) fun v5 σ6 => ?_
    refine on_al0 (tk_X12_isHeld 12 rfl) ?_
    refine on_il2 (tk_X12_isHeld 13 rfl) ?_
    refine on_cV1i 12 ms_X12_carries kw_7_205 rfl rfl (ltc_77 hN) sh_77 (ct_X12_carries hN) rfl (tk_X12_isHeld 14 rfl) fun v7 σ8 => ?_
    refine on_icmp_gt (tk_X12_isHeld 15 rfl) (tgt := 32) (by decide) ?_ ?_
    · refine on_iconst (tk_X12_isHeld 16 rfl) ?_
      refine on_goto (tk_X12_isHeld 17 rfl) (tgt := 33) (by decide) ?_
      exact on_zret1 (tk_X12_isHeld 19 rfl)
    · refine on_dr0 ?_
      refine on_dr1 ?_
      refine on_dr2 ?_
      exact gb_X12_isHeld_32 X  hN _
  · refine on_dr0 ?_
    refine on_dr1 ?_
    refine on_dr2 ?_
    exact gb_X12_isHeld_32 X  hN _
def tb_X12_held : List (Nat × Nat × Nat × Instr) := [(0, 1, 1, .aload_n 0), (1, 1, 2, .iload_n 1), (2, 3, 5, .invokevirtual 313), (5, 3, 8, .ifCond .eq 19), (8, 1, 9, .aload_n 0), (9, 1, 10, .iload_n 1), (10, 3, 13, .invokevirtual 325), (13, 3, 16, .ifCond .eq 7), (16, 1, 17, .iconst 1), (17, 3, 20, .goto 9), (20, 1, 21, .iconst 0), (21, 3, 24, .goto 5), (24, 2, 26, .bipush (-2)), (26, 1, 27, .ireturn)]
set_option maxRecDepth 100000 in
theorem tk_X12_held (k : Nat) {pc n pc2 : Nat} {i : Instr} (hk : tb_X12_held[k]? = some (pc, n, pc2, i)) : on_dq cX12_held pc n pc2 i := on_ta (by decide +kernel) k hk
theorem ms_X12_held : on_Mv yX12_held cX12_held 2 (some .int) 1 := ⟨kw_8_47, kw_8_45, kw_8_46, kw_1_13, by decide, by decide, by decide +kernel⟩
def pf_X12_held (p0 : Int) (σ : on_S) : Option on_O :=
  on_Cl (pf_X12_isJumper p0 σ) fun v1 σ2 =>
  on_Eq v1 0 (
    some ((-2), σ2)) (
    on_Cl (pf_X12_isHeld p0 σ2) fun v3 σ4 =>
    on_Eq v3 0 (
      some (0, σ4)) (
      some (1, σ4)))
set_option maxRecDepth 100000 in
set_option maxHeartbeats 4000000 in
theorem ct_X12_held {E : on_E} {z n : Nat} {p0 : Int} (hN : 100 ≤ n) {σ : on_S} : on_Sp E yX12_held cX12_held 2 (some .int) 7 164 z n [.ref (z + 77), .int (on_i p0)] σ (pf_X12_held p0 σ) := by
  refine on_met [some (.ref (z + 77)), some (.int (on_i p0))] (by decide) rfl rfl (fun X => ?_)
  rw [pf_X12_held]
  refine on_al0 (tk_X12_held 0 rfl) ?_
  refine on_il1 (tk_X12_held 1 rfl) ?_
  refine on_cV1z 12 ms_X12_isJumper kw_8_12 rfl rfl (ltc_77 hN) sh_77 (ct_X12_isJumper hN) rfl (tk_X12_held 2 rfl) fun v1 σ2 => ?_
  refine on_if_eq (tk_X12_held 3 rfl) (tgt := 24) (by decide) ?_ ?_
  · refine on_al0 (tk_X12_held 4 rfl) ?_
    refine on_il1 (tk_X12_held 5 rfl) ?_
    refine on_cV1z 12 ms_X12_isHeld kw_8_48 rfl rfl (ltc_77 hN) sh_77 (ct_X12_isHeld hN) rfl (tk_X12_held 6 rfl) fun v3 σ4 => ?_
    refine on_if_eq (tk_X12_held 7 rfl) (tgt := 20) (by decide) ?_ ?_
    · refine on_iconst (tk_X12_held 8 rfl) ?_
      refine on_goto (tk_X12_held 9 rfl) (tgt := 26) (by decide) ?_
      exact on_iret (tk_X12_held 13 rfl)
    · refine on_iconst (tk_X12_held 10 rfl) ?_
      refine on_goto (tk_X12_held 11 rfl) (tgt := 26) (by decide) ?_
      exact on_iret (tk_X12_held 13 rfl)
  · refine on_bipush (tk_X12_held 12 rfl) bp_m2 ?_
    exact on_iret (tk_X12_held 13 rfl)
def tb_X12_heaviest : List (Nat × Nat × Nat × Instr) := [(0, 1, 1, .aload_n 0), (1, 1, 2, .iload_n 1), (2, 1, 3, .i2l), (3, 3, 6, .invokevirtual 301), (6, 3, 9, .ifCond .eq 22), (9, 1, 10, .aload_n 0), (10, 1, 11, .iload_n 1), (11, 3, 14, .invokevirtual 286), (14, 1, 15, .aload_n 0), (15, 1, 16, .aload_n 0), (16, 1, 17, .iload_n 1), (17, 1, 18, .iconst 0), (18, 3, 21, .invokevirtual 94), (21, 3, 24, .invokevirtual 108), (24, 1, 25, .idiv), (25, 3, 28, .goto 5), (28, 2, 30, .bipush (-2)), (30, 1, 31, .ireturn)]
set_option maxRecDepth 100000 in
theorem tk_X12_heaviest (k : Nat) {pc n pc2 : Nat} {i : Instr} (hk : tb_X12_heaviest[k]? = some (pc, n, pc2, i)) : on_dq cX12_heaviest pc n pc2 i := on_ta (by decide +kernel) k hk
theorem ms_X12_heaviest : on_Mv yX12_heaviest cX12_heaviest 2 (some .int) 1 := ⟨kw_8_55, kw_8_53, kw_8_54, kw_1_13, by decide, by decide, by decide +kernel⟩
def pf_X12_heaviest (p0 : Int) (σ : on_S) : Option on_O :=
  on_Ck p0 <|
  on_Cl (pf_X12_isNet p0 σ) fun v1 σ2 =>
  on_Eq v1 0 (
    some ((-2), σ2)) (
    on_Cl (pf_X12_carries p0 σ2) fun v3 σ4 =>
    on_Cl (pf_X12_ofNet p0 0 σ4) fun v5 σ6 =>
    on_Cl (pf_X12_storeyOf v5 σ6) fun v7 σ8 =>
    on_Dv v3 v7 fun v9 =>
    some (v9, σ8))
set_option maxRecDepth 100000 in
set_option maxHeartbeats 4000000 in
theorem ct_X12_heaviest {E : on_E} {z n : Nat} {p0 : Int} (hN : 100 ≤ n) {σ : on_S} : on_Sp E yX12_heaviest cX12_heaviest 2 (some .int) 6 142 z n [.ref (z + 77), .int (on_i p0)] σ (pf_X12_heaviest p0 σ) := by
  refine on_met [some (.ref (z + 77)), some (.int (on_i p0))] (by decide) rfl rfl (fun X => ?_)
  rw [pf_X12_heaviest]
  refine on_al0 (tk_X12_heaviest 0 rfl) ?_
  refine on_il1 (tk_X12_heaviest 1 rfl) ?_
  refine on_xi2l (tk_X12_heaviest 2 rfl) ?_
  refine on_cV1z 12 ms_X12_isNet kw_7_183 rfl rfl (ltc_77 hN) sh_77 (ct_X12_isNet hN) rfl (tk_X12_heaviest 3 rfl) fun v1 σ2 => ?_
  refine on_if_eq (tk_X12_heaviest 4 rfl) (tgt := 28) (by decide) ?_ ?_
  · refine on_al0 (tk_X12_heaviest 5 rfl) ?_
    refine on_il1 (tk_X12_heaviest 6 rfl) ?_
    refine on_cV1i 12 ms_X12_carries kw_7_205 rfl rfl (ltc_77 hN) sh_77 (ct_X12_carries hN) rfl (tk_X12_heaviest 7 rfl) fun v3 σ4 => ?_
    refine on_al0 (tk_X12_heaviest 8 rfl) ?_
    refine on_al0 (tk_X12_heaviest 9 rfl) ?_
    refine on_il1 (tk_X12_heaviest 10 rfl) ?_
    refine on_iconst (tk_X12_heaviest 11 rfl) ?_
    refine on_cV2i 12 ms_X12_ofNet kw_7_162 rfl rfl (ltc_77 hN) sh_77 (ct_X12_ofNet hN) rfl (tk_X12_heaviest 12 rfl) fun v5 σ6 => ?_
    refine on_cV1i 12 ms_X12_storeyOf kw_7_154 rfl rfl (ltc_77 hN) sh_77 (ct_X12_storeyOf hN) rfl (tk_X12_heaviest 13 rfl) fun v7 σ8 => ?_
    refine on_idiv (tk_X12_heaviest 14 rfl) fun v9 => ?_
    refine on_goto (tk_X12_heaviest 15 rfl) (tgt := 30) (by decide) ?_
    exact on_iret (tk_X12_heaviest 17 rfl)
  · refine on_bipush (tk_X12_heaviest 16 rfl) bp_m2 ?_
    exact on_iret (tk_X12_heaviest 17 rfl)
def tb_X12_highest : List (Nat × Nat × Nat × Instr) := [(0, 1, 1, .aload_n 0), (1, 1, 2, .iload_n 1), (2, 1, 3, .i2l), (3, 3, 6, .invokevirtual 301), (6, 3, 9, .ifCond .eq 30), (9, 1, 10, .iload_n 2), (10, 1, 11, .i2l), (11, 1, 12, .lconst 1), (12, 3, 15, .ldc2_w 328), (15, 3, 18, .invokestatic 88), (18, 3, 21, .ifCond .eq 18), (21, 2, 23, .bipush 6), (23, 1, 24, .aload_n 0), (24, 1, 25, .iload_n 1), (25, 3, 28, .invokevirtual 286), (28, 1, 29, .iload_n 2), (29, 1, 30, .idiv), (30, 3, 33, .invokestatic 141), (33, 3, 36, .goto 5), (36, 2, 38, .bipush (-2)), (38, 1, 39, .ireturn)]
set_option maxRecDepth 100000 in
theorem tk_X12_highest (k : Nat) {pc n pc2 : Nat} {i : Instr} (hk : tb_X12_highest[k]? = some (pc, n, pc2, i)) : on_dq cX12_highest pc n pc2 i := on_ta (by decide +kernel) k hk
theorem ms_X12_highest : on_Mv yX12_highest cX12_highest 3 (some .int) 2 := ⟨kw_8_59, kw_8_57, kw_8_58, kw_1_13, by decide, by decide, by decide +kernel⟩
def pf_X12_highest_36 (σ : on_S) : Option on_O :=
  some ((-2), σ)
def pf_X12_highest (p0 : Int) (p1 : Int) (σ : on_S) : Option on_O :=
  on_Ck p0 <|
  on_Cl (pf_X12_isNet p0 σ) fun v1 σ2 =>
  on_Eq v1 0 (
    pf_X12_highest_36 σ2) (
    on_Ck p1 <|
    on_Cl (pf_X12_in p1 1 99 σ2) fun v3 σ4 =>
    on_Eq v3 0 (
      pf_X12_highest_36 σ4) (
      on_Cl (pf_X12_carries p0 σ4) fun v5 σ6 =>
      on_Dv v5 p1 fun v7 =>
      on_Mn 6 v7 fun v8 =>
      some (v8, σ6)))
set_option maxRecDepth 100000 in
set_option maxHeartbeats 4000000 in
theorem gb_X12_highest_36 {E : on_E} {z n : Nat} (X : on_X) (hN : 100 ≤ n) (σ : on_S) : on_G X E cX12_highest RX12 (some .int) 6 142 3 z n σ (pf_X12_highest_36  σ) 36 [none, none, none] [] := by
  rw [pf_X12_highest_36]
  refine on_bipush (tk_X12_highest 19 rfl) bp_m2 ?_
  exact on_iret (tk_X12_highest 20 rfl)
set_option maxRecDepth 100000 in
set_option maxHeartbeats 4000000 in
theorem ct_X12_highest {E : on_E} {z n : Nat} {p0 : Int} {p1 : Int} (hN : 100 ≤ n) {σ : on_S} : on_Sp E yX12_highest cX12_highest 3 (some .int) 6 142 z n [.ref (z + 77), .int (on_i p0), .int (on_i p1)] σ (pf_X12_highest p0 p1 σ) := by
  refine on_met [some (.ref (z + 77)), some (.int (on_i p0)), some (.int (on_i p1))] (by decide) rfl rfl (fun X => ?_)
  rw [pf_X12_highest]
  refine on_al0 (tk_X12_highest 0 rfl) ?_
  refine on_il1 (tk_X12_highest 1 rfl) ?_
  refine on_xi2l (tk_X12_highest 2 rfl) ?_
  refine on_cV1z 12 ms_X12_isNet kw_7_183 rfl rfl (ltc_77 hN) sh_77 (ct_X12_isNet hN) rfl (tk_X12_highest 3 rfl) fun v1 σ2 => ?_
  refine on_if_eq (tk_X12_highest 4 rfl) (tgt := 36) (by decide) ?_ ?_
  · refine on_il2 (tk_X12_highest 5 rfl) ?_
    refine on_xi2l (tk_X12_highest 6 rfl) ?_
    refine on_lconst1 (tk_X12_highest 7 rfl) ?_
    refine on_ldc2 (a := 99) kw_8_60 (by decide +kernel) (tk_X12_highest 8 rfl) ?_
    refine on_cS3z ms_X12_in kw_7_18 (ct_X12_in hN) rfl (tk_X12_highest 9 rfl) fun v3 σ4 => ?_
    refine on_if_eq (tk_X12_highest 10 rfl) (tgt := 36) (by decide) ?_ ?_
    · refine on_bipush (tk_X12_highest 11 rfl) bp_6 ?_
      refine on_al0 (tk_X12_highest 12 rfl) ?_
      refine on_il1 (tk_X12_highest 13 rfl) ?_
      refine on_cV1i 12 ms_X12_carries kw_7_205 rfl rfl (ltc_77 hN) sh_77 (ct_X12_carries hN) rfl (tk_X12_highest 14 rfl) fun v5 σ6 => ?_
      refine on_il2 (tk_X12_highest 15 rfl) ?_
      refine on_idiv (tk_X12_highest 16 rfl) fun v7 => ?_
      refine on_min kw_7_54 kwM_min_s kwM_i kwM_min_c rfl (tk_X12_highest 17 rfl) fun v8 => ?_
      refine on_goto (tk_X12_highest 18 rfl) (tgt := 38) (by decide) ?_
      exact on_iret (tk_X12_highest 20 rfl)
    · refine on_dr0 ?_
      refine on_dr1 ?_
      refine on_dr2 ?_
      exact gb_X12_highest_36 X  hN _
  · refine on_dr0 ?_
    refine on_dr1 ?_
    refine on_dr2 ?_
    exact gb_X12_highest_36 X  hN _
def tb_X12_lands : List (Nat × Nat × Nat × Instr) := [(0, 1, 1, .iload_n 2), (1, 1, 2, .aload_n 0), (2, 1, 3, .iload_n 1), (3, 3, 6, .invokevirtual 286), (6, 3, 9, .if_icmp .gt 7), (9, 1, 10, .iconst 1), (10, 3, 13, .goto 4), (13, 1, 14, .iconst 0), (14, 1, 15, .istore_n 3), (15, 1, 16, .aload_n 0), (16, 1, 17, .iload_n 3), (17, 3, 20, .ifCond .eq 7), (20, 1, 21, .iconst (-1)), (21, 3, 24, .goto 20), (24, 1, 25, .aload_n 0), (25, 1, 26, .iload_n 1), (26, 1, 27, .aload_n 0), (27, 1, 28, .iload_n 1), (28, 1, 29, .iconst 0), (29, 3, 32, .invokevirtual 94), (32, 1, 33, .aload_n 0), (33, 1, 34, .iload_n 1), (34, 1, 35, .iconst 2), (35, 3, 38, .invokevirtual 94), (38, 3, 41, .invokevirtual 273), (41, 3, 44, .putfield 330), (44, 1, 45, .aload_n 0), (45, 1, 46, .iload_n 1), (46, 1, 47, .iconst 1), (47, 3, 50, .invokevirtual 94), (50, 1, 51, .aload_n 0), (51, 1, 52, .aload_n 0), (52, 1, 53, .iload_n 1), (53, 1, 54, .iconst 0), (54, 3, 57, .invokevirtual 94), (57, 3, 60, .invokevirtual 108), (60, 1, 61, .imul), (61, 2, 63, .istore 4), (63, 1, 64, .iconst 0), (64, 2, 66, .istore 5), (66, 2, 68, .iload 5), (68, 1, 69, .iconst 4), (69, 3, 72, .if_icmp .ge 71), (72, 2, 74, .bipush 62), (74, 2, 76, .bipush 7), (76, 1, 77, .iload_n 1), (77, 1, 78, .imul), (78, 1, 79, .iadd), (79, 1, 80, .iconst 3), (80, 1, 81, .iadd), (81, 2, 83, .iload 5), (83, 1, 84, .iadd), (84, 2, 86, .istore 6), (86, 1, 87, .aload_n 0), (87, 3, 90, .getfield 9), (90, 2, 92, .iload 6), (92, 1, 93, .iload_n 3), (93, 3, 96, .ifCond .eq 20), (96, 1, 97, .iconst 0), (97, 1, 98, .aload_n 0), (98, 3, 101, .getfield 9), (101, 2, 103, .iload 6), (103, 1, 104, .iaload), (104, 2, 106, .iload 4), (106, 1, 107, .isub), (107, 3, 110, .invokestatic 266), (110, 3, 113, .goto 23), (113, 2, 115, .iload 5), (115, 1, 116, .aload_n 0), (116, 3, 119, .getfield 330), (119, 3, 122, .if_icmp .ne 7), (122, 1, 123, .iconst 0), (123, 3, 126, .goto 10), (126, 1, 127, .aload_n 0), (127, 3, 130, .getfield 9), (130, 2, 132, .iload 6), (132, 1, 133, .iaload), (133, 1, 134, .iastore), (134, 3, 137, .iinc 5 1), (137, 3, 140, .goto (-71)), (140, 1, 141, .iload_n 3), (141, 1, 142, .ireturn)]
set_option maxRecDepth 100000 in
theorem tk_X12_lands (k : Nat) {pc n pc2 : Nat} {i : Instr} (hk : tb_X12_lands[k]? = some (pc, n, pc2, i)) : on_dq cX12_lands pc n pc2 i := on_ta (by decide +kernel) k hk
theorem ms_X12_lands : on_Mv yX12_lands cX12_lands 7 (some .boolean) 2 := ⟨kw_8_68, kw_8_67, (on_mp (q := (yX12_lands, 37)) (by decide +kernel)), kw_1_13, by decide, by decide, by decide +kernel⟩
def pf_X12_lands_133 (k66 : Int → Int → Int → Int → on_S → Option on_O) (l1 : Int) (l3 : Int) (l4 : Int) (l5 : Int) (s1 : Int) (s2 : Int) (σ : on_S) : Option on_O :=
  on_Wr σ 78 687 s1 s2 fun σ12 =>
  k66 l1 l3 l4 (l5 + 1) σ12
def pf_X12_lands_66 : Nat → Int → Int → Int → Int → on_S → Option on_O
  | 0, _, _, _, _, _ => none
  | nf + 1, l1, l3, l4, l5, σ =>
    on_Lt l5 4 (
      on_Eq l3 0 (
        on_Gt σ 77 16 fun v13 =>
        on_Eq l5 v13 (
          pf_X12_lands_133 (pf_X12_lands_66 nf) l1 l3 l4 l5 (((62 + (7 * l1)) + 3) + l5) 0 σ) (
          on_Rd σ 78 687 (((62 + (7 * l1)) + 3) + l5) fun v14 =>
          pf_X12_lands_133 (pf_X12_lands_66 nf) l1 l3 l4 l5 (((62 + (7 * l1)) + 3) + l5) v14 σ)) (
        on_Rd σ 78 687 (((62 + (7 * l1)) + 3) + l5) fun v10 =>
        on_Mx 0 (v10 - l4) fun v11 =>
        pf_X12_lands_133 (pf_X12_lands_66 nf) l1 l3 l4 l5 (((62 + (7 * l1)) + 3) + l5) v11 σ)) (
      on_Bz l3 σ)
def pf_X12_lands_41 (l1 : Int) (l3 : Int) (s1 : Int) (σ : on_S) : Option on_O :=
  on_Pt σ 77 16 s1 fun σ3 =>
  on_Cl (pf_X12_ofNet l1 1 σ3) fun v4 σ5 =>
  on_Cl (pf_X12_ofNet l1 0 σ5) fun v6 σ7 =>
  on_Cl (pf_X12_storeyOf v6 σ7) fun v8 σ9 =>
  pf_X12_lands_66 on_N l1 l3 (v4 * v8) 0 σ9
def pf_X12_lands_14 (l1 : Int) (s0 : Int) (σ : on_S) : Option on_O :=
  on_Eq s0 0 (
    on_Cl (pf_X12_ofNet l1 0 σ) fun v15 σ16 =>
    on_Cl (pf_X12_ofNet l1 2 σ16) fun v17 σ18 =>
    on_Cl (pf_X12_weakest l1 v15 v17 σ18) fun v19 σ20 =>
    pf_X12_lands_41 l1 s0 v19 σ20) (
    pf_X12_lands_41 l1 s0 (-1) σ)
def pf_X12_lands (p0 : Int) (p1 : Int) (σ : on_S) : Option on_O :=
  on_Cl (pf_X12_carries p0 σ) fun v1 σ2 =>
  on_Le p1 v1 (
    pf_X12_lands_14 p0 1 σ2) (
    pf_X12_lands_14 p0 0 σ2)
set_option maxRecDepth 100000 in
set_option maxHeartbeats 4000000 in
theorem gb_X12_lands_133 {E : on_E} {z n : Nat} (X : on_X) (k66 : Int → Int → Int → Int → on_S → Option on_O) (hN : 100 ≤ n) (hk66 : ∀ (l1 : Int) (l3 : Int) (l4 : Int) (l5 : Int) (σ : on_S), on_G X E cX12_lands RX12 (some .boolean) 6 142 7 z n σ (k66 l1 l3 l4 l5 σ) 66 [some (.ref (z + 77)), some (.int (on_i l1)), none, some (.int (on_i l3)), some (.int (on_i l4)), some (.int (on_i l5)), none] []) (l1 : Int) (l3 : Int) (l4 : Int) (l5 : Int) (s1 : Int) (s2 : Int) (σ : on_S) : on_G X E cX12_lands RX12 (some .boolean) 6 142 7 z n σ (pf_X12_lands_133 k66 l1 l3 l4 l5 s1 s2 σ) 133 [some (.ref (z + 77)), some (.int (on_i l1)), none, some (.int (on_i l3)), some (.int (on_i l4)), some (.int (on_i l5)), none] [.int (on_i s2), .int (on_i s1), .ref (z + 78)] := by
  rw [pf_X12_lands_133]
  refine on_iast (ltc_78 hN) sh_78 (tk_X12_lands 77 rfl) fun σ12 => ?_
  refine on_inc5 rfl (tk_X12_lands 78 rfl) ?_
  refine on_goto (tk_X12_lands 79 rfl) (tgt := 66) (by decide) ?_
  exact hk66 _ _ _ _ _
set_option maxRecDepth 100000 in
set_option maxHeartbeats 4000000 in
theorem gl_X12_lands_66 {E : on_E} {z n : Nat} (X : on_X) (hN : 100 ≤ n) : ∀ (nf : Nat) (l1 : Int) (l3 : Int) (l4 : Int) (l5 : Int) (σ : on_S), on_G X E cX12_lands RX12 (some .boolean) 6 142 7 z n σ (pf_X12_lands_66 nf l1 l3 l4 l5 σ) 66 [some (.ref (z + 77)), some (.int (on_i l1)), none, some (.int (on_i l3)), some (.int (on_i l4)), some (.int (on_i l5)), none] [] := by
  intro nf
  induction nf with
  | zero => intro l1 l3 l4 l5 σ; exact on_none
  | succ nf ih =>
    intro l1 l3 l4 l5 σ
    rw [pf_X12_lands_66]
    refine on_il5 (tk_X12_lands 40 rfl) ?_
    refine on_iconst (tk_X12_lands 41 rfl) ?_
    refine on_icmp_ge (tk_X12_lands 42 rfl) (tgt := 140) (by decide) ?_ ?_
    · refine on_bipush (tk_X12_lands 43 rfl) bp_62 ?_
      refine on_bipush (tk_X12_lands 44 rfl) bp_7 ?_
      refine on_il1 (tk_X12_lands 45 rfl) ?_
      refine on_imul (tk_X12_lands 46 rfl) ?_
      refine on_iadd (tk_X12_lands 47 rfl) ?_
      refine on_iconst (tk_X12_lands 48 rfl) ?_
      refine on_iadd (tk_X12_lands 49 rfl) ?_
      refine on_il5 (tk_X12_lands 50 rfl) ?_
      refine on_iadd (tk_X12_lands 51 rfl) ?_
      refine on_is6 rfl (tk_X12_lands 52 rfl) ?_
      refine on_al0 (tk_X12_lands 53 rfl) ?_
      refine fg_12_1 hN kw_6_141 (tk_X12_lands 54 rfl) ?_
      refine on_il6 (tk_X12_lands 55 rfl) ?_
      refine on_il3 (tk_X12_lands 56 rfl) ?_
      refine on_if_eq (tk_X12_lands 57 rfl) (tgt := 113) (by decide) ?_ ?_
      · refine on_iconst (tk_X12_lands 58 rfl) ?_
        refine on_al0 (tk_X12_lands 59 rfl) ?_
        refine fg_12_1 hN kw_6_141 (tk_X12_lands 60 rfl) ?_
        refine on_il6 (tk_X12_lands 61 rfl) ?_
        refine on_iald (ltc_78 hN) sh_78 (tk_X12_lands 62 rfl) fun v10 => ?_
        refine on_il4 (tk_X12_lands 63 rfl) ?_
        refine on_isub (tk_X12_lands 64 rfl) ?_
        refine on_max kw_7_204 kwM_max_s kwM_i kwM_max_c rfl (tk_X12_lands 65 rfl) fun v11 => ?_
        refine on_goto (tk_X12_lands 66 rfl) (tgt := 133) (by decide) ?_
        refine on_dr6 ?_
        exact gb_X12_lands_133 X _ hN ih _ _ _ _ _ _ _
      · refine on_il5 (tk_X12_lands 67 rfl) ?_
        refine on_al0 (tk_X12_lands 68 rfl) ?_
        refine fg_12_16 hN kw_6_156 (tk_X12_lands 69 rfl) fun v13 => ?_
        refine on_icmp_ne (tk_X12_lands 70 rfl) (tgt := 126) (by decide) ?_ ?_
        · refine on_iconst (tk_X12_lands 71 rfl) ?_
          refine on_goto (tk_X12_lands 72 rfl) (tgt := 133) (by decide) ?_
          refine on_dr6 ?_
          exact gb_X12_lands_133 X _ hN ih _ _ _ _ _ _ _
        · refine on_al0 (tk_X12_lands 73 rfl) ?_
          refine fg_12_1 hN kw_6_141 (tk_X12_lands 74 rfl) ?_
          refine on_il6 (tk_X12_lands 75 rfl) ?_
          refine on_iald (ltc_78 hN) sh_78 (tk_X12_lands 76 rfl) fun v14 => ?_
          refine on_dr6 ?_
          exact gb_X12_lands_133 X _ hN ih _ _ _ _ _ _ _
    · refine on_il3 (tk_X12_lands 80 rfl) ?_
      exact on_zret (tk_X12_lands 81 rfl)
set_option maxRecDepth 100000 in
set_option maxHeartbeats 4000000 in
theorem gb_X12_lands_41 {E : on_E} {z n : Nat} (X : on_X) (hN : 100 ≤ n) (l1 : Int) (l3 : Int) (s1 : Int) (σ : on_S) : on_G X E cX12_lands RX12 (some .boolean) 6 142 7 z n σ (pf_X12_lands_41 l1 l3 s1 σ) 41 [some (.ref (z + 77)), some (.int (on_i l1)), none, some (.int (on_i l3)), none, none, none] [.int (on_i s1), .ref (z + 77)] := by
  rw [pf_X12_lands_41]
  refine fp_12_16 hN kw_6_156 (tk_X12_lands 25 rfl) fun σ3 => ?_
  refine on_al0 (tk_X12_lands 26 rfl) ?_
  refine on_il1 (tk_X12_lands 27 rfl) ?_
  refine on_iconst (tk_X12_lands 28 rfl) ?_
  refine on_cV2i 12 ms_X12_ofNet kw_7_162 rfl rfl (ltc_77 hN) sh_77 (ct_X12_ofNet hN) rfl (tk_X12_lands 29 rfl) fun v4 σ5 => ?_
  refine on_al0 (tk_X12_lands 30 rfl) ?_
  refine on_al0 (tk_X12_lands 31 rfl) ?_
  refine on_il1 (tk_X12_lands 32 rfl) ?_
  refine on_iconst (tk_X12_lands 33 rfl) ?_
  refine on_cV2i 12 ms_X12_ofNet kw_7_162 rfl rfl (ltc_77 hN) sh_77 (ct_X12_ofNet hN) rfl (tk_X12_lands 34 rfl) fun v6 σ7 => ?_
  refine on_cV1i 12 ms_X12_storeyOf kw_7_154 rfl rfl (ltc_77 hN) sh_77 (ct_X12_storeyOf hN) rfl (tk_X12_lands 35 rfl) fun v8 σ9 => ?_
  refine on_imul (tk_X12_lands 36 rfl) ?_
  refine on_is4 rfl (tk_X12_lands 37 rfl) ?_
  refine on_iconst (tk_X12_lands 38 rfl) ?_
  refine on_is5 rfl (tk_X12_lands 39 rfl) ?_
  exact gl_X12_lands_66 X  hN on_N _ _ _ _ _
set_option maxRecDepth 100000 in
set_option maxHeartbeats 4000000 in
theorem gb_X12_lands_14 {E : on_E} {z n : Nat} (X : on_X) (hN : 100 ≤ n) (l1 : Int) (s0 : Int) (σ : on_S) : on_G X E cX12_lands RX12 (some .boolean) 6 142 7 z n σ (pf_X12_lands_14 l1 s0 σ) 14 [some (.ref (z + 77)), some (.int (on_i l1)), none, none, none, none, none] [.int (on_i s0)] := by
  rw [pf_X12_lands_14]
  refine on_is3 rfl (tk_X12_lands 8 rfl) ?_
  refine on_al0 (tk_X12_lands 9 rfl) ?_
  refine on_il3 (tk_X12_lands 10 rfl) ?_
  refine on_if_eq (tk_X12_lands 11 rfl) (tgt := 24) (by decide) ?_ ?_
  · refine on_iconst (tk_X12_lands 12 rfl) ?_
    refine on_goto (tk_X12_lands 13 rfl) (tgt := 41) (by decide) ?_
    exact gb_X12_lands_41 X  hN _ _ _ _
  · refine on_al0 (tk_X12_lands 14 rfl) ?_
    refine on_il1 (tk_X12_lands 15 rfl) ?_
    refine on_al0 (tk_X12_lands 16 rfl) ?_
    refine on_il1 (tk_X12_lands 17 rfl) ?_
    refine on_iconst (tk_X12_lands 18 rfl) ?_
    refine on_cV2i 12 ms_X12_ofNet kw_7_162 rfl rfl (ltc_77 hN) sh_77 (ct_X12_ofNet hN) rfl (tk_X12_lands 19 rfl) fun v15 σ16 => ?_
    refine on_al0 (tk_X12_lands 20 rfl) ?_
    refine on_il1 (tk_X12_lands 21 rfl) ?_
    refine on_iconst (tk_X12_lands 22 rfl) ?_
    refine on_cV2i 12 ms_X12_ofNet kw_7_162 rfl rfl (ltc_77 hN) sh_77 (ct_X12_ofNet hN) rfl (tk_X12_lands 23 rfl) fun v17 σ18 => ?_
    refine on_cV3i 12 ms_X12_weakest kw_7_221 rfl rfl (ltc_77 hN) sh_77 (ct_X12_weakest hN) rfl (tk_X12_lands 24 rfl) fun v19 σ20 => ?_
    exact gb_X12_lands_41 X  hN _ _ _ _
set_option maxRecDepth 100000 in
set_option maxHeartbeats 4000000 in
theorem ct_X12_lands {E : on_E} {z n : Nat} {p0 : Int} {p1 : Int} (hN : 100 ≤ n) {σ : on_S} : on_Sp E yX12_lands cX12_lands 7 (some .boolean) 6 142 z n [.ref (z + 77), .int (on_i p0), .int (on_i p1)] σ (pf_X12_lands p0 p1 σ) := by
  refine on_met [some (.ref (z + 77)), some (.int (on_i p0)), some (.int (on_i p1)), none, none, none, none] (by decide) rfl rfl (fun X => ?_)
  rw [pf_X12_lands]
  refine on_il2 (tk_X12_lands 0 rfl) ?_
  refine on_al0 (tk_X12_lands 1 rfl) ?_
  refine on_il1 (tk_X12_lands 2 rfl) ?_
  refine on_cV1i 12 ms_X12_carries kw_7_205 rfl rfl (ltc_77 hN) sh_77 (ct_X12_carries hN) rfl (tk_X12_lands 3 rfl) fun v1 σ2 => ?_
  refine on_icmp_gt (tk_X12_lands 4 rfl) (tgt := 13) (by decide) ?_ ?_
  · refine on_iconst (tk_X12_lands 5 rfl) ?_
    refine on_goto (tk_X12_lands 6 rfl) (tgt := 14) (by decide) ?_
    refine on_dr2 ?_
    exact gb_X12_lands_14 X  hN _ _ _
  · refine on_iconst (tk_X12_lands 7 rfl) ?_
    refine on_dr2 ?_
    exact gb_X12_lands_14 X  hN _ _ _
def tb_X12_jump : List (Nat × Nat × Nat × Instr) := [(0, 1, 1, .aload_n 0), (1, 1, 2, .iload_n 1), (2, 3, 5, .invokevirtual 313), (5, 3, 8, .ifCond .ne 6), (8, 2, 10, .bipush (-2)), (10, 1, 11, .ireturn), (11, 1, 12, .aload_n 0), (12, 1, 13, .aload_n 0), (13, 1, 14, .iload_n 1), (14, 3, 17, .invokevirtual 105), (17, 3, 20, .invokevirtual 295), (20, 1, 21, .istore_n 2), (21, 1, 22, .iload_n 2), (22, 1, 23, .iconst (-1)), (23, 3, 26, .if_icmp .eq 15), (26, 1, 27, .aload_n 0), (27, 3, 30, .getfield 9), (30, 2, 32, .bipush 6), (32, 1, 33, .iaload), (33, 2, 35, .bipush 60), (35, 3, 38, .if_icmp .ne 6), (38, 2, 40, .bipush (-5)), (40, 1, 41, .ireturn), (41, 3, 44, .sipush 207), (44, 2, 46, .bipush 8), (46, 1, 47, .aload_n 0), (47, 3, 50, .getfield 9), (50, 2, 52, .bipush 6), (52, 1, 53, .iaload), (53, 1, 54, .imul), (54, 1, 55, .iadd), (55, 1, 56, .istore_n 3), (56, 1, 57, .iconst 0), (57, 2, 59, .istore 4), (59, 2, 61, .iload 4), (61, 1, 62, .iconst 4), (62, 3, 65, .if_icmp .ge 29), (65, 1, 66, .aload_n 0), (66, 3, 69, .getfield 9), (69, 1, 70, .iload_n 3), (70, 1, 71, .iconst 4), (71, 1, 72, .iadd), (72, 2, 74, .iload 4), (74, 1, 75, .iadd), (75, 1, 76, .aload_n 0), (76, 1, 77, .iload_n 2), (77, 1, 78, .iconst 3), (78, 2, 80, .iload 4), (80, 1, 81, .iadd), (81, 3, 84, .invokevirtual 94), (84, 1, 85, .iastore), (85, 3, 88, .iinc 4 1), (88, 3, 91, .goto (-29)), (91, 1, 92, .aload_n 0), (92, 3, 95, .getfield 9), (95, 1, 96, .iload_n 3), (96, 1, 97, .iload_n 1), (97, 1, 98, .iastore), (98, 1, 99, .aload_n 0), (99, 3, 102, .getfield 9), (102, 1, 103, .iload_n 3), (103, 1, 104, .iconst 1), (104, 1, 105, .iadd), (105, 1, 106, .aload_n 0), (106, 1, 107, .iload_n 2), (107, 1, 108, .aload_n 0), (108, 1, 109, .iload_n 1), (109, 3, 112, .invokevirtual 289), (112, 3, 115, .invokevirtual 333), (115, 3, 118, .ifCond .eq 7), (118, 1, 119, .iconst 1), (119, 3, 122, .goto 4), (122, 1, 123, .iconst 0), (123, 1, 124, .iastore), (124, 1, 125, .aload_n 0), (125, 3, 128, .getfield 9), (128, 1, 129, .iload_n 3), (129, 1, 130, .iconst 2), (130, 1, 131, .iadd), (131, 1, 132, .aload_n 0), (132, 3, 135, .getfield 330), (135, 1, 136, .iastore), (136, 1, 137, .aload_n 0), (137, 3, 140, .getfield 9), (140, 1, 141, .iload_n 3), (141, 1, 142, .iconst 3), (142, 1, 143, .iadd), (143, 1, 144, .iload_n 2), (144, 1, 145, .iastore), (145, 1, 146, .aload_n 0), (146, 3, 149, .getfield 9), (149, 2, 151, .bipush 6), (151, 1, 152, .dup2), (152, 1, 153, .iaload), (153, 1, 154, .iconst 1), (154, 1, 155, .iadd), (155, 1, 156, .iastore), (156, 1, 157, .aload_n 0), (157, 3, 160, .getfield 9), (160, 1, 161, .iload_n 3), (161, 1, 162, .iconst 1), (162, 1, 163, .iadd), (163, 1, 164, .iaload), (164, 1, 165, .ireturn)]
set_option maxRecDepth 100000 in
theorem tk_X12_jump (k : Nat) {pc n pc2 : Nat} {i : Instr} (hk : tb_X12_jump[k]? = some (pc, n, pc2, i)) : on_dq cX12_jump pc n pc2 i := on_ta (by decide +kernel) k hk
theorem ms_X12_jump : on_Mv yX12_jump cX12_jump 5 (some .int) 1 := ⟨kw_8_64, kw_8_62, kw_8_63, kw_1_13, by decide, by decide, by decide +kernel⟩
def pf_X12_jump_123 (l2 : Int) (l3 : Int) (s1 : Int) (s2 : Int) (σ : on_S) : Option on_O :=
  on_Wr σ 78 687 s1 s2 fun σ17 =>
  on_Gt σ17 77 16 fun v18 =>
  on_Wr σ17 78 687 (l3 + 2) v18 fun σ19 =>
  on_Wr σ19 78 687 (l3 + 3) l2 fun σ20 =>
  on_Rd σ20 78 687 6 fun v21 =>
  on_Wr σ20 78 687 6 (v21 + 1) fun σ22 =>
  on_Rd σ22 78 687 (l3 + 1) fun v23 =>
  some (v23, σ22)
def pf_X12_jump_59 : Nat → Int → Int → Int → Int → on_S → Option on_O
  | 0, _, _, _, _, _ => none
  | nf + 1, l1, l2, l3, l4, σ =>
    on_Lt l4 4 (
      on_Cl (pf_X12_ofNet l2 (3 + l4) σ) fun v9 σ10 =>
      on_Wr σ10 78 687 ((l3 + 4) + l4) v9 fun σ11 =>
      pf_X12_jump_59 nf l1 l2 l3 (l4 + 1) σ11) (
      on_Wr σ 78 687 l3 l1 fun σ12 =>
      on_Cl (pf_X12_forceOf l1 σ12) fun v13 σ14 =>
      on_Cl (pf_X12_lands l2 v13 σ14) fun v15 σ16 =>
      on_Eq v15 0 (
        pf_X12_jump_123 l2 l3 (l3 + 1) 0 σ16) (
        pf_X12_jump_123 l2 l3 (l3 + 1) 1 σ16))
def pf_X12_jump (p0 : Int) (σ : on_S) : Option on_O :=
  on_Cl (pf_X12_isJumper p0 σ) fun v1 σ2 =>
  on_Eq v1 0 (
    some ((-2), σ2)) (
    on_Cl (pf_X12_windowOf p0 σ2) fun v3 σ4 =>
    on_Cl (pf_X12_netAt v3 σ4) fun v5 σ6 =>
    on_Eq v5 (-1) (
      some ((-5), σ6)) (
      on_Rd σ6 78 687 6 fun v7 =>
      on_Eq v7 60 (
        some ((-5), σ6)) (
        on_Rd σ6 78 687 6 fun v8 =>
        pf_X12_jump_59 on_N p0 v5 (207 + (8 * v8)) 0 σ6)))
set_option maxRecDepth 100000 in
set_option maxHeartbeats 4000000 in
theorem gb_X12_jump_123 {E : on_E} {z n : Nat} (X : on_X) (hN : 100 ≤ n) (l2 : Int) (l3 : Int) (s1 : Int) (s2 : Int) (σ : on_S) : on_G X E cX12_jump RX12 (some .int) 7 168 5 z n σ (pf_X12_jump_123 l2 l3 s1 s2 σ) 123 [some (.ref (z + 77)), none, some (.int (on_i l2)), some (.int (on_i l3)), none] [.int (on_i s2), .int (on_i s1), .ref (z + 78)] := by
  rw [pf_X12_jump_123]
  refine on_iast (ltc_78 hN) sh_78 (tk_X12_jump 73 rfl) fun σ17 => ?_
  refine on_al0 (tk_X12_jump 74 rfl) ?_
  refine fg_12_1 hN kw_6_141 (tk_X12_jump 75 rfl) ?_
  refine on_il3 (tk_X12_jump 76 rfl) ?_
  refine on_iconst (tk_X12_jump 77 rfl) ?_
  refine on_iadd (tk_X12_jump 78 rfl) ?_
  refine on_al0 (tk_X12_jump 79 rfl) ?_
  refine fg_12_16 hN kw_6_156 (tk_X12_jump 80 rfl) fun v18 => ?_
  refine on_iast (ltc_78 hN) sh_78 (tk_X12_jump 81 rfl) fun σ19 => ?_
  refine on_al0 (tk_X12_jump 82 rfl) ?_
  refine fg_12_1 hN kw_6_141 (tk_X12_jump 83 rfl) ?_
  refine on_il3 (tk_X12_jump 84 rfl) ?_
  refine on_iconst (tk_X12_jump 85 rfl) ?_
  refine on_iadd (tk_X12_jump 86 rfl) ?_
  refine on_il2 (tk_X12_jump 87 rfl) ?_
  refine on_iast (ltc_78 hN) sh_78 (tk_X12_jump 88 rfl) fun σ20 => ?_
  refine on_al0 (tk_X12_jump 89 rfl) ?_
  refine fg_12_1 hN kw_6_141 (tk_X12_jump 90 rfl) ?_
  refine on_bipush (tk_X12_jump 91 rfl) bp_6 ?_
  refine on_dup2 rfl rfl (tk_X12_jump 92 rfl) ?_
  refine on_iald (ltc_78 hN) sh_78 (tk_X12_jump 93 rfl) fun v21 => ?_
  refine on_iconst (tk_X12_jump 94 rfl) ?_
  refine on_iadd (tk_X12_jump 95 rfl) ?_
  refine on_iast (ltc_78 hN) sh_78 (tk_X12_jump 96 rfl) fun σ22 => ?_
  refine on_al0 (tk_X12_jump 97 rfl) ?_
  refine fg_12_1 hN kw_6_141 (tk_X12_jump 98 rfl) ?_
  refine on_il3 (tk_X12_jump 99 rfl) ?_
  refine on_iconst (tk_X12_jump 100 rfl) ?_
  refine on_iadd (tk_X12_jump 101 rfl) ?_
  refine on_iald (ltc_78 hN) sh_78 (tk_X12_jump 102 rfl) fun v23 => ?_
  exact on_iret (tk_X12_jump 103 rfl)
set_option maxRecDepth 100000 in
set_option maxHeartbeats 4000000 in
theorem gl_X12_jump_59 {E : on_E} {z n : Nat} (X : on_X) (hN : 100 ≤ n) : ∀ (nf : Nat) (l1 : Int) (l2 : Int) (l3 : Int) (l4 : Int) (σ : on_S), on_G X E cX12_jump RX12 (some .int) 7 168 5 z n σ (pf_X12_jump_59 nf l1 l2 l3 l4 σ) 59 [some (.ref (z + 77)), some (.int (on_i l1)), some (.int (on_i l2)), some (.int (on_i l3)), some (.int (on_i l4))] [] := by
  intro nf
  induction nf with
  | zero => intro l1 l2 l3 l4 σ; exact on_none
  | succ nf ih =>
    intro l1 l2 l3 l4 σ
    rw [pf_X12_jump_59]
    refine on_il4 (tk_X12_jump 34 rfl) ?_
    refine on_iconst (tk_X12_jump 35 rfl) ?_
    refine on_icmp_ge (tk_X12_jump 36 rfl) (tgt := 91) (by decide) ?_ ?_
    · refine on_al0 (tk_X12_jump 37 rfl) ?_
      refine fg_12_1 hN kw_6_141 (tk_X12_jump 38 rfl) ?_
      refine on_il3 (tk_X12_jump 39 rfl) ?_
      refine on_iconst (tk_X12_jump 40 rfl) ?_
      refine on_iadd (tk_X12_jump 41 rfl) ?_
      refine on_il4 (tk_X12_jump 42 rfl) ?_
      refine on_iadd (tk_X12_jump 43 rfl) ?_
      refine on_al0 (tk_X12_jump 44 rfl) ?_
      refine on_il2 (tk_X12_jump 45 rfl) ?_
      refine on_iconst (tk_X12_jump 46 rfl) ?_
      refine on_il4 (tk_X12_jump 47 rfl) ?_
      refine on_iadd (tk_X12_jump 48 rfl) ?_
      refine on_cV2i 12 ms_X12_ofNet kw_7_162 rfl rfl (ltc_77 hN) sh_77 (ct_X12_ofNet hN) rfl (tk_X12_jump 49 rfl) fun v9 σ10 => ?_
      refine on_iast (ltc_78 hN) sh_78 (tk_X12_jump 50 rfl) fun σ11 => ?_
      refine on_inc4 rfl (tk_X12_jump 51 rfl) ?_
      refine on_goto (tk_X12_jump 52 rfl) (tgt := 59) (by decide) ?_
      exact ih _ _ _ _ _
    · refine on_al0 (tk_X12_jump 53 rfl) ?_
      refine fg_12_1 hN kw_6_141 (tk_X12_jump 54 rfl) ?_
      refine on_il3 (tk_X12_jump 55 rfl) ?_
      refine on_il1 (tk_X12_jump 56 rfl) ?_
      refine on_iast (ltc_78 hN) sh_78 (tk_X12_jump 57 rfl) fun σ12 => ?_
      refine on_al0 (tk_X12_jump 58 rfl) ?_
      refine fg_12_1 hN kw_6_141 (tk_X12_jump 59 rfl) ?_
      refine on_il3 (tk_X12_jump 60 rfl) ?_
      refine on_iconst (tk_X12_jump 61 rfl) ?_
      refine on_iadd (tk_X12_jump 62 rfl) ?_
      refine on_al0 (tk_X12_jump 63 rfl) ?_
      refine on_il2 (tk_X12_jump 64 rfl) ?_
      refine on_al0 (tk_X12_jump 65 rfl) ?_
      refine on_il1 (tk_X12_jump 66 rfl) ?_
      refine on_cV1i 12 ms_X12_forceOf kw_7_196 rfl rfl (ltc_77 hN) sh_77 (ct_X12_forceOf hN) rfl (tk_X12_jump 67 rfl) fun v13 σ14 => ?_
      refine on_cV2z 12 ms_X12_lands kw_8_65 rfl rfl (ltc_77 hN) sh_77 (ct_X12_lands hN) rfl (tk_X12_jump 68 rfl) fun v15 σ16 => ?_
      refine on_if_eq (tk_X12_jump 69 rfl) (tgt := 122) (by decide) ?_ ?_
      · refine on_iconst (tk_X12_jump 70 rfl) ?_
        refine on_goto (tk_X12_jump 71 rfl) (tgt := 123) (by decide) ?_
        refine on_dr1 ?_
        refine on_dr4 ?_
        exact gb_X12_jump_123 X  hN _ _ _ _ _
      · refine on_iconst (tk_X12_jump 72 rfl) ?_
        refine on_dr1 ?_
        refine on_dr4 ?_
        exact gb_X12_jump_123 X  hN _ _ _ _ _
set_option maxRecDepth 100000 in
set_option maxHeartbeats 4000000 in
theorem ct_X12_jump {E : on_E} {z n : Nat} {p0 : Int} (hN : 100 ≤ n) {σ : on_S} : on_Sp E yX12_jump cX12_jump 5 (some .int) 7 168 z n [.ref (z + 77), .int (on_i p0)] σ (pf_X12_jump p0 σ) := by
  refine on_met [some (.ref (z + 77)), some (.int (on_i p0)), none, none, none] (by decide) rfl rfl (fun X => ?_)
  rw [pf_X12_jump]
  refine on_al0 (tk_X12_jump 0 rfl) ?_
  refine on_il1 (tk_X12_jump 1 rfl) ?_
  refine on_cV1z 12 ms_X12_isJumper kw_8_12 rfl rfl (ltc_77 hN) sh_77 (ct_X12_isJumper hN) rfl (tk_X12_jump 2 rfl) fun v1 σ2 => ?_
  refine on_if_ne (tk_X12_jump 3 rfl) (tgt := 11) (by decide) ?_ ?_
  · refine on_bipush (tk_X12_jump 4 rfl) bp_m2 ?_
    exact on_iret (tk_X12_jump 5 rfl)
  · refine on_al0 (tk_X12_jump 6 rfl) ?_
    refine on_al0 (tk_X12_jump 7 rfl) ?_
    refine on_il1 (tk_X12_jump 8 rfl) ?_
    refine on_cV1i 12 ms_X12_windowOf kw_7_192 rfl rfl (ltc_77 hN) sh_77 (ct_X12_windowOf hN) rfl (tk_X12_jump 9 rfl) fun v3 σ4 => ?_
    refine on_cV1i 12 ms_X12_netAt kw_7_158 rfl rfl (ltc_77 hN) sh_77 (ct_X12_netAt hN) rfl (tk_X12_jump 10 rfl) fun v5 σ6 => ?_
    refine on_is2 rfl (tk_X12_jump 11 rfl) ?_
    refine on_il2 (tk_X12_jump 12 rfl) ?_
    refine on_iconst (tk_X12_jump 13 rfl) ?_
    refine on_icmp_eq (tk_X12_jump 14 rfl) (tgt := 38) (by decide) ?_ ?_
    · refine on_al0 (tk_X12_jump 15 rfl) ?_
      refine fg_12_1 hN kw_6_141 (tk_X12_jump 16 rfl) ?_
      refine on_bipush (tk_X12_jump 17 rfl) bp_6 ?_
      refine on_iald (ltc_78 hN) sh_78 (tk_X12_jump 18 rfl) fun v7 => ?_
      refine on_bipush (tk_X12_jump 19 rfl) bp_60 ?_
      refine on_icmp_ne (tk_X12_jump 20 rfl) (tgt := 41) (by decide) ?_ ?_
      · refine on_bipush (tk_X12_jump 21 rfl) bp_m5 ?_
        exact on_iret (tk_X12_jump 22 rfl)
      · refine on_sipush (tk_X12_jump 23 rfl) sp_207 ?_
        refine on_bipush (tk_X12_jump 24 rfl) bp_8 ?_
        refine on_al0 (tk_X12_jump 25 rfl) ?_
        refine fg_12_1 hN kw_6_141 (tk_X12_jump 26 rfl) ?_
        refine on_bipush (tk_X12_jump 27 rfl) bp_6 ?_
        refine on_iald (ltc_78 hN) sh_78 (tk_X12_jump 28 rfl) fun v8 => ?_
        refine on_imul (tk_X12_jump 29 rfl) ?_
        refine on_iadd (tk_X12_jump 30 rfl) ?_
        refine on_is3 rfl (tk_X12_jump 31 rfl) ?_
        refine on_iconst (tk_X12_jump 32 rfl) ?_
        refine on_is4 rfl (tk_X12_jump 33 rfl) ?_
        exact gl_X12_jump_59 X  hN on_N _ _ _ _ _
    · refine on_bipush (tk_X12_jump 21 rfl) bp_m5 ?_
      exact on_iret (tk_X12_jump 22 rfl)
def tb_X12_undo : List (Nat × Nat × Nat × Instr) := [(0, 1, 1, .aload_n 0), (1, 3, 4, .invokevirtual 336), (4, 3, 7, .ifCond .ne 6), (7, 2, 9, .bipush (-2)), (9, 1, 10, .ireturn), (10, 1, 11, .aload_n 0), (11, 3, 14, .getfield 9), (14, 2, 16, .bipush 6), (16, 1, 17, .iaload), (17, 3, 20, .ifCond .ne 6), (20, 2, 22, .bipush (-5)), (22, 1, 23, .ireturn), (23, 1, 24, .aload_n 0), (24, 3, 27, .getfield 9), (27, 2, 29, .bipush 6), (29, 1, 30, .dup2), (30, 1, 31, .iaload), (31, 1, 32, .iconst 1), (32, 1, 33, .isub), (33, 1, 34, .iastore), (34, 3, 37, .sipush 207), (37, 2, 39, .bipush 8), (39, 1, 40, .aload_n 0), (40, 3, 43, .getfield 9), (43, 2, 45, .bipush 6), (45, 1, 46, .iaload), (46, 1, 47, .imul), (47, 1, 48, .iadd), (48, 1, 49, .istore_n 1), (49, 1, 50, .iconst 0), (50, 1, 51, .istore_n 2), (51, 1, 52, .iload_n 2), (52, 1, 53, .iconst 4), (53, 3, 56, .if_icmp .ge 42), (56, 1, 57, .aload_n 0), (57, 3, 60, .getfield 9), (60, 2, 62, .bipush 62), (62, 2, 64, .bipush 7), (64, 1, 65, .aload_n 0), (65, 3, 68, .getfield 9), (68, 1, 69, .iload_n 1), (69, 1, 70, .iconst 3), (70, 1, 71, .iadd), (71, 1, 72, .iaload), (72, 1, 73, .imul), (73, 1, 74, .iadd), (74, 1, 75, .iconst 3), (75, 1, 76, .iadd), (76, 1, 77, .iload_n 2), (77, 1, 78, .iadd), (78, 1, 79, .aload_n 0), (79, 3, 82, .getfield 9), (82, 1, 83, .iload_n 1), (83, 1, 84, .iconst 4), (84, 1, 85, .iadd), (85, 1, 86, .iload_n 2), (86, 1, 87, .iadd), (87, 1, 88, .iaload), (88, 1, 89, .iastore), (89, 3, 92, .iinc 2 1), (92, 3, 95, .goto (-41)), (95, 1, 96, .aload_n 0), (96, 3, 99, .getfield 9), (99, 2, 101, .bipush 6), (101, 1, 102, .iaload), (102, 1, 103, .ireturn)]
set_option maxRecDepth 100000 in
theorem tk_X12_undo (k : Nat) {pc n pc2 : Nat} {i : Instr} (hk : tb_X12_undo[k]? = some (pc, n, pc2, i)) : on_dq cX12_undo pc n pc2 i := on_ta (by decide +kernel) k hk
theorem ms_X12_undo : on_Mv yX12_undo cX12_undo 3 (some .int) 0 := ⟨kw_8_72, kw_8_70, kw_8_71, kw_1_13, by decide, by decide, by decide +kernel⟩
def pf_X12_undo_51 : Nat → Int → Int → on_S → Option on_O
  | 0, _, _, _ => none
  | nf + 1, l1, l2, σ =>
    on_Lt l2 4 (
      on_Rd σ 78 687 (l1 + 3) fun v7 =>
      on_Rd σ 78 687 ((l1 + 4) + l2) fun v8 =>
      on_Wr σ 78 687 (((62 + (7 * v7)) + 3) + l2) v8 fun σ9 =>
      pf_X12_undo_51 nf l1 (l2 + 1) σ9) (
      on_Rd σ 78 687 6 fun v10 =>
      some (v10, σ))
def pf_X12_undo (σ : on_S) : Option on_O :=
  on_Cl (pf_X12_isStreet σ) fun v1 σ2 =>
  on_Eq v1 0 (
    some ((-2), σ2)) (
    on_Rd σ2 78 687 6 fun v3 =>
    on_Eq v3 0 (
      some ((-5), σ2)) (
      on_Rd σ2 78 687 6 fun v4 =>
      on_Wr σ2 78 687 6 (v4 - 1) fun σ5 =>
      on_Rd σ5 78 687 6 fun v6 =>
      pf_X12_undo_51 on_N (207 + (8 * v6)) 0 σ5))
set_option maxRecDepth 100000 in
set_option maxHeartbeats 4000000 in
theorem gl_X12_undo_51 {E : on_E} {z n : Nat} (X : on_X) (hN : 100 ≤ n) : ∀ (nf : Nat) (l1 : Int) (l2 : Int) (σ : on_S), on_G X E cX12_undo RX12 (some .int) 1 20 3 z n σ (pf_X12_undo_51 nf l1 l2 σ) 51 [some (.ref (z + 77)), some (.int (on_i l1)), some (.int (on_i l2))] [] := by
  intro nf
  induction nf with
  | zero => intro l1 l2 σ; exact on_none
  | succ nf ih =>
    intro l1 l2 σ
    rw [pf_X12_undo_51]
    refine on_il2 (tk_X12_undo 31 rfl) ?_
    refine on_iconst (tk_X12_undo 32 rfl) ?_
    refine on_icmp_ge (tk_X12_undo 33 rfl) (tgt := 95) (by decide) ?_ ?_
    · refine on_al0 (tk_X12_undo 34 rfl) ?_
      refine fg_12_1 hN kw_6_141 (tk_X12_undo 35 rfl) ?_
      refine on_bipush (tk_X12_undo 36 rfl) bp_62 ?_
      refine on_bipush (tk_X12_undo 37 rfl) bp_7 ?_
      refine on_al0 (tk_X12_undo 38 rfl) ?_
      refine fg_12_1 hN kw_6_141 (tk_X12_undo 39 rfl) ?_
      refine on_il1 (tk_X12_undo 40 rfl) ?_
      refine on_iconst (tk_X12_undo 41 rfl) ?_
      refine on_iadd (tk_X12_undo 42 rfl) ?_
      refine on_iald (ltc_78 hN) sh_78 (tk_X12_undo 43 rfl) fun v7 => ?_
      refine on_imul (tk_X12_undo 44 rfl) ?_
      refine on_iadd (tk_X12_undo 45 rfl) ?_
      refine on_iconst (tk_X12_undo 46 rfl) ?_
      refine on_iadd (tk_X12_undo 47 rfl) ?_
      refine on_il2 (tk_X12_undo 48 rfl) ?_
      refine on_iadd (tk_X12_undo 49 rfl) ?_
      refine on_al0 (tk_X12_undo 50 rfl) ?_
      refine fg_12_1 hN kw_6_141 (tk_X12_undo 51 rfl) ?_
      refine on_il1 (tk_X12_undo 52 rfl) ?_
      refine on_iconst (tk_X12_undo 53 rfl) ?_
      refine on_iadd (tk_X12_undo 54 rfl) ?_
      refine on_il2 (tk_X12_undo 55 rfl) ?_
      refine on_iadd (tk_X12_undo 56 rfl) ?_
      refine on_iald (ltc_78 hN) sh_78 (tk_X12_undo 57 rfl) fun v8 => ?_
      refine on_iast (ltc_78 hN) sh_78 (tk_X12_undo 58 rfl) fun σ9 => ?_
      refine on_inc2 rfl (tk_X12_undo 59 rfl) ?_
      refine on_goto (tk_X12_undo 60 rfl) (tgt := 51) (by decide) ?_
      exact ih _ _ _
    · refine on_al0 (tk_X12_undo 61 rfl) ?_
      refine fg_12_1 hN kw_6_141 (tk_X12_undo 62 rfl) ?_
      refine on_bipush (tk_X12_undo 63 rfl) bp_6 ?_
      refine on_iald (ltc_78 hN) sh_78 (tk_X12_undo 64 rfl) fun v10 => ?_
      exact on_iret (tk_X12_undo 65 rfl)
set_option maxRecDepth 100000 in
set_option maxHeartbeats 4000000 in
theorem ct_X12_undo {E : on_E} {z n : Nat} (hN : 100 ≤ n) {σ : on_S} : on_Sp E yX12_undo cX12_undo 3 (some .int) 1 20 z n [.ref (z + 77)] σ (pf_X12_undo  σ) := by
  refine on_met [some (.ref (z + 77)), none, none] (by decide) rfl rfl (fun X => ?_)
  rw [pf_X12_undo]
  refine on_al0 (tk_X12_undo 0 rfl) ?_
  refine on_cV0z 12 ms_X12_isStreet kw_8_73 rfl rfl (ltc_77 hN) sh_77 (ct_X12_isStreet hN) rfl (tk_X12_undo 1 rfl) fun v1 σ2 => ?_
  refine on_if_ne (tk_X12_undo 2 rfl) (tgt := 10) (by decide) ?_ ?_
  · refine on_bipush (tk_X12_undo 3 rfl) bp_m2 ?_
    exact on_iret (tk_X12_undo 4 rfl)
  · refine on_al0 (tk_X12_undo 5 rfl) ?_
    refine fg_12_1 hN kw_6_141 (tk_X12_undo 6 rfl) ?_
    refine on_bipush (tk_X12_undo 7 rfl) bp_6 ?_
    refine on_iald (ltc_78 hN) sh_78 (tk_X12_undo 8 rfl) fun v3 => ?_
    refine on_if_ne (tk_X12_undo 9 rfl) (tgt := 23) (by decide) ?_ ?_
    · refine on_bipush (tk_X12_undo 10 rfl) bp_m5 ?_
      exact on_iret (tk_X12_undo 11 rfl)
    · refine on_al0 (tk_X12_undo 12 rfl) ?_
      refine fg_12_1 hN kw_6_141 (tk_X12_undo 13 rfl) ?_
      refine on_bipush (tk_X12_undo 14 rfl) bp_6 ?_
      refine on_dup2 rfl rfl (tk_X12_undo 15 rfl) ?_
      refine on_iald (ltc_78 hN) sh_78 (tk_X12_undo 16 rfl) fun v4 => ?_
      refine on_iconst (tk_X12_undo 17 rfl) ?_
      refine on_isub (tk_X12_undo 18 rfl) ?_
      refine on_iast (ltc_78 hN) sh_78 (tk_X12_undo 19 rfl) fun σ5 => ?_
      refine on_sipush (tk_X12_undo 20 rfl) sp_207 ?_
      refine on_bipush (tk_X12_undo 21 rfl) bp_8 ?_
      refine on_al0 (tk_X12_undo 22 rfl) ?_
      refine fg_12_1 hN kw_6_141 (tk_X12_undo 23 rfl) ?_
      refine on_bipush (tk_X12_undo 24 rfl) bp_6 ?_
      refine on_iald (ltc_78 hN) sh_78 (tk_X12_undo 25 rfl) fun v6 => ?_
      refine on_imul (tk_X12_undo 26 rfl) ?_
      refine on_iadd (tk_X12_undo 27 rfl) ?_
      refine on_is1 rfl (tk_X12_undo 28 rfl) ?_
      refine on_iconst (tk_X12_undo 29 rfl) ?_
      refine on_is2 rfl (tk_X12_undo 30 rfl) ?_
      exact gl_X12_undo_51 X  hN on_N _ _ _
def tb_X12_led : List (Nat × Nat × Nat × Instr) := [(0, 1, 1, .aload_n 0), (1, 3, 4, .invokevirtual 336), (4, 3, 7, .ifCond .eq 15), (7, 1, 8, .iload_n 2), (8, 1, 9, .i2l), (9, 1, 10, .lconst 0), (10, 3, 13, .ldc2_w 86), (13, 3, 16, .invokestatic 88), (16, 3, 19, .ifCond .ne 6), (19, 2, 21, .bipush (-2)), (21, 1, 22, .ireturn), (22, 1, 23, .iload_n 1), (23, 1, 24, .i2l), (24, 1, 25, .lconst 0), (25, 1, 26, .aload_n 0), (26, 3, 29, .getfield 9), (29, 2, 31, .bipush 6), (31, 1, 32, .iaload), (32, 1, 33, .iconst 1), (33, 1, 34, .isub), (34, 1, 35, .i2l), (35, 3, 38, .invokestatic 88), (38, 3, 41, .ifCond .eq 21), (41, 1, 42, .aload_n 0), (42, 3, 45, .getfield 9), (45, 3, 48, .sipush 207), (48, 2, 50, .bipush 8), (50, 1, 51, .iload_n 1), (51, 1, 52, .imul), (52, 1, 53, .iadd), (53, 1, 54, .iload_n 2), (54, 1, 55, .iadd), (55, 1, 56, .iaload), (56, 3, 59, .goto 4), (59, 1, 60, .iconst (-1)), (60, 1, 61, .ireturn)]
set_option maxRecDepth 100000 in
theorem tk_X12_led (k : Nat) {pc n pc2 : Nat} {i : Instr} (hk : tb_X12_led[k]? = some (pc, n, pc2, i)) : on_dq cX12_led pc n pc2 i := on_ta (by decide +kernel) k hk
theorem ms_X12_led : on_Mv yX12_led cX12_led 3 (some .int) 2 := ⟨kw_8_80, kw_8_78, kw_8_79, kw_1_13, by decide, by decide, by decide +kernel⟩
def pf_X12_led (p0 : Int) (p1 : Int) (σ : on_S) : Option on_O :=
  on_Cl (pf_X12_isStreet σ) fun v1 σ2 =>
  on_Eq v1 0 (
    some ((-2), σ2)) (
    on_Ck p1 <|
    on_Cl (pf_X12_in p1 0 2 σ2) fun v3 σ4 =>
    on_Eq v3 0 (
      some ((-2), σ4)) (
      on_Ck p0 <|
      on_Rd σ4 78 687 6 fun v5 =>
      on_Ck (v5 - 1) <|
      on_Cl (pf_X12_in p0 0 (v5 - 1) σ4) fun v6 σ7 =>
      on_Eq v6 0 (
        some ((-1), σ7)) (
        on_Rd σ7 78 687 ((207 + (8 * p0)) + p1) fun v8 =>
        some (v8, σ7))))
set_option maxRecDepth 100000 in
set_option maxHeartbeats 4000000 in
theorem ct_X12_led {E : on_E} {z n : Nat} {p0 : Int} {p1 : Int} (hN : 100 ≤ n) {σ : on_S} : on_Sp E yX12_led cX12_led 3 (some .int) 1 25 z n [.ref (z + 77), .int (on_i p0), .int (on_i p1)] σ (pf_X12_led p0 p1 σ) := by
  refine on_met [some (.ref (z + 77)), some (.int (on_i p0)), some (.int (on_i p1))] (by decide) rfl rfl (fun X => ?_)
  rw [pf_X12_led]
  refine on_al0 (tk_X12_led 0 rfl) ?_
  refine on_cV0z 12 ms_X12_isStreet kw_8_73 rfl rfl (ltc_77 hN) sh_77 (ct_X12_isStreet hN) rfl (tk_X12_led 1 rfl) fun v1 σ2 => ?_
  refine on_if_eq (tk_X12_led 2 rfl) (tgt := 19) (by decide) ?_ ?_
  · refine on_il2 (tk_X12_led 3 rfl) ?_
    refine on_xi2l (tk_X12_led 4 rfl) ?_
    refine on_lconst0 (tk_X12_led 5 rfl) ?_
    refine on_ldc2 (a := 2) kw_7_17 (by decide +kernel) (tk_X12_led 6 rfl) ?_
    refine on_cS3z ms_X12_in kw_7_18 (ct_X12_in hN) rfl (tk_X12_led 7 rfl) fun v3 σ4 => ?_
    refine on_if_ne (tk_X12_led 8 rfl) (tgt := 22) (by decide) ?_ ?_
    · refine on_bipush (tk_X12_led 9 rfl) bp_m2 ?_
      exact on_iret (tk_X12_led 10 rfl)
    · refine on_il1 (tk_X12_led 11 rfl) ?_
      refine on_xi2l (tk_X12_led 12 rfl) ?_
      refine on_lconst0 (tk_X12_led 13 rfl) ?_
      refine on_al0 (tk_X12_led 14 rfl) ?_
      refine fg_12_1 hN kw_6_141 (tk_X12_led 15 rfl) ?_
      refine on_bipush (tk_X12_led 16 rfl) bp_6 ?_
      refine on_iald (ltc_78 hN) sh_78 (tk_X12_led 17 rfl) fun v5 => ?_
      refine on_iconst (tk_X12_led 18 rfl) ?_
      refine on_isub (tk_X12_led 19 rfl) ?_
      refine on_xi2l (tk_X12_led 20 rfl) ?_
      refine on_cS3z ms_X12_in kw_7_18 (ct_X12_in hN) rfl (tk_X12_led 21 rfl) fun v6 σ7 => ?_
      refine on_if_eq (tk_X12_led 22 rfl) (tgt := 59) (by decide) ?_ ?_
      · refine on_al0 (tk_X12_led 23 rfl) ?_
        refine fg_12_1 hN kw_6_141 (tk_X12_led 24 rfl) ?_
        refine on_sipush (tk_X12_led 25 rfl) sp_207 ?_
        refine on_bipush (tk_X12_led 26 rfl) bp_8 ?_
        refine on_il1 (tk_X12_led 27 rfl) ?_
        refine on_imul (tk_X12_led 28 rfl) ?_
        refine on_iadd (tk_X12_led 29 rfl) ?_
        refine on_il2 (tk_X12_led 30 rfl) ?_
        refine on_iadd (tk_X12_led 31 rfl) ?_
        refine on_iald (ltc_78 hN) sh_78 (tk_X12_led 32 rfl) fun v8 => ?_
        refine on_goto (tk_X12_led 33 rfl) (tgt := 60) (by decide) ?_
        exact on_iret (tk_X12_led 35 rfl)
      · refine on_iconst (tk_X12_led 34 rfl) ?_
        exact on_iret (tk_X12_led 35 rfl)
  · refine on_bipush (tk_X12_led 9 rfl) bp_m2 ?_
    exact on_iret (tk_X12_led 10 rfl)
def tb_X12_keepKnots : List (Nat × Nat × Nat × Instr) := [(0, 1, 1, .iconst 0), (1, 1, 2, .istore_n 1), (2, 1, 3, .iload_n 1), (3, 1, 4, .iconst 2), (4, 3, 7, .if_icmp .ge 40), (7, 1, 8, .iconst 0), (8, 1, 9, .istore_n 2), (9, 1, 10, .iload_n 2), (10, 1, 11, .iconst 4), (11, 3, 14, .if_icmp .ge 27), (14, 1, 15, .aload_n 0), (15, 3, 18, .getfield 37), (18, 1, 19, .iconst 4), (19, 1, 20, .iload_n 1), (20, 1, 21, .imul), (21, 1, 22, .iload_n 2), (22, 1, 23, .iadd), (23, 1, 24, .aload_n 0), (24, 1, 25, .iload_n 1), (25, 1, 26, .iconst 3), (26, 1, 27, .iload_n 2), (27, 1, 28, .iadd), (28, 3, 31, .invokevirtual 94), (31, 1, 32, .iastore), (32, 3, 35, .iinc 2 1), (35, 3, 38, .goto (-26)), (38, 3, 41, .iinc 1 1), (41, 3, 44, .goto (-39)), (44, 1, 45, .return_)]
set_option maxRecDepth 100000 in
theorem tk_X12_keepKnots (k : Nat) {pc n pc2 : Nat} {i : Instr} (hk : tb_X12_keepKnots[k]? = some (pc, n, pc2, i)) : on_dq cX12_keepKnots pc n pc2 i := on_ta (by decide +kernel) k hk
theorem ms_X12_keepKnots : on_Mv yX12_keepKnots cX12_keepKnots 3 none 0 := ⟨kw_8_88, kw_8_87, (on_mp (q := (yX12_keepKnots, 37)) (by decide +kernel)), kw_1_13, by decide, by decide, by decide +kernel⟩
def pf_X12_keepKnots_9 (k2 : Int → on_S → Option on_O) : Nat → Int → Int → on_S → Option on_O
  | 0, _, _, _ => none
  | nf + 1, l1, l2, σ =>
    on_Lt l2 4 (
      on_Cl (pf_X12_ofNet l1 (3 + l2) σ) fun v1 σ2 =>
      on_Wr σ2 85 8 ((4 * l1) + l2) v1 fun σ3 =>
      pf_X12_keepKnots_9 k2 nf l1 (l2 + 1) σ3) (
      k2 (l1 + 1) σ)
def pf_X12_keepKnots_2 : Nat → Int → on_S → Option on_O
  | 0, _, _ => none
  | nf + 1, l1, σ =>
    on_Lt l1 2 (
      pf_X12_keepKnots_9 (pf_X12_keepKnots_2 nf) on_N l1 0 σ) (
      some (0, σ))
def pf_X12_keepKnots (σ : on_S) : Option on_O :=
  pf_X12_keepKnots_2 on_N 0 σ
set_option maxRecDepth 100000 in
set_option maxHeartbeats 4000000 in
theorem gl_X12_keepKnots_9 {E : on_E} {z n : Nat} (X : on_X) (k2 : Int → on_S → Option on_O) (hN : 100 ≤ n) (hk2 : ∀ (l1 : Int) (σ : on_S), on_G X E cX12_keepKnots RX12 none 1 22 3 z n σ (k2 l1 σ) 2 [some (.ref (z + 77)), some (.int (on_i l1)), none] []) : ∀ (nf : Nat) (l1 : Int) (l2 : Int) (σ : on_S), on_G X E cX12_keepKnots RX12 none 1 22 3 z n σ (pf_X12_keepKnots_9 k2 nf l1 l2 σ) 9 [some (.ref (z + 77)), some (.int (on_i l1)), some (.int (on_i l2))] [] := by
  intro nf
  induction nf with
  | zero => intro l1 l2 σ; exact on_none
  | succ nf ih =>
    intro l1 l2 σ
    rw [pf_X12_keepKnots_9]
    refine on_il2 (tk_X12_keepKnots 7 rfl) ?_
    refine on_iconst (tk_X12_keepKnots 8 rfl) ?_
    refine on_icmp_ge (tk_X12_keepKnots 9 rfl) (tgt := 38) (by decide) ?_ ?_
    · refine on_al0 (tk_X12_keepKnots 10 rfl) ?_
      refine fg_12_17 hN kw_6_157 (tk_X12_keepKnots 11 rfl) ?_
      refine on_iconst (tk_X12_keepKnots 12 rfl) ?_
      refine on_il1 (tk_X12_keepKnots 13 rfl) ?_
      refine on_imul (tk_X12_keepKnots 14 rfl) ?_
      refine on_il2 (tk_X12_keepKnots 15 rfl) ?_
      refine on_iadd (tk_X12_keepKnots 16 rfl) ?_
      refine on_al0 (tk_X12_keepKnots 17 rfl) ?_
      refine on_il1 (tk_X12_keepKnots 18 rfl) ?_
      refine on_iconst (tk_X12_keepKnots 19 rfl) ?_
      refine on_il2 (tk_X12_keepKnots 20 rfl) ?_
      refine on_iadd (tk_X12_keepKnots 21 rfl) ?_
      refine on_cV2i 12 ms_X12_ofNet kw_7_162 rfl rfl (ltc_77 hN) sh_77 (ct_X12_ofNet hN) rfl (tk_X12_keepKnots 22 rfl) fun v1 σ2 => ?_
      refine on_iast (ltc_85 hN) sh_85 (tk_X12_keepKnots 23 rfl) fun σ3 => ?_
      refine on_inc2 rfl (tk_X12_keepKnots 24 rfl) ?_
      refine on_goto (tk_X12_keepKnots 25 rfl) (tgt := 9) (by decide) ?_
      exact ih _ _ _
    · refine on_inc1 rfl (tk_X12_keepKnots 26 rfl) ?_
      refine on_goto (tk_X12_keepKnots 27 rfl) (tgt := 2) (by decide) ?_
      refine on_dr2 ?_
      exact hk2 _ _
set_option maxRecDepth 100000 in
set_option maxHeartbeats 4000000 in
theorem gl_X12_keepKnots_2 {E : on_E} {z n : Nat} (X : on_X) (hN : 100 ≤ n) : ∀ (nf : Nat) (l1 : Int) (σ : on_S), on_G X E cX12_keepKnots RX12 none 1 22 3 z n σ (pf_X12_keepKnots_2 nf l1 σ) 2 [some (.ref (z + 77)), some (.int (on_i l1)), none] [] := by
  intro nf
  induction nf with
  | zero => intro l1 σ; exact on_none
  | succ nf ih =>
    intro l1 σ
    rw [pf_X12_keepKnots_2]
    refine on_il1 (tk_X12_keepKnots 2 rfl) ?_
    refine on_iconst (tk_X12_keepKnots 3 rfl) ?_
    refine on_icmp_ge (tk_X12_keepKnots 4 rfl) (tgt := 44) (by decide) ?_ ?_
    · refine on_iconst (tk_X12_keepKnots 5 rfl) ?_
      refine on_is2 rfl (tk_X12_keepKnots 6 rfl) ?_
      exact gl_X12_keepKnots_9 X _ hN ih on_N _ _ _
    · exact on_vret (tk_X12_keepKnots 28 rfl)
set_option maxRecDepth 100000 in
set_option maxHeartbeats 4000000 in
theorem ct_X12_keepKnots {E : on_E} {z n : Nat} (hN : 100 ≤ n) {σ : on_S} : on_Sp E yX12_keepKnots cX12_keepKnots 3 none 1 22 z n [.ref (z + 77)] σ (pf_X12_keepKnots  σ) := by
  refine on_met [some (.ref (z + 77)), none, none] (by decide) rfl rfl (fun X => ?_)
  rw [pf_X12_keepKnots]
  refine on_iconst (tk_X12_keepKnots 0 rfl) ?_
  refine on_is1 rfl (tk_X12_keepKnots 1 rfl) ?_
  exact gl_X12_keepKnots_2 X  hN on_N _ _
def tb_X12_giveKnots : List (Nat × Nat × Nat × Instr) := [(0, 1, 1, .iconst 0), (1, 1, 2, .istore_n 1), (2, 1, 3, .iload_n 1), (3, 1, 4, .iconst 2), (4, 3, 7, .if_icmp .ge 48), (7, 1, 8, .iconst 0), (8, 1, 9, .istore_n 2), (9, 1, 10, .iload_n 2), (10, 1, 11, .iconst 4), (11, 3, 14, .if_icmp .ge 35), (14, 1, 15, .aload_n 0), (15, 3, 18, .getfield 9), (18, 2, 20, .bipush 62), (20, 2, 22, .bipush 7), (22, 1, 23, .iload_n 1), (23, 1, 24, .imul), (24, 1, 25, .iadd), (25, 1, 26, .iconst 3), (26, 1, 27, .iadd), (27, 1, 28, .iload_n 2), (28, 1, 29, .iadd), (29, 1, 30, .aload_n 0), (30, 3, 33, .getfield 37), (33, 1, 34, .iconst 4), (34, 1, 35, .iload_n 1), (35, 1, 36, .imul), (36, 1, 37, .iload_n 2), (37, 1, 38, .iadd), (38, 1, 39, .iaload), (39, 1, 40, .iastore), (40, 3, 43, .iinc 2 1), (43, 3, 46, .goto (-34)), (46, 3, 49, .iinc 1 1), (49, 3, 52, .goto (-47)), (52, 1, 53, .return_)]
set_option maxRecDepth 100000 in
theorem tk_X12_giveKnots (k : Nat) {pc n pc2 : Nat} {i : Instr} (hk : tb_X12_giveKnots[k]? = some (pc, n, pc2, i)) : on_dq cX12_giveKnots pc n pc2 i := on_ta (by decide +kernel) k hk
theorem ms_X12_giveKnots : on_Mv yX12_giveKnots cX12_giveKnots 3 none 0 := ⟨kw_8_92, kw_8_91, (on_mp (q := (yX12_giveKnots, 37)) (by decide +kernel)), kw_1_13, by decide, by decide, by decide +kernel⟩
def pf_X12_giveKnots_9 (k2 : Int → on_S → Option on_O) : Nat → Int → Int → on_S → Option on_O
  | 0, _, _, _ => none
  | nf + 1, l1, l2, σ =>
    on_Lt l2 4 (
      on_Rd σ 85 8 ((4 * l1) + l2) fun v1 =>
      on_Wr σ 78 687 (((62 + (7 * l1)) + 3) + l2) v1 fun σ2 =>
      pf_X12_giveKnots_9 k2 nf l1 (l2 + 1) σ2) (
      k2 (l1 + 1) σ)
def pf_X12_giveKnots_2 : Nat → Int → on_S → Option on_O
  | 0, _, _ => none
  | nf + 1, l1, σ =>
    on_Lt l1 2 (
      pf_X12_giveKnots_9 (pf_X12_giveKnots_2 nf) on_N l1 0 σ) (
      some (0, σ))
def pf_X12_giveKnots (σ : on_S) : Option on_O :=
  pf_X12_giveKnots_2 on_N 0 σ
set_option maxRecDepth 100000 in
set_option maxHeartbeats 4000000 in
theorem gl_X12_giveKnots_9 {E : on_E} {z n : Nat} (X : on_X) (k2 : Int → on_S → Option on_O) (hN : 100 ≤ n) (hk2 : ∀ (l1 : Int) (σ : on_S), on_G X E cX12_giveKnots RX12 none 0 0 3 z n σ (k2 l1 σ) 2 [some (.ref (z + 77)), some (.int (on_i l1)), none] []) : ∀ (nf : Nat) (l1 : Int) (l2 : Int) (σ : on_S), on_G X E cX12_giveKnots RX12 none 0 0 3 z n σ (pf_X12_giveKnots_9 k2 nf l1 l2 σ) 9 [some (.ref (z + 77)), some (.int (on_i l1)), some (.int (on_i l2))] [] := by
  intro nf
  induction nf with
  | zero => intro l1 l2 σ; exact on_none
  | succ nf ih =>
    intro l1 l2 σ
    rw [pf_X12_giveKnots_9]
    refine on_il2 (tk_X12_giveKnots 7 rfl) ?_
    refine on_iconst (tk_X12_giveKnots 8 rfl) ?_
    refine on_icmp_ge (tk_X12_giveKnots 9 rfl) (tgt := 46) (by decide) ?_ ?_
    · refine on_al0 (tk_X12_giveKnots 10 rfl) ?_
      refine fg_12_1 hN kw_6_141 (tk_X12_giveKnots 11 rfl) ?_
      refine on_bipush (tk_X12_giveKnots 12 rfl) bp_62 ?_
      refine on_bipush (tk_X12_giveKnots 13 rfl) bp_7 ?_
      refine on_il1 (tk_X12_giveKnots 14 rfl) ?_
      refine on_imul (tk_X12_giveKnots 15 rfl) ?_
      refine on_iadd (tk_X12_giveKnots 16 rfl) ?_
      refine on_iconst (tk_X12_giveKnots 17 rfl) ?_
      refine on_iadd (tk_X12_giveKnots 18 rfl) ?_
      refine on_il2 (tk_X12_giveKnots 19 rfl) ?_
      refine on_iadd (tk_X12_giveKnots 20 rfl) ?_
      refine on_al0 (tk_X12_giveKnots 21 rfl) ?_
      refine fg_12_17 hN kw_6_157 (tk_X12_giveKnots 22 rfl) ?_
      refine on_iconst (tk_X12_giveKnots 23 rfl) ?_
      refine on_il1 (tk_X12_giveKnots 24 rfl) ?_
      refine on_imul (tk_X12_giveKnots 25 rfl) ?_
      refine on_il2 (tk_X12_giveKnots 26 rfl) ?_
      refine on_iadd (tk_X12_giveKnots 27 rfl) ?_
      refine on_iald (ltc_85 hN) sh_85 (tk_X12_giveKnots 28 rfl) fun v1 => ?_
      refine on_iast (ltc_78 hN) sh_78 (tk_X12_giveKnots 29 rfl) fun σ2 => ?_
      refine on_inc2 rfl (tk_X12_giveKnots 30 rfl) ?_
      refine on_goto (tk_X12_giveKnots 31 rfl) (tgt := 9) (by decide) ?_
      exact ih _ _ _
    · refine on_inc1 rfl (tk_X12_giveKnots 32 rfl) ?_
      refine on_goto (tk_X12_giveKnots 33 rfl) (tgt := 2) (by decide) ?_
      refine on_dr2 ?_
      exact hk2 _ _
set_option maxRecDepth 100000 in
set_option maxHeartbeats 4000000 in
theorem gl_X12_giveKnots_2 {E : on_E} {z n : Nat} (X : on_X) (hN : 100 ≤ n) : ∀ (nf : Nat) (l1 : Int) (σ : on_S), on_G X E cX12_giveKnots RX12 none 0 0 3 z n σ (pf_X12_giveKnots_2 nf l1 σ) 2 [some (.ref (z + 77)), some (.int (on_i l1)), none] [] := by
  intro nf
  induction nf with
  | zero => intro l1 σ; exact on_none
  | succ nf ih =>
    intro l1 σ
    rw [pf_X12_giveKnots_2]
    refine on_il1 (tk_X12_giveKnots 2 rfl) ?_
    refine on_iconst (tk_X12_giveKnots 3 rfl) ?_
    refine on_icmp_ge (tk_X12_giveKnots 4 rfl) (tgt := 52) (by decide) ?_ ?_
    · refine on_iconst (tk_X12_giveKnots 5 rfl) ?_
      refine on_is2 rfl (tk_X12_giveKnots 6 rfl) ?_
      exact gl_X12_giveKnots_9 X _ hN ih on_N _ _ _
    · exact on_vret (tk_X12_giveKnots 34 rfl)
set_option maxRecDepth 100000 in
set_option maxHeartbeats 4000000 in
theorem ct_X12_giveKnots {E : on_E} {z n : Nat} (hN : 100 ≤ n) {σ : on_S} : on_Sp E yX12_giveKnots cX12_giveKnots 3 none 0 0 z n [.ref (z + 77)] σ (pf_X12_giveKnots  σ) := by
  refine on_met [some (.ref (z + 77)), none, none] (by decide) rfl rfl (fun X => ?_)
  rw [pf_X12_giveKnots]
  refine on_iconst (tk_X12_giveKnots 0 rfl) ?_
  refine on_is1 rfl (tk_X12_giveKnots 1 rfl) ?_
  exact gl_X12_giveKnots_2 X  hN on_N _ _
def tb_X12_lasts : List (Nat × Nat × Nat × Instr) := [(0, 1, 1, .aload_n 0), (1, 1, 2, .iload_n 1), (2, 1, 3, .i2l), (3, 3, 6, .invokevirtual 301), (6, 3, 9, .ifCond .eq 15), (9, 1, 10, .iload_n 2), (10, 1, 11, .i2l), (11, 1, 12, .lconst 1), (12, 3, 15, .ldc2_w 328), (15, 3, 18, .invokestatic 88), (18, 3, 21, .ifCond .ne 6), (21, 2, 23, .bipush (-2)), (23, 1, 24, .ireturn), (24, 1, 25, .aload_n 0), (25, 3, 28, .invokevirtual 339), (28, 1, 29, .iconst 0), (29, 1, 30, .istore_n 3), (30, 1, 31, .iload_n 3), (31, 3, 34, .sipush 999), (34, 3, 37, .if_icmp .ge 29), (37, 1, 38, .aload_n 0), (38, 1, 39, .iload_n 1), (39, 1, 40, .iload_n 2), (40, 1, 41, .aload_n 0), (41, 1, 42, .aload_n 0), (42, 1, 43, .iload_n 1), (43, 1, 44, .iconst 0), (44, 3, 47, .invokevirtual 94), (47, 3, 50, .invokevirtual 108), (50, 1, 51, .imul), (51, 3, 54, .invokevirtual 333), (54, 3, 57, .ifCond .eq 9), (57, 3, 60, .iinc 3 1), (60, 3, 63, .goto (-30)), (63, 1, 64, .aload_n 0), (64, 3, 67, .invokevirtual 342), (67, 1, 68, .iload_n 3), (68, 1, 69, .ireturn)]
set_option maxRecDepth 100000 in
theorem tk_X12_lasts (k : Nat) {pc n pc2 : Nat} {i : Instr} (hk : tb_X12_lasts[k]? = some (pc, n, pc2, i)) : on_dq cX12_lasts pc n pc2 i := on_ta (by decide +kernel) k hk
theorem ms_X12_lasts : on_Mv yX12_lasts cX12_lasts 4 (some .int) 2 := ⟨kw_8_84, kw_8_82, kw_8_83, kw_1_13, by decide, by decide, by decide +kernel⟩
def pf_X12_lasts_63 (l3 : Int) (σ : on_S) : Option on_O :=
  on_Cl (pf_X12_giveKnots σ) fun _ σ14 =>
  some (l3, σ14)
def pf_X12_lasts_30 : Nat → Int → Int → Int → on_S → Option on_O
  | 0, _, _, _, _ => none
  | nf + 1, l1, l2, l3, σ =>
    on_Lt l3 999 (
      on_Cl (pf_X12_ofNet l1 0 σ) fun v7 σ8 =>
      on_Cl (pf_X12_storeyOf v7 σ8) fun v9 σ10 =>
      on_Cl (pf_X12_lands l1 (l2 * v9) σ10) fun v11 σ12 =>
      on_Eq v11 0 (
        pf_X12_lasts_63 l3 σ12) (
        pf_X12_lasts_30 nf l1 l2 (l3 + 1) σ12)) (
      pf_X12_lasts_63 l3 σ)
def pf_X12_lasts (p0 : Int) (p1 : Int) (σ : on_S) : Option on_O :=
  on_Ck p0 <|
  on_Cl (pf_X12_isNet p0 σ) fun v1 σ2 =>
  on_Eq v1 0 (
    some ((-2), σ2)) (
    on_Ck p1 <|
    on_Cl (pf_X12_in p1 1 99 σ2) fun v3 σ4 =>
    on_Eq v3 0 (
      some ((-2), σ4)) (
      on_Cl (pf_X12_keepKnots σ4) fun _ σ6 =>
      pf_X12_lasts_30 on_N p0 p1 0 σ6))
set_option maxRecDepth 100000 in
set_option maxHeartbeats 4000000 in
theorem gb_X12_lasts_63 {E : on_E} {z n : Nat} (X : on_X) (hN : 100 ≤ n) (l3 : Int) (σ : on_S) : on_G X E cX12_lasts RX12 (some .int) 7 168 4 z n σ (pf_X12_lasts_63 l3 σ) 63 [some (.ref (z + 77)), none, none, some (.int (on_i l3))] [] := by
  rw [pf_X12_lasts_63]
  refine on_al0 (tk_X12_lasts 34 rfl) ?_
  refine on_cV0v 12 ms_X12_giveKnots kw_8_89 rfl rfl (ltc_77 hN) sh_77 (ct_X12_giveKnots hN) rfl (tk_X12_lasts 35 rfl) fun v13 σ14 => ?_
  refine on_il3 (tk_X12_lasts 36 rfl) ?_
  exact on_iret (tk_X12_lasts 37 rfl)
set_option maxRecDepth 100000 in
set_option maxHeartbeats 4000000 in
theorem gl_X12_lasts_30 {E : on_E} {z n : Nat} (X : on_X) (hN : 100 ≤ n) : ∀ (nf : Nat) (l1 : Int) (l2 : Int) (l3 : Int) (σ : on_S), on_G X E cX12_lasts RX12 (some .int) 7 168 4 z n σ (pf_X12_lasts_30 nf l1 l2 l3 σ) 30 [some (.ref (z + 77)), some (.int (on_i l1)), some (.int (on_i l2)), some (.int (on_i l3))] [] := by
  intro nf
  induction nf with
  | zero => intro l1 l2 l3 σ; exact on_none
  | succ nf ih =>
    intro l1 l2 l3 σ
    rw [pf_X12_lasts_30]
    refine on_il3 (tk_X12_lasts 17 rfl) ?_
    refine on_sipush (tk_X12_lasts 18 rfl) sp_999 ?_
    refine on_icmp_ge (tk_X12_lasts 19 rfl) (tgt := 63) (by decide) ?_ ?_
    · refine on_al0 (tk_X12_lasts 20 rfl) ?_
      refine on_il1 (tk_X12_lasts 21 rfl) ?_
      refine on_il2 (tk_X12_lasts 22 rfl) ?_
      refine on_al0 (tk_X12_lasts 23 rfl) ?_
      refine on_al0 (tk_X12_lasts 24 rfl) ?_
      refine on_il1 (tk_X12_lasts 25 rfl) ?_
      refine on_iconst (tk_X12_lasts 26 rfl) ?_
      refine on_cV2i 12 ms_X12_ofNet kw_7_162 rfl rfl (ltc_77 hN) sh_77 (ct_X12_ofNet hN) rfl (tk_X12_lasts 27 rfl) fun v7 σ8 => ?_
      refine on_cV1i 12 ms_X12_storeyOf kw_7_154 rfl rfl (ltc_77 hN) sh_77 (ct_X12_storeyOf hN) rfl (tk_X12_lasts 28 rfl) fun v9 σ10 => ?_
      refine on_imul (tk_X12_lasts 29 rfl) ?_
      refine on_cV2z 12 ms_X12_lands kw_8_65 rfl rfl (ltc_77 hN) sh_77 (ct_X12_lands hN) rfl (tk_X12_lasts 30 rfl) fun v11 σ12 => ?_
      refine on_if_eq (tk_X12_lasts 31 rfl) (tgt := 63) (by decide) ?_ ?_
      · refine on_inc3 rfl (tk_X12_lasts 32 rfl) ?_
        refine on_goto (tk_X12_lasts 33 rfl) (tgt := 30) (by decide) ?_
        exact ih _ _ _ _
      · refine on_dr1 ?_
        refine on_dr2 ?_
        exact gb_X12_lasts_63 X  hN _ _
    · refine on_dr1 ?_
      refine on_dr2 ?_
      exact gb_X12_lasts_63 X  hN _ _
set_option maxRecDepth 100000 in
set_option maxHeartbeats 4000000 in
theorem ct_X12_lasts {E : on_E} {z n : Nat} {p0 : Int} {p1 : Int} (hN : 100 ≤ n) {σ : on_S} : on_Sp E yX12_lasts cX12_lasts 4 (some .int) 7 168 z n [.ref (z + 77), .int (on_i p0), .int (on_i p1)] σ (pf_X12_lasts p0 p1 σ) := by
  refine on_met [some (.ref (z + 77)), some (.int (on_i p0)), some (.int (on_i p1)), none] (by decide) rfl rfl (fun X => ?_)
  rw [pf_X12_lasts]
  refine on_al0 (tk_X12_lasts 0 rfl) ?_
  refine on_il1 (tk_X12_lasts 1 rfl) ?_
  refine on_xi2l (tk_X12_lasts 2 rfl) ?_
  refine on_cV1z 12 ms_X12_isNet kw_7_183 rfl rfl (ltc_77 hN) sh_77 (ct_X12_isNet hN) rfl (tk_X12_lasts 3 rfl) fun v1 σ2 => ?_
  refine on_if_eq (tk_X12_lasts 4 rfl) (tgt := 21) (by decide) ?_ ?_
  · refine on_il2 (tk_X12_lasts 5 rfl) ?_
    refine on_xi2l (tk_X12_lasts 6 rfl) ?_
    refine on_lconst1 (tk_X12_lasts 7 rfl) ?_
    refine on_ldc2 (a := 99) kw_8_60 (by decide +kernel) (tk_X12_lasts 8 rfl) ?_
    refine on_cS3z ms_X12_in kw_7_18 (ct_X12_in hN) rfl (tk_X12_lasts 9 rfl) fun v3 σ4 => ?_
    refine on_if_ne (tk_X12_lasts 10 rfl) (tgt := 24) (by decide) ?_ ?_
    · refine on_bipush (tk_X12_lasts 11 rfl) bp_m2 ?_
      exact on_iret (tk_X12_lasts 12 rfl)
    · refine on_al0 (tk_X12_lasts 13 rfl) ?_
      refine on_cV0v 12 ms_X12_keepKnots kw_8_85 rfl rfl (ltc_77 hN) sh_77 (ct_X12_keepKnots hN) rfl (tk_X12_lasts 14 rfl) fun v5 σ6 => ?_
      refine on_iconst (tk_X12_lasts 15 rfl) ?_
      refine on_is3 rfl (tk_X12_lasts 16 rfl) ?_
      exact gl_X12_lasts_30 X  hN on_N _ _ _ _
  · refine on_bipush (tk_X12_lasts 11 rfl) bp_m2 ?_
    exact on_iret (tk_X12_lasts 12 rfl)
def tb_X12_postOf : List (Nat × Nat × Nat × Instr) := [(0, 1, 1, .aload_n 0), (1, 1, 2, .iload_n 1), (2, 1, 3, .iconst 2), (3, 3, 6, .invokevirtual 98), (6, 1, 7, .iconst (-1)), (7, 3, 10, .if_icmp .ne 7), (10, 1, 11, .iconst (-1)), (11, 3, 14, .goto 19), (14, 2, 16, .bipush 10), (16, 1, 17, .aload_n 0), (17, 1, 18, .iload_n 1), (18, 1, 19, .iconst 2), (19, 3, 22, .invokevirtual 98), (22, 1, 23, .imul), (23, 1, 24, .aload_n 0), (24, 1, 25, .iload_n 1), (25, 1, 26, .iconst 3), (26, 3, 29, .invokevirtual 98), (29, 1, 30, .iadd), (30, 1, 31, .ireturn)]
set_option maxRecDepth 100000 in
theorem tk_X12_postOf (k : Nat) {pc n pc2 : Nat} {i : Instr} (hk : tb_X12_postOf[k]? = some (pc, n, pc2, i)) : on_dq cX12_postOf pc n pc2 i := on_ta (by decide +kernel) k hk
theorem ms_X12_postOf : on_Mv yX12_postOf cX12_postOf 2 (some .int) 1 := ⟨kw_8_100, kw_8_99, (on_mp (q := (yX12_postOf, 37)) (by decide +kernel)), kw_1_13, by decide, by decide, by decide +kernel⟩
def pf_X12_postOf (p0 : Int) (σ : on_S) : Option on_O :=
  on_Cl (pf_X12_ofMan p0 2 σ) fun v1 σ2 =>
  on_Eq v1 (-1) (
    some ((-1), σ2)) (
    on_Cl (pf_X12_ofMan p0 2 σ2) fun v3 σ4 =>
    on_Cl (pf_X12_ofMan p0 3 σ4) fun v5 σ6 =>
    some (((10 * v3) + v5), σ6))
set_option maxRecDepth 100000 in
set_option maxHeartbeats 4000000 in
theorem ct_X12_postOf {E : on_E} {z n : Nat} {p0 : Int} (hN : 100 ≤ n) {σ : on_S} : on_Sp E yX12_postOf cX12_postOf 2 (some .int) 1 22 z n [.ref (z + 77), .int (on_i p0)] σ (pf_X12_postOf p0 σ) := by
  refine on_met [some (.ref (z + 77)), some (.int (on_i p0))] (by decide) rfl rfl (fun X => ?_)
  rw [pf_X12_postOf]
  refine on_al0 (tk_X12_postOf 0 rfl) ?_
  refine on_il1 (tk_X12_postOf 1 rfl) ?_
  refine on_iconst (tk_X12_postOf 2 rfl) ?_
  refine on_cV2i 12 ms_X12_ofMan kw_7_175 rfl rfl (ltc_77 hN) sh_77 (ct_X12_ofMan hN) rfl (tk_X12_postOf 3 rfl) fun v1 σ2 => ?_
  refine on_iconst (tk_X12_postOf 4 rfl) ?_
  refine on_icmp_ne (tk_X12_postOf 5 rfl) (tgt := 14) (by decide) ?_ ?_
  · refine on_iconst (tk_X12_postOf 6 rfl) ?_
    refine on_goto (tk_X12_postOf 7 rfl) (tgt := 30) (by decide) ?_
    exact on_iret (tk_X12_postOf 19 rfl)
  · refine on_bipush (tk_X12_postOf 8 rfl) bp_10 ?_
    refine on_al0 (tk_X12_postOf 9 rfl) ?_
    refine on_il1 (tk_X12_postOf 10 rfl) ?_
    refine on_iconst (tk_X12_postOf 11 rfl) ?_
    refine on_cV2i 12 ms_X12_ofMan kw_7_175 rfl rfl (ltc_77 hN) sh_77 (ct_X12_ofMan hN) rfl (tk_X12_postOf 12 rfl) fun v3 σ4 => ?_
    refine on_imul (tk_X12_postOf 13 rfl) ?_
    refine on_al0 (tk_X12_postOf 14 rfl) ?_
    refine on_il1 (tk_X12_postOf 15 rfl) ?_
    refine on_iconst (tk_X12_postOf 16 rfl) ?_
    refine on_cV2i 12 ms_X12_ofMan kw_7_175 rfl rfl (ltc_77 hN) sh_77 (ct_X12_ofMan hN) rfl (tk_X12_postOf 17 rfl) fun v5 σ6 => ?_
    refine on_iadd (tk_X12_postOf 18 rfl) ?_
    exact on_iret (tk_X12_postOf 19 rfl)
def tb_X12_putAt : List (Nat × Nat × Nat × Instr) := [(0, 1, 1, .aload_n 0), (1, 3, 4, .getfield 9), (4, 2, 6, .bipush 26), (6, 1, 7, .iconst 4), (7, 1, 8, .iload_n 1), (8, 1, 9, .imul), (9, 1, 10, .iadd), (10, 1, 11, .iconst 2), (11, 1, 12, .iadd), (12, 1, 13, .iload_n 2), (13, 1, 14, .iastore), (14, 1, 15, .aload_n 0), (15, 3, 18, .getfield 9), (18, 2, 20, .bipush 26), (20, 1, 21, .iconst 4), (21, 1, 22, .iload_n 1), (22, 1, 23, .imul), (23, 1, 24, .iadd), (24, 1, 25, .iconst 3), (25, 1, 26, .iadd), (26, 1, 27, .iload_n 2), (27, 1, 28, .iconst (-1)), (28, 3, 31, .if_icmp .ne 7), (31, 1, 32, .iconst (-1)), (32, 3, 35, .goto 4), (35, 1, 36, .iload_n 3), (36, 1, 37, .iastore), (37, 1, 38, .return_)]
set_option maxRecDepth 100000 in
theorem tk_X12_putAt (k : Nat) {pc n pc2 : Nat} {i : Instr} (hk : tb_X12_putAt[k]? = some (pc, n, pc2, i)) : on_dq cX12_putAt pc n pc2 i := on_ta (by decide +kernel) k hk
theorem ms_X12_putAt : on_Mv yX12_putAt cX12_putAt 4 none 3 := ⟨kw_8_104, kw_8_103, (on_mp (q := (yX12_putAt, 37)) (by decide +kernel)), kw_1_13, by decide, by decide, by decide +kernel⟩
def pf_X12_putAt_36 (s1 : Int) (s2 : Int) (σ : on_S) : Option on_O :=
  on_Wr σ 78 687 s1 s2 fun σ2 =>
  some (0, σ2)
def pf_X12_putAt (p0 : Int) (p1 : Int) (p2 : Int) (σ : on_S) : Option on_O :=
  on_Wr σ 78 687 ((26 + (4 * p0)) + 2) p1 fun σ1 =>
  on_Eq p1 (-1) (
    pf_X12_putAt_36 ((26 + (4 * p0)) + 3) (-1) σ1) (
    pf_X12_putAt_36 ((26 + (4 * p0)) + 3) p2 σ1)
set_option maxRecDepth 100000 in
set_option maxHeartbeats 4000000 in
theorem gb_X12_putAt_36 {E : on_E} {z n : Nat} (X : on_X) (hN : 100 ≤ n) (s1 : Int) (s2 : Int) (σ : on_S) : on_G X E cX12_putAt RX12 none 0 0 4 z n σ (pf_X12_putAt_36 s1 s2 σ) 36 [none, none, none, none] [.int (on_i s2), .int (on_i s1), .ref (z + 78)] := by
  rw [pf_X12_putAt_36]
  refine on_iast (ltc_78 hN) sh_78 (tk_X12_putAt 26 rfl) fun σ2 => ?_
  exact on_vret (tk_X12_putAt 27 rfl)
set_option maxRecDepth 100000 in
set_option maxHeartbeats 4000000 in
theorem ct_X12_putAt {E : on_E} {z n : Nat} {p0 : Int} {p1 : Int} {p2 : Int} (hN : 100 ≤ n) {σ : on_S} : on_Sp E yX12_putAt cX12_putAt 4 none 0 0 z n [.ref (z + 77), .int (on_i p0), .int (on_i p1), .int (on_i p2)] σ (pf_X12_putAt p0 p1 p2 σ) := by
  refine on_met [some (.ref (z + 77)), some (.int (on_i p0)), some (.int (on_i p1)), some (.int (on_i p2))] (by decide) rfl rfl (fun X => ?_)
  rw [pf_X12_putAt]
  refine on_al0 (tk_X12_putAt 0 rfl) ?_
  refine fg_12_1 hN kw_6_141 (tk_X12_putAt 1 rfl) ?_
  refine on_bipush (tk_X12_putAt 2 rfl) bp_26 ?_
  refine on_iconst (tk_X12_putAt 3 rfl) ?_
  refine on_il1 (tk_X12_putAt 4 rfl) ?_
  refine on_imul (tk_X12_putAt 5 rfl) ?_
  refine on_iadd (tk_X12_putAt 6 rfl) ?_
  refine on_iconst (tk_X12_putAt 7 rfl) ?_
  refine on_iadd (tk_X12_putAt 8 rfl) ?_
  refine on_il2 (tk_X12_putAt 9 rfl) ?_
  refine on_iast (ltc_78 hN) sh_78 (tk_X12_putAt 10 rfl) fun σ1 => ?_
  refine on_al0 (tk_X12_putAt 11 rfl) ?_
  refine fg_12_1 hN kw_6_141 (tk_X12_putAt 12 rfl) ?_
  refine on_bipush (tk_X12_putAt 13 rfl) bp_26 ?_
  refine on_iconst (tk_X12_putAt 14 rfl) ?_
  refine on_il1 (tk_X12_putAt 15 rfl) ?_
  refine on_imul (tk_X12_putAt 16 rfl) ?_
  refine on_iadd (tk_X12_putAt 17 rfl) ?_
  refine on_iconst (tk_X12_putAt 18 rfl) ?_
  refine on_iadd (tk_X12_putAt 19 rfl) ?_
  refine on_il2 (tk_X12_putAt 20 rfl) ?_
  refine on_iconst (tk_X12_putAt 21 rfl) ?_
  refine on_icmp_ne (tk_X12_putAt 22 rfl) (tgt := 35) (by decide) ?_ ?_
  · refine on_iconst (tk_X12_putAt 23 rfl) ?_
    refine on_goto (tk_X12_putAt 24 rfl) (tgt := 36) (by decide) ?_
    refine on_dr0 ?_
    refine on_dr1 ?_
    refine on_dr2 ?_
    refine on_dr3 ?_
    exact gb_X12_putAt_36 X  hN _ _ _
  · refine on_il3 (tk_X12_putAt 25 rfl) ?_
    refine on_dr0 ?_
    refine on_dr1 ?_
    refine on_dr2 ?_
    refine on_dr3 ?_
    exact gb_X12_putAt_36 X  hN _ _ _
def tb_X12_stand : List (Nat × Nat × Nat × Instr) := [(0, 1, 1, .aload_n 0), (1, 1, 2, .iload_n 1), (2, 3, 5, .invokevirtual 298), (5, 3, 8, .ifCond .ne 6), (8, 2, 10, .bipush (-2)), (10, 1, 11, .ireturn), (11, 1, 12, .iload_n 2), (12, 1, 13, .iconst (-1)), (13, 3, 16, .if_icmp .eq 42), (16, 1, 17, .aload_n 0), (17, 1, 18, .iload_n 2), (18, 1, 19, .i2l), (19, 3, 22, .invokevirtual 301), (22, 3, 25, .ifCond .eq 30), (25, 1, 26, .iload_n 3), (26, 3, 29, .invokestatic 310), (29, 3, 32, .ifCond .eq 23), (32, 1, 33, .aload_n 0), (33, 1, 34, .iload_n 2), (34, 1, 35, .iload_n 3), (35, 3, 38, .invokevirtual 277), (38, 1, 39, .iconst (-1)), (39, 3, 42, .if_icmp .eq 16), (42, 1, 43, .aload_n 0), (43, 1, 44, .iload_n 2), (44, 1, 45, .iload_n 3), (45, 3, 48, .invokevirtual 277), (48, 1, 49, .iload_n 1), (49, 3, 52, .if_icmp .eq 6), (52, 2, 54, .bipush (-2)), (54, 1, 55, .ireturn), (55, 1, 56, .aload_n 0), (56, 1, 57, .iload_n 1), (57, 3, 60, .invokevirtual 345), (60, 2, 62, .istore 4), (62, 1, 63, .aload_n 0), (63, 1, 64, .iload_n 1), (64, 1, 65, .iload_n 2), (65, 1, 66, .iload_n 3), (66, 3, 69, .invokevirtual 348), (69, 2, 71, .iload 4), (71, 1, 72, .ireturn)]
set_option maxRecDepth 100000 in
theorem tk_X12_stand (k : Nat) {pc n pc2 : Nat} {i : Instr} (hk : tb_X12_stand[k]? = some (pc, n, pc2, i)) : on_dq cX12_stand pc n pc2 i := on_ta (by decide +kernel) k hk
theorem ms_X12_stand : on_Mv yX12_stand cX12_stand 5 (some .int) 3 := ⟨kw_8_96, kw_8_94, kw_8_95, kw_1_13, by decide, by decide, by decide +kernel⟩
def pf_X12_stand_55 (l1 : Int) (l2 : Int) (l3 : Int) (σ : on_S) : Option on_O :=
  on_Cl (pf_X12_postOf l1 σ) fun v11 σ12 =>
  on_Cl (pf_X12_putAt l1 l2 l3 σ12) fun _ σ14 =>
  some (v11, σ14)
def pf_X12_stand (p0 : Int) (p1 : Int) (p2 : Int) (σ : on_S) : Option on_O :=
  on_Cl (pf_X12_isMan p0 σ) fun v1 σ2 =>
  on_Eq v1 0 (
    some ((-2), σ2)) (
    on_Eq p1 (-1) (
      pf_X12_stand_55 p0 p1 p2 σ2) (
      on_Ck p1 <|
      on_Cl (pf_X12_isNet p1 σ2) fun v3 σ4 =>
      on_Eq v3 0 (
        some ((-2), σ4)) (
        on_Cl (pf_X12_isCorner p2 σ4) fun v5 σ6 =>
        on_Eq v5 0 (
          some ((-2), σ6)) (
          on_Cl (pf_X12_manAt p1 p2 σ6) fun v7 σ8 =>
          on_Eq v7 (-1) (
            pf_X12_stand_55 p0 p1 p2 σ8) (
            on_Cl (pf_X12_manAt p1 p2 σ8) fun v9 σ10 =>
            on_Eq v9 p0 (
              pf_X12_stand_55 p0 p1 p2 σ10) (
              some ((-2), σ10)))))))
set_option maxRecDepth 100000 in
set_option maxHeartbeats 4000000 in
theorem gb_X12_stand_55 {E : on_E} {z n : Nat} (X : on_X) (hN : 100 ≤ n) (l1 : Int) (l2 : Int) (l3 : Int) (σ : on_S) : on_G X E cX12_stand RX12 (some .int) 2 47 5 z n σ (pf_X12_stand_55 l1 l2 l3 σ) 55 [some (.ref (z + 77)), some (.int (on_i l1)), some (.int (on_i l2)), some (.int (on_i l3)), none] [] := by
  rw [pf_X12_stand_55]
  refine on_al0 (tk_X12_stand 31 rfl) ?_
  refine on_il1 (tk_X12_stand 32 rfl) ?_
  refine on_cV1i 12 ms_X12_postOf kw_8_97 rfl rfl (ltc_77 hN) sh_77 (ct_X12_postOf hN) rfl (tk_X12_stand 33 rfl) fun v11 σ12 => ?_
  refine on_is4 rfl (tk_X12_stand 34 rfl) ?_
  refine on_al0 (tk_X12_stand 35 rfl) ?_
  refine on_il1 (tk_X12_stand 36 rfl) ?_
  refine on_il2 (tk_X12_stand 37 rfl) ?_
  refine on_il3 (tk_X12_stand 38 rfl) ?_
  refine on_cV3v 12 ms_X12_putAt kw_8_101 rfl rfl (ltc_77 hN) sh_77 (ct_X12_putAt hN) rfl (tk_X12_stand 39 rfl) fun v13 σ14 => ?_
  refine on_il4 (tk_X12_stand 40 rfl) ?_
  exact on_iret (tk_X12_stand 41 rfl)
set_option maxRecDepth 100000 in
set_option maxHeartbeats 4000000 in
theorem ct_X12_stand {E : on_E} {z n : Nat} {p0 : Int} {p1 : Int} {p2 : Int} (hN : 100 ≤ n) {σ : on_S} : on_Sp E yX12_stand cX12_stand 5 (some .int) 2 47 z n [.ref (z + 77), .int (on_i p0), .int (on_i p1), .int (on_i p2)] σ (pf_X12_stand p0 p1 p2 σ) := by
  refine on_met [some (.ref (z + 77)), some (.int (on_i p0)), some (.int (on_i p1)), some (.int (on_i p2)), none] (by decide) rfl rfl (fun X => ?_)
  rw [pf_X12_stand]
  refine on_al0 (tk_X12_stand 0 rfl) ?_
  refine on_il1 (tk_X12_stand 1 rfl) ?_
  refine on_cV1z 12 ms_X12_isMan kw_7_170 rfl rfl (ltc_77 hN) sh_77 (ct_X12_isMan hN) rfl (tk_X12_stand 2 rfl) fun v1 σ2 => ?_
  refine on_if_ne (tk_X12_stand 3 rfl) (tgt := 11) (by decide) ?_ ?_
  · refine on_bipush (tk_X12_stand 4 rfl) bp_m2 ?_
    exact on_iret (tk_X12_stand 5 rfl)
  · refine on_il2 (tk_X12_stand 6 rfl) ?_
    refine on_iconst (tk_X12_stand 7 rfl) ?_
    refine on_icmp_eq (tk_X12_stand 8 rfl) (tgt := 55) (by decide) ?_ ?_
    · refine on_al0 (tk_X12_stand 9 rfl) ?_
      refine on_il2 (tk_X12_stand 10 rfl) ?_
      refine on_xi2l (tk_X12_stand 11 rfl) ?_
      refine on_cV1z 12 ms_X12_isNet kw_7_183 rfl rfl (ltc_77 hN) sh_77 (ct_X12_isNet hN) rfl (tk_X12_stand 12 rfl) fun v3 σ4 => ?_
      refine on_if_eq (tk_X12_stand 13 rfl) (tgt := 52) (by decide) ?_ ?_
      · refine on_il3 (tk_X12_stand 14 rfl) ?_
        refine on_cS1z ms_X12_isCorner kw_8_5 (ct_X12_isCorner hN) rfl (tk_X12_stand 15 rfl) fun v5 σ6 => ?_
        refine on_if_eq (tk_X12_stand 16 rfl) (tgt := 52) (by decide) ?_ ?_
        · refine on_al0 (tk_X12_stand 17 rfl) ?_
          refine on_il2 (tk_X12_stand 18 rfl) ?_
          refine on_il3 (tk_X12_stand 19 rfl) ?_
          refine on_cV2i 12 ms_X12_manAt kw_7_213 rfl rfl (ltc_77 hN) sh_77 (ct_X12_manAt hN) rfl (tk_X12_stand 20 rfl) fun v7 σ8 => ?_
          refine on_iconst (tk_X12_stand 21 rfl) ?_
          refine on_icmp_eq (tk_X12_stand 22 rfl) (tgt := 55) (by decide) ?_ ?_
          · refine on_al0 (tk_X12_stand 23 rfl) ?_
            refine on_il2 (tk_X12_stand 24 rfl) ?_
            refine on_il3 (tk_X12_stand 25 rfl) ?_
            refine on_cV2i 12 ms_X12_manAt kw_7_213 rfl rfl (ltc_77 hN) sh_77 (ct_X12_manAt hN) rfl (tk_X12_stand 26 rfl) fun v9 σ10 => ?_
            refine on_il1 (tk_X12_stand 27 rfl) ?_
            refine on_icmp_eq (tk_X12_stand 28 rfl) (tgt := 55) (by decide) ?_ ?_
            · refine on_bipush (tk_X12_stand 29 rfl) bp_m2 ?_
              exact on_iret (tk_X12_stand 30 rfl)
            · exact gb_X12_stand_55 X  hN _ _ _ _
          · exact gb_X12_stand_55 X  hN _ _ _ _
        · refine on_bipush (tk_X12_stand 29 rfl) bp_m2 ?_
          exact on_iret (tk_X12_stand 30 rfl)
      · refine on_bipush (tk_X12_stand 29 rfl) bp_m2 ?_
        exact on_iret (tk_X12_stand 30 rfl)
    · exact gb_X12_stand_55 X  hN _ _ _ _
def tb_X12_change : List (Nat × Nat × Nat × Instr) := [(0, 1, 1, .aload_n 0), (1, 1, 2, .iload_n 1), (2, 1, 3, .iload_n 2), (3, 3, 6, .invokevirtual 319), (6, 3, 9, .ifCond .ne 6), (9, 2, 11, .bipush (-2)), (11, 1, 12, .ireturn), (12, 1, 13, .aload_n 0), (13, 1, 14, .iload_n 1), (14, 1, 15, .iconst 2), (15, 3, 18, .invokevirtual 98), (18, 1, 19, .istore_n 3), (19, 1, 20, .aload_n 0), (20, 1, 21, .iload_n 1), (21, 1, 22, .iconst 3), (22, 3, 25, .invokevirtual 98), (25, 2, 27, .istore 4), (27, 1, 28, .aload_n 0), (28, 1, 29, .iload_n 1), (29, 1, 30, .aload_n 0), (30, 1, 31, .iload_n 2), (31, 1, 32, .iconst 2), (32, 3, 35, .invokevirtual 98), (35, 1, 36, .aload_n 0), (36, 1, 37, .iload_n 2), (37, 1, 38, .iconst 3), (38, 3, 41, .invokevirtual 98), (41, 3, 44, .invokevirtual 348), (44, 1, 45, .aload_n 0), (45, 1, 46, .iload_n 2), (46, 1, 47, .iload_n 3), (47, 2, 49, .iload 4), (49, 3, 52, .invokevirtual 348), (52, 1, 53, .iconst 0), (53, 1, 54, .ireturn)]
set_option maxRecDepth 100000 in
theorem tk_X12_change (k : Nat) {pc n pc2 : Nat} {i : Instr} (hk : tb_X12_change[k]? = some (pc, n, pc2, i)) : on_dq cX12_change pc n pc2 i := on_ta (by decide +kernel) k hk
theorem ms_X12_change : on_Mv yX12_change cX12_change 5 (some .int) 2 := ⟨kw_8_108, kw_8_106, kw_8_107, kw_1_13, by decide, by decide, by decide +kernel⟩
def pf_X12_change (p0 : Int) (p1 : Int) (σ : on_S) : Option on_O :=
  on_Cl (pf_X12_areMen p0 p1 σ) fun v1 σ2 =>
  on_Eq v1 0 (
    some ((-2), σ2)) (
    on_Cl (pf_X12_ofMan p0 2 σ2) fun v3 σ4 =>
    on_Cl (pf_X12_ofMan p0 3 σ4) fun v5 σ6 =>
    on_Cl (pf_X12_ofMan p1 2 σ6) fun v7 σ8 =>
    on_Cl (pf_X12_ofMan p1 3 σ8) fun v9 σ10 =>
    on_Cl (pf_X12_putAt p0 v7 v9 σ10) fun _ σ12 =>
    on_Cl (pf_X12_putAt p1 v3 v5 σ12) fun _ σ14 =>
    some (0, σ14))
set_option maxRecDepth 100000 in
set_option maxHeartbeats 4000000 in
theorem ct_X12_change {E : on_E} {z n : Nat} {p0 : Int} {p1 : Int} (hN : 100 ≤ n) {σ : on_S} : on_Sp E yX12_change cX12_change 5 (some .int) 3 68 z n [.ref (z + 77), .int (on_i p0), .int (on_i p1)] σ (pf_X12_change p0 p1 σ) := by
  refine on_met [some (.ref (z + 77)), some (.int (on_i p0)), some (.int (on_i p1)), none, none] (by decide) rfl rfl (fun X => ?_)
  rw [pf_X12_change]
  refine on_al0 (tk_X12_change 0 rfl) ?_
  refine on_il1 (tk_X12_change 1 rfl) ?_
  refine on_il2 (tk_X12_change 2 rfl) ?_
  refine on_cV2z 12 ms_X12_areMen kw_8_20 rfl rfl (ltc_77 hN) sh_77 (ct_X12_areMen hN) rfl (tk_X12_change 3 rfl) fun v1 σ2 => ?_
  refine on_if_ne (tk_X12_change 4 rfl) (tgt := 12) (by decide) ?_ ?_
  · refine on_bipush (tk_X12_change 5 rfl) bp_m2 ?_
    exact on_iret (tk_X12_change 6 rfl)
  · refine on_al0 (tk_X12_change 7 rfl) ?_
    refine on_il1 (tk_X12_change 8 rfl) ?_
    refine on_iconst (tk_X12_change 9 rfl) ?_
    refine on_cV2i 12 ms_X12_ofMan kw_7_175 rfl rfl (ltc_77 hN) sh_77 (ct_X12_ofMan hN) rfl (tk_X12_change 10 rfl) fun v3 σ4 => ?_
    refine on_is3 rfl (tk_X12_change 11 rfl) ?_
    refine on_al0 (tk_X12_change 12 rfl) ?_
    refine on_il1 (tk_X12_change 13 rfl) ?_
    refine on_iconst (tk_X12_change 14 rfl) ?_
    refine on_cV2i 12 ms_X12_ofMan kw_7_175 rfl rfl (ltc_77 hN) sh_77 (ct_X12_ofMan hN) rfl (tk_X12_change 15 rfl) fun v5 σ6 => ?_
    refine on_is4 rfl (tk_X12_change 16 rfl) ?_
    refine on_al0 (tk_X12_change 17 rfl) ?_
    refine on_il1 (tk_X12_change 18 rfl) ?_
    refine on_al0 (tk_X12_change 19 rfl) ?_
    refine on_il2 (tk_X12_change 20 rfl) ?_
    refine on_iconst (tk_X12_change 21 rfl) ?_
    refine on_cV2i 12 ms_X12_ofMan kw_7_175 rfl rfl (ltc_77 hN) sh_77 (ct_X12_ofMan hN) rfl (tk_X12_change 22 rfl) fun v7 σ8 => ?_
    refine on_al0 (tk_X12_change 23 rfl) ?_
    refine on_il2 (tk_X12_change 24 rfl) ?_
    refine on_iconst (tk_X12_change 25 rfl) ?_
    refine on_cV2i 12 ms_X12_ofMan kw_7_175 rfl rfl (ltc_77 hN) sh_77 (ct_X12_ofMan hN) rfl (tk_X12_change 26 rfl) fun v9 σ10 => ?_
    refine on_cV3v 12 ms_X12_putAt kw_8_101 rfl rfl (ltc_77 hN) sh_77 (ct_X12_putAt hN) rfl (tk_X12_change 27 rfl) fun v11 σ12 => ?_
    refine on_al0 (tk_X12_change 28 rfl) ?_
    refine on_il2 (tk_X12_change 29 rfl) ?_
    refine on_il3 (tk_X12_change 30 rfl) ?_
    refine on_il4 (tk_X12_change 31 rfl) ?_
    refine on_cV3v 12 ms_X12_putAt kw_8_101 rfl rfl (ltc_77 hN) sh_77 (ct_X12_putAt hN) rfl (tk_X12_change 32 rfl) fun v13 σ14 => ?_
    refine on_iconst (tk_X12_change 33 rfl) ?_
    exact on_iret (tk_X12_change 34 rfl)
def tb_X12_isThere : List (Nat × Nat × Nat × Instr) := [(0, 1, 1, .aload_n 0), (1, 3, 4, .getfield 352), (4, 1, 5, .aload_n 0), (5, 1, 6, .iload_n 1), (6, 1, 7, .iconst 0), (7, 3, 10, .invokevirtual 98), (10, 1, 11, .ishr), (11, 1, 12, .iconst 1), (12, 1, 13, .iand), (13, 1, 14, .iconst 1), (14, 3, 17, .if_icmp .ne 7), (17, 1, 18, .iconst 1), (18, 3, 21, .goto 4), (21, 1, 22, .iconst 0), (22, 1, 23, .ireturn)]
set_option maxRecDepth 100000 in
theorem tk_X12_isThere (k : Nat) {pc n pc2 : Nat} {i : Instr} (hk : tb_X12_isThere[k]? = some (pc, n, pc2, i)) : on_dq cX12_isThere pc n pc2 i := on_ta (by decide +kernel) k hk
theorem ms_X12_isThere : on_Mv yX12_isThere cX12_isThere 2 (some .boolean) 1 := ⟨kw_8_144, kw_8_143, (on_mp (q := (yX12_isThere, 37)) (by decide +kernel)), kw_1_13, by decide, by decide, by decide +kernel⟩
def pf_X12_isThere (p0 : Int) (σ : on_S) : Option on_O :=
  on_Gt σ 77 18 fun v1 =>
  on_Cl (pf_X12_ofMan p0 0 σ) fun v2 σ3 =>
  on_Eq (on_and (on_shr v1 v2) 1) 1 (
    some (1, σ3)) (
    some (0, σ3))
set_option maxRecDepth 100000 in
set_option maxHeartbeats 4000000 in
theorem ct_X12_isThere {E : on_E} {z n : Nat} {p0 : Int} (hN : 100 ≤ n) {σ : on_S} : on_Sp E yX12_isThere cX12_isThere 2 (some .boolean) 1 22 z n [.ref (z + 77), .int (on_i p0)] σ (pf_X12_isThere p0 σ) := by
  refine on_met [some (.ref (z + 77)), some (.int (on_i p0))] (by decide) rfl rfl (fun X => ?_)
  rw [pf_X12_isThere]
  refine on_al0 (tk_X12_isThere 0 rfl) ?_
  refine fg_12_18 hN kw_6_158 (tk_X12_isThere 1 rfl) fun v1 => ?_
  refine on_al0 (tk_X12_isThere 2 rfl) ?_
  refine on_il1 (tk_X12_isThere 3 rfl) ?_
  refine on_iconst (tk_X12_isThere 4 rfl) ?_
  refine on_cV2i 12 ms_X12_ofMan kw_7_175 rfl rfl (ltc_77 hN) sh_77 (ct_X12_ofMan hN) rfl (tk_X12_isThere 5 rfl) fun v2 σ3 => ?_
  refine on_ishr (tk_X12_isThere 6 rfl) ?_
  refine on_iconst (tk_X12_isThere 7 rfl) ?_
  refine on_iand (tk_X12_isThere 8 rfl) ?_
  refine on_iconst (tk_X12_isThere 9 rfl) ?_
  refine on_icmp_ne (tk_X12_isThere 10 rfl) (tgt := 21) (by decide) ?_ ?_
  · refine on_iconst (tk_X12_isThere 11 rfl) ?_
    refine on_goto (tk_X12_isThere 12 rfl) (tgt := 22) (by decide) ?_
    exact on_zret1 (tk_X12_isThere 14 rfl)
  · refine on_iconst (tk_X12_isThere 13 rfl) ?_
    exact on_zret0 (tk_X12_isThere 14 rfl)
def tb_X12_isFreeTo : List (Nat × Nat × Nat × Instr) := [(0, 1, 1, .iconst 0), (1, 1, 2, .istore_n 3), (2, 1, 3, .iload_n 3), (3, 1, 4, .iload_n 2), (4, 3, 7, .if_icmp .ge 21), (7, 1, 8, .aload_n 0), (8, 3, 11, .getfield 34), (11, 1, 12, .iload_n 3), (12, 1, 13, .iaload), (13, 1, 14, .iload_n 1), (14, 3, 17, .if_icmp .ne 5), (17, 1, 18, .iconst 0), (18, 1, 19, .ireturn), (19, 3, 22, .iinc 3 1), (22, 3, 25, .goto (-20)), (25, 1, 26, .aload_n 0), (26, 1, 27, .iload_n 1), (27, 3, 30, .invokevirtual 354), (30, 1, 31, .ireturn)]
set_option maxRecDepth 100000 in
theorem tk_X12_isFreeTo (k : Nat) {pc n pc2 : Nat} {i : Instr} (hk : tb_X12_isFreeTo[k]? = some (pc, n, pc2, i)) : on_dq cX12_isFreeTo pc n pc2 i := on_ta (by decide +kernel) k hk
theorem ms_X12_isFreeTo : on_Mv yX12_isFreeTo cX12_isFreeTo 4 (some .boolean) 2 := ⟨kw_8_140, kw_8_139, (on_mp (q := (yX12_isFreeTo, 37)) (by decide +kernel)), kw_1_13, by decide, by decide, by decide +kernel⟩
def pf_X12_isFreeTo_2 : Nat → Int → Int → Int → on_S → Option on_O
  | 0, _, _, _, _ => none
  | nf + 1, l1, l2, l3, σ =>
    on_Lt l3 l2 (
      on_Rd σ 84 4 l3 fun v1 =>
      on_Eq v1 l1 (
        some (0, σ)) (
        pf_X12_isFreeTo_2 nf l1 l2 (l3 + 1) σ)) (
      on_Cl (pf_X12_isThere l1 σ) fun v2 σ3 =>
      on_Bz v2 σ3)
def pf_X12_isFreeTo (p0 : Int) (p1 : Int) (σ : on_S) : Option on_O :=
  pf_X12_isFreeTo_2 on_N p0 p1 0 σ
set_option maxRecDepth 100000 in
set_option maxHeartbeats 4000000 in
theorem gl_X12_isFreeTo_2 {E : on_E} {z n : Nat} (X : on_X) (hN : 100 ≤ n) : ∀ (nf : Nat) (l1 : Int) (l2 : Int) (l3 : Int) (σ : on_S), on_G X E cX12_isFreeTo RX12 (some .boolean) 2 43 4 z n σ (pf_X12_isFreeTo_2 nf l1 l2 l3 σ) 2 [some (.ref (z + 77)), some (.int (on_i l1)), some (.int (on_i l2)), some (.int (on_i l3))] [] := by
  intro nf
  induction nf with
  | zero => intro l1 l2 l3 σ; exact on_none
  | succ nf ih =>
    intro l1 l2 l3 σ
    rw [pf_X12_isFreeTo_2]
    refine on_il3 (tk_X12_isFreeTo 2 rfl) ?_
    refine on_il2 (tk_X12_isFreeTo 3 rfl) ?_
    refine on_icmp_ge (tk_X12_isFreeTo 4 rfl) (tgt := 25) (by decide) ?_ ?_
    · refine on_al0 (tk_X12_isFreeTo 5 rfl) ?_
      refine fg_12_15 hN kw_6_155 (tk_X12_isFreeTo 6 rfl) ?_
      refine on_il3 (tk_X12_isFreeTo 7 rfl) ?_
      refine on_iald (ltc_84 hN) sh_84 (tk_X12_isFreeTo 8 rfl) fun v1 => ?_
      refine on_il1 (tk_X12_isFreeTo 9 rfl) ?_
      refine on_icmp_ne (tk_X12_isFreeTo 10 rfl) (tgt := 19) (by decide) ?_ ?_
      · refine on_iconst (tk_X12_isFreeTo 11 rfl) ?_
        exact on_zret0 (tk_X12_isFreeTo 12 rfl)
      · refine on_inc3 rfl (tk_X12_isFreeTo 13 rfl) ?_
        refine on_goto (tk_X12_isFreeTo 14 rfl) (tgt := 2) (by decide) ?_
        exact ih _ _ _ _
    · refine on_al0 (tk_X12_isFreeTo 15 rfl) ?_
      refine on_il1 (tk_X12_isFreeTo 16 rfl) ?_
      refine on_cV1z 12 ms_X12_isThere kw_8_141 rfl rfl (ltc_77 hN) sh_77 (ct_X12_isThere hN) rfl (tk_X12_isFreeTo 17 rfl) fun v2 σ3 => ?_
      exact on_zret (tk_X12_isFreeTo 18 rfl)
set_option maxRecDepth 100000 in
set_option maxHeartbeats 4000000 in
theorem ct_X12_isFreeTo {E : on_E} {z n : Nat} {p0 : Int} {p1 : Int} (hN : 100 ≤ n) {σ : on_S} : on_Sp E yX12_isFreeTo cX12_isFreeTo 4 (some .boolean) 2 43 z n [.ref (z + 77), .int (on_i p0), .int (on_i p1)] σ (pf_X12_isFreeTo p0 p1 σ) := by
  refine on_met [some (.ref (z + 77)), some (.int (on_i p0)), some (.int (on_i p1)), none] (by decide) rfl rfl (fun X => ?_)
  rw [pf_X12_isFreeTo]
  refine on_iconst (tk_X12_isFreeTo 0 rfl) ?_
  refine on_is3 rfl (tk_X12_isFreeTo 1 rfl) ?_
  exact gl_X12_isFreeTo_2 X  hN on_N _ _ _ _
def tb_X12_nextRow : List (Nat × Nat × Nat × Instr) := [(0, 1, 1, .iload_n 1), (1, 1, 2, .istore_n 2), (2, 1, 3, .iload_n 2), (3, 3, 6, .ifCond .lt 87), (6, 1, 7, .aload_n 0), (7, 3, 10, .getfield 34), (10, 1, 11, .iload_n 2), (11, 1, 12, .iaload), (12, 1, 13, .iconst 1), (13, 1, 14, .iadd), (14, 1, 15, .istore_n 3), (15, 1, 16, .iload_n 3), (16, 1, 17, .aload_n 0), (17, 3, 20, .getfield 9), (20, 1, 21, .iconst 3), (21, 1, 22, .iaload), (22, 3, 25, .if_icmp .ge 18), (25, 1, 26, .aload_n 0), (26, 1, 27, .iload_n 3), (27, 1, 28, .iload_n 2), (28, 3, 31, .invokevirtual 357), (31, 3, 34, .ifCond .ne 9), (34, 3, 37, .iinc 3 1), (37, 3, 40, .goto (-22)), (40, 1, 41, .iload_n 3), (41, 1, 42, .aload_n 0), (42, 3, 45, .getfield 9), (45, 1, 46, .iconst 3), (46, 1, 47, .iaload), (47, 3, 50, .if_icmp .ne 16), (50, 1, 51, .aload_n 0), (51, 3, 54, .getfield 34), (54, 1, 55, .iload_n 2), (55, 1, 56, .iconst (-1)), (56, 1, 57, .iastore), (57, 3, 60, .iinc 2 (-1)), (60, 3, 63, .goto (-58)), (63, 1, 64, .aload_n 0), (64, 3, 67, .getfield 34), (67, 1, 68, .iload_n 2), (68, 1, 69, .iload_n 3), (69, 1, 70, .iastore), (70, 1, 71, .iload_n 2), (71, 1, 72, .iconst 3), (72, 3, 75, .if_icmp .ne 5), (75, 1, 76, .iconst 1), (76, 1, 77, .ireturn), (77, 3, 80, .iinc 2 1), (80, 1, 81, .aload_n 0), (81, 3, 84, .getfield 34), (84, 1, 85, .iload_n 2), (85, 1, 86, .iconst (-1)), (86, 1, 87, .iastore), (87, 3, 90, .goto (-85)), (90, 1, 91, .iconst 0), (91, 1, 92, .ireturn)]
set_option maxRecDepth 100000 in
theorem tk_X12_nextRow (k : Nat) {pc n pc2 : Nat} {i : Instr} (hk : tb_X12_nextRow[k]? = some (pc, n, pc2, i)) : on_dq cX12_nextRow pc n pc2 i := on_ta (by decide +kernel) k hk
theorem ms_X12_nextRow : on_Mv yX12_nextRow cX12_nextRow 4 (some .boolean) 1 := ⟨kw_8_136, kw_8_135, (on_mp (q := (yX12_nextRow, 37)) (by decide +kernel)), kw_1_13, by decide, by decide, by decide +kernel⟩
def pf_X12_nextRow_40 (k2 : Int → on_S → Option on_O) (l2 : Int) (l3 : Int) (σ : on_S) : Option on_O :=
  on_Rd σ 78 687 3 fun v5 =>
  on_Eq l3 v5 (
    on_Wr σ 84 4 l2 (-1) fun σ6 =>
    k2 (l2 + (-1)) σ6) (
    on_Wr σ 84 4 l2 l3 fun σ7 =>
    on_Eq l2 3 (
      some (1, σ7)) (
      on_Wr σ7 84 4 (l2 + 1) (-1) fun σ8 =>
      k2 (l2 + 1) σ8))
def pf_X12_nextRow_15 (k2 : Int → on_S → Option on_O) : Nat → Int → Int → on_S → Option on_O
  | 0, _, _, _ => none
  | nf + 1, l2, l3, σ =>
    on_Rd σ 78 687 3 fun v2 =>
    on_Lt l3 v2 (
      on_Cl (pf_X12_isFreeTo l3 l2 σ) fun v3 σ4 =>
      on_Eq v3 0 (
        pf_X12_nextRow_15 k2 nf l2 (l3 + 1) σ4) (
        pf_X12_nextRow_40 k2 l2 l3 σ4)) (
      pf_X12_nextRow_40 k2 l2 l3 σ)
def pf_X12_nextRow_2 : Nat → Int → on_S → Option on_O
  | 0, _, _ => none
  | nf + 1, l2, σ =>
    on_Lt l2 0 (
      some (0, σ)) (
      on_Rd σ 84 4 l2 fun v1 =>
      pf_X12_nextRow_15 (pf_X12_nextRow_2 nf) on_N l2 (v1 + 1) σ)
def pf_X12_nextRow (p0 : Int) (σ : on_S) : Option on_O :=
  pf_X12_nextRow_2 on_N p0 σ
set_option maxRecDepth 100000 in
set_option maxHeartbeats 4000000 in
theorem gb_X12_nextRow_40 {E : on_E} {z n : Nat} (X : on_X) (k2 : Int → on_S → Option on_O) (hN : 100 ≤ n) (hk2 : ∀ (l2 : Int) (σ : on_S), on_G X E cX12_nextRow RX12 (some .boolean) 3 66 4 z n σ (k2 l2 σ) 2 [some (.ref (z + 77)), none, some (.int (on_i l2)), none] []) (l2 : Int) (l3 : Int) (σ : on_S) : on_G X E cX12_nextRow RX12 (some .boolean) 3 66 4 z n σ (pf_X12_nextRow_40 k2 l2 l3 σ) 40 [some (.ref (z + 77)), none, some (.int (on_i l2)), some (.int (on_i l3))] [] := by
  rw [pf_X12_nextRow_40]
  refine on_il3 (tk_X12_nextRow 24 rfl) ?_
  refine on_al0 (tk_X12_nextRow 25 rfl) ?_
  refine fg_12_1 hN kw_6_141 (tk_X12_nextRow 26 rfl) ?_
  refine on_iconst (tk_X12_nextRow 27 rfl) ?_
  refine on_iald (ltc_78 hN) sh_78 (tk_X12_nextRow 28 rfl) fun v5 => ?_
  refine on_icmp_ne (tk_X12_nextRow 29 rfl) (tgt := 63) (by decide) ?_ ?_
  · refine on_al0 (tk_X12_nextRow 30 rfl) ?_
    refine fg_12_15 hN kw_6_155 (tk_X12_nextRow 31 rfl) ?_
    refine on_il2 (tk_X12_nextRow 32 rfl) ?_
    refine on_iconst (tk_X12_nextRow 33 rfl) ?_
    refine on_iast (ltc_84 hN) sh_84 (tk_X12_nextRow 34 rfl) fun σ6 => ?_
    refine on_inc2 rfl (tk_X12_nextRow 35 rfl) ?_
    refine on_goto (tk_X12_nextRow 36 rfl) (tgt := 2) (by decide) ?_
    refine on_dr3 ?_
    exact hk2 _ _
  · refine on_al0 (tk_X12_nextRow 37 rfl) ?_
    refine fg_12_15 hN kw_6_155 (tk_X12_nextRow 38 rfl) ?_
    refine on_il2 (tk_X12_nextRow 39 rfl) ?_
    refine on_il3 (tk_X12_nextRow 40 rfl) ?_
    refine on_iast (ltc_84 hN) sh_84 (tk_X12_nextRow 41 rfl) fun σ7 => ?_
    refine on_il2 (tk_X12_nextRow 42 rfl) ?_
    refine on_iconst (tk_X12_nextRow 43 rfl) ?_
    refine on_icmp_ne (tk_X12_nextRow 44 rfl) (tgt := 77) (by decide) ?_ ?_
    · refine on_iconst (tk_X12_nextRow 45 rfl) ?_
      exact on_zret1 (tk_X12_nextRow 46 rfl)
    · refine on_inc2 rfl (tk_X12_nextRow 47 rfl) ?_
      refine on_al0 (tk_X12_nextRow 48 rfl) ?_
      refine fg_12_15 hN kw_6_155 (tk_X12_nextRow 49 rfl) ?_
      refine on_il2 (tk_X12_nextRow 50 rfl) ?_
      refine on_iconst (tk_X12_nextRow 51 rfl) ?_
      refine on_iast (ltc_84 hN) sh_84 (tk_X12_nextRow 52 rfl) fun σ8 => ?_
      refine on_goto (tk_X12_nextRow 53 rfl) (tgt := 2) (by decide) ?_
      refine on_dr3 ?_
      exact hk2 _ _
set_option maxRecDepth 100000 in
set_option maxHeartbeats 4000000 in
theorem gl_X12_nextRow_15 {E : on_E} {z n : Nat} (X : on_X) (k2 : Int → on_S → Option on_O) (hN : 100 ≤ n) (hk2 : ∀ (l2 : Int) (σ : on_S), on_G X E cX12_nextRow RX12 (some .boolean) 3 66 4 z n σ (k2 l2 σ) 2 [some (.ref (z + 77)), none, some (.int (on_i l2)), none] []) : ∀ (nf : Nat) (l2 : Int) (l3 : Int) (σ : on_S), on_G X E cX12_nextRow RX12 (some .boolean) 3 66 4 z n σ (pf_X12_nextRow_15 k2 nf l2 l3 σ) 15 [some (.ref (z + 77)), none, some (.int (on_i l2)), some (.int (on_i l3))] [] := by
  intro nf
  induction nf with
  | zero => intro l2 l3 σ; exact on_none
  | succ nf ih =>
    intro l2 l3 σ
    rw [pf_X12_nextRow_15]
    refine on_il3 (tk_X12_nextRow 11 rfl) ?_
    refine on_al0 (tk_X12_nextRow 12 rfl) ?_
    refine fg_12_1 hN kw_6_141 (tk_X12_nextRow 13 rfl) ?_
    refine on_iconst (tk_X12_nextRow 14 rfl) ?_
    refine on_iald (ltc_78 hN) sh_78 (tk_X12_nextRow 15 rfl) fun v2 => ?_
    refine on_icmp_ge (tk_X12_nextRow 16 rfl) (tgt := 40) (by decide) ?_ ?_
    · refine on_al0 (tk_X12_nextRow 17 rfl) ?_
      refine on_il3 (tk_X12_nextRow 18 rfl) ?_
      refine on_il2 (tk_X12_nextRow 19 rfl) ?_
      refine on_cV2z 12 ms_X12_isFreeTo kw_8_137 rfl rfl (ltc_77 hN) sh_77 (ct_X12_isFreeTo hN) rfl (tk_X12_nextRow 20 rfl) fun v3 σ4 => ?_
      refine on_if_ne (tk_X12_nextRow 21 rfl) (tgt := 40) (by decide) ?_ ?_
      · refine on_inc3 rfl (tk_X12_nextRow 22 rfl) ?_
        refine on_goto (tk_X12_nextRow 23 rfl) (tgt := 15) (by decide) ?_
        exact ih _ _ _
      · exact gb_X12_nextRow_40 X _ hN hk2 _ _ _
    · exact gb_X12_nextRow_40 X _ hN hk2 _ _ _
set_option maxRecDepth 100000 in
set_option maxHeartbeats 4000000 in
theorem gl_X12_nextRow_2 {E : on_E} {z n : Nat} (X : on_X) (hN : 100 ≤ n) : ∀ (nf : Nat) (l2 : Int) (σ : on_S), on_G X E cX12_nextRow RX12 (some .boolean) 3 66 4 z n σ (pf_X12_nextRow_2 nf l2 σ) 2 [some (.ref (z + 77)), none, some (.int (on_i l2)), none] [] := by
  intro nf
  induction nf with
  | zero => intro l2 σ; exact on_none
  | succ nf ih =>
    intro l2 σ
    rw [pf_X12_nextRow_2]
    refine on_il2 (tk_X12_nextRow 2 rfl) ?_
    refine on_if_lt (tk_X12_nextRow 3 rfl) (tgt := 90) (by decide) ?_ ?_
    · refine on_al0 (tk_X12_nextRow 4 rfl) ?_
      refine fg_12_15 hN kw_6_155 (tk_X12_nextRow 5 rfl) ?_
      refine on_il2 (tk_X12_nextRow 6 rfl) ?_
      refine on_iald (ltc_84 hN) sh_84 (tk_X12_nextRow 7 rfl) fun v1 => ?_
      refine on_iconst (tk_X12_nextRow 8 rfl) ?_
      refine on_iadd (tk_X12_nextRow 9 rfl) ?_
      refine on_is3 rfl (tk_X12_nextRow 10 rfl) ?_
      exact gl_X12_nextRow_15 X _ hN ih on_N _ _ _
    · refine on_iconst (tk_X12_nextRow 54 rfl) ?_
      exact on_zret0 (tk_X12_nextRow 55 rfl)
set_option maxRecDepth 100000 in
set_option maxHeartbeats 4000000 in
theorem ct_X12_nextRow {E : on_E} {z n : Nat} {p0 : Int} (hN : 100 ≤ n) {σ : on_S} : on_Sp E yX12_nextRow cX12_nextRow 4 (some .boolean) 3 66 z n [.ref (z + 77), .int (on_i p0)] σ (pf_X12_nextRow p0 σ) := by
  refine on_met [some (.ref (z + 77)), some (.int (on_i p0)), none, none] (by decide) rfl rfl (fun X => ?_)
  rw [pf_X12_nextRow]
  refine on_il1 (tk_X12_nextRow 0 rfl) ?_
  refine on_is2 rfl (tk_X12_nextRow 1 rfl) ?_
  refine on_dr1 ?_
  exact gl_X12_nextRow_2 X  hN on_N _ _
def tb_X12_firstRow : List (Nat × Nat × Nat × Instr) := [(0, 1, 1, .iconst 0), (1, 1, 2, .istore_n 1), (2, 1, 3, .iload_n 1), (3, 1, 4, .iconst 4), (4, 3, 7, .if_icmp .ge 16), (7, 1, 8, .aload_n 0), (8, 3, 11, .getfield 34), (11, 1, 12, .iload_n 1), (12, 1, 13, .iconst (-1)), (13, 1, 14, .iastore), (14, 3, 17, .iinc 1 1), (17, 3, 20, .goto (-15)), (20, 1, 21, .aload_n 0), (21, 1, 22, .iconst 0), (22, 3, 25, .invokevirtual 360), (25, 1, 26, .ireturn)]
set_option maxRecDepth 100000 in
theorem tk_X12_firstRow (k : Nat) {pc n pc2 : Nat} {i : Instr} (hk : tb_X12_firstRow[k]? = some (pc, n, pc2, i)) : on_dq cX12_firstRow pc n pc2 i := on_ta (by decide +kernel) k hk
theorem ms_X12_firstRow : on_Mv yX12_firstRow cX12_firstRow 2 (some .boolean) 0 := ⟨kw_8_132, kw_8_131, (on_mp (q := (yX12_firstRow, 37)) (by decide +kernel)), kw_1_13, by decide, by decide, by decide +kernel⟩
def pf_X12_firstRow_2 : Nat → Int → on_S → Option on_O
  | 0, _, _ => none
  | nf + 1, l1, σ =>
    on_Lt l1 4 (
      on_Wr σ 84 4 l1 (-1) fun σ1 =>
      pf_X12_firstRow_2 nf (l1 + 1) σ1) (
      on_Cl (pf_X12_nextRow 0 σ) fun v2 σ3 =>
      on_Bz v2 σ3)
def pf_X12_firstRow (σ : on_S) : Option on_O :=
  pf_X12_firstRow_2 on_N 0 σ
set_option maxRecDepth 100000 in
set_option maxHeartbeats 4000000 in
theorem gl_X12_firstRow_2 {E : on_E} {z n : Nat} (X : on_X) (hN : 100 ≤ n) : ∀ (nf : Nat) (l1 : Int) (σ : on_S), on_G X E cX12_firstRow RX12 (some .boolean) 4 89 2 z n σ (pf_X12_firstRow_2 nf l1 σ) 2 [some (.ref (z + 77)), some (.int (on_i l1))] [] := by
  intro nf
  induction nf with
  | zero => intro l1 σ; exact on_none
  | succ nf ih =>
    intro l1 σ
    rw [pf_X12_firstRow_2]
    refine on_il1 (tk_X12_firstRow 2 rfl) ?_
    refine on_iconst (tk_X12_firstRow 3 rfl) ?_
    refine on_icmp_ge (tk_X12_firstRow 4 rfl) (tgt := 20) (by decide) ?_ ?_
    · refine on_al0 (tk_X12_firstRow 5 rfl) ?_
      refine fg_12_15 hN kw_6_155 (tk_X12_firstRow 6 rfl) ?_
      refine on_il1 (tk_X12_firstRow 7 rfl) ?_
      refine on_iconst (tk_X12_firstRow 8 rfl) ?_
      refine on_iast (ltc_84 hN) sh_84 (tk_X12_firstRow 9 rfl) fun σ1 => ?_
      refine on_inc1 rfl (tk_X12_firstRow 10 rfl) ?_
      refine on_goto (tk_X12_firstRow 11 rfl) (tgt := 2) (by decide) ?_
      exact ih _ _
    · refine on_al0 (tk_X12_firstRow 12 rfl) ?_
      refine on_iconst (tk_X12_firstRow 13 rfl) ?_
      refine on_cV1z 12 ms_X12_nextRow kw_8_133 rfl rfl (ltc_77 hN) sh_77 (ct_X12_nextRow hN) rfl (tk_X12_firstRow 14 rfl) fun v2 σ3 => ?_
      exact on_zret (tk_X12_firstRow 15 rfl)
set_option maxRecDepth 100000 in
set_option maxHeartbeats 4000000 in
theorem ct_X12_firstRow {E : on_E} {z n : Nat} (hN : 100 ≤ n) {σ : on_S} : on_Sp E yX12_firstRow cX12_firstRow 2 (some .boolean) 4 89 z n [.ref (z + 77)] σ (pf_X12_firstRow  σ) := by
  refine on_met [some (.ref (z + 77)), none] (by decide) rfl rfl (fun X => ?_)
  rw [pf_X12_firstRow]
  refine on_iconst (tk_X12_firstRow 0 rfl) ?_
  refine on_is1 rfl (tk_X12_firstRow 1 rfl) ?_
  exact gl_X12_firstRow_2 X  hN on_N _ _
