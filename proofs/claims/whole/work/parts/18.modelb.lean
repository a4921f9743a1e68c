def tb_X12_readStands : List (Nat × Nat × Nat × Instr) := [(0, 1, 1, .aload_n 0), (1, 1, 2, .aload_n 0), (2, 3, 5, .getfield 31), (5, 1, 6, .iconst 3), (6, 1, 7, .iaload), (7, 3, 10, .invokevirtual 202), (10, 3, 13, .ifCond .eq 28), (13, 1, 14, .aload_n 0), (14, 3, 17, .getfield 31), (17, 2, 19, .bipush 26), (19, 1, 20, .iconst 4), (20, 1, 21, .aload_n 0), (21, 3, 24, .getfield 137), (24, 1, 25, .imul), (25, 1, 26, .iadd), (26, 1, 27, .iconst 2), (27, 1, 28, .iadd), (28, 1, 29, .iaload), (29, 1, 30, .iconst (-1)), (30, 3, 33, .if_icmp .eq 8), (33, 1, 34, .aload_n 0), (34, 1, 35, .iconst 2), (35, 3, 38, .invokevirtual 173), (38, 1, 39, .aload_n 0), (39, 1, 40, .iconst 0), (40, 1, 41, .aload_n 0), (41, 3, 44, .getfield 31), (44, 1, 45, .iconst 3), (45, 1, 46, .iaload), (46, 1, 47, .iconst 1), (47, 1, 48, .isub), (48, 3, 51, .invokevirtual 181), (51, 1, 52, .istore_n 1), (52, 1, 53, .aload_n 0), (53, 2, 55, .ldc 184), (55, 3, 58, .invokevirtual 177), (58, 1, 59, .aload_n 0), (59, 1, 60, .iconst 0), (60, 1, 61, .aload_n 0), (61, 3, 64, .getfield 31), (64, 1, 65, .iconst 4), (65, 1, 66, .iaload), (66, 1, 67, .iconst 1), (67, 1, 68, .isub), (68, 3, 71, .invokevirtual 181), (71, 1, 72, .istore_n 2), (72, 1, 73, .iconst 0), (73, 1, 74, .istore_n 3), (74, 1, 75, .iload_n 3), (75, 1, 76, .aload_n 0), (76, 3, 79, .getfield 31), (79, 1, 80, .iconst 3), (80, 1, 81, .iaload), (81, 3, 84, .if_icmp .ge 51), (84, 1, 85, .aload_n 0), (85, 3, 88, .getfield 31), (88, 2, 90, .bipush 26), (90, 1, 91, .iconst 4), (91, 1, 92, .iload_n 3), (92, 1, 93, .imul), (93, 1, 94, .iadd), (94, 1, 95, .iconst 2), (95, 1, 96, .iadd), (96, 1, 97, .iaload), (97, 1, 98, .iload_n 2), (98, 3, 101, .if_icmp .ne 28), (101, 1, 102, .aload_n 0), (102, 1, 103, .aload_n 0), (103, 3, 106, .getfield 31), (106, 2, 108, .bipush 26), (108, 1, 109, .iconst 4), (109, 1, 110, .iload_n 3), (110, 1, 111, .imul), (111, 1, 112, .iadd), (112, 1, 113, .iconst 3), (113, 1, 114, .iadd), (114, 1, 115, .iaload), (115, 3, 118, .invokevirtual 185), (118, 3, 121, .ifCond .eq 8), (121, 1, 122, .aload_n 0), (122, 1, 123, .iconst 2), (123, 3, 126, .invokevirtual 173), (126, 3, 129, .iinc 3 1), (129, 3, 132, .goto (-55)), (132, 1, 133, .aload_n 0), (133, 1, 134, .iconst 0), (134, 1, 135, .iconst 3), (135, 3, 138, .invokevirtual 181), (138, 1, 139, .istore_n 3), (139, 1, 140, .aload_n 0), (140, 3, 143, .invokevirtual 149), (143, 3, 146, .ifCond .ne 4), (146, 1, 147, .return_), (147, 1, 148, .aload_n 0), (148, 3, 151, .getfield 31), (151, 2, 153, .bipush 26), (153, 1, 154, .iconst 4), (154, 1, 155, .iload_n 1), (155, 1, 156, .imul), (156, 1, 157, .iadd), (157, 1, 158, .iconst 2), (158, 1, 159, .iadd), (159, 1, 160, .iload_n 2), (160, 1, 161, .iastore), (161, 1, 162, .aload_n 0), (162, 3, 165, .getfield 31), (165, 2, 167, .bipush 26), (167, 1, 168, .iconst 4), (168, 1, 169, .iload_n 1), (169, 1, 170, .imul), (170, 1, 171, .iadd), (171, 1, 172, .iconst 3), (172, 1, 173, .iadd), (173, 1, 174, .iload_n 3), (174, 1, 175, .iastore), (175, 1, 176, .return_)]
set_option maxRecDepth 100000 in
theorem tk_X12_readStands (k : Nat) {pc n pc2 : Nat} {i : Instr} (hk : tb_X12_readStands[k]? = some (pc, n, pc2, i)) : on_dq cX12_readStands pc n pc2 i := on_ta (by decide +kernel) k hk
theorem ms_X12_readStands : on_Mv yX12_readStands cX12_readStands 4 none 0 := ⟨kw_7_128, kw_7_127, (on_mp (q := (yX12_readStands, 37)) (by decide +kernel)), kw_1_13, by decide, by decide, by decide +kernel⟩
def pf_X12_readStands_74 : Nat → Int → Int → Int → on_S → Option on_O
  | 0, _, _, _, _ => none
  | nf + 1, l1, l2, l3, σ =>
    on_Rd σ 83 687 3 fun v16 =>
    on_Lt l3 v16 (
      on_Rd σ 83 687 ((26 + (4 * l3)) + 2) fun v17 =>
      on_Eq v17 l2 (
        on_Rd σ 83 687 ((26 + (4 * l3)) + 3) fun v18 =>
        on_Cl (pf_X12_isNext v18 σ) fun v19 σ20 =>
        on_Eq v19 0 (
          pf_X12_readStands_74 nf l1 l2 (l3 + 1) σ20) (
          on_Cl (pf_X12_errs 2 σ20) fun _ σ22 =>
          pf_X12_readStands_74 nf l1 l2 (l3 + 1) σ22)) (
        pf_X12_readStands_74 nf l1 l2 (l3 + 1) σ)) (
      on_Cl (pf_X12_number 0 3 σ) fun v23 σ24 =>
      on_Cl (pf_X12_good σ24) fun v25 σ26 =>
      on_Eq v25 0 (
        some (0, σ26)) (
        on_Wr σ26 83 687 ((26 + (4 * l1)) + 2) l2 fun σ27 =>
        on_Wr σ27 83 687 ((26 + (4 * l1)) + 3) v23 fun σ28 =>
        some (0, σ28)))
def pf_X12_readStands_38 (σ : on_S) : Option on_O :=
  on_Rd σ 83 687 3 fun v8 =>
  on_Cl (pf_X12_number 0 (v8 - 1) σ) fun v9 σ10 =>
  on_Cl (pf_X12_needs 7 σ10) fun _ σ12 =>
  on_Rd σ12 83 687 4 fun v13 =>
  on_Cl (pf_X12_number 0 (v13 - 1) σ12) fun v14 σ15 =>
  pf_X12_readStands_74 on_N v9 v14 0 σ15
def pf_X12_readStands (σ : on_S) : Option on_O :=
  on_Rd σ 83 687 3 fun v1 =>
  on_Cl (pf_X12_isNextIn v1 σ) fun v2 σ3 =>
  on_Eq v2 0 (
    pf_X12_readStands_38 σ3) (
    on_Gt σ3 77 11 fun v4 =>
    on_Rd σ3 83 687 ((26 + (4 * v4)) + 2) fun v5 =>
    on_Eq v5 (-1) (
      pf_X12_readStands_38 σ3) (
      on_Cl (pf_X12_errs 2 σ3) fun _ σ7 =>
      pf_X12_readStands_38 σ7))
set_option maxRecDepth 100000 in
set_option maxHeartbeats 4000000 in
theorem gl_X12_readStands_74 {E : on_E} {z n : Nat} (X : on_X) (hN : 100 ≤ n) : ∀ (nf : Nat) (l1 : Int) (l2 : Int) (l3 : Int) (σ : on_S), on_G X E cX12_readStands RX12 none 7 151 4 z n σ (pf_X12_readStands_74 nf l1 l2 l3 σ) 74 [some (.ref (z + 77)), some (.int (on_i l1)), some (.int (on_i l2)), some (.int (on_i l3))] [] := by
  intro nf
  induction nf with
  | zero => intro l1 l2 l3 σ; exact on_none
  | succ nf ih =>
    intro l1 l2 l3 σ
    rw [pf_X12_readStands_74]
    refine on_il3 (tk_X12_readStands 48 rfl) ?_
    refine on_al0 (tk_X12_readStands 49 rfl) ?_
    refine fg_12_14 hN kw_6_154 (tk_X12_readStands 50 rfl) ?_
    refine on_iconst (tk_X12_readStands 51 rfl) ?_
    refine on_iald (ltc_83 hN) sh_83 (tk_X12_readStands 52 rfl) fun v16 => ?_
    refine on_icmp_ge (tk_X12_readStands 53 rfl) (tgt := 132) (by decide) ?_ ?_
    · refine on_al0 (tk_X12_readStands 54 rfl) ?_
      refine fg_12_14 hN kw_6_154 (tk_X12_readStands 55 rfl) ?_
      refine on_bipush (tk_X12_readStands 56 rfl) bp_26 ?_
      refine on_iconst (tk_X12_readStands 57 rfl) ?_
      refine on_il3 (tk_X12_readStands 58 rfl) ?_
      refine on_imul (tk_X12_readStands 59 rfl) ?_
      refine on_iadd (tk_X12_readStands 60 rfl) ?_
      refine on_iconst (tk_X12_readStands 61 rfl) ?_
      refine on_iadd (tk_X12_readStands 62 rfl) ?_
      refine on_iald (ltc_83 hN) sh_83 (tk_X12_readStands 63 rfl) fun v17 => ?_
      refine on_il2 (tk_X12_readStands 64 rfl) ?_
      refine on_icmp_ne (tk_X12_readStands 65 rfl) (tgt := 126) (by decide) ?_ ?_
      · refine on_al0 (tk_X12_readStands 66 rfl) ?_
        refine on_al0 (tk_X12_readStands 67 rfl) ?_
        refine fg_12_14 hN kw_6_154 (tk_X12_readStands 68 rfl) ?_
        refine on_bipush (tk_X12_readStands 69 rfl) bp_26 ?_
        refine on_iconst (tk_X12_readStands 70 rfl) ?_
        refine on_il3 (tk_X12_readStands 71 rfl) ?_
        refine on_imul (tk_X12_readStands 72 rfl) ?_
        refine on_iadd (tk_X12_readStands 73 rfl) ?_
        refine on_iconst (tk_X12_readStands 74 rfl) ?_
        refine on_iadd (tk_X12_readStands 75 rfl) ?_
        refine on_iald (ltc_83 hN) sh_83 (tk_X12_readStands 76 rfl) fun v18 => ?_
        refine on_cV1z 12 ms_X12_isNext kw_7_114 rfl rfl (ltc_77 hN) sh_77 (ct_X12_isNext hN) rfl (tk_X12_readStands 77 rfl) fun v19 σ20 => ?_
        refine on_if_eq (tk_X12_readStands 78 rfl) (tgt := 126) (by decide) ?_ ?_
        · refine on_al0 (tk_X12_readStands 79 rfl) ?_
          refine on_iconst (tk_X12_readStands 80 rfl) ?_
          refine on_cV1v 12 ms_X12_errs kw_7_78 rfl rfl (ltc_77 hN) sh_77 (ct_X12_errs hN) rfl (tk_X12_readStands 81 rfl) fun v21 σ22 => ?_
          refine on_inc3 rfl (tk_X12_readStands 82 rfl) ?_
          refine on_goto (tk_X12_readStands 83 rfl) (tgt := 74) (by decide) ?_
          exact ih _ _ _ _
        · refine on_inc3 rfl (tk_X12_readStands 82 rfl) ?_
          refine on_goto (tk_X12_readStands 83 rfl) (tgt := 74) (by decide) ?_
          exact ih _ _ _ _
      · refine on_inc3 rfl (tk_X12_readStands 82 rfl) ?_
        refine on_goto (tk_X12_readStands 83 rfl) (tgt := 74) (by decide) ?_
        exact ih _ _ _ _
    · refine on_al0 (tk_X12_readStands 84 rfl) ?_
      refine on_iconst (tk_X12_readStands 85 rfl) ?_
      refine on_iconst (tk_X12_readStands 86 rfl) ?_
      refine on_cV2i 12 ms_X12_number kw_7_87 rfl rfl (ltc_77 hN) sh_77 (ct_X12_number hN) rfl (tk_X12_readStands 87 rfl) fun v23 σ24 => ?_
      refine on_is3 rfl (tk_X12_readStands 88 rfl) ?_
      refine on_al0 (tk_X12_readStands 89 rfl) ?_
      refine on_cV0z 12 ms_X12_good kw_7_55 rfl rfl (ltc_77 hN) sh_77 (ct_X12_good hN) rfl (tk_X12_readStands 90 rfl) fun v25 σ26 => ?_
      refine on_if_ne (tk_X12_readStands 91 rfl) (tgt := 147) (by decide) ?_ ?_
      · exact on_vret (tk_X12_readStands 92 rfl)
      · refine on_al0 (tk_X12_readStands 93 rfl) ?_
        refine fg_12_14 hN kw_6_154 (tk_X12_readStands 94 rfl) ?_
        refine on_bipush (tk_X12_readStands 95 rfl) bp_26 ?_
        refine on_iconst (tk_X12_readStands 96 rfl) ?_
        refine on_il1 (tk_X12_readStands 97 rfl) ?_
        refine on_imul (tk_X12_readStands 98 rfl) ?_
        refine on_iadd (tk_X12_readStands 99 rfl) ?_
        refine on_iconst (tk_X12_readStands 100 rfl) ?_
        refine on_iadd (tk_X12_readStands 101 rfl) ?_
        refine on_il2 (tk_X12_readStands 102 rfl) ?_
        refine on_iast (ltc_83 hN) sh_83 (tk_X12_readStands 103 rfl) fun σ27 => ?_
        refine on_al0 (tk_X12_readStands 104 rfl) ?_
        refine fg_12_14 hN kw_6_154 (tk_X12_readStands 105 rfl) ?_
        refine on_bipush (tk_X12_readStands 106 rfl) bp_26 ?_
        refine on_iconst (tk_X12_readStands 107 rfl) ?_
        refine on_il1 (tk_X12_readStands 108 rfl) ?_
        refine on_imul (tk_X12_readStands 109 rfl) ?_
        refine on_iadd (tk_X12_readStands 110 rfl) ?_
        refine on_iconst (tk_X12_readStands 111 rfl) ?_
        refine on_iadd (tk_X12_readStands 112 rfl) ?_
        refine on_il3 (tk_X12_readStands 113 rfl) ?_
        refine on_iast (ltc_83 hN) sh_83 (tk_X12_readStands 114 rfl) fun σ28 => ?_
        exact on_vret (tk_X12_readStands 115 rfl)
set_option maxRecDepth 100000 in
set_option maxHeartbeats 4000000 in
theorem gb_X12_readStands_38 {E : on_E} {z n : Nat} (X : on_X) (hN : 100 ≤ n) (σ : on_S) : on_G X E cX12_readStands RX12 none 7 151 4 z n σ (pf_X12_readStands_38  σ) 38 [some (.ref (z + 77)), none, none, none] [] := by
  rw [pf_X12_readStands_38]
  refine on_al0 (tk_X12_readStands 23 rfl) ?_
  refine on_iconst (tk_X12_readStands 24 rfl) ?_
  refine on_al0 (tk_X12_readStands 25 rfl) ?_
  refine fg_12_14 hN kw_6_154 (tk_X12_readStands 26 rfl) ?_
  refine on_iconst (tk_X12_readStands 27 rfl) ?_
  refine on_iald (ltc_83 hN) sh_83 (tk_X12_readStands 28 rfl) fun v8 => ?_
  refine on_iconst (tk_X12_readStands 29 rfl) ?_
  refine on_isub (tk_X12_readStands 30 rfl) ?_
  refine on_cV2i 12 ms_X12_number kw_7_87 rfl rfl (ltc_77 hN) sh_77 (ct_X12_number hN) rfl (tk_X12_readStands 31 rfl) fun v9 σ10 => ?_
  refine on_is1 rfl (tk_X12_readStands 32 rfl) ?_
  refine on_al0 (tk_X12_readStands 33 rfl) ?_
  refine on_ldcs (show ("OppositeNetsModel", 184, "at", 7) ∈ on_strs by decide +kernel) (tk_X12_readStands 34 rfl) ?_
  refine on_cV1v 12 ms_X12_needs kw_7_64 rfl rfl (ltc_77 hN) sh_77 (ct_X12_needs hN (by decide)) rfl (tk_X12_readStands 35 rfl) fun v11 σ12 => ?_
  refine on_al0 (tk_X12_readStands 36 rfl) ?_
  refine on_iconst (tk_X12_readStands 37 rfl) ?_
  refine on_al0 (tk_X12_readStands 38 rfl) ?_
  refine fg_12_14 hN kw_6_154 (tk_X12_readStands 39 rfl) ?_
  refine on_iconst (tk_X12_readStands 40 rfl) ?_
  refine on_iald (ltc_83 hN) sh_83 (tk_X12_readStands 41 rfl) fun v13 => ?_
  refine on_iconst (tk_X12_readStands 42 rfl) ?_
  refine on_isub (tk_X12_readStands 43 rfl) ?_
  refine on_cV2i 12 ms_X12_number kw_7_87 rfl rfl (ltc_77 hN) sh_77 (ct_X12_number hN) rfl (tk_X12_readStands 44 rfl) fun v14 σ15 => ?_
  refine on_is2 rfl (tk_X12_readStands 45 rfl) ?_
  refine on_iconst (tk_X12_readStands 46 rfl) ?_
  refine on_is3 rfl (tk_X12_readStands 47 rfl) ?_
  exact gl_X12_readStands_74 X  hN on_N _ _ _ _
set_option maxRecDepth 100000 in
set_option maxHeartbeats 4000000 in
theorem ct_X12_readStands {E : on_E} {z n : Nat} (hN : 100 ≤ n) {σ : on_S} : on_Sp E yX12_readStands cX12_readStands 4 none 7 151 z n [.ref (z + 77)] σ (pf_X12_readStands  σ) := by
  refine on_met [some (.ref (z + 77)), none, none, none] (by decide) rfl rfl (fun X => ?_)
  rw [pf_X12_readStands]
  refine on_al0 (tk_X12_readStands 0 rfl) ?_
  refine on_al0 (tk_X12_readStands 1 rfl) ?_
  refine fg_12_14 hN kw_6_154 (tk_X12_readStands 2 rfl) ?_
  refine on_iconst (tk_X12_readStands 3 rfl) ?_
  refine on_iald (ltc_83 hN) sh_83 (tk_X12_readStands 4 rfl) fun v1 => ?_
  refine on_cV1z 12 ms_X12_isNextIn kw_7_129 rfl rfl (ltc_77 hN) sh_77 (ct_X12_isNextIn hN) rfl (tk_X12_readStands 5 rfl) fun v2 σ3 => ?_
  refine on_if_eq (tk_X12_readStands 6 rfl) (tgt := 38) (by decide) ?_ ?_
  · refine on_al0 (tk_X12_readStands 7 rfl) ?_
    refine fg_12_14 hN kw_6_154 (tk_X12_readStands 8 rfl) ?_
    refine on_bipush (tk_X12_readStands 9 rfl) bp_26 ?_
    refine on_iconst (tk_X12_readStands 10 rfl) ?_
    refine on_al0 (tk_X12_readStands 11 rfl) ?_
    refine fg_12_11 hN kw_6_151 (tk_X12_readStands 12 rfl) fun v4 => ?_
    refine on_imul (tk_X12_readStands 13 rfl) ?_
    refine on_iadd (tk_X12_readStands 14 rfl) ?_
    refine on_iconst (tk_X12_readStands 15 rfl) ?_
    refine on_iadd (tk_X12_readStands 16 rfl) ?_
    refine on_iald (ltc_83 hN) sh_83 (tk_X12_readStands 17 rfl) fun v5 => ?_
    refine on_iconst (tk_X12_readStands 18 rfl) ?_
    refine on_icmp_eq (tk_X12_readStands 19 rfl) (tgt := 38) (by decide) ?_ ?_
    · refine on_al0 (tk_X12_readStands 20 rfl) ?_
      refine on_iconst (tk_X12_readStands 21 rfl) ?_
      refine on_cV1v 12 ms_X12_errs kw_7_78 rfl rfl (ltc_77 hN) sh_77 (ct_X12_errs hN) rfl (tk_X12_readStands 22 rfl) fun v6 σ7 => ?_
      exact gb_X12_readStands_38 X  hN _
    · exact gb_X12_readStands_38 X  hN _
  · exact gb_X12_readStands_38 X  hN _
def tb_X12_readQuarrel : List (Nat × Nat × Nat × Instr) := [(0, 1, 1, .aload_n 0), (1, 1, 2, .iconst 0), (2, 1, 3, .aload_n 0), (3, 3, 6, .getfield 31), (6, 1, 7, .iconst 3), (7, 1, 8, .iaload), (8, 1, 9, .iconst 1), (9, 1, 10, .isub), (10, 3, 13, .invokevirtual 181), (13, 1, 14, .istore_n 1), (14, 1, 15, .aload_n 0), (15, 1, 16, .iload_n 1), (16, 3, 19, .invokevirtual 185), (19, 3, 22, .ifCond .eq 8), (22, 1, 23, .aload_n 0), (23, 1, 24, .iconst 2), (24, 3, 27, .invokevirtual 173), (27, 1, 28, .aload_n 0), (28, 1, 29, .iconst 0), (29, 1, 30, .aload_n 0), (30, 3, 33, .getfield 31), (33, 1, 34, .iconst 3), (34, 1, 35, .iaload), (35, 1, 36, .iconst 1), (36, 1, 37, .isub), (37, 3, 40, .invokevirtual 181), (40, 1, 41, .istore_n 2), (41, 1, 42, .aload_n 0), (42, 1, 43, .iconst 1), (43, 2, 45, .bipush 9), (45, 3, 48, .invokevirtual 181), (48, 1, 49, .istore_n 3), (49, 1, 50, .aload_n 0), (50, 3, 53, .invokevirtual 149), (53, 3, 56, .ifCond .ne 4), (56, 1, 57, .return_), (57, 1, 58, .aload_n 0), (58, 3, 61, .getfield 31), (61, 2, 63, .bipush 76), (63, 2, 65, .bipush 9), (65, 1, 66, .iload_n 1), (66, 1, 67, .imul), (67, 1, 68, .iadd), (68, 1, 69, .iload_n 2), (69, 1, 70, .iadd), (70, 1, 71, .iload_n 3), (71, 1, 72, .iastore), (72, 1, 73, .aload_n 0), (73, 3, 76, .getfield 31), (76, 2, 78, .bipush 76), (78, 2, 80, .bipush 9), (80, 1, 81, .iload_n 2), (81, 1, 82, .imul), (82, 1, 83, .iadd), (83, 1, 84, .iload_n 1), (84, 1, 85, .iadd), (85, 1, 86, .iload_n 3), (86, 1, 87, .iastore), (87, 1, 88, .return_)]
set_option maxRecDepth 100000 in
theorem tk_X12_readQuarrel (k : Nat) {pc n pc2 : Nat} {i : Instr} (hk : tb_X12_readQuarrel[k]? = some (pc, n, pc2, i)) : on_dq cX12_readQuarrel pc n pc2 i := on_ta (by decide +kernel) k hk
theorem ms_X12_readQuarrel : on_Mv yX12_readQuarrel cX12_readQuarrel 4 none 0 := ⟨kw_7_136, kw_7_135, (on_mp (q := (yX12_readQuarrel, 37)) (by decide +kernel)), kw_1_13, by decide, by decide, by decide +kernel⟩
def pf_X12_readQuarrel_27 (l1 : Int) (σ : on_S) : Option on_O :=
  on_Rd σ 83 687 3 fun v8 =>
  on_Cl (pf_X12_number 0 (v8 - 1) σ) fun v9 σ10 =>
  on_Cl (pf_X12_number 1 9 σ10) fun v11 σ12 =>
  on_Cl (pf_X12_good σ12) fun v13 σ14 =>
  on_Eq v13 0 (
    some (0, σ14)) (
    on_Wr σ14 83 687 ((76 + (9 * l1)) + v9) v11 fun σ15 =>
    on_Wr σ15 83 687 ((76 + (9 * v9)) + l1) v11 fun σ16 =>
    some (0, σ16))
def pf_X12_readQuarrel (σ : on_S) : Option on_O :=
  on_Rd σ 83 687 3 fun v1 =>
  on_Cl (pf_X12_number 0 (v1 - 1) σ) fun v2 σ3 =>
  on_Cl (pf_X12_isNext v2 σ3) fun v4 σ5 =>
  on_Eq v4 0 (
    pf_X12_readQuarrel_27 v2 σ5) (
    on_Cl (pf_X12_errs 2 σ5) fun _ σ7 =>
    pf_X12_readQuarrel_27 v2 σ7)
set_option maxRecDepth 100000 in
set_option maxHeartbeats 4000000 in
theorem gb_X12_readQuarrel_27 {E : on_E} {z n : Nat} (X : on_X) (hN : 100 ≤ n) (l1 : Int) (σ : on_S) : on_G X E cX12_readQuarrel RX12 none 3 69 4 z n σ (pf_X12_readQuarrel_27 l1 σ) 27 [some (.ref (z + 77)), some (.int (on_i l1)), none, none] [] := by
  rw [pf_X12_readQuarrel_27]
  refine on_al0 (tk_X12_readQuarrel 17 rfl) ?_
  refine on_iconst (tk_X12_readQuarrel 18 rfl) ?_
  refine on_al0 (tk_X12_readQuarrel 19 rfl) ?_
  refine fg_12_14 hN kw_6_154 (tk_X12_readQuarrel 20 rfl) ?_
  refine on_iconst (tk_X12_readQuarrel 21 rfl) ?_
  refine on_iald (ltc_83 hN) sh_83 (tk_X12_readQuarrel 22 rfl) fun v8 => ?_
  refine on_iconst (tk_X12_readQuarrel 23 rfl) ?_
  refine on_isub (tk_X12_readQuarrel 24 rfl) ?_
  refine on_cV2i 12 ms_X12_number kw_7_87 rfl rfl (ltc_77 hN) sh_77 (ct_X12_number hN) rfl (tk_X12_readQuarrel 25 rfl) fun v9 σ10 => ?_
  refine on_is2 rfl (tk_X12_readQuarrel 26 rfl) ?_
  refine on_al0 (tk_X12_readQuarrel 27 rfl) ?_
  refine on_iconst (tk_X12_readQuarrel 28 rfl) ?_
  refine on_bipush (tk_X12_readQuarrel 29 rfl) bp_9 ?_
  refine on_cV2i 12 ms_X12_number kw_7_87 rfl rfl (ltc_77 hN) sh_77 (ct_X12_number hN) rfl (tk_X12_readQuarrel 30 rfl) fun v11 σ12 => ?_
  refine on_is3 rfl (tk_X12_readQuarrel 31 rfl) ?_
  refine on_al0 (tk_X12_readQuarrel 32 rfl) ?_
  refine on_cV0z 12 ms_X12_good kw_7_55 rfl rfl (ltc_77 hN) sh_77 (ct_X12_good hN) rfl (tk_X12_readQuarrel 33 rfl) fun v13 σ14 => ?_
  refine on_if_ne (tk_X12_readQuarrel 34 rfl) (tgt := 57) (by decide) ?_ ?_
  · exact on_vret (tk_X12_readQuarrel 35 rfl)
  · refine on_al0 (tk_X12_readQuarrel 36 rfl) ?_
    refine fg_12_14 hN kw_6_154 (tk_X12_readQuarrel 37 rfl) ?_
    refine on_bipush (tk_X12_readQuarrel 38 rfl) bp_76 ?_
    refine on_bipush (tk_X12_readQuarrel 39 rfl) bp_9 ?_
    refine on_il1 (tk_X12_readQuarrel 40 rfl) ?_
    refine on_imul (tk_X12_readQuarrel 41 rfl) ?_
    refine on_iadd (tk_X12_readQuarrel 42 rfl) ?_
    refine on_il2 (tk_X12_readQuarrel 43 rfl) ?_
    refine on_iadd (tk_X12_readQuarrel 44 rfl) ?_
    refine on_il3 (tk_X12_readQuarrel 45 rfl) ?_
    refine on_iast (ltc_83 hN) sh_83 (tk_X12_readQuarrel 46 rfl) fun σ15 => ?_
    refine on_al0 (tk_X12_readQuarrel 47 rfl) ?_
    refine fg_12_14 hN kw_6_154 (tk_X12_readQuarrel 48 rfl) ?_
    refine on_bipush (tk_X12_readQuarrel 49 rfl) bp_76 ?_
    refine on_bipush (tk_X12_readQuarrel 50 rfl) bp_9 ?_
    refine on_il2 (tk_X12_readQuarrel 51 rfl) ?_
    refine on_imul (tk_X12_readQuarrel 52 rfl) ?_
    refine on_iadd (tk_X12_readQuarrel 53 rfl) ?_
    refine on_il1 (tk_X12_readQuarrel 54 rfl) ?_
    refine on_iadd (tk_X12_readQuarrel 55 rfl) ?_
    refine on_il3 (tk_X12_readQuarrel 56 rfl) ?_
    refine on_iast (ltc_83 hN) sh_83 (tk_X12_readQuarrel 57 rfl) fun σ16 => ?_
    exact on_vret (tk_X12_readQuarrel 58 rfl)
set_option maxRecDepth 100000 in
set_option maxHeartbeats 4000000 in
theorem ct_X12_readQuarrel {E : on_E} {z n : Nat} (hN : 100 ≤ n) {σ : on_S} : on_Sp E yX12_readQuarrel cX12_readQuarrel 4 none 3 69 z n [.ref (z + 77)] σ (pf_X12_readQuarrel  σ) := by
  refine on_met [some (.ref (z + 77)), none, none, none] (by decide) rfl rfl (fun X => ?_)
  rw [pf_X12_readQuarrel]
  refine on_al0 (tk_X12_readQuarrel 0 rfl) ?_
  refine on_iconst (tk_X12_readQuarrel 1 rfl) ?_
  refine on_al0 (tk_X12_readQuarrel 2 rfl) ?_
  refine fg_12_14 hN kw_6_154 (tk_X12_readQuarrel 3 rfl) ?_
  refine on_iconst (tk_X12_readQuarrel 4 rfl) ?_
  refine on_iald (ltc_83 hN) sh_83 (tk_X12_readQuarrel 5 rfl) fun v1 => ?_
  refine on_iconst (tk_X12_readQuarrel 6 rfl) ?_
  refine on_isub (tk_X12_readQuarrel 7 rfl) ?_
  refine on_cV2i 12 ms_X12_number kw_7_87 rfl rfl (ltc_77 hN) sh_77 (ct_X12_number hN) rfl (tk_X12_readQuarrel 8 rfl) fun v2 σ3 => ?_
  refine on_is1 rfl (tk_X12_readQuarrel 9 rfl) ?_
  refine on_al0 (tk_X12_readQuarrel 10 rfl) ?_
  refine on_il1 (tk_X12_readQuarrel 11 rfl) ?_
  refine on_cV1z 12 ms_X12_isNext kw_7_114 rfl rfl (ltc_77 hN) sh_77 (ct_X12_isNext hN) rfl (tk_X12_readQuarrel 12 rfl) fun v4 σ5 => ?_
  refine on_if_eq (tk_X12_readQuarrel 13 rfl) (tgt := 27) (by decide) ?_ ?_
  · refine on_al0 (tk_X12_readQuarrel 14 rfl) ?_
    refine on_iconst (tk_X12_readQuarrel 15 rfl) ?_
    refine on_cV1v 12 ms_X12_errs kw_7_78 rfl rfl (ltc_77 hN) sh_77 (ct_X12_errs hN) rfl (tk_X12_readQuarrel 16 rfl) fun v6 σ7 => ?_
    exact gb_X12_readQuarrel_27 X  hN _ _
  · exact gb_X12_readQuarrel_27 X  hN _ _
def tb_X12_readTwo : List (Nat × Nat × Nat × Instr) := [(0, 1, 1, .aload_n 0), (1, 3, 4, .invokevirtual 205), (4, 1, 5, .istore_n 3), (5, 1, 6, .aload_n 0), (6, 1, 7, .iload_n 3), (7, 3, 10, .invokevirtual 185), (10, 3, 13, .ifCond .eq 8), (13, 1, 14, .aload_n 0), (14, 1, 15, .iconst 2), (15, 3, 18, .invokevirtual 173), (18, 1, 19, .aload_n 0), (19, 3, 22, .invokevirtual 205), (22, 2, 24, .istore 4), (24, 1, 25, .iload_n 2), (25, 3, 28, .ifCond .eq 7), (28, 1, 29, .iconst 1), (29, 3, 32, .goto 10), (32, 1, 33, .aload_n 0), (33, 1, 34, .iconst 1), (34, 2, 36, .bipush 99), (36, 3, 39, .invokevirtual 181), (39, 2, 41, .istore 5), (41, 1, 42, .aload_n 0), (42, 3, 45, .invokevirtual 149), (45, 3, 48, .ifCond .ne 4), (48, 1, 49, .return_), (49, 1, 50, .aload_n 0), (50, 3, 53, .getfield 31), (53, 1, 54, .iload_n 1), (54, 1, 55, .iconst 4), (55, 1, 56, .iload_n 3), (56, 1, 57, .imul), (57, 1, 58, .iadd), (58, 2, 60, .iload 4), (60, 1, 61, .iadd), (61, 2, 63, .iload 5), (63, 1, 64, .iastore), (64, 1, 65, .aload_n 0), (65, 3, 68, .getfield 31), (68, 1, 69, .iload_n 1), (69, 1, 70, .iconst 4), (70, 2, 72, .iload 4), (72, 1, 73, .imul), (73, 1, 74, .iadd), (74, 1, 75, .iload_n 3), (75, 1, 76, .iadd), (76, 2, 78, .iload 5), (78, 1, 79, .iastore), (79, 1, 80, .return_)]
set_option maxRecDepth 100000 in
theorem tk_X12_readTwo (k : Nat) {pc n pc2 : Nat} {i : Instr} (hk : tb_X12_readTwo[k]? = some (pc, n, pc2, i)) : on_dq cX12_readTwo pc n pc2 i := on_ta (by decide +kernel) k hk
theorem ms_X12_readTwo : on_Mv yX12_readTwo cX12_readTwo 6 none 2 := ⟨kw_7_140, kw_7_139, (on_mp (q := (yX12_readTwo, 37)) (by decide +kernel)), kw_1_13, by decide, by decide, by decide +kernel⟩
def pf_X12_readTwo_39 (l1 : Int) (l3 : Int) (l4 : Int) (s0 : Int) (σ : on_S) : Option on_O :=
  on_Cl (pf_X12_good σ) fun v9 σ10 =>
  on_Eq v9 0 (
    some (0, σ10)) (
    on_Wr σ10 83 687 ((l1 + (4 * l3)) + l4) s0 fun σ11 =>
    on_Wr σ11 83 687 ((l1 + (4 * l4)) + l3) s0 fun σ12 =>
    some (0, σ12))
def pf_X12_readTwo_18 (l1 : Int) (l2 : Int) (l3 : Int) (σ : on_S) : Option on_O :=
  on_Cl (pf_X12_freshHouse σ) fun v7 σ8 =>
  on_Eq l2 0 (
    on_Cl (pf_X12_number 1 99 σ8) fun v13 σ14 =>
    pf_X12_readTwo_39 l1 l3 v7 v13 σ14) (
    pf_X12_readTwo_39 l1 l3 v7 1 σ8)
def pf_X12_readTwo (p0 : Int) (p1 : Int) (σ : on_S) : Option on_O :=
  on_Cl (pf_X12_freshHouse σ) fun v1 σ2 =>
  on_Cl (pf_X12_isNext v1 σ2) fun v3 σ4 =>
  on_Eq v3 0 (
    pf_X12_readTwo_18 p0 p1 v1 σ4) (
    on_Cl (pf_X12_errs 2 σ4) fun _ σ6 =>
    pf_X12_readTwo_18 p0 p1 v1 σ6)
set_option maxRecDepth 100000 in
set_option maxHeartbeats 4000000 in
theorem gb_X12_readTwo_39 {E : on_E} {z n : Nat} (X : on_X) (hN : 100 ≤ n) (l1 : Int) (l3 : Int) (l4 : Int) (s0 : Int) (σ : on_S) : on_G X E cX12_readTwo RX12 none 4 89 6 z n σ (pf_X12_readTwo_39 l1 l3 l4 s0 σ) 39 [some (.ref (z + 77)), some (.int (on_i l1)), none, some (.int (on_i l3)), some (.int (on_i l4)), none] [.int (on_i s0)] := by
  rw [pf_X12_readTwo_39]
  refine on_is5 rfl (tk_X12_readTwo 21 rfl) ?_
  refine on_al0 (tk_X12_readTwo 22 rfl) ?_
  refine on_cV0z 12 ms_X12_good kw_7_55 rfl rfl (ltc_77 hN) sh_77 (ct_X12_good hN) rfl (tk_X12_readTwo 23 rfl) fun v9 σ10 => ?_
  refine on_if_ne (tk_X12_readTwo 24 rfl) (tgt := 49) (by decide) ?_ ?_
  · exact on_vret (tk_X12_readTwo 25 rfl)
  · refine on_al0 (tk_X12_readTwo 26 rfl) ?_
    refine fg_12_14 hN kw_6_154 (tk_X12_readTwo 27 rfl) ?_
    refine on_il1 (tk_X12_readTwo 28 rfl) ?_
    refine on_iconst (tk_X12_readTwo 29 rfl) ?_
    refine on_il3 (tk_X12_readTwo 30 rfl) ?_
    refine on_imul (tk_X12_readTwo 31 rfl) ?_
    refine on_iadd (tk_X12_readTwo 32 rfl) ?_
    refine on_il4 (tk_X12_readTwo 33 rfl) ?_
    refine on_iadd (tk_X12_readTwo 34 rfl) ?_
    refine on_il5 (tk_X12_readTwo 35 rfl) ?_
    refine on_iast (ltc_83 hN) sh_83 (tk_X12_readTwo 36 rfl) fun σ11 => ?_
    refine on_al0 (tk_X12_readTwo 37 rfl) ?_
    refine fg_12_14 hN kw_6_154 (tk_X12_readTwo 38 rfl) ?_
    refine on_il1 (tk_X12_readTwo 39 rfl) ?_
    refine on_iconst (tk_X12_readTwo 40 rfl) ?_
    refine on_il4 (tk_X12_readTwo 41 rfl) ?_
    refine on_imul (tk_X12_readTwo 42 rfl) ?_
    refine on_iadd (tk_X12_readTwo 43 rfl) ?_
    refine on_il3 (tk_X12_readTwo 44 rfl) ?_
    refine on_iadd (tk_X12_readTwo 45 rfl) ?_
    refine on_il5 (tk_X12_readTwo 46 rfl) ?_
    refine on_iast (ltc_83 hN) sh_83 (tk_X12_readTwo 47 rfl) fun σ12 => ?_
    exact on_vret (tk_X12_readTwo 48 rfl)
set_option maxRecDepth 100000 in
set_option maxHeartbeats 4000000 in
theorem gb_X12_readTwo_18 {E : on_E} {z n : Nat} (X : on_X) (hN : 100 ≤ n) (l1 : Int) (l2 : Int) (l3 : Int) (σ : on_S) : on_G X E cX12_readTwo RX12 none 4 89 6 z n σ (pf_X12_readTwo_18 l1 l2 l3 σ) 18 [some (.ref (z + 77)), some (.int (on_i l1)), some (.int (on_i l2)), some (.int (on_i l3)), none, none] [] := by
  rw [pf_X12_readTwo_18]
  refine on_al0 (tk_X12_readTwo 10 rfl) ?_
  refine on_cV0i 12 ms_X12_freshHouse kw_7_104 rfl rfl (ltc_77 hN) sh_77 (ct_X12_freshHouse hN) rfl (tk_X12_readTwo 11 rfl) fun v7 σ8 => ?_
  refine on_is4 rfl (tk_X12_readTwo 12 rfl) ?_
  refine on_il2 (tk_X12_readTwo 13 rfl) ?_
  refine on_if_eq (tk_X12_readTwo 14 rfl) (tgt := 32) (by decide) ?_ ?_
  · refine on_iconst (tk_X12_readTwo 15 rfl) ?_
    refine on_goto (tk_X12_readTwo 16 rfl) (tgt := 39) (by decide) ?_
    refine on_dr2 ?_
    exact gb_X12_readTwo_39 X  hN _ _ _ _ _
  · refine on_al0 (tk_X12_readTwo 17 rfl) ?_
    refine on_iconst (tk_X12_readTwo 18 rfl) ?_
    refine on_bipush (tk_X12_readTwo 19 rfl) bp_99 ?_
    refine on_cV2i 12 ms_X12_number kw_7_87 rfl rfl (ltc_77 hN) sh_77 (ct_X12_number hN) rfl (tk_X12_readTwo 20 rfl) fun v13 σ14 => ?_
    refine on_dr2 ?_
    exact gb_X12_readTwo_39 X  hN _ _ _ _ _
set_option maxRecDepth 100000 in
set_option maxHeartbeats 4000000 in
theorem ct_X12_readTwo {E : on_E} {z n : Nat} {p0 : Int} {p1 : Int} (hN : 100 ≤ n) {σ : on_S} : on_Sp E yX12_readTwo cX12_readTwo 6 none 4 89 z n [.ref (z + 77), .int (on_i p0), .int (on_i p1)] σ (pf_X12_readTwo p0 p1 σ) := by
  refine on_met [some (.ref (z + 77)), some (.int (on_i p0)), some (.int (on_i p1)), none, none, none] (by decide) rfl rfl (fun X => ?_)
  rw [pf_X12_readTwo]
  refine on_al0 (tk_X12_readTwo 0 rfl) ?_
  refine on_cV0i 12 ms_X12_freshHouse kw_7_104 rfl rfl (ltc_77 hN) sh_77 (ct_X12_freshHouse hN) rfl (tk_X12_readTwo 1 rfl) fun v1 σ2 => ?_
  refine on_is3 rfl (tk_X12_readTwo 2 rfl) ?_
  refine on_al0 (tk_X12_readTwo 3 rfl) ?_
  refine on_il3 (tk_X12_readTwo 4 rfl) ?_
  refine on_cV1z 12 ms_X12_isNext kw_7_114 rfl rfl (ltc_77 hN) sh_77 (ct_X12_isNext hN) rfl (tk_X12_readTwo 5 rfl) fun v3 σ4 => ?_
  refine on_if_eq (tk_X12_readTwo 6 rfl) (tgt := 18) (by decide) ?_ ?_
  · refine on_al0 (tk_X12_readTwo 7 rfl) ?_
    refine on_iconst (tk_X12_readTwo 8 rfl) ?_
    refine on_cV1v 12 ms_X12_errs kw_7_78 rfl rfl (ltc_77 hN) sh_77 (ct_X12_errs hN) rfl (tk_X12_readTwo 9 rfl) fun v5 σ6 => ?_
    exact gb_X12_readTwo_18 X  hN _ _ _ _
  · exact gb_X12_readTwo_18 X  hN _ _ _ _
def tb_X12_readNext : List (Nat × Nat × Nat × Instr) := [(0, 1, 1, .aload_n 0), (1, 2, 3, .ldc 208), (3, 3, 6, .invokevirtual 163), (6, 3, 9, .ifCond .ne 66), (9, 1, 10, .aload_n 0), (10, 2, 12, .ldc 210), (12, 3, 15, .invokevirtual 163), (15, 3, 18, .ifCond .ne 57), (18, 1, 19, .aload_n 0), (19, 2, 21, .ldc 212), (21, 3, 24, .invokevirtual 163), (24, 3, 27, .ifCond .ne 48), (27, 1, 28, .aload_n 0), (28, 2, 30, .ldc 214), (30, 3, 33, .invokevirtual 163), (33, 3, 36, .ifCond .ne 39), (36, 1, 37, .aload_n 0), (37, 2, 39, .ldc 216), (39, 3, 42, .invokevirtual 163), (42, 3, 45, .ifCond .ne 30), (45, 1, 46, .aload_n 0), (46, 2, 48, .ldc 218), (48, 3, 51, .invokevirtual 163), (51, 3, 54, .ifCond .ne 21), (54, 1, 55, .aload_n 0), (55, 2, 57, .ldc 220), (57, 3, 60, .invokevirtual 163), (60, 3, 63, .ifCond .ne 12), (63, 1, 64, .aload_n 0), (64, 2, 66, .ldc 222), (66, 3, 69, .invokevirtual 163), (69, 3, 72, .ifCond .eq 7), (72, 1, 73, .iconst 1), (73, 3, 76, .goto 4), (76, 1, 77, .iconst 0), (77, 1, 78, .istore_n 1), (78, 1, 79, .iload_n 1), (79, 3, 82, .ifCond .ne 8), (82, 1, 83, .aload_n 0), (83, 1, 84, .iconst 1), (84, 3, 87, .invokevirtual 173), (87, 1, 88, .aload_n 0), (88, 2, 90, .ldc 208), (90, 3, 93, .invokevirtual 163), (93, 3, 96, .ifCond .eq 14), (96, 1, 97, .aload_n 0), (97, 3, 100, .getfield 31), (100, 1, 101, .iconst 2), (101, 1, 102, .iaload), (102, 2, 104, .bipush 9), (104, 3, 107, .if_icmp .eq 62), (107, 1, 108, .aload_n 0), (108, 2, 110, .ldc 210), (110, 3, 113, .invokevirtual 163), (113, 3, 116, .ifCond .eq 14), (116, 1, 117, .aload_n 0), (117, 3, 120, .getfield 31), (120, 1, 121, .iconst 3), (121, 1, 122, .iaload), (122, 2, 124, .bipush 9), (124, 3, 127, .if_icmp .eq 42), (127, 1, 128, .aload_n 0), (128, 2, 130, .ldc 212), (130, 3, 133, .invokevirtual 163), (133, 3, 136, .ifCond .eq 13), (136, 1, 137, .aload_n 0), (137, 3, 140, .getfield 31), (140, 1, 141, .iconst 4), (141, 1, 142, .iaload), (142, 1, 143, .iconst 2), (143, 3, 146, .if_icmp .eq 23), (146, 1, 147, .aload_n 0), (147, 2, 149, .ldc 220), (149, 3, 152, .invokevirtual 163), (152, 3, 155, .ifCond .eq 19), (155, 1, 156, .aload_n 0), (156, 3, 159, .getfield 31), (159, 1, 160, .iconst 5), (160, 1, 161, .iaload), (161, 2, 163, .bipush 9), (163, 3, 166, .if_icmp .ne 8), (166, 1, 167, .aload_n 0), (167, 1, 168, .iconst 3), (168, 3, 171, .invokevirtual 173), (171, 1, 172, .aload_n 0), (172, 3, 175, .invokevirtual 149), (175, 3, 178, .ifCond .ne 4), (178, 1, 179, .return_), (179, 1, 180, .aload_n 0), (180, 2, 182, .ldc 208), (182, 3, 185, .invokevirtual 170), (185, 3, 188, .ifCond .eq 57), (188, 2, 190, .bipush 8), (190, 1, 191, .iconst 2), (191, 1, 192, .aload_n 0), (192, 3, 195, .getfield 31), (195, 1, 196, .iconst 2), (196, 1, 197, .iaload), (197, 1, 198, .imul), (198, 1, 199, .iadd), (199, 1, 200, .istore_n 2), (200, 1, 201, .aload_n 0), (201, 3, 204, .getfield 31), (204, 1, 205, .iload_n 2), (205, 1, 206, .aload_n 0), (206, 3, 209, .invokevirtual 205), (209, 1, 210, .iastore), (210, 1, 211, .aload_n 0), (211, 3, 214, .getfield 31), (214, 1, 215, .iload_n 2), (215, 1, 216, .iconst 1), (216, 1, 217, .iadd), (217, 1, 218, .aload_n 0), (218, 1, 219, .iconst 1), (219, 1, 220, .aload_n 0), (220, 3, 223, .getfield 31), (223, 1, 224, .iconst 1), (224, 1, 225, .iaload), (225, 3, 228, .invokevirtual 181), (228, 1, 229, .iastore), (229, 1, 230, .aload_n 0), (230, 3, 233, .getfield 31), (233, 1, 234, .iconst 2), (234, 1, 235, .dup2), (235, 1, 236, .iaload), (236, 1, 237, .iconst 1), (237, 1, 238, .iadd), (238, 1, 239, .iastore), (239, 3, 242, .goto 230), (242, 1, 243, .aload_n 0), (243, 2, 245, .ldc 210), (245, 3, 248, .invokevirtual 170), (248, 3, 251, .ifCond .eq 73), (251, 2, 253, .bipush 26), (253, 1, 254, .iconst 4), (254, 1, 255, .aload_n 0), (255, 3, 258, .getfield 31), (258, 1, 259, .iconst 3), (259, 1, 260, .iaload), (260, 1, 261, .imul), (261, 1, 262, .iadd), (262, 1, 263, .istore_n 2), (263, 1, 264, .aload_n 0), (264, 3, 267, .getfield 31), (267, 1, 268, .iload_n 2), (268, 1, 269, .aload_n 0), (269, 3, 272, .invokevirtual 205), (272, 1, 273, .iastore), (273, 1, 274, .aload_n 0), (274, 3, 277, .getfield 31), (277, 1, 278, .iload_n 2), (278, 1, 279, .iconst 1), (279, 1, 280, .iadd), (280, 1, 281, .aload_n 0), (281, 2, 283, .ldc 224), (283, 1, 284, .iconst 1), (284, 2, 286, .bipush 60), (286, 3, 289, .invokevirtual 194), (289, 1, 290, .iastore), (290, 1, 291, .aload_n 0), (291, 3, 294, .getfield 31), (294, 1, 295, .iload_n 2), (295, 1, 296, .iconst 2), (296, 1, 297, .iadd), (297, 1, 298, .iconst (-1)), (298, 1, 299, .iastore), (299, 1, 300, .aload_n 0), (300, 3, 303, .getfield 31), (303, 1, 304, .iload_n 2), (304, 1, 305, .iconst 3), (305, 1, 306, .iadd), (306, 1, 307, .iconst (-1)), (307, 1, 308, .iastore), (308, 1, 309, .aload_n 0), (309, 3, 312, .getfield 31), (312, 1, 313, .iconst 3), (313, 1, 314, .dup2), (314, 1, 315, .iaload), (315, 1, 316, .iconst 1), (316, 1, 317, .iadd), (317, 1, 318, .iastore), (318, 3, 321, .goto 151), (321, 1, 322, .aload_n 0), (322, 2, 324, .ldc 212), (324, 3, 327, .invokevirtual 170), (327, 3, 330, .ifCond .eq 10), (330, 1, 331, .aload_n 0), (331, 3, 334, .invokevirtual 226), (334, 3, 337, .goto 135), (337, 1, 338, .aload_n 0), (338, 2, 340, .ldc 214), (340, 3, 343, .invokevirtual 170), (343, 3, 346, .ifCond .eq 10), (346, 1, 347, .aload_n 0), (347, 3, 350, .invokevirtual 229), (350, 3, 353, .goto 119), (353, 1, 354, .aload_n 0), (354, 2, 356, .ldc 216), (356, 3, 359, .invokevirtual 170), (359, 3, 362, .ifCond .eq 10), (362, 1, 363, .aload_n 0), (363, 3, 366, .invokevirtual 232), (366, 3, 369, .goto 103), (369, 1, 370, .aload_n 0), (370, 2, 372, .ldc 218), (372, 3, 375, .invokevirtual 170), (375, 3, 378, .ifCond .eq 14), (378, 1, 379, .aload_n 0), (379, 3, 382, .sipush 157), (382, 1, 383, .iconst 1), (383, 3, 386, .invokevirtual 235), (386, 3, 389, .goto 83), (389, 1, 390, .aload_n 0), (390, 2, 392, .ldc 220), (392, 3, 395, .invokevirtual 170), (395, 3, 398, .ifCond .eq 62), (398, 3, 401, .sipush 173), (401, 1, 402, .iconst 2), (402, 1, 403, .aload_n 0), (403, 3, 406, .getfield 31), (406, 1, 407, .iconst 5), (407, 1, 408, .iaload), (408, 1, 409, .imul), (409, 1, 410, .iadd), (410, 1, 411, .istore_n 2), (411, 1, 412, .aload_n 0), (412, 3, 415, .getfield 31), (415, 1, 416, .iload_n 2), (416, 1, 417, .aload_n 0), (417, 2, 419, .ldc 239), (419, 1, 420, .iconst 1), (420, 2, 422, .bipush 99), (422, 3, 425, .invokevirtual 194), (425, 1, 426, .iastore), (426, 1, 427, .aload_n 0), (427, 2, 429, .ldc 184), (429, 3, 432, .invokevirtual 177), (432, 1, 433, .aload_n 0), (433, 3, 436, .getfield 31), (436, 1, 437, .iload_n 2), (437, 1, 438, .iconst 1), (438, 1, 439, .iadd), (439, 1, 440, .aload_n 0), (440, 3, 443, .invokevirtual 189), (443, 1, 444, .iastore), (444, 1, 445, .aload_n 0), (445, 3, 448, .getfield 31), (448, 1, 449, .iconst 5), (449, 1, 450, .dup2), (450, 1, 451, .iaload), (451, 1, 452, .iconst 1), (452, 1, 453, .iadd), (453, 1, 454, .iastore), (454, 3, 457, .goto 15), (457, 1, 458, .aload_n 0), (458, 3, 461, .invokevirtual 167), (461, 1, 462, .aload_n 0), (462, 3, 465, .sipush 191), (465, 1, 466, .iconst 0), (466, 3, 469, .invokevirtual 235), (469, 1, 470, .return_)]
set_option maxRecDepth 100000 in
theorem tk_X12_readNext (k : Nat) {pc n pc2 : Nat} {i : Instr} (hk : tb_X12_readNext[k]? = some (pc, n, pc2, i)) : on_dq cX12_readNext pc n pc2 i := on_ta (by decide +kernel) k hk
theorem ms_X12_readNext : on_Mv yX12_readNext cX12_readNext 3 none 0 := ⟨kw_7_95, kw_7_94, (on_mp (q := (yX12_readNext, 37)) (by decide +kernel)), kw_1_13, by decide, by decide, by decide +kernel⟩
def pf_X12_readNext_171 (σ : on_S) : Option on_O :=
  on_Cl (pf_X12_good σ) fun v33 σ34 =>
  on_Eq v33 0 (
    some (0, σ34)) (
    on_Cl (pf_X12_takes 3 σ34) fun v35 σ36 =>
    on_Eq v35 0 (
      on_Cl (pf_X12_takes 4 σ36) fun v47 σ48 =>
      on_Eq v47 0 (
        on_Cl (pf_X12_takes 6 σ48) fun v60 σ61 =>
        on_Eq v60 0 (
          on_Cl (pf_X12_takes 11 σ61) fun v64 σ65 =>
          on_Eq v64 0 (
            on_Cl (pf_X12_takes 12 σ65) fun v68 σ69 =>
            on_Eq v68 0 (
              on_Cl (pf_X12_takes 13 σ69) fun v72 σ73 =>
              on_Eq v72 0 (
                on_Cl (pf_X12_takes 14 σ73) fun v76 σ77 =>
                on_Eq v76 0 (
                  on_Cl (pf_X12_advance σ77) fun _ σ90 =>
                  on_Cl (pf_X12_readTwo 191 0 σ90) fun _ σ92 =>
                  some (0, σ92)) (
                  on_Rd σ77 83 687 5 fun v78 =>
                  on_Cl (pf_X12_told 15 1 99 σ77) fun v79 σ80 =>
                  on_Wr σ80 83 687 (173 + (2 * v78)) v79 fun σ81 =>
                  on_Cl (pf_X12_needs 7 σ81) fun _ σ83 =>
                  on_Cl (pf_X12_freshWindow σ83) fun v84 σ85 =>
                  on_Wr σ85 83 687 ((173 + (2 * v78)) + 1) v84 fun σ86 =>
                  on_Rd σ86 83 687 5 fun v87 =>
                  on_Wr σ86 83 687 5 (v87 + 1) fun σ88 =>
                  some (0, σ88))) (
                on_Cl (pf_X12_readTwo 157 1 σ73) fun _ σ75 =>
                some (0, σ75))) (
              on_Cl (pf_X12_readQuarrel σ69) fun _ σ71 =>
              some (0, σ71))) (
            on_Cl (pf_X12_readStands σ65) fun _ σ67 =>
            some (0, σ67))) (
          on_Cl (pf_X12_readNet σ61) fun _ σ63 =>
          some (0, σ63))) (
        on_Rd σ48 83 687 3 fun v49 =>
        on_Cl (pf_X12_freshHouse σ48) fun v50 σ51 =>
        on_Wr σ51 83 687 (26 + (4 * v49)) v50 fun σ52 =>
        on_Cl (pf_X12_told 5 1 60 σ52) fun v53 σ54 =>
        on_Wr σ54 83 687 ((26 + (4 * v49)) + 1) v53 fun σ55 =>
        on_Wr σ55 83 687 ((26 + (4 * v49)) + 2) (-1) fun σ56 =>
        on_Wr σ56 83 687 ((26 + (4 * v49)) + 3) (-1) fun σ57 =>
        on_Rd σ57 83 687 3 fun v58 =>
        on_Wr σ57 83 687 3 (v58 + 1) fun σ59 =>
        some (0, σ59))) (
      on_Rd σ36 83 687 2 fun v37 =>
      on_Cl (pf_X12_freshHouse σ36) fun v38 σ39 =>
      on_Wr σ39 83 687 (8 + (2 * v37)) v38 fun σ40 =>
      on_Rd σ40 83 687 1 fun v41 =>
      on_Cl (pf_X12_number 1 v41 σ40) fun v42 σ43 =>
      on_Wr σ43 83 687 ((8 + (2 * v37)) + 1) v42 fun σ44 =>
      on_Rd σ44 83 687 2 fun v45 =>
      on_Wr σ44 83 687 2 (v45 + 1) fun σ46 =>
      some (0, σ46)))
def pf_X12_readNext_166 (σ : on_S) : Option on_O :=
  on_Cl (pf_X12_errs 3 σ) fun _ σ32 =>
  pf_X12_readNext_171 σ32
def pf_X12_readNext_146 (σ : on_S) : Option on_O :=
  on_Cl (pf_X12_is 14 σ) fun v28 σ29 =>
  on_Eq v28 0 (
    pf_X12_readNext_171 σ29) (
    on_Rd σ29 83 687 5 fun v30 =>
    on_Eq v30 9 (
      pf_X12_readNext_166 σ29) (
      pf_X12_readNext_171 σ29))
def pf_X12_readNext_127 (σ : on_S) : Option on_O :=
  on_Cl (pf_X12_is 6 σ) fun v25 σ26 =>
  on_Eq v25 0 (
    pf_X12_readNext_146 σ26) (
    on_Rd σ26 83 687 4 fun v27 =>
    on_Eq v27 2 (
      pf_X12_readNext_166 σ26) (
      pf_X12_readNext_146 σ26))
def pf_X12_readNext_107 (σ : on_S) : Option on_O :=
  on_Cl (pf_X12_is 4 σ) fun v22 σ23 =>
  on_Eq v22 0 (
    pf_X12_readNext_127 σ23) (
    on_Rd σ23 83 687 3 fun v24 =>
    on_Eq v24 9 (
      pf_X12_readNext_166 σ23) (
      pf_X12_readNext_127 σ23))
def pf_X12_readNext_87 (σ : on_S) : Option on_O :=
  on_Cl (pf_X12_is 3 σ) fun v19 σ20 =>
  on_Eq v19 0 (
    pf_X12_readNext_107 σ20) (
    on_Rd σ20 83 687 2 fun v21 =>
    on_Eq v21 9 (
      pf_X12_readNext_166 σ20) (
      pf_X12_readNext_107 σ20))
def pf_X12_readNext_77 (s0 : Int) (σ : on_S) : Option on_O :=
  on_Eq s0 0 (
    on_Cl (pf_X12_errs 1 σ) fun _ σ18 =>
    pf_X12_readNext_87 σ18) (
    pf_X12_readNext_87 σ)
def pf_X12_readNext_72 (σ : on_S) : Option on_O :=
  pf_X12_readNext_77 1 σ
def pf_X12_readNext (σ : on_S) : Option on_O :=
  on_Cl (pf_X12_is 3 σ) fun v1 σ2 =>
  on_Eq v1 0 (
    on_Cl (pf_X12_is 4 σ2) fun v3 σ4 =>
    on_Eq v3 0 (
      on_Cl (pf_X12_is 6 σ4) fun v5 σ6 =>
      on_Eq v5 0 (
        on_Cl (pf_X12_is 11 σ6) fun v7 σ8 =>
        on_Eq v7 0 (
          on_Cl (pf_X12_is 12 σ8) fun v9 σ10 =>
          on_Eq v9 0 (
            on_Cl (pf_X12_is 13 σ10) fun v11 σ12 =>
            on_Eq v11 0 (
              on_Cl (pf_X12_is 14 σ12) fun v13 σ14 =>
              on_Eq v13 0 (
                on_Cl (pf_X12_is 16 σ14) fun v15 σ16 =>
                on_Eq v15 0 (
                  pf_X12_readNext_77 0 σ16) (
                  pf_X12_readNext_72 σ16)) (
                pf_X12_readNext_72 σ14)) (
              pf_X12_readNext_72 σ12)) (
            pf_X12_readNext_72 σ10)) (
          pf_X12_readNext_72 σ8)) (
        pf_X12_readNext_72 σ6)) (
      pf_X12_readNext_72 σ4)) (
    pf_X12_readNext_72 σ2)
set_option maxRecDepth 100000 in
set_option maxHeartbeats 4000000 in
theorem gb_X12_readNext_171 {E : on_E} {z n : Nat} (X : on_X) (hN : 100 ≤ n) (σ : on_S) : on_G X E cX12_readNext RX12 none 9 196 3 z n σ (pf_X12_readNext_171  σ) 171 [some (.ref (z + 77)), none, none] [] := by
  rw [pf_X12_readNext_171]
  refine on_al0 (tk_X12_readNext 84 rfl) ?_
  refine on_cV0z 12 ms_X12_good kw_7_55 rfl rfl (ltc_77 hN) sh_77 (ct_X12_good hN) rfl (tk_X12_readNext 85 rfl) fun v33 σ34 => ?_
  refine on_if_ne (tk_X12_readNext 86 rfl) (tgt := 179) (by decide) ?_ ?_
  · exact on_vret (tk_X12_readNext 87 rfl)
  · refine on_al0 (tk_X12_readNext 88 rfl) ?_
    refine on_ldcs (show ("OppositeNetsModel", 208, "window", 3) ∈ on_strs by decide +kernel) (tk_X12_readNext 89 rfl) ?_
    refine on_cV1z 12 ms_X12_takes kw_7_68 rfl rfl (ltc_77 hN) sh_77 (ct_X12_takes hN (by decide)) rfl (tk_X12_readNext 90 rfl) fun v35 σ36 => ?_
    refine on_if_eq (tk_X12_readNext 91 rfl) (tgt := 242) (by decide) ?_ ?_
    · refine on_bipush (tk_X12_readNext 92 rfl) bp_8 ?_
      refine on_iconst (tk_X12_readNext 93 rfl) ?_
      refine on_al0 (tk_X12_readNext 94 rfl) ?_
      refine fg_12_14 hN kw_6_154 (tk_X12_readNext 95 rfl) ?_
      refine on_iconst (tk_X12_readNext 96 rfl) ?_
      refine on_iald (ltc_83 hN) sh_83 (tk_X12_readNext 97 rfl) fun v37 => ?_
      refine on_imul (tk_X12_readNext 98 rfl) ?_
      refine on_iadd (tk_X12_readNext 99 rfl) ?_
      refine on_is2 rfl (tk_X12_readNext 100 rfl) ?_
      refine on_al0 (tk_X12_readNext 101 rfl) ?_
      refine fg_12_14 hN kw_6_154 (tk_X12_readNext 102 rfl) ?_
      refine on_il2 (tk_X12_readNext 103 rfl) ?_
      refine on_al0 (tk_X12_readNext 104 rfl) ?_
      refine on_cV0i 12 ms_X12_freshHouse kw_7_104 rfl rfl (ltc_77 hN) sh_77 (ct_X12_freshHouse hN) rfl (tk_X12_readNext 105 rfl) fun v38 σ39 => ?_
      refine on_iast (ltc_83 hN) sh_83 (tk_X12_readNext 106 rfl) fun σ40 => ?_
      refine on_al0 (tk_X12_readNext 107 rfl) ?_
      refine fg_12_14 hN kw_6_154 (tk_X12_readNext 108 rfl) ?_
      refine on_il2 (tk_X12_readNext 109 rfl) ?_
      refine on_iconst (tk_X12_readNext 110 rfl) ?_
      refine on_iadd (tk_X12_readNext 111 rfl) ?_
      refine on_al0 (tk_X12_readNext 112 rfl) ?_
      refine on_iconst (tk_X12_readNext 113 rfl) ?_
      refine on_al0 (tk_X12_readNext 114 rfl) ?_
      refine fg_12_14 hN kw_6_154 (tk_X12_readNext 115 rfl) ?_
      refine on_iconst (tk_X12_readNext 116 rfl) ?_
      refine on_iald (ltc_83 hN) sh_83 (tk_X12_readNext 117 rfl) fun v41 => ?_
      refine on_cV2i 12 ms_X12_number kw_7_87 rfl rfl (ltc_77 hN) sh_77 (ct_X12_number hN) rfl (tk_X12_readNext 118 rfl) fun v42 σ43 => ?_
      refine on_iast (ltc_83 hN) sh_83 (tk_X12_readNext 119 rfl) fun σ44 => ?_
      refine on_al0 (tk_X12_readNext 120 rfl) ?_
      refine fg_12_14 hN kw_6_154 (tk_X12_readNext 121 rfl) ?_
      refine on_iconst (tk_X12_readNext 122 rfl) ?_
      refine on_dup2 rfl rfl (tk_X12_readNext 123 rfl) ?_
      refine on_iald (ltc_83 hN) sh_83 (tk_X12_readNext 124 rfl) fun v45 => ?_
      refine on_iconst (tk_X12_readNext 125 rfl) ?_
      refine on_iadd (tk_X12_readNext 126 rfl) ?_
      refine on_iast (ltc_83 hN) sh_83 (tk_X12_readNext 127 rfl) fun σ46 => ?_
      refine on_goto (tk_X12_readNext 128 rfl) (tgt := 469) (by decide) ?_
      exact on_vret (tk_X12_readNext 260 rfl)
    · refine on_al0 (tk_X12_readNext 129 rfl) ?_
      refine on_ldcs (show ("OppositeNetsModel", 210, "man", 4) ∈ on_strs by decide +kernel) (tk_X12_readNext 130 rfl) ?_
      refine on_cV1z 12 ms_X12_takes kw_7_68 rfl rfl (ltc_77 hN) sh_77 (ct_X12_takes hN (by decide)) rfl (tk_X12_readNext 131 rfl) fun v47 σ48 => ?_
      refine on_if_eq (tk_X12_readNext 132 rfl) (tgt := 321) (by decide) ?_ ?_
      · refine on_bipush (tk_X12_readNext 133 rfl) bp_26 ?_
        refine on_iconst (tk_X12_readNext 134 rfl) ?_
        refine on_al0 (tk_X12_readNext 135 rfl) ?_
        refine fg_12_14 hN kw_6_154 (tk_X12_readNext 136 rfl) ?_
        refine on_iconst (tk_X12_readNext 137 rfl) ?_
        refine on_iald (ltc_83 hN) sh_83 (tk_X12_readNext 138 rfl) fun v49 => ?_
        refine on_imul (tk_X12_readNext 139 rfl) ?_
        refine on_iadd (tk_X12_readNext 140 rfl) ?_
        refine on_is2 rfl (tk_X12_readNext 141 rfl) ?_
        refine on_al0 (tk_X12_readNext 142 rfl) ?_
        refine fg_12_14 hN kw_6_154 (tk_X12_readNext 143 rfl) ?_
        refine on_il2 (tk_X12_readNext 144 rfl) ?_
        refine on_al0 (tk_X12_readNext 145 rfl) ?_
        refine on_cV0i 12 ms_X12_freshHouse kw_7_104 rfl rfl (ltc_77 hN) sh_77 (ct_X12_freshHouse hN) rfl (tk_X12_readNext 146 rfl) fun v50 σ51 => ?_
        refine on_iast (ltc_83 hN) sh_83 (tk_X12_readNext 147 rfl) fun σ52 => ?_
        refine on_al0 (tk_X12_readNext 148 rfl) ?_
        refine fg_12_14 hN kw_6_154 (tk_X12_readNext 149 rfl) ?_
        refine on_il2 (tk_X12_readNext 150 rfl) ?_
        refine on_iconst (tk_X12_readNext 151 rfl) ?_
        refine on_iadd (tk_X12_readNext 152 rfl) ?_
        refine on_al0 (tk_X12_readNext 153 rfl) ?_
        refine on_ldcs (show ("OppositeNetsModel", 224, "strength", 5) ∈ on_strs by decide +kernel) (tk_X12_readNext 154 rfl) ?_
        refine on_iconst (tk_X12_readNext 155 rfl) ?_
        refine on_bipush (tk_X12_readNext 156 rfl) bp_60 ?_
        refine on_cV3i 12 ms_X12_told kw_7_83 rfl rfl (ltc_77 hN) sh_77 (ct_X12_told hN (by decide)) rfl (tk_X12_readNext 157 rfl) fun v53 σ54 => ?_
        refine on_iast (ltc_83 hN) sh_83 (tk_X12_readNext 158 rfl) fun σ55 => ?_
        refine on_al0 (tk_X12_readNext 159 rfl) ?_
        refine fg_12_14 hN kw_6_154 (tk_X12_readNext 160 rfl) ?_
        refine on_il2 (tk_X12_readNext 161 rfl) ?_
        refine on_iconst (tk_X12_readNext 162 rfl) ?_
        refine on_iadd (tk_X12_readNext 163 rfl) ?_
        refine on_iconst (tk_X12_readNext 164 rfl) ?_
        refine on_iast (ltc_83 hN) sh_83 (tk_X12_readNext 165 rfl) fun σ56 => ?_
        refine on_al0 (tk_X12_readNext 166 rfl) ?_
        refine fg_12_14 hN kw_6_154 (tk_X12_readNext 167 rfl) ?_
        refine on_il2 (tk_X12_readNext 168 rfl) ?_
        refine on_iconst (tk_X12_readNext 169 rfl) ?_
        refine on_iadd (tk_X12_readNext 170 rfl) ?_
        refine on_iconst (tk_X12_readNext 171 rfl) ?_
        refine on_iast (ltc_83 hN) sh_83 (tk_X12_readNext 172 rfl) fun σ57 => ?_
        refine on_al0 (tk_X12_readNext 173 rfl) ?_
        refine fg_12_14 hN kw_6_154 (tk_X12_readNext 174 rfl) ?_
        refine on_iconst (tk_X12_readNext 175 rfl) ?_
        refine on_dup2 rfl rfl (tk_X12_readNext 176 rfl) ?_
        refine on_iald (ltc_83 hN) sh_83 (tk_X12_readNext 177 rfl) fun v58 => ?_
        refine on_iconst (tk_X12_readNext 178 rfl) ?_
        refine on_iadd (tk_X12_readNext 179 rfl) ?_
        refine on_iast (ltc_83 hN) sh_83 (tk_X12_readNext 180 rfl) fun σ59 => ?_
        refine on_goto (tk_X12_readNext 181 rfl) (tgt := 469) (by decide) ?_
        exact on_vret (tk_X12_readNext 260 rfl)
      · refine on_al0 (tk_X12_readNext 182 rfl) ?_
        refine on_ldcs (show ("OppositeNetsModel", 212, "net", 6) ∈ on_strs by decide +kernel) (tk_X12_readNext 183 rfl) ?_
        refine on_cV1z 12 ms_X12_takes kw_7_68 rfl rfl (ltc_77 hN) sh_77 (ct_X12_takes hN (by decide)) rfl (tk_X12_readNext 184 rfl) fun v60 σ61 => ?_
        refine on_if_eq (tk_X12_readNext 185 rfl) (tgt := 337) (by decide) ?_ ?_
        · refine on_al0 (tk_X12_readNext 186 rfl) ?_
          refine on_cV0v 12 ms_X12_readNet kw_7_109 rfl rfl (ltc_77 hN) sh_77 (ct_X12_readNet hN) rfl (tk_X12_readNext 187 rfl) fun v62 σ63 => ?_
          refine on_goto (tk_X12_readNext 188 rfl) (tgt := 469) (by decide) ?_
          exact on_vret (tk_X12_readNext 260 rfl)
        · refine on_al0 (tk_X12_readNext 189 rfl) ?_
          refine on_ldcs (show ("OppositeNetsModel", 214, "stands", 11) ∈ on_strs by decide +kernel) (tk_X12_readNext 190 rfl) ?_
          refine on_cV1z 12 ms_X12_takes kw_7_68 rfl rfl (ltc_77 hN) sh_77 (ct_X12_takes hN (by decide)) rfl (tk_X12_readNext 191 rfl) fun v64 σ65 => ?_
          refine on_if_eq (tk_X12_readNext 192 rfl) (tgt := 353) (by decide) ?_ ?_
          · refine on_al0 (tk_X12_readNext 193 rfl) ?_
            refine on_cV0v 12 ms_X12_readStands kw_7_125 rfl rfl (ltc_77 hN) sh_77 (ct_X12_readStands hN) rfl (tk_X12_readNext 194 rfl) fun v66 σ67 => ?_
            refine on_goto (tk_X12_readNext 195 rfl) (tgt := 469) (by decide) ?_
            exact on_vret (tk_X12_readNext 260 rfl)
          · refine on_al0 (tk_X12_readNext 196 rfl) ?_
            refine on_ldcs (show ("OppositeNetsModel", 216, "quarrel", 12) ∈ on_strs by decide +kernel) (tk_X12_readNext 197 rfl) ?_
            refine on_cV1z 12 ms_X12_takes kw_7_68 rfl rfl (ltc_77 hN) sh_77 (ct_X12_takes hN (by decide)) rfl (tk_X12_readNext 198 rfl) fun v68 σ69 => ?_
            refine on_if_eq (tk_X12_readNext 199 rfl) (tgt := 369) (by decide) ?_ ?_
            · refine on_al0 (tk_X12_readNext 200 rfl) ?_
              refine on_cV0v 12 ms_X12_readQuarrel kw_7_133 rfl rfl (ltc_77 hN) sh_77 (ct_X12_readQuarrel hN) rfl (tk_X12_readNext 201 rfl) fun v70 σ71 => ?_
              refine on_goto (tk_X12_readNext 202 rfl) (tgt := 469) (by decide) ?_
              exact on_vret (tk_X12_readNext 260 rfl)
            · refine on_al0 (tk_X12_readNext 203 rfl) ?_
              refine on_ldcs (show ("OppositeNetsModel", 218, "feud", 13) ∈ on_strs by decide +kernel) (tk_X12_readNext 204 rfl) ?_
              refine on_cV1z 12 ms_X12_takes kw_7_68 rfl rfl (ltc_77 hN) sh_77 (ct_X12_takes hN (by decide)) rfl (tk_X12_readNext 205 rfl) fun v72 σ73 => ?_
              refine on_if_eq (tk_X12_readNext 206 rfl) (tgt := 389) (by decide) ?_ ?_
              · refine on_al0 (tk_X12_readNext 207 rfl) ?_
                refine on_sipush (tk_X12_readNext 208 rfl) sp_157 ?_
                refine on_iconst (tk_X12_readNext 209 rfl) ?_
                refine on_cV2v 12 ms_X12_readTwo kw_7_137 rfl rfl (ltc_77 hN) sh_77 (ct_X12_readTwo hN) rfl (tk_X12_readNext 210 rfl) fun v74 σ75 => ?_
                refine on_goto (tk_X12_readNext 211 rfl) (tgt := 469) (by decide) ?_
                exact on_vret (tk_X12_readNext 260 rfl)
              · refine on_al0 (tk_X12_readNext 212 rfl) ?_
                refine on_ldcs (show ("OppositeNetsModel", 220, "jumper", 14) ∈ on_strs by decide +kernel) (tk_X12_readNext 213 rfl) ?_
                refine on_cV1z 12 ms_X12_takes kw_7_68 rfl rfl (ltc_77 hN) sh_77 (ct_X12_takes hN (by decide)) rfl (tk_X12_readNext 214 rfl) fun v76 σ77 => ?_
                refine on_if_eq (tk_X12_readNext 215 rfl) (tgt := 457) (by decide) ?_ ?_
                · refine on_sipush (tk_X12_readNext 216 rfl) sp_173 ?_
                  refine on_iconst (tk_X12_readNext 217 rfl) ?_
                  refine on_al0 (tk_X12_readNext 218 rfl) ?_
                  refine fg_12_14 hN kw_6_154 (tk_X12_readNext 219 rfl) ?_
                  refine on_iconst (tk_X12_readNext 220 rfl) ?_
                  refine on_iald (ltc_83 hN) sh_83 (tk_X12_readNext 221 rfl) fun v78 => ?_
                  refine on_imul (tk_X12_readNext 222 rfl) ?_
                  refine on_iadd (tk_X12_readNext 223 rfl) ?_
                  refine on_is2 rfl (tk_X12_readNext 224 rfl) ?_
                  refine on_al0 (tk_X12_readNext 225 rfl) ?_
                  refine fg_12_14 hN kw_6_154 (tk_X12_readNext 226 rfl) ?_
                  refine on_il2 (tk_X12_readNext 227 rfl) ?_
                  refine on_al0 (tk_X12_readNext 228 rfl) ?_
                  refine on_ldcs (show ("OppositeNetsModel", 239, "weight", 15) ∈ on_strs by decide +kernel) (tk_X12_readNext 229 rfl) ?_
                  refine on_iconst (tk_X12_readNext 230 rfl) ?_
                  refine on_bipush (tk_X12_readNext 231 rfl) bp_99 ?_
                  refine on_cV3i 12 ms_X12_told kw_7_83 rfl rfl (ltc_77 hN) sh_77 (ct_X12_told hN (by decide)) rfl (tk_X12_readNext 232 rfl) fun v79 σ80 => ?_
                  refine on_iast (ltc_83 hN) sh_83 (tk_X12_readNext 233 rfl) fun σ81 => ?_
                  refine on_al0 (tk_X12_readNext 234 rfl) ?_
                  refine on_ldcs (show ("OppositeNetsModel", 184, "at", 7) ∈ on_strs by decide +kernel) (tk_X12_readNext 235 rfl) ?_
                  refine on_cV1v 12 ms_X12_needs kw_7_64 rfl rfl (ltc_77 hN) sh_77 (ct_X12_needs hN (by decide)) rfl (tk_X12_readNext 236 rfl) fun v82 σ83 => ?_
                  refine on_al0 (tk_X12_readNext 237 rfl) ?_
                  refine fg_12_14 hN kw_6_154 (tk_X12_readNext 238 rfl) ?_
                  refine on_il2 (tk_X12_readNext 239 rfl) ?_
                  refine on_iconst (tk_X12_readNext 240 rfl) ?_
                  refine on_iadd (tk_X12_readNext 241 rfl) ?_
                  refine on_al0 (tk_X12_readNext 242 rfl) ?_
                  refine on_cV0i 12 ms_X12_freshWindow kw_7_118 rfl rfl (ltc_77 hN) sh_77 (ct_X12_freshWindow hN) rfl (tk_X12_readNext 243 rfl) fun v84 σ85 => ?_
                  refine on_iast (ltc_83 hN) sh_83 (tk_X12_readNext 244 rfl) fun σ86 => ?_
                  refine on_al0 (tk_X12_readNext 245 rfl) ?_
                  refine fg_12_14 hN kw_6_154 (tk_X12_readNext 246 rfl) ?_
                  refine on_iconst (tk_X12_readNext 247 rfl) ?_
                  refine on_dup2 rfl rfl (tk_X12_readNext 248 rfl) ?_
                  refine on_iald (ltc_83 hN) sh_83 (tk_X12_readNext 249 rfl) fun v87 => ?_
                  refine on_iconst (tk_X12_readNext 250 rfl) ?_
                  refine on_iadd (tk_X12_readNext 251 rfl) ?_
                  refine on_iast (ltc_83 hN) sh_83 (tk_X12_readNext 252 rfl) fun σ88 => ?_
                  refine on_goto (tk_X12_readNext 253 rfl) (tgt := 469) (by decide) ?_
                  exact on_vret (tk_X12_readNext 260 rfl)
                · refine on_al0 (tk_X12_readNext 254 rfl) ?_
                  refine on_cV0v 12 ms_X12_advance kw_7_41 rfl rfl (ltc_77 hN) sh_77 (ct_X12_advance hN) rfl (tk_X12_readNext 255 rfl) fun v89 σ90 => ?_
                  refine on_al0 (tk_X12_readNext 256 rfl) ?_
                  refine on_sipush (tk_X12_readNext 257 rfl) sp_191 ?_
                  refine on_iconst (tk_X12_readNext 258 rfl) ?_
                  refine on_cV2v 12 ms_X12_readTwo kw_7_137 rfl rfl (ltc_77 hN) sh_77 (ct_X12_readTwo hN) rfl (tk_X12_readNext 259 rfl) fun v91 σ92 => ?_
                  exact on_vret (tk_X12_readNext 260 rfl)
set_option maxRecDepth 100000 in
set_option maxHeartbeats 4000000 in
theorem gb_X12_readNext_166 {E : on_E} {z n : Nat} (X : on_X) (hN : 100 ≤ n) (σ : on_S) : on_G X E cX12_readNext RX12 none 9 196 3 z n σ (pf_X12_readNext_166  σ) 166 [some (.ref (z + 77)), none, none] [] := by
  rw [pf_X12_readNext_166]
  refine on_al0 (tk_X12_readNext 81 rfl) ?_
  refine on_iconst (tk_X12_readNext 82 rfl) ?_
  refine on_cV1v 12 ms_X12_errs kw_7_78 rfl rfl (ltc_77 hN) sh_77 (ct_X12_errs hN) rfl (tk_X12_readNext 83 rfl) fun v31 σ32 => ?_
  exact gb_X12_readNext_171 X  hN _
set_option maxRecDepth 100000 in
set_option maxHeartbeats 4000000 in
theorem gb_X12_readNext_146 {E : on_E} {z n : Nat} (X : on_X) (hN : 100 ≤ n) (σ : on_S) : on_G X E cX12_readNext RX12 none 9 196 3 z n σ (pf_X12_readNext_146  σ) 146 [some (.ref (z + 77)), none, none] [] := by
  rw [pf_X12_readNext_146]
  refine on_al0 (tk_X12_readNext 71 rfl) ?_
  refine on_ldcs (show ("OppositeNetsModel", 220, "jumper", 14) ∈ on_strs by decide +kernel) (tk_X12_readNext 72 rfl) ?_
  refine on_cV1z 12 ms_X12_is kw_7_72 rfl rfl (ltc_77 hN) sh_77 (ct_X12_is hN (by decide)) rfl (tk_X12_readNext 73 rfl) fun v28 σ29 => ?_
  refine on_if_eq (tk_X12_readNext 74 rfl) (tgt := 171) (by decide) ?_ ?_
  · refine on_al0 (tk_X12_readNext 75 rfl) ?_
    refine fg_12_14 hN kw_6_154 (tk_X12_readNext 76 rfl) ?_
    refine on_iconst (tk_X12_readNext 77 rfl) ?_
    refine on_iald (ltc_83 hN) sh_83 (tk_X12_readNext 78 rfl) fun v30 => ?_
    refine on_bipush (tk_X12_readNext 79 rfl) bp_9 ?_
    refine on_icmp_ne (tk_X12_readNext 80 rfl) (tgt := 171) (by decide) ?_ ?_
    · exact gb_X12_readNext_166 X  hN _
    · exact gb_X12_readNext_171 X  hN _
  · exact gb_X12_readNext_171 X  hN _
set_option maxRecDepth 100000 in
set_option maxHeartbeats 4000000 in
theorem gb_X12_readNext_127 {E : on_E} {z n : Nat} (X : on_X) (hN : 100 ≤ n) (σ : on_S) : on_G X E cX12_readNext RX12 none 9 196 3 z n σ (pf_X12_readNext_127  σ) 127 [some (.ref (z + 77)), none, none] [] := by
  rw [pf_X12_readNext_127]
  refine on_al0 (tk_X12_readNext 61 rfl) ?_
  refine on_ldcs (show ("OppositeNetsModel", 212, "net", 6) ∈ on_strs by decide +kernel) (tk_X12_readNext 62 rfl) ?_
  refine on_cV1z 12 ms_X12_is kw_7_72 rfl rfl (ltc_77 hN) sh_77 (ct_X12_is hN (by decide)) rfl (tk_X12_readNext 63 rfl) fun v25 σ26 => ?_
  refine on_if_eq (tk_X12_readNext 64 rfl) (tgt := 146) (by decide) ?_ ?_
  · refine on_al0 (tk_X12_readNext 65 rfl) ?_
    refine fg_12_14 hN kw_6_154 (tk_X12_readNext 66 rfl) ?_
    refine on_iconst (tk_X12_readNext 67 rfl) ?_
    refine on_iald (ltc_83 hN) sh_83 (tk_X12_readNext 68 rfl) fun v27 => ?_
    refine on_iconst (tk_X12_readNext 69 rfl) ?_
    refine on_icmp_eq (tk_X12_readNext 70 rfl) (tgt := 166) (by decide) ?_ ?_
    · exact gb_X12_readNext_146 X  hN _
    · exact gb_X12_readNext_166 X  hN _
  · exact gb_X12_readNext_146 X  hN _
set_option maxRecDepth 100000 in
set_option maxHeartbeats 4000000 in
theorem gb_X12_readNext_107 {E : on_E} {z n : Nat} (X : on_X) (hN : 100 ≤ n) (σ : on_S) : on_G X E cX12_readNext RX12 none 9 196 3 z n σ (pf_X12_readNext_107  σ) 107 [some (.ref (z + 77)), none, none] [] := by
  rw [pf_X12_readNext_107]
  refine on_al0 (tk_X12_readNext 51 rfl) ?_
  refine on_ldcs (show ("OppositeNetsModel", 210, "man", 4) ∈ on_strs by decide +kernel) (tk_X12_readNext 52 rfl) ?_
  refine on_cV1z 12 ms_X12_is kw_7_72 rfl rfl (ltc_77 hN) sh_77 (ct_X12_is hN (by decide)) rfl (tk_X12_readNext 53 rfl) fun v22 σ23 => ?_
  refine on_if_eq (tk_X12_readNext 54 rfl) (tgt := 127) (by decide) ?_ ?_
  · refine on_al0 (tk_X12_readNext 55 rfl) ?_
    refine fg_12_14 hN kw_6_154 (tk_X12_readNext 56 rfl) ?_
    refine on_iconst (tk_X12_readNext 57 rfl) ?_
    refine on_iald (ltc_83 hN) sh_83 (tk_X12_readNext 58 rfl) fun v24 => ?_
    refine on_bipush (tk_X12_readNext 59 rfl) bp_9 ?_
    refine on_icmp_eq (tk_X12_readNext 60 rfl) (tgt := 166) (by decide) ?_ ?_
    · exact gb_X12_readNext_127 X  hN _
    · exact gb_X12_readNext_166 X  hN _
  · exact gb_X12_readNext_127 X  hN _
set_option maxRecDepth 100000 in
set_option maxHeartbeats 4000000 in
theorem gb_X12_readNext_87 {E : on_E} {z n : Nat} (X : on_X) (hN : 100 ≤ n) (σ : on_S) : on_G X E cX12_readNext RX12 none 9 196 3 z n σ (pf_X12_readNext_87  σ) 87 [some (.ref (z + 77)), none, none] [] := by
  rw [pf_X12_readNext_87]
  refine on_al0 (tk_X12_readNext 41 rfl) ?_
  refine on_ldcs (show ("OppositeNetsModel", 208, "window", 3) ∈ on_strs by decide +kernel) (tk_X12_readNext 42 rfl) ?_
  refine on_cV1z 12 ms_X12_is kw_7_72 rfl rfl (ltc_77 hN) sh_77 (ct_X12_is hN (by decide)) rfl (tk_X12_readNext 43 rfl) fun v19 σ20 => ?_
  refine on_if_eq (tk_X12_readNext 44 rfl) (tgt := 107) (by decide) ?_ ?_
  · refine on_al0 (tk_X12_readNext 45 rfl) ?_
    refine fg_12_14 hN kw_6_154 (tk_X12_readNext 46 rfl) ?_
    refine on_iconst (tk_X12_readNext 47 rfl) ?_
    refine on_iald (ltc_83 hN) sh_83 (tk_X12_readNext 48 rfl) fun v21 => ?_
    refine on_bipush (tk_X12_readNext 49 rfl) bp_9 ?_
    refine on_icmp_eq (tk_X12_readNext 50 rfl) (tgt := 166) (by decide) ?_ ?_
    · exact gb_X12_readNext_107 X  hN _
    · exact gb_X12_readNext_166 X  hN _
  · exact gb_X12_readNext_107 X  hN _
set_option maxRecDepth 100000 in
set_option maxHeartbeats 4000000 in
theorem gb_X12_readNext_77 {E : on_E} {z n : Nat} (X : on_X) (hN : 100 ≤ n) (s0 : Int) (σ : on_S) : on_G X E cX12_readNext RX12 none 9 196 3 z n σ (pf_X12_readNext_77 s0 σ) 77 [some (.ref (z + 77)), none, none] [.int (on_i s0)] := by
  rw [pf_X12_readNext_77]
  refine on_is1 rfl (tk_X12_readNext 35 rfl) ?_
  refine on_il1 (tk_X12_readNext 36 rfl) ?_
  refine on_if_ne (tk_X12_readNext 37 rfl) (tgt := 87) (by decide) ?_ ?_
  · refine on_al0 (tk_X12_readNext 38 rfl) ?_
    refine on_iconst (tk_X12_readNext 39 rfl) ?_
    refine on_cV1v 12 ms_X12_errs kw_7_78 rfl rfl (ltc_77 hN) sh_77 (ct_X12_errs hN) rfl (tk_X12_readNext 40 rfl) fun v17 σ18 => ?_
    refine on_dr1 ?_
    exact gb_X12_readNext_87 X  hN _
  · refine on_dr1 ?_
    exact gb_X12_readNext_87 X  hN _
set_option maxRecDepth 100000 in
set_option maxHeartbeats 4000000 in
theorem gb_X12_readNext_72 {E : on_E} {z n : Nat} (X : on_X) (hN : 100 ≤ n) (σ : on_S) : on_G X E cX12_readNext RX12 none 9 196 3 z n σ (pf_X12_readNext_72  σ) 72 [some (.ref (z + 77)), none, none] [] := by
  rw [pf_X12_readNext_72]
  refine on_iconst (tk_X12_readNext 32 rfl) ?_
  refine on_goto (tk_X12_readNext 33 rfl) (tgt := 77) (by decide) ?_
  exact gb_X12_readNext_77 X  hN _ _
set_option maxRecDepth 100000 in
set_option maxHeartbeats 4000000 in
theorem ct_X12_readNext {E : on_E} {z n : Nat} (hN : 100 ≤ n) {σ : on_S} : on_Sp E yX12_readNext cX12_readNext 3 none 9 196 z n [.ref (z + 77)] σ (pf_X12_readNext  σ) := by
  refine on_met [some (.ref (z + 77)), none, none] (by decide) rfl rfl (fun X => ?_)
  rw [pf_X12_readNext]
  refine on_al0 (tk_X12_readNext 0 rfl) ?_
  refine on_ldcs (show ("OppositeNetsModel", 208, "window", 3) ∈ on_strs by decide +kernel) (tk_X12_readNext 1 rfl) ?_
  refine on_cV1z 12 ms_X12_is kw_7_72 rfl rfl (ltc_77 hN) sh_77 (ct_X12_is hN (by decide)) rfl (tk_X12_readNext 2 rfl) fun v1 σ2 => ?_
  refine on_if_ne (tk_X12_readNext 3 rfl) (tgt := 72) (by decide) ?_ ?_
  · refine on_al0 (tk_X12_readNext 4 rfl) ?_
    refine on_ldcs (show ("OppositeNetsModel", 210, "man", 4) ∈ on_strs by decide +kernel) (tk_X12_readNext 5 rfl) ?_
    refine on_cV1z 12 ms_X12_is kw_7_72 rfl rfl (ltc_77 hN) sh_77 (ct_X12_is hN (by decide)) rfl (tk_X12_readNext 6 rfl) fun v3 σ4 => ?_
    refine on_if_ne (tk_X12_readNext 7 rfl) (tgt := 72) (by decide) ?_ ?_
    · refine on_al0 (tk_X12_readNext 8 rfl) ?_
      refine on_ldcs (show ("OppositeNetsModel", 212, "net", 6) ∈ on_strs by decide +kernel) (tk_X12_readNext 9 rfl) ?_
      refine on_cV1z 12 ms_X12_is kw_7_72 rfl rfl (ltc_77 hN) sh_77 (ct_X12_is hN (by decide)) rfl (tk_X12_readNext 10 rfl) fun v5 σ6 => ?_
      refine on_if_ne (tk_X12_readNext 11 rfl) (tgt := 72) (by decide) ?_ ?_
      · refine on_al0 (tk_X12_readNext 12 rfl) ?_
        refine on_ldcs (show ("OppositeNetsModel", 214, "stands", 11) ∈ on_strs by decide +kernel) (tk_X12_readNext 13 rfl) ?_
        refine on_cV1z 12 ms_X12_is kw_7_72 rfl rfl (ltc_77 hN) sh_77 (ct_X12_is hN (by decide)) rfl (tk_X12_readNext 14 rfl) fun v7 σ8 => ?_
        refine on_if_ne (tk_X12_readNext 15 rfl) (tgt := 72) (by decide) ?_ ?_
        · refine on_al0 (tk_X12_readNext 16 rfl) ?_
          refine on_ldcs (show ("OppositeNetsModel", 216, "quarrel", 12) ∈ on_strs by decide +kernel) (tk_X12_readNext 17 rfl) ?_
          refine on_cV1z 12 ms_X12_is kw_7_72 rfl rfl (ltc_77 hN) sh_77 (ct_X12_is hN (by decide)) rfl (tk_X12_readNext 18 rfl) fun v9 σ10 => ?_
          refine on_if_ne (tk_X12_readNext 19 rfl) (tgt := 72) (by decide) ?_ ?_
          · refine on_al0 (tk_X12_readNext 20 rfl) ?_
            refine on_ldcs (show ("OppositeNetsModel", 218, "feud", 13) ∈ on_strs by decide +kernel) (tk_X12_readNext 21 rfl) ?_
            refine on_cV1z 12 ms_X12_is kw_7_72 rfl rfl (ltc_77 hN) sh_77 (ct_X12_is hN (by decide)) rfl (tk_X12_readNext 22 rfl) fun v11 σ12 => ?_
            refine on_if_ne (tk_X12_readNext 23 rfl) (tgt := 72) (by decide) ?_ ?_
            · refine on_al0 (tk_X12_readNext 24 rfl) ?_
              refine on_ldcs (show ("OppositeNetsModel", 220, "jumper", 14) ∈ on_strs by decide +kernel) (tk_X12_readNext 25 rfl) ?_
              refine on_cV1z 12 ms_X12_is kw_7_72 rfl rfl (ltc_77 hN) sh_77 (ct_X12_is hN (by decide)) rfl (tk_X12_readNext 26 rfl) fun v13 σ14 => ?_
              refine on_if_ne (tk_X12_readNext 27 rfl) (tgt := 72) (by decide) ?_ ?_
              · refine on_al0 (tk_X12_readNext 28 rfl) ?_
                refine on_ldcs (show ("OppositeNetsModel", 222, "road", 16) ∈ on_strs by decide +kernel) (tk_X12_readNext 29 rfl) ?_
                refine on_cV1z 12 ms_X12_is kw_7_72 rfl rfl (ltc_77 hN) sh_77 (ct_X12_is hN (by decide)) rfl (tk_X12_readNext 30 rfl) fun v15 σ16 => ?_
                refine on_if_eq (tk_X12_readNext 31 rfl) (tgt := 76) (by decide) ?_ ?_
                · exact gb_X12_readNext_72 X  hN _
                · refine on_iconst (tk_X12_readNext 34 rfl) ?_
                  exact gb_X12_readNext_77 X  hN _ _
              · exact gb_X12_readNext_72 X  hN _
            · exact gb_X12_readNext_72 X  hN _
          · exact gb_X12_readNext_72 X  hN _
        · exact gb_X12_readNext_72 X  hN _
      · exact gb_X12_readNext_72 X  hN _
    · exact gb_X12_readNext_72 X  hN _
  · exact gb_X12_readNext_72 X  hN _
def tb_X12_readLine : List (Nat × Nat × Nat × Instr) := [(0, 1, 1, .aload_n 0), (1, 3, 4, .getfield 31), (4, 2, 6, .bipush 7), (6, 1, 7, .iaload), (7, 3, 10, .ifCond .ne 41), (10, 1, 11, .aload_n 0), (11, 2, 13, .ldc 241), (13, 3, 16, .invokevirtual 177), (16, 1, 17, .aload_n 0), (17, 3, 20, .getfield 31), (20, 1, 21, .iconst 0), (21, 1, 22, .aload_n 0), (22, 2, 24, .ldc 243), (24, 1, 25, .iconst 2), (25, 1, 26, .iconst 4), (26, 3, 29, .invokevirtual 194), (29, 1, 30, .iastore), (30, 1, 31, .aload_n 0), (31, 3, 34, .getfield 31), (34, 1, 35, .iconst 1), (35, 1, 36, .aload_n 0), (36, 2, 38, .ldc 245), (38, 1, 39, .iconst 1), (39, 2, 41, .bipush 6), (41, 3, 44, .invokevirtual 194), (44, 1, 45, .iastore), (45, 3, 48, .goto 7), (48, 1, 49, .aload_n 0), (49, 3, 52, .invokevirtual 247), (52, 1, 53, .aload_n 0), (53, 3, 56, .invokevirtual 149), (56, 3, 59, .ifCond .eq 16), (59, 1, 60, .aload_n 0), (60, 3, 63, .getfield 126), (63, 1, 64, .iconst 3), (64, 3, 67, .if_icmp .eq 8), (67, 1, 68, .aload_n 0), (68, 1, 69, .iconst 1), (69, 3, 72, .invokevirtual 173), (72, 1, 73, .aload_n 0), (73, 3, 76, .invokevirtual 149), (76, 3, 79, .ifCond .eq 7), (79, 1, 80, .aload_n 0), (80, 3, 83, .invokevirtual 167), (83, 1, 84, .aload_n 0), (84, 3, 87, .getfield 31), (87, 2, 89, .bipush 7), (89, 1, 90, .dup2), (90, 1, 91, .iaload), (91, 1, 92, .iconst 1), (92, 1, 93, .iadd), (93, 1, 94, .iastore), (94, 1, 95, .return_)]
set_option maxRecDepth 100000 in
theorem tk_X12_readLine (k : Nat) {pc n pc2 : Nat} {i : Instr} (hk : tb_X12_readLine[k]? = some (pc, n, pc2, i)) : on_dq cX12_readLine pc n pc2 i := on_ta (by decide +kernel) k hk
theorem ms_X12_readLine : on_Mv yX12_readLine cX12_readLine 1 none 0 := ⟨kw_7_62, kw_7_61, (on_mp (q := (yX12_readLine, 37)) (by decide +kernel)), kw_1_13, by decide, by decide, by decide +kernel⟩
def pf_X12_readLine_83 (σ : on_S) : Option on_O :=
  on_Rd σ 83 687 7 fun v19 =>
  on_Wr σ 83 687 7 (v19 + 1) fun σ20 =>
  some (0, σ20)
def pf_X12_readLine_72 (σ : on_S) : Option on_O :=
  on_Cl (pf_X12_good σ) fun v15 σ16 =>
  on_Eq v15 0 (
    pf_X12_readLine_83 σ16) (
    on_Cl (pf_X12_advance σ16) fun _ σ18 =>
    pf_X12_readLine_83 σ18)
def pf_X12_readLine_52 (σ : on_S) : Option on_O :=
  on_Cl (pf_X12_good σ) fun v10 σ11 =>
  on_Eq v10 0 (
    pf_X12_readLine_72 σ11) (
    on_Gt σ11 77 10 fun v12 =>
    on_Eq v12 3 (
      pf_X12_readLine_72 σ11) (
      on_Cl (pf_X12_errs 1 σ11) fun _ σ14 =>
      pf_X12_readLine_72 σ14))
def pf_X12_readLine (σ : on_S) : Option on_O :=
  on_Rd σ 83 687 7 fun v1 =>
  on_Eq v1 0 (
    on_Cl (pf_X12_needs 0 σ) fun _ σ3 =>
    on_Cl (pf_X12_told 1 2 4 σ3) fun v4 σ5 =>
    on_Wr σ5 83 687 0 v4 fun σ6 =>
    on_Cl (pf_X12_told 2 1 6 σ6) fun v7 σ8 =>
    on_Wr σ8 83 687 1 v7 fun σ9 =>
    pf_X12_readLine_52 σ9) (
    on_Cl (pf_X12_readNext σ) fun _ σ22 =>
    pf_X12_readLine_52 σ22)
set_option maxRecDepth 100000 in
set_option maxHeartbeats 4000000 in
theorem gb_X12_readLine_83 {E : on_E} {z n : Nat} (X : on_X) (hN : 100 ≤ n) (σ : on_S) : on_G X E cX12_readLine RX12 none 10 218 1 z n σ (pf_X12_readLine_83  σ) 83 [some (.ref (z + 77))] [] := by
  rw [pf_X12_readLine_83]
  refine on_al0 (tk_X12_readLine 44 rfl) ?_
  refine fg_12_14 hN kw_6_154 (tk_X12_readLine 45 rfl) ?_
  refine on_bipush (tk_X12_readLine 46 rfl) bp_7 ?_
  refine on_dup2 rfl rfl (tk_X12_readLine 47 rfl) ?_
  refine on_iald (ltc_83 hN) sh_83 (tk_X12_readLine 48 rfl) fun v19 => ?_
  refine on_iconst (tk_X12_readLine 49 rfl) ?_
  refine on_iadd (tk_X12_readLine 50 rfl) ?_
  refine on_iast (ltc_83 hN) sh_83 (tk_X12_readLine 51 rfl) fun σ20 => ?_
  exact on_vret (tk_X12_readLine 52 rfl)
set_option maxRecDepth 100000 in
set_option maxHeartbeats 4000000 in
theorem gb_X12_readLine_72 {E : on_E} {z n : Nat} (X : on_X) (hN : 100 ≤ n) (σ : on_S) : on_G X E cX12_readLine RX12 none 10 218 1 z n σ (pf_X12_readLine_72  σ) 72 [some (.ref (z + 77))] [] := by
  rw [pf_X12_readLine_72]
  refine on_al0 (tk_X12_readLine 39 rfl) ?_
  refine on_cV0z 12 ms_X12_good kw_7_55 rfl rfl (ltc_77 hN) sh_77 (ct_X12_good hN) rfl (tk_X12_readLine 40 rfl) fun v15 σ16 => ?_
  refine on_if_eq (tk_X12_readLine 41 rfl) (tgt := 83) (by decide) ?_ ?_
  · refine on_al0 (tk_X12_readLine 42 rfl) ?_
    refine on_cV0v 12 ms_X12_advance kw_7_41 rfl rfl (ltc_77 hN) sh_77 (ct_X12_advance hN) rfl (tk_X12_readLine 43 rfl) fun v17 σ18 => ?_
    exact gb_X12_readLine_83 X  hN _
  · exact gb_X12_readLine_83 X  hN _
set_option maxRecDepth 100000 in
set_option maxHeartbeats 4000000 in
theorem gb_X12_readLine_52 {E : on_E} {z n : Nat} (X : on_X) (hN : 100 ≤ n) (σ : on_S) : on_G X E cX12_readLine RX12 none 10 218 1 z n σ (pf_X12_readLine_52  σ) 52 [some (.ref (z + 77))] [] := by
  rw [pf_X12_readLine_52]
  refine on_al0 (tk_X12_readLine 29 rfl) ?_
  refine on_cV0z 12 ms_X12_good kw_7_55 rfl rfl (ltc_77 hN) sh_77 (ct_X12_good hN) rfl (tk_X12_readLine 30 rfl) fun v10 σ11 => ?_
  refine on_if_eq (tk_X12_readLine 31 rfl) (tgt := 72) (by decide) ?_ ?_
  · refine on_al0 (tk_X12_readLine 32 rfl) ?_
    refine fg_12_10 hN kw_6_150 (tk_X12_readLine 33 rfl) fun v12 => ?_
    refine on_iconst (tk_X12_readLine 34 rfl) ?_
    refine on_icmp_eq (tk_X12_readLine 35 rfl) (tgt := 72) (by decide) ?_ ?_
    · refine on_al0 (tk_X12_readLine 36 rfl) ?_
      refine on_iconst (tk_X12_readLine 37 rfl) ?_
      refine on_cV1v 12 ms_X12_errs kw_7_78 rfl rfl (ltc_77 hN) sh_77 (ct_X12_errs hN) rfl (tk_X12_readLine 38 rfl) fun v13 σ14 => ?_
      exact gb_X12_readLine_72 X  hN _
    · exact gb_X12_readLine_72 X  hN _
  · exact gb_X12_readLine_72 X  hN _
set_option maxRecDepth 100000 in
set_option maxHeartbeats 4000000 in
theorem ct_X12_readLine {E : on_E} {z n : Nat} (hN : 100 ≤ n) {σ : on_S} : on_Sp E yX12_readLine cX12_readLine 1 none 10 218 z n [.ref (z + 77)] σ (pf_X12_readLine  σ) := by
  refine on_met [some (.ref (z + 77))] (by decide) rfl rfl (fun X => ?_)
  rw [pf_X12_readLine]
  refine on_al0 (tk_X12_readLine 0 rfl) ?_
  refine fg_12_14 hN kw_6_154 (tk_X12_readLine 1 rfl) ?_
  refine on_bipush (tk_X12_readLine 2 rfl) bp_7 ?_
  refine on_iald (ltc_83 hN) sh_83 (tk_X12_readLine 3 rfl) fun v1 => ?_
  refine on_if_ne (tk_X12_readLine 4 rfl) (tgt := 48) (by decide) ?_ ?_
  · refine on_al0 (tk_X12_readLine 5 rfl) ?_
    refine on_ldcs (show ("OppositeNetsModel", 241, "street", 0) ∈ on_strs by decide +kernel) (tk_X12_readLine 6 rfl) ?_
    refine on_cV1v 12 ms_X12_needs kw_7_64 rfl rfl (ltc_77 hN) sh_77 (ct_X12_needs hN (by decide)) rfl (tk_X12_readLine 7 rfl) fun v2 σ3 => ?_
    refine on_al0 (tk_X12_readLine 8 rfl) ?_
    refine fg_12_14 hN kw_6_154 (tk_X12_readLine 9 rfl) ?_
    refine on_iconst (tk_X12_readLine 10 rfl) ?_
    refine on_al0 (tk_X12_readLine 11 rfl) ?_
    refine on_ldcs (show ("OppositeNetsModel", 243, "houses", 1) ∈ on_strs by decide +kernel) (tk_X12_readLine 12 rfl) ?_
    refine on_iconst (tk_X12_readLine 13 rfl) ?_
    refine on_iconst (tk_X12_readLine 14 rfl) ?_
    refine on_cV3i 12 ms_X12_told kw_7_83 rfl rfl (ltc_77 hN) sh_77 (ct_X12_told hN (by decide)) rfl (tk_X12_readLine 15 rfl) fun v4 σ5 => ?_
    refine on_iast (ltc_83 hN) sh_83 (tk_X12_readLine 16 rfl) fun σ6 => ?_
    refine on_al0 (tk_X12_readLine 17 rfl) ?_
    refine fg_12_14 hN kw_6_154 (tk_X12_readLine 18 rfl) ?_
    refine on_iconst (tk_X12_readLine 19 rfl) ?_
    refine on_al0 (tk_X12_readLine 20 rfl) ?_
    refine on_ldcs (show ("OppositeNetsModel", 245, "storeys", 2) ∈ on_strs by decide +kernel) (tk_X12_readLine 21 rfl) ?_
    refine on_iconst (tk_X12_readLine 22 rfl) ?_
    refine on_bipush (tk_X12_readLine 23 rfl) bp_6 ?_
    refine on_cV3i 12 ms_X12_told kw_7_83 rfl rfl (ltc_77 hN) sh_77 (ct_X12_told hN (by decide)) rfl (tk_X12_readLine 24 rfl) fun v7 σ8 => ?_
    refine on_iast (ltc_83 hN) sh_83 (tk_X12_readLine 25 rfl) fun σ9 => ?_
    refine on_goto (tk_X12_readLine 26 rfl) (tgt := 52) (by decide) ?_
    exact gb_X12_readLine_52 X  hN _
  · refine on_al0 (tk_X12_readLine 27 rfl) ?_
    refine on_cV0v 12 ms_X12_readNext kw_7_92 rfl rfl (ltc_77 hN) sh_77 (ct_X12_readNext hN) rfl (tk_X12_readLine 28 rfl) fun v21 σ22 => ?_
    exact gb_X12_readLine_52 X  hN _
def tb_X12_street : List (Nat × Nat × Nat × Instr) := [(0, 1, 1, .aload_n 0), (1, 1, 2, .aload_n 0), (2, 3, 5, .getfield 111), (5, 3, 8, .putfield 114), (8, 1, 9, .aload_n 0), (9, 1, 10, .iconst 0), (10, 3, 13, .putfield 111), (13, 1, 14, .aload_n 0), (14, 1, 15, .iconst 0), (15, 3, 18, .putfield 117), (18, 1, 19, .aload_n 0), (19, 1, 20, .iconst 0), (20, 3, 23, .putfield 146), (23, 1, 24, .aload_n 0), (24, 1, 25, .iconst (-1)), (25, 3, 28, .putfield 27), (28, 1, 29, .iconst 0), (29, 1, 30, .istore_n 1), (30, 1, 31, .iload_n 1), (31, 3, 34, .sipush 687), (34, 3, 37, .if_icmp .ge 16), (37, 1, 38, .aload_n 0), (38, 3, 41, .getfield 31), (41, 1, 42, .iload_n 1), (42, 1, 43, .iconst 0), (43, 1, 44, .iastore), (44, 3, 47, .iinc 1 1), (47, 3, 50, .goto (-17)), (50, 1, 51, .aload_n 0), (51, 3, 54, .invokevirtual 167), (54, 1, 55, .aload_n 0), (55, 3, 58, .invokevirtual 149), (58, 3, 61, .ifCond .eq 17), (61, 1, 62, .aload_n 0), (62, 3, 65, .getfield 126), (65, 3, 68, .ifCond .eq 10), (68, 1, 69, .aload_n 0), (69, 3, 72, .invokevirtual 250), (72, 3, 75, .goto (-18)), (75, 1, 76, .aload_n 0), (76, 3, 79, .invokevirtual 149), (79, 3, 82, .ifCond .ne 6), (82, 2, 84, .bipush (-4)), (84, 1, 85, .ireturn), (85, 1, 86, .iconst 0), (86, 1, 87, .istore_n 1), (87, 1, 88, .iload_n 1), (88, 3, 91, .sipush 687), (91, 3, 94, .if_icmp .ge 21), (94, 1, 95, .aload_n 0), (95, 3, 98, .getfield 9), (98, 1, 99, .iload_n 1), (99, 1, 100, .aload_n 0), (100, 3, 103, .getfield 31), (103, 1, 104, .iload_n 1), (104, 1, 105, .iaload), (105, 1, 106, .iastore), (106, 3, 109, .iinc 1 1), (109, 3, 112, .goto (-22)), (112, 1, 113, .aload_n 0), (113, 3, 116, .getfield 9), (116, 2, 118, .bipush 7), (118, 1, 119, .iaload), (119, 1, 120, .ireturn)]
set_option maxRecDepth 100000 in
theorem tk_X12_street (k : Nat) {pc n pc2 : Nat} {i : Instr} (hk : tb_X12_street[k]? = some (pc, n, pc2, i)) : on_dq cX12_street pc n pc2 i := on_ta (by decide +kernel) k hk
theorem ms_X12_street : on_Mv yX12_street cX12_street 2 (some .int) 0 := ⟨kw_7_40, kw_7_38, kw_7_39, kw_1_13, by decide, by decide, by decide +kernel⟩
def pf_X12_street_87 : Nat → Int → on_S → Option on_O
  | 0, _, _ => none
  | nf + 1, l1, σ =>
    on_Lt l1 687 (
      on_Rd σ 83 687 l1 fun v17 =>
      on_Wr σ 78 687 l1 v17 fun σ18 =>
      pf_X12_street_87 nf (l1 + 1) σ18) (
      on_Rd σ 78 687 7 fun v19 =>
      some (v19, σ))
def pf_X12_street_75 (σ : on_S) : Option on_O :=
  on_Cl (pf_X12_good σ) fun v15 σ16 =>
  on_Eq v15 0 (
    some ((-4), σ16)) (
    pf_X12_street_87 on_N 0 σ16)
def pf_X12_street_54 : Nat → on_S → Option on_O
  | 0, _ => none
  | nf + 1, σ =>
    on_Cl (pf_X12_good σ) fun v10 σ11 =>
    on_Eq v10 0 (
      pf_X12_street_75 σ11) (
      on_Gt σ11 77 10 fun v12 =>
      on_Eq v12 0 (
        pf_X12_street_75 σ11) (
        on_Cl (pf_X12_readLine σ11) fun _ σ14 =>
        pf_X12_street_54 nf σ14))
def pf_X12_street_30 : Nat → Int → on_S → Option on_O
  | 0, _, _ => none
  | nf + 1, l1, σ =>
    on_Lt l1 687 (
      on_Wr σ 83 687 l1 0 fun σ7 =>
      pf_X12_street_30 nf (l1 + 1) σ7) (
      on_Cl (pf_X12_advance σ) fun _ σ9 =>
      pf_X12_street_54 on_N σ9)
def pf_X12_street (σ : on_S) : Option on_O :=
  on_Gt σ 77 5 fun v1 =>
  on_Pt σ 77 7 v1 fun σ2 =>
  on_Pt σ2 77 5 0 fun σ3 =>
  on_Pt σ3 77 8 0 fun σ4 =>
  on_Pt σ4 77 12 0 fun σ5 =>
  on_Pt σ5 77 13 (-1) fun σ6 =>
  pf_X12_street_30 on_N 0 σ6
set_option maxRecDepth 100000 in
set_option maxHeartbeats 4000000 in
theorem gl_X12_street_87 {E : on_E} {z n : Nat} (X : on_X) (hN : 100 ≤ n) : ∀ (nf : Nat) (l1 : Int) (σ : on_S), on_G X E cX12_street RX12 (some .int) 11 238 2 z n σ (pf_X12_street_87 nf l1 σ) 87 [some (.ref (z + 77)), some (.int (on_i l1))] [] := by
  intro nf
  induction nf with
  | zero => intro l1 σ; exact on_none
  | succ nf ih =>
    intro l1 σ
    rw [pf_X12_street_87]
    refine on_il1 (tk_X12_street 46 rfl) ?_
    refine on_sipush (tk_X12_street 47 rfl) sp_687 ?_
    refine on_icmp_ge (tk_X12_street 48 rfl) (tgt := 112) (by decide) ?_ ?_
    · refine on_al0 (tk_X12_street 49 rfl) ?_
      refine fg_12_1 hN kw_6_141 (tk_X12_street 50 rfl) ?_
      refine on_il1 (tk_X12_street 51 rfl) ?_
      refine on_al0 (tk_X12_street 52 rfl) ?_
      refine fg_12_14 hN kw_6_154 (tk_X12_street 53 rfl) ?_
      refine on_il1 (tk_X12_street 54 rfl) ?_
      refine on_iald (ltc_83 hN) sh_83 (tk_X12_street 55 rfl) fun v17 => ?_
      refine on_iast (ltc_78 hN) sh_78 (tk_X12_street 56 rfl) fun σ18 => ?_
      refine on_inc1 rfl (tk_X12_street 57 rfl) ?_
      refine on_goto (tk_X12_street 58 rfl) (tgt := 87) (by decide) ?_
      exact ih _ _
    · refine on_al0 (tk_X12_street 59 rfl) ?_
      refine fg_12_1 hN kw_6_141 (tk_X12_street 60 rfl) ?_
      refine on_bipush (tk_X12_street 61 rfl) bp_7 ?_
      refine on_iald (ltc_78 hN) sh_78 (tk_X12_street 62 rfl) fun v19 => ?_
      exact on_iret (tk_X12_street 63 rfl)
set_option maxRecDepth 100000 in
set_option maxHeartbeats 4000000 in
theorem gb_X12_street_75 {E : on_E} {z n : Nat} (X : on_X) (hN : 100 ≤ n) (σ : on_S) : on_G X E cX12_street RX12 (some .int) 11 238 2 z n σ (pf_X12_street_75  σ) 75 [some (.ref (z + 77)), none] [] := by
  rw [pf_X12_street_75]
  refine on_al0 (tk_X12_street 39 rfl) ?_
  refine on_cV0z 12 ms_X12_good kw_7_55 rfl rfl (ltc_77 hN) sh_77 (ct_X12_good hN) rfl (tk_X12_street 40 rfl) fun v15 σ16 => ?_
  refine on_if_ne (tk_X12_street 41 rfl) (tgt := 85) (by decide) ?_ ?_
  · refine on_bipush (tk_X12_street 42 rfl) bp_m4 ?_
    exact on_iret (tk_X12_street 43 rfl)
  · refine on_iconst (tk_X12_street 44 rfl) ?_
    refine on_is1 rfl (tk_X12_street 45 rfl) ?_
    exact gl_X12_street_87 X  hN on_N _ _
set_option maxRecDepth 100000 in
set_option maxHeartbeats 4000000 in
theorem gl_X12_street_54 {E : on_E} {z n : Nat} (X : on_X) (hN : 100 ≤ n) : ∀ (nf : Nat) (σ : on_S), on_G X E cX12_street RX12 (some .int) 11 238 2 z n σ (pf_X12_street_54 nf  σ) 54 [some (.ref (z + 77)), none] [] := by
  intro nf
  induction nf with
  | zero => intro σ; exact on_none
  | succ nf ih =>
    intro σ
    rw [pf_X12_street_54]
    refine on_al0 (tk_X12_street 30 rfl) ?_
    refine on_cV0z 12 ms_X12_good kw_7_55 rfl rfl (ltc_77 hN) sh_77 (ct_X12_good hN) rfl (tk_X12_street 31 rfl) fun v10 σ11 => ?_
    refine on_if_eq (tk_X12_street 32 rfl) (tgt := 75) (by decide) ?_ ?_
    · refine on_al0 (tk_X12_street 33 rfl) ?_
      refine fg_12_10 hN kw_6_150 (tk_X12_street 34 rfl) fun v12 => ?_
      refine on_if_eq (tk_X12_street 35 rfl) (tgt := 75) (by decide) ?_ ?_
      · refine on_al0 (tk_X12_street 36 rfl) ?_
        refine on_cV0v 12 ms_X12_readLine kw_7_59 rfl rfl (ltc_77 hN) sh_77 (ct_X12_readLine hN) rfl (tk_X12_street 37 rfl) fun v13 σ14 => ?_
        refine on_goto (tk_X12_street 38 rfl) (tgt := 54) (by decide) ?_
        exact ih _
      · exact gb_X12_street_75 X  hN _
    · exact gb_X12_street_75 X  hN _
set_option maxRecDepth 100000 in
set_option maxHeartbeats 4000000 in
theorem gl_X12_street_30 {E : on_E} {z n : Nat} (X : on_X) (hN : 100 ≤ n) : ∀ (nf : Nat) (l1 : Int) (σ : on_S), on_G X E cX12_street RX12 (some .int) 11 238 2 z n σ (pf_X12_street_30 nf l1 σ) 30 [some (.ref (z + 77)), some (.int (on_i l1))] [] := by
  intro nf
  induction nf with
  | zero => intro l1 σ; exact on_none
  | succ nf ih =>
    intro l1 σ
    rw [pf_X12_street_30]
    refine on_il1 (tk_X12_street 18 rfl) ?_
    refine on_sipush (tk_X12_street 19 rfl) sp_687 ?_
    refine on_icmp_ge (tk_X12_street 20 rfl) (tgt := 50) (by decide) ?_ ?_
    · refine on_al0 (tk_X12_street 21 rfl) ?_
      refine fg_12_14 hN kw_6_154 (tk_X12_street 22 rfl) ?_
      refine on_il1 (tk_X12_street 23 rfl) ?_
      refine on_iconst (tk_X12_street 24 rfl) ?_
      refine on_iast (ltc_83 hN) sh_83 (tk_X12_street 25 rfl) fun σ7 => ?_
      refine on_inc1 rfl (tk_X12_street 26 rfl) ?_
      refine on_goto (tk_X12_street 27 rfl) (tgt := 30) (by decide) ?_
      exact ih _ _
    · refine on_al0 (tk_X12_street 28 rfl) ?_
      refine on_cV0v 12 ms_X12_advance kw_7_41 rfl rfl (ltc_77 hN) sh_77 (ct_X12_advance hN) rfl (tk_X12_street 29 rfl) fun v8 σ9 => ?_
      refine on_dr1 ?_
      exact gl_X12_street_54 X  hN on_N _
set_option maxRecDepth 100000 in
set_option maxHeartbeats 4000000 in
theorem ct_X12_street {E : on_E} {z n : Nat} (hN : 100 ≤ n) {σ : on_S} : on_Sp E yX12_street cX12_street 2 (some .int) 11 238 z n [.ref (z + 77)] σ (pf_X12_street  σ) := by
  refine on_met [some (.ref (z + 77)), none] (by decide) rfl rfl (fun X => ?_)
  rw [pf_X12_street]
  refine on_al0 (tk_X12_street 0 rfl) ?_
  refine on_al0 (tk_X12_street 1 rfl) ?_
  refine fg_12_5 hN kw_6_145 (tk_X12_street 2 rfl) fun v1 => ?_
  refine fp_12_7 hN kw_6_147 (tk_X12_street 3 rfl) fun σ2 => ?_
  refine on_al0 (tk_X12_street 4 rfl) ?_
  refine on_iconst (tk_X12_street 5 rfl) ?_
  refine fp_12_5 hN kw_6_145 (tk_X12_street 6 rfl) fun σ3 => ?_
  refine on_al0 (tk_X12_street 7 rfl) ?_
  refine on_iconst (tk_X12_street 8 rfl) ?_
  refine fp_12_8 hN kw_6_148 (tk_X12_street 9 rfl) fun σ4 => ?_
  refine on_al0 (tk_X12_street 10 rfl) ?_
  refine on_iconst (tk_X12_street 11 rfl) ?_
  refine fp_12_12 hN kw_6_152 (tk_X12_street 12 rfl) fun σ5 => ?_
  refine on_al0 (tk_X12_street 13 rfl) ?_
  refine on_iconst (tk_X12_street 14 rfl) ?_
  refine fp_12_13 hN kw_6_153 (tk_X12_street 15 rfl) fun σ6 => ?_
  refine on_iconst (tk_X12_street 16 rfl) ?_
  refine on_is1 rfl (tk_X12_street 17 rfl) ?_
  exact gl_X12_street_30 X  hN on_N _ _
def tb_X12_isWilling : List (Nat × Nat × Nat × Instr) := [(0, 1, 1, .aload_n 0), (1, 1, 2, .iload_n 1), (2, 1, 3, .iconst 0), (3, 3, 6, .invokevirtual 98), (6, 1, 7, .istore_n 3), (7, 1, 8, .iload_n 3), (8, 1, 9, .aload_n 0), (9, 1, 10, .iload_n 2), (10, 3, 13, .invokevirtual 253), (13, 3, 16, .if_icmp .eq 20), (16, 1, 17, .aload_n 0), (17, 1, 18, .iload_n 3), (18, 1, 19, .aload_n 0), (19, 1, 20, .iload_n 2), (20, 3, 23, .invokevirtual 253), (23, 3, 26, .invokevirtual 256), (26, 3, 29, .ifCond .ne 7), (29, 1, 30, .iconst 1), (30, 3, 33, .goto 4), (33, 1, 34, .iconst 0), (34, 1, 35, .ireturn)]
set_option maxRecDepth 100000 in
theorem tk_X12_isWilling (k : Nat) {pc n pc2 : Nat} {i : Instr} (hk : tb_X12_isWilling[k]? = some (pc, n, pc2, i)) : on_dq cX12_isWilling pc n pc2 i := on_ta (by decide +kernel) k hk
theorem ms_X12_isWilling : on_Mv yX12_isWilling cX12_isWilling 4 (some .boolean) 2 := ⟨kw_7_232, kw_7_231, (on_mp (q := (yX12_isWilling, 37)) (by decide +kernel)), kw_1_13, by decide, by decide, by decide +kernel⟩
def pf_X12_isWilling_33 (σ : on_S) : Option on_O :=
  some (0, σ)
def pf_X12_isWilling (p0 : Int) (p1 : Int) (σ : on_S) : Option on_O :=
  on_Cl (pf_X12_ofMan p0 0 σ) fun v1 σ2 =>
  on_Cl (pf_X12_houseOf p1 σ2) fun v3 σ4 =>
  on_Eq v1 v3 (
    pf_X12_isWilling_33 σ4) (
    on_Cl (pf_X12_houseOf p1 σ4) fun v5 σ6 =>
    on_Cl (pf_X12_isFeud v1 v5 σ6) fun v7 σ8 =>
    on_Eq v7 0 (
      some (1, σ8)) (
      pf_X12_isWilling_33 σ8))
set_option maxRecDepth 100000 in
set_option maxHeartbeats 4000000 in
theorem gb_X12_isWilling_33 {E : on_E} {z n : Nat} (X : on_X) (hN : 100 ≤ n) (σ : on_S) : on_G X E cX12_isWilling RX12 (some .boolean) 1 22 4 z n σ (pf_X12_isWilling_33  σ) 33 [none, none, none, none] [] := by
  rw [pf_X12_isWilling_33]
  refine on_iconst (tk_X12_isWilling 19 rfl) ?_
  exact on_zret0 (tk_X12_isWilling 20 rfl)
set_option maxRecDepth 100000 in
set_option maxHeartbeats 4000000 in
theorem ct_X12_isWilling {E : on_E} {z n : Nat} {p0 : Int} {p1 : Int} (hN : 100 ≤ n) {σ : on_S} : on_Sp E yX12_isWilling cX12_isWilling 4 (some .boolean) 1 22 z n [.ref (z + 77), .int (on_i p0), .int (on_i p1)] σ (pf_X12_isWilling p0 p1 σ) := by
  refine on_met [some (.ref (z + 77)), some (.int (on_i p0)), some (.int (on_i p1)), none] (by decide) rfl rfl (fun X => ?_)
  rw [pf_X12_isWilling]
  refine on_al0 (tk_X12_isWilling 0 rfl) ?_
  refine on_il1 (tk_X12_isWilling 1 rfl) ?_
  refine on_iconst (tk_X12_isWilling 2 rfl) ?_
  refine on_cV2i 12 ms_X12_ofMan kw_7_175 rfl rfl (ltc_77 hN) sh_77 (ct_X12_ofMan hN) rfl (tk_X12_isWilling 3 rfl) fun v1 σ2 => ?_
  refine on_is3 rfl (tk_X12_isWilling 4 rfl) ?_
  refine on_il3 (tk_X12_isWilling 5 rfl) ?_
  refine on_al0 (tk_X12_isWilling 6 rfl) ?_
  refine on_il2 (tk_X12_isWilling 7 rfl) ?_
  refine on_cV1i 12 ms_X12_houseOf kw_7_150 rfl rfl (ltc_77 hN) sh_77 (ct_X12_houseOf hN) rfl (tk_X12_isWilling 8 rfl) fun v3 σ4 => ?_
  refine on_icmp_eq (tk_X12_isWilling 9 rfl) (tgt := 33) (by decide) ?_ ?_
  · refine on_al0 (tk_X12_isWilling 10 rfl) ?_
    refine on_il3 (tk_X12_isWilling 11 rfl) ?_
    refine on_al0 (tk_X12_isWilling 12 rfl) ?_
    refine on_il2 (tk_X12_isWilling 13 rfl) ?_
    refine on_cV1i 12 ms_X12_houseOf kw_7_150 rfl rfl (ltc_77 hN) sh_77 (ct_X12_houseOf hN) rfl (tk_X12_isWilling 14 rfl) fun v5 σ6 => ?_
    refine on_cV2z 12 ms_X12_isFeud kw_7_233 rfl rfl (ltc_77 hN) sh_77 (ct_X12_isFeud hN) rfl (tk_X12_isWilling 15 rfl) fun v7 σ8 => ?_
    refine on_if_ne (tk_X12_isWilling 16 rfl) (tgt := 33) (by decide) ?_ ?_
    · refine on_iconst (tk_X12_isWilling 17 rfl) ?_
      refine on_goto (tk_X12_isWilling 18 rfl) (tgt := 34) (by decide) ?_
      exact on_zret1 (tk_X12_isWilling 20 rfl)
    · refine on_dr0 ?_
      refine on_dr1 ?_
      refine on_dr2 ?_
      refine on_dr3 ?_
      exact gb_X12_isWilling_33 X  hN _
  · refine on_dr0 ?_
    refine on_dr1 ?_
    refine on_dr2 ?_
    refine on_dr3 ?_
    exact gb_X12_isWilling_33 X  hN _
def tb_X12_holdAt : List (Nat × Nat × Nat × Instr) := [(0, 1, 1, .aload_n 0), (1, 3, 4, .getfield 34), (4, 2, 6, .iload 4), (6, 1, 7, .iaload), (7, 2, 9, .istore 5), (9, 2, 11, .iload 5), (11, 1, 12, .iconst (-1)), (12, 3, 15, .if_icmp .eq 13), (15, 1, 16, .aload_n 0), (16, 2, 18, .iload 5), (18, 1, 19, .iload_n 2), (19, 3, 22, .invokevirtual 260), (22, 3, 25, .ifCond .ne 5), (25, 1, 26, .iconst 0), (26, 1, 27, .ireturn), (27, 1, 28, .aload_n 0), (28, 2, 30, .iload 5), (30, 1, 31, .iconst 1), (31, 3, 34, .invokevirtual 98), (34, 2, 36, .istore 6), (36, 1, 37, .iconst 1), (37, 2, 39, .istore 7), (39, 2, 41, .iload 7), (41, 1, 42, .iconst 4), (42, 3, 45, .if_icmp .ge 48), (45, 1, 46, .aload_n 0), (46, 3, 49, .getfield 34), (49, 2, 51, .iload 4), (51, 2, 53, .iload 7), (53, 1, 54, .iadd), (54, 1, 55, .iconst 4), (55, 1, 56, .irem), (56, 1, 57, .iaload), (57, 2, 59, .istore 8), (59, 2, 61, .iload 6), (61, 2, 63, .iload 8), (63, 1, 64, .iconst (-1)), (64, 3, 67, .if_icmp .ne 7), (67, 1, 68, .iconst 0), (68, 3, 71, .goto 13), (71, 1, 72, .iconst 3), (72, 1, 73, .aload_n 0), (73, 2, 75, .iload 5), (75, 2, 77, .iload 8), (77, 3, 80, .invokevirtual 263), (80, 1, 81, .imul), (81, 1, 82, .isub), (82, 2, 84, .istore 6), (84, 3, 87, .iinc 7 2), (87, 3, 90, .goto (-48)), (90, 1, 91, .aload_n 0), (91, 1, 92, .iload_n 1), (92, 1, 93, .iconst 3), (93, 2, 95, .iload 4), (95, 1, 96, .iadd), (96, 3, 99, .invokevirtual 94), (99, 2, 101, .istore 7), (101, 1, 102, .iconst 0), (102, 2, 104, .iload 6), (104, 1, 105, .iload_n 3), (105, 1, 106, .iconst 1), (106, 3, 109, .if_icmp .ne 10), (109, 2, 111, .iload 7), (111, 1, 112, .iconst 2), (112, 1, 113, .idiv), (113, 3, 116, .goto 5), (116, 2, 118, .iload 7), (118, 3, 121, .invokestatic 141), (121, 3, 124, .invokestatic 266), (124, 1, 125, .ireturn)]
set_option maxRecDepth 100000 in
theorem tk_X12_holdAt (k : Nat) {pc n pc2 : Nat} {i : Instr} (hk : tb_X12_holdAt[k]? = some (pc, n, pc2, i)) : on_dq cX12_holdAt pc n pc2 i := on_ta (by decide +kernel) k hk
theorem ms_X12_holdAt : on_Mv yX12_holdAt cX12_holdAt 9 (some .int) 4 := ⟨kw_7_228, kw_7_227, (on_mp (q := (yX12_holdAt, 37)) (by decide +kernel)), kw_1_13, by decide, by decide, by decide +kernel⟩
def pf_X12_holdAt_118 (s0 : Int) (s1 : Int) (s2 : Int) (σ : on_S) : Option on_O :=
  on_Mn s1 s2 fun v13 =>
  on_Mx s0 v13 fun v14 =>
  some (v14, σ)
def pf_X12_holdAt_39 : Nat → Int → Int → Int → Int → Int → Int → on_S → Option on_O
  | 0, _, _, _, _, _, _, _ => none
  | nf + 1, l1, l3, l4, l5, l6, l7, σ =>
    on_Lt l7 4 (
      on_Rm (l4 + l7) 4 fun v6 =>
      on_Rd σ 84 4 v6 fun v7 =>
      on_Eq v7 (-1) (
        pf_X12_holdAt_39 nf l1 l3 l4 l5 (l6 - 0) (l7 + 2) σ) (
        on_Cl (pf_X12_quarrelOf l5 v7 σ) fun v8 σ9 =>
        pf_X12_holdAt_39 nf l1 l3 l4 l5 (l6 - (3 * v8)) (l7 + 2) σ9)) (
      on_Cl (pf_X12_ofNet l1 (3 + l4) σ) fun v10 σ11 =>
      on_Eq l3 1 (
        on_Dv v10 2 fun v12 =>
        pf_X12_holdAt_118 0 l6 v12 σ11) (
        pf_X12_holdAt_118 0 l6 v10 σ11))
def pf_X12_holdAt (p0 : Int) (p1 : Int) (p2 : Int) (p3 : Int) (σ : on_S) : Option on_O :=
  on_Rd σ 84 4 p3 fun v1 =>
  on_Eq v1 (-1) (
    some (0, σ)) (
    on_Cl (pf_X12_isWilling v1 p1 σ) fun v2 σ3 =>
    on_Eq v2 0 (
      some (0, σ3)) (
      on_Cl (pf_X12_ofMan v1 1 σ3) fun v4 σ5 =>
      pf_X12_holdAt_39 on_N p0 p2 p3 v1 v4 1 σ5))
set_option maxRecDepth 100000 in
set_option maxHeartbeats 4000000 in
theorem gb_X12_holdAt_118 {E : on_E} {z n : Nat} (X : on_X) (hN : 100 ≤ n) (s0 : Int) (s1 : Int) (s2 : Int) (σ : on_S) : on_G X E cX12_holdAt RX12 (some .int) 2 45 9 z n σ (pf_X12_holdAt_118 s0 s1 s2 σ) 118 [none, none, none, none, none, none, none, none, none] [.int (on_i s2), .int (on_i s1), .int (on_i s0)] := by
  rw [pf_X12_holdAt_118]
  refine on_min kw_7_54 kwM_min_s kwM_i kwM_min_c rfl (tk_X12_holdAt 67 rfl) fun v13 => ?_
  refine on_max kw_7_204 kwM_max_s kwM_i kwM_max_c rfl (tk_X12_holdAt 68 rfl) fun v14 => ?_
  exact on_iret (tk_X12_holdAt 69 rfl)
set_option maxRecDepth 100000 in
set_option maxHeartbeats 4000000 in
theorem gl_X12_holdAt_39 {E : on_E} {z n : Nat} (X : on_X) (hN : 100 ≤ n) : ∀ (nf : Nat) (l1 : Int) (l3 : Int) (l4 : Int) (l5 : Int) (l6 : Int) (l7 : Int) (σ : on_S), on_G X E cX12_holdAt RX12 (some .int) 2 45 9 z n σ (pf_X12_holdAt_39 nf l1 l3 l4 l5 l6 l7 σ) 39 [some (.ref (z + 77)), some (.int (on_i l1)), none, some (.int (on_i l3)), some (.int (on_i l4)), some (.int (on_i l5)), some (.int (on_i l6)), some (.int (on_i l7)), none] [] := by
  intro nf
  induction nf with
  | zero => intro l1 l3 l4 l5 l6 l7 σ; exact on_none
  | succ nf ih =>
    intro l1 l3 l4 l5 l6 l7 σ
    rw [pf_X12_holdAt_39]
    refine on_il7 (tk_X12_holdAt 22 rfl) ?_
    refine on_iconst (tk_X12_holdAt 23 rfl) ?_
    refine on_icmp_ge (tk_X12_holdAt 24 rfl) (tgt := 90) (by decide) ?_ ?_
    · refine on_al0 (tk_X12_holdAt 25 rfl) ?_
      refine fg_12_15 hN kw_6_155 (tk_X12_holdAt 26 rfl) ?_
      refine on_il4 (tk_X12_holdAt 27 rfl) ?_
      refine on_il7 (tk_X12_holdAt 28 rfl) ?_
      refine on_iadd (tk_X12_holdAt 29 rfl) ?_
      refine on_iconst (tk_X12_holdAt 30 rfl) ?_
      refine on_irem (tk_X12_holdAt 31 rfl) fun v6 => ?_
      refine on_iald (ltc_84 hN) sh_84 (tk_X12_holdAt 32 rfl) fun v7 => ?_
      refine on_is8 rfl (tk_X12_holdAt 33 rfl) ?_
      refine on_il6 (tk_X12_holdAt 34 rfl) ?_
      refine on_il8 (tk_X12_holdAt 35 rfl) ?_
      refine on_iconst (tk_X12_holdAt 36 rfl) ?_
      refine on_icmp_ne (tk_X12_holdAt 37 rfl) (tgt := 71) (by decide) ?_ ?_
      · refine on_iconst (tk_X12_holdAt 38 rfl) ?_
        refine on_goto (tk_X12_holdAt 39 rfl) (tgt := 81) (by decide) ?_
        refine on_isub (tk_X12_holdAt 46 rfl) ?_
        refine on_is6 rfl (tk_X12_holdAt 47 rfl) ?_
        refine on_inc7 rfl (tk_X12_holdAt 48 rfl) ?_
        refine on_goto (tk_X12_holdAt 49 rfl) (tgt := 39) (by decide) ?_
        refine on_dr8 ?_
        exact ih _ _ _ _ _ _ _
      · refine on_iconst (tk_X12_holdAt 40 rfl) ?_
        refine on_al0 (tk_X12_holdAt 41 rfl) ?_
        refine on_il5 (tk_X12_holdAt 42 rfl) ?_
        refine on_il8 (tk_X12_holdAt 43 rfl) ?_
        refine on_cV2i 12 ms_X12_quarrelOf kw_7_237 rfl rfl (ltc_77 hN) sh_77 (ct_X12_quarrelOf hN) rfl (tk_X12_holdAt 44 rfl) fun v8 σ9 => ?_
        refine on_imul (tk_X12_holdAt 45 rfl) ?_
        refine on_isub (tk_X12_holdAt 46 rfl) ?_
        refine on_is6 rfl (tk_X12_holdAt 47 rfl) ?_
        refine on_inc7 rfl (tk_X12_holdAt 48 rfl) ?_
        refine on_goto (tk_X12_holdAt 49 rfl) (tgt := 39) (by decide) ?_
        refine on_dr8 ?_
        exact ih _ _ _ _ _ _ _
    · refine on_al0 (tk_X12_holdAt 50 rfl) ?_
      refine on_il1 (tk_X12_holdAt 51 rfl) ?_
      refine on_iconst (tk_X12_holdAt 52 rfl) ?_
      refine on_il4 (tk_X12_holdAt 53 rfl) ?_
      refine on_iadd (tk_X12_holdAt 54 rfl) ?_
      refine on_cV2i 12 ms_X12_ofNet kw_7_162 rfl rfl (ltc_77 hN) sh_77 (ct_X12_ofNet hN) rfl (tk_X12_holdAt 55 rfl) fun v10 σ11 => ?_
      refine on_is7 rfl (tk_X12_holdAt 56 rfl) ?_
      refine on_iconst (tk_X12_holdAt 57 rfl) ?_
      refine on_il6 (tk_X12_holdAt 58 rfl) ?_
      refine on_il3 (tk_X12_holdAt 59 rfl) ?_
      refine on_iconst (tk_X12_holdAt 60 rfl) ?_
      refine on_icmp_ne (tk_X12_holdAt 61 rfl) (tgt := 116) (by decide) ?_ ?_
      · refine on_il7 (tk_X12_holdAt 62 rfl) ?_
        refine on_iconst (tk_X12_holdAt 63 rfl) ?_
        refine on_idiv (tk_X12_holdAt 64 rfl) fun v12 => ?_
        refine on_goto (tk_X12_holdAt 65 rfl) (tgt := 118) (by decide) ?_
        refine on_dr0 ?_
        refine on_dr1 ?_
        refine on_dr3 ?_
        refine on_dr4 ?_
        refine on_dr5 ?_
        refine on_dr6 ?_
        refine on_dr7 ?_
        exact gb_X12_holdAt_118 X  hN _ _ _ _
      · refine on_il7 (tk_X12_holdAt 66 rfl) ?_
        refine on_dr0 ?_
        refine on_dr1 ?_
        refine on_dr3 ?_
        refine on_dr4 ?_
        refine on_dr5 ?_
        refine on_dr6 ?_
        refine on_dr7 ?_
        exact gb_X12_holdAt_118 X  hN _ _ _ _
set_option maxRecDepth 100000 in
set_option maxHeartbeats 4000000 in
theorem ct_X12_holdAt {E : on_E} {z n : Nat} {p0 : Int} {p1 : Int} {p2 : Int} {p3 : Int} (hN : 100 ≤ n) {σ : on_S} : on_Sp E yX12_holdAt cX12_holdAt 9 (some .int) 2 45 z n [.ref (z + 77), .int (on_i p0), .int (on_i p1), .int (on_i p2), .int (on_i p3)] σ (pf_X12_holdAt p0 p1 p2 p3 σ) := by
  refine on_met [some (.ref (z + 77)), some (.int (on_i p0)), some (.int (on_i p1)), some (.int (on_i p2)), some (.int (on_i p3)), none, none, none, none] (by decide) rfl rfl (fun X => ?_)
  rw [pf_X12_holdAt]
  refine on_al0 (tk_X12_holdAt 0 rfl) ?_
  refine fg_12_15 hN kw_6_155 (tk_X12_holdAt 1 rfl) ?_
  refine on_il4 (tk_X12_holdAt 2 rfl) ?_
  refine on_iald (ltc_84 hN) sh_84 (tk_X12_holdAt 3 rfl) fun v1 => ?_
  refine on_is5 rfl (tk_X12_holdAt 4 rfl) ?_
  refine on_il5 (tk_X12_holdAt 5 rfl) ?_
  refine on_iconst (tk_X12_holdAt 6 rfl) ?_
  refine on_icmp_eq (tk_X12_holdAt 7 rfl) (tgt := 25) (by decide) ?_ ?_
  · refine on_al0 (tk_X12_holdAt 8 rfl) ?_
    refine on_il5 (tk_X12_holdAt 9 rfl) ?_
    refine on_il2 (tk_X12_holdAt 10 rfl) ?_
    refine on_cV2z 12 ms_X12_isWilling kw_7_229 rfl rfl (ltc_77 hN) sh_77 (ct_X12_isWilling hN) rfl (tk_X12_holdAt 11 rfl) fun v2 σ3 => ?_
    refine on_if_ne (tk_X12_holdAt 12 rfl) (tgt := 27) (by decide) ?_ ?_
    · refine on_iconst (tk_X12_holdAt 13 rfl) ?_
      exact on_iret (tk_X12_holdAt 14 rfl)
    · refine on_al0 (tk_X12_holdAt 15 rfl) ?_
      refine on_il5 (tk_X12_holdAt 16 rfl) ?_
      refine on_iconst (tk_X12_holdAt 17 rfl) ?_
      refine on_cV2i 12 ms_X12_ofMan kw_7_175 rfl rfl (ltc_77 hN) sh_77 (ct_X12_ofMan hN) rfl (tk_X12_holdAt 18 rfl) fun v4 σ5 => ?_
      refine on_is6 rfl (tk_X12_holdAt 19 rfl) ?_
      refine on_iconst (tk_X12_holdAt 20 rfl) ?_
      refine on_is7 rfl (tk_X12_holdAt 21 rfl) ?_
      refine on_dr2 ?_
      exact gl_X12_holdAt_39 X  hN on_N _ _ _ _ _ _ _
  · refine on_iconst (tk_X12_holdAt 13 rfl) ?_
    exact on_iret (tk_X12_holdAt 14 rfl)
def tb_X12_weakest : List (Nat × Nat × Nat × Instr) := [(0, 1, 1, .iconst 0), (1, 2, 3, .istore 4), (3, 1, 4, .iconst 1), (4, 2, 6, .istore 5), (6, 2, 8, .iload 5), (8, 1, 9, .iconst 4), (9, 3, 12, .if_icmp .ge 39), (12, 1, 13, .aload_n 0), (13, 1, 14, .iload_n 1), (14, 1, 15, .iload_n 2), (15, 1, 16, .iload_n 3), (16, 2, 18, .iload 5), (18, 3, 21, .invokevirtual 269), (21, 1, 22, .aload_n 0), (22, 1, 23, .iload_n 1), (23, 1, 24, .iload_n 2), (24, 1, 25, .iload_n 3), (25, 2, 27, .iload 4), (27, 3, 30, .invokevirtual 269), (30, 3, 33, .if_icmp .ge 8), (33, 2, 35, .iload 5), (35, 3, 38, .goto 5), (38, 2, 40, .iload 4), (40, 2, 42, .istore 4), (42, 3, 45, .iinc 5 1), (45, 3, 48, .goto (-39)), (48, 2, 50, .iload 4), (50, 1, 51, .ireturn)]
set_option maxRecDepth 100000 in
theorem tk_X12_weakest (k : Nat) {pc n pc2 : Nat} {i : Instr} (hk : tb_X12_weakest[k]? = some (pc, n, pc2, i)) : on_dq cX12_weakest pc n pc2 i := on_ta (by decide +kernel) k hk
theorem ms_X12_weakest : on_Mv yX12_weakest cX12_weakest 6 (some .int) 3 := ⟨kw_7_224, kw_7_223, (on_mp (q := (yX12_weakest, 37)) (by decide +kernel)), kw_1_13, by decide, by decide, by decide +kernel⟩
def pf_X12_weakest_6 : Nat → Int → Int → Int → Int → Int → on_S → Option on_O
  | 0, _, _, _, _, _, _ => none
  | nf + 1, l1, l2, l3, l4, l5, σ =>
    on_Lt l5 4 (
      on_Cl (pf_X12_holdAt l1 l2 l3 l5 σ) fun v1 σ2 =>
      on_Cl (pf_X12_holdAt l1 l2 l3 l4 σ2) fun v3 σ4 =>
      on_Lt v1 v3 (
        pf_X12_weakest_6 nf l1 l2 l3 l5 (l5 + 1) σ4) (
        pf_X12_weakest_6 nf l1 l2 l3 l4 (l5 + 1) σ4)) (
      some (l4, σ))
def pf_X12_weakest (p0 : Int) (p1 : Int) (p2 : Int) (σ : on_S) : Option on_O :=
  pf_X12_weakest_6 on_N p0 p1 p2 0 1 σ
set_option maxRecDepth 100000 in
set_option maxHeartbeats 4000000 in
theorem gl_X12_weakest_6 {E : on_E} {z n : Nat} (X : on_X) (hN : 100 ≤ n) : ∀ (nf : Nat) (l1 : Int) (l2 : Int) (l3 : Int) (l4 : Int) (l5 : Int) (σ : on_S), on_G X E cX12_weakest RX12 (some .int) 3 73 6 z n σ (pf_X12_weakest_6 nf l1 l2 l3 l4 l5 σ) 6 [some (.ref (z + 77)), some (.int (on_i l1)), some (.int (on_i l2)), some (.int (on_i l3)), some (.int (on_i l4)), some (.int (on_i l5))] [] := by
  intro nf
  induction nf with
  | zero => intro l1 l2 l3 l4 l5 σ; exact on_none
  | succ nf ih =>
    intro l1 l2 l3 l4 l5 σ
    rw [pf_X12_weakest_6]
    refine on_il5 (tk_X12_weakest 4 rfl) ?_
    refine on_iconst (tk_X12_weakest 5 rfl) ?_
    refine on_icmp_ge (tk_X12_weakest 6 rfl) (tgt := 48) (by decide) ?_ ?_
    · refine on_al0 (tk_X12_weakest 7 rfl) ?_
      refine on_il1 (tk_X12_weakest 8 rfl) ?_
      refine on_il2 (tk_X12_weakest 9 rfl) ?_
      refine on_il3 (tk_X12_weakest 10 rfl) ?_
      refine on_il5 (tk_X12_weakest 11 rfl) ?_
      refine on_cV4i 12 ms_X12_holdAt kw_7_225 rfl rfl (ltc_77 hN) sh_77 (ct_X12_holdAt hN) rfl (tk_X12_weakest 12 rfl) fun v1 σ2 => ?_
      refine on_al0 (tk_X12_weakest 13 rfl) ?_
      refine on_il1 (tk_X12_weakest 14 rfl) ?_
      refine on_il2 (tk_X12_weakest 15 rfl) ?_
      refine on_il3 (tk_X12_weakest 16 rfl) ?_
      refine on_il4 (tk_X12_weakest 17 rfl) ?_
      refine on_cV4i 12 ms_X12_holdAt kw_7_225 rfl rfl (ltc_77 hN) sh_77 (ct_X12_holdAt hN) rfl (tk_X12_weakest 18 rfl) fun v3 σ4 => ?_
      refine on_icmp_ge (tk_X12_weakest 19 rfl) (tgt := 38) (by decide) ?_ ?_
      · refine on_il5 (tk_X12_weakest 20 rfl) ?_
        refine on_goto (tk_X12_weakest 21 rfl) (tgt := 40) (by decide) ?_
        refine on_is4 rfl (tk_X12_weakest 23 rfl) ?_
        refine on_inc5 rfl (tk_X12_weakest 24 rfl) ?_
        refine on_goto (tk_X12_weakest 25 rfl) (tgt := 6) (by decide) ?_
        exact ih _ _ _ _ _ _
      · refine on_il4 (tk_X12_weakest 22 rfl) ?_
        refine on_is4 rfl (tk_X12_weakest 23 rfl) ?_
        refine on_inc5 rfl (tk_X12_weakest 24 rfl) ?_
        refine on_goto (tk_X12_weakest 25 rfl) (tgt := 6) (by decide) ?_
        exact ih _ _ _ _ _ _
    · refine on_il4 (tk_X12_weakest 26 rfl) ?_
      exact on_iret (tk_X12_weakest 27 rfl)
set_option maxRecDepth 100000 in
set_option maxHeartbeats 4000000 in
theorem ct_X12_weakest {E : on_E} {z n : Nat} {p0 : Int} {p1 : Int} {p2 : Int} (hN : 100 ≤ n) {σ : on_S} : on_Sp E yX12_weakest cX12_weakest 6 (some .int) 3 73 z n [.ref (z + 77), .int (on_i p0), .int (on_i p1), .int (on_i p2)] σ (pf_X12_weakest p0 p1 p2 σ) := by
  refine on_met [some (.ref (z + 77)), some (.int (on_i p0)), some (.int (on_i p1)), some (.int (on_i p2)), none, none] (by decide) rfl rfl (fun X => ?_)
  rw [pf_X12_weakest]
  refine on_iconst (tk_X12_weakest 0 rfl) ?_
  refine on_is4 rfl (tk_X12_weakest 1 rfl) ?_
  refine on_iconst (tk_X12_weakest 2 rfl) ?_
  refine on_is5 rfl (tk_X12_weakest 3 rfl) ?_
  exact gl_X12_weakest_6 X  hN on_N _ _ _ _ _ _
def tb_X12_carriesBy : List (Nat × Nat × Nat × Instr) := [(0, 1, 1, .iconst 4), (1, 1, 2, .aload_n 0), (2, 1, 3, .iload_n 1), (3, 1, 4, .iload_n 2), (4, 1, 5, .iload_n 3), (5, 1, 6, .aload_n 0), (6, 1, 7, .iload_n 1), (7, 1, 8, .iload_n 2), (8, 1, 9, .iload_n 3), (9, 3, 12, .invokevirtual 273), (12, 3, 15, .invokevirtual 269), (15, 1, 16, .imul), (16, 1, 17, .ireturn)]
set_option maxRecDepth 100000 in
theorem tk_X12_carriesBy (k : Nat) {pc n pc2 : Nat} {i : Instr} (hk : tb_X12_carriesBy[k]? = some (pc, n, pc2, i)) : on_dq cX12_carriesBy pc n pc2 i := on_ta (by decide +kernel) k hk
theorem ms_X12_carriesBy : on_Mv yX12_carriesBy cX12_carriesBy 4 (some .int) 3 := ⟨kw_7_220, kw_7_219, (on_mp (q := (yX12_carriesBy, 37)) (by decide +kernel)), kw_1_13, by decide, by decide, by decide +kernel⟩
def pf_X12_carriesBy (p0 : Int) (p1 : Int) (p2 : Int) (σ : on_S) : Option on_O :=
  on_Cl (pf_X12_weakest p0 p1 p2 σ) fun v1 σ2 =>
  on_Cl (pf_X12_holdAt p0 p1 p2 v1 σ2) fun v3 σ4 =>
  some ((4 * v3), σ4)
set_option maxRecDepth 100000 in
set_option maxHeartbeats 4000000 in
theorem ct_X12_carriesBy {E : on_E} {z n : Nat} {p0 : Int} {p1 : Int} {p2 : Int} (hN : 100 ≤ n) {σ : on_S} : on_Sp E yX12_carriesBy cX12_carriesBy 4 (some .int) 4 98 z n [.ref (z + 77), .int (on_i p0), .int (on_i p1), .int (on_i p2)] σ (pf_X12_carriesBy p0 p1 p2 σ) := by
  refine on_met [some (.ref (z + 77)), some (.int (on_i p0)), some (.int (on_i p1)), some (.int (on_i p2))] (by decide) rfl rfl (fun X => ?_)
  rw [pf_X12_carriesBy]
  refine on_iconst (tk_X12_carriesBy 0 rfl) ?_
  refine on_al0 (tk_X12_carriesBy 1 rfl) ?_
  refine on_il1 (tk_X12_carriesBy 2 rfl) ?_
  refine on_il2 (tk_X12_carriesBy 3 rfl) ?_
  refine on_il3 (tk_X12_carriesBy 4 rfl) ?_
  refine on_al0 (tk_X12_carriesBy 5 rfl) ?_
  refine on_il1 (tk_X12_carriesBy 6 rfl) ?_
  refine on_il2 (tk_X12_carriesBy 7 rfl) ?_
  refine on_il3 (tk_X12_carriesBy 8 rfl) ?_
  refine on_cV3i 12 ms_X12_weakest kw_7_221 rfl rfl (ltc_77 hN) sh_77 (ct_X12_weakest hN) rfl (tk_X12_carriesBy 9 rfl) fun v1 σ2 => ?_
  refine on_cV4i 12 ms_X12_holdAt kw_7_225 rfl rfl (ltc_77 hN) sh_77 (ct_X12_holdAt hN) rfl (tk_X12_carriesBy 10 rfl) fun v3 σ4 => ?_
  refine on_imul (tk_X12_carriesBy 11 rfl) ?_
  exact on_iret (tk_X12_carriesBy 12 rfl)
def tb_X12_layPosts : List (Nat × Nat × Nat × Instr) := [(0, 1, 1, .iconst 0), (1, 1, 2, .istore_n 2), (2, 1, 3, .iload_n 2), (3, 1, 4, .iconst 4), (4, 3, 7, .if_icmp .ge 21), (7, 1, 8, .aload_n 0), (8, 3, 11, .getfield 34), (11, 1, 12, .iload_n 2), (12, 1, 13, .aload_n 0), (13, 1, 14, .iload_n 1), (14, 1, 15, .iload_n 2), (15, 3, 18, .invokevirtual 277), (18, 1, 19, .iastore), (19, 3, 22, .iinc 2 1), (22, 3, 25, .goto (-20)), (25, 1, 26, .return_)]
set_option maxRecDepth 100000 in
theorem tk_X12_layPosts (k : Nat) {pc n pc2 : Nat} {i : Instr} (hk : tb_X12_layPosts[k]? = some (pc, n, pc2, i)) : on_dq cX12_layPosts pc n pc2 i := on_ta (by decide +kernel) k hk
theorem ms_X12_layPosts : on_Mv yX12_layPosts cX12_layPosts 3 none 1 := ⟨kw_7_212, kw_7_211, (on_mp (q := (yX12_layPosts, 37)) (by decide +kernel)), kw_1_13, by decide, by decide, by decide +kernel⟩
def pf_X12_layPosts_2 : Nat → Int → Int → on_S → Option on_O
  | 0, _, _, _ => none
  | nf + 1, l1, l2, σ =>
    on_Lt l2 4 (
      on_Cl (pf_X12_manAt l1 l2 σ) fun v1 σ2 =>
      on_Wr σ2 84 4 l2 v1 fun σ3 =>
      pf_X12_layPosts_2 nf l1 (l2 + 1) σ3) (
      some (0, σ))
def pf_X12_layPosts (p0 : Int) (σ : on_S) : Option on_O :=
  pf_X12_layPosts_2 on_N p0 0 σ
set_option maxRecDepth 100000 in
set_option maxHeartbeats 4000000 in
theorem gl_X12_layPosts_2 {E : on_E} {z n : Nat} (X : on_X) (hN : 100 ≤ n) : ∀ (nf : Nat) (l1 : Int) (l2 : Int) (σ : on_S), on_G X E cX12_layPosts RX12 none 2 45 3 z n σ (pf_X12_layPosts_2 nf l1 l2 σ) 2 [some (.ref (z + 77)), some (.int (on_i l1)), some (.int (on_i l2))] [] := by
  intro nf
  induction nf with
  | zero => intro l1 l2 σ; exact on_none
  | succ nf ih =>
    intro l1 l2 σ
    rw [pf_X12_layPosts_2]
    refine on_il2 (tk_X12_layPosts 2 rfl) ?_
    refine on_iconst (tk_X12_layPosts 3 rfl) ?_
    refine on_icmp_ge (tk_X12_layPosts 4 rfl) (tgt := 25) (by decide) ?_ ?_
    · refine on_al0 (tk_X12_layPosts 5 rfl) ?_
      refine fg_12_15 hN kw_6_155 (tk_X12_layPosts 6 rfl) ?_
      refine on_il2 (tk_X12_layPosts 7 rfl) ?_
      refine on_al0 (tk_X12_layPosts 8 rfl) ?_
      refine on_il1 (tk_X12_layPosts 9 rfl) ?_
      refine on_il2 (tk_X12_layPosts 10 rfl) ?_
      refine on_cV2i 12 ms_X12_manAt kw_7_213 rfl rfl (ltc_77 hN) sh_77 (ct_X12_manAt hN) rfl (tk_X12_layPosts 11 rfl) fun v1 σ2 => ?_
      refine on_iast (ltc_84 hN) sh_84 (tk_X12_layPosts 12 rfl) fun σ3 => ?_
      refine on_inc2 rfl (tk_X12_layPosts 13 rfl) ?_
      refine on_goto (tk_X12_layPosts 14 rfl) (tgt := 2) (by decide) ?_
      exact ih _ _ _
    · exact on_vret (tk_X12_layPosts 15 rfl)
set_option maxRecDepth 100000 in
set_option maxHeartbeats 4000000 in
theorem ct_X12_layPosts {E : on_E} {z n : Nat} {p0 : Int} (hN : 100 ≤ n) {σ : on_S} : on_Sp E yX12_layPosts cX12_layPosts 3 none 2 45 z n [.ref (z + 77), .int (on_i p0)] σ (pf_X12_layPosts p0 σ) := by
  refine on_met [some (.ref (z + 77)), some (.int (on_i p0)), none] (by decide) rfl rfl (fun X => ?_)
  rw [pf_X12_layPosts]
  refine on_iconst (tk_X12_layPosts 0 rfl) ?_
  refine on_is2 rfl (tk_X12_layPosts 1 rfl) ?_
  exact gl_X12_layPosts_2 X  hN on_N _ _ _
def tb_X12_carries : List (Nat × Nat × Nat × Instr) := [(0, 1, 1, .aload_n 0), (1, 1, 2, .iload_n 1), (2, 3, 5, .invokevirtual 280), (5, 1, 6, .aload_n 0), (6, 1, 7, .iload_n 1), (7, 1, 8, .aload_n 0), (8, 1, 9, .iload_n 1), (9, 1, 10, .iconst 0), (10, 3, 13, .invokevirtual 94), (13, 1, 14, .aload_n 0), (14, 1, 15, .iload_n 1), (15, 1, 16, .iconst 2), (16, 3, 19, .invokevirtual 94), (19, 3, 22, .invokevirtual 283), (22, 1, 23, .ireturn)]
set_option maxRecDepth 100000 in
theorem tk_X12_carries (k : Nat) {pc n pc2 : Nat} {i : Instr} (hk : tb_X12_carries[k]? = some (pc, n, pc2, i)) : on_dq cX12_carries pc n pc2 i := on_ta (by decide +kernel) k hk
theorem ms_X12_carries : on_Mv yX12_carries cX12_carries 2 (some .int) 1 := ⟨kw_7_208, kw_7_207, (on_mp (q := (yX12_carries, 37)) (by decide +kernel)), kw_1_13, by decide, by decide, by decide +kernel⟩
def pf_X12_carries (p0 : Int) (σ : on_S) : Option on_O :=
  on_Cl (pf_X12_layPosts p0 σ) fun _ σ2 =>
  on_Cl (pf_X12_ofNet p0 0 σ2) fun v3 σ4 =>
  on_Cl (pf_X12_ofNet p0 2 σ4) fun v5 σ6 =>
  on_Cl (pf_X12_carriesBy p0 v3 v5 σ6) fun v7 σ8 =>
  some (v7, σ8)
set_option maxRecDepth 100000 in
set_option maxHeartbeats 4000000 in
theorem ct_X12_carries {E : on_E} {z n : Nat} {p0 : Int} (hN : 100 ≤ n) {σ : on_S} : on_Sp E yX12_carries cX12_carries 2 (some .int) 5 121 z n [.ref (z + 77), .int (on_i p0)] σ (pf_X12_carries p0 σ) := by
  refine on_met [some (.ref (z + 77)), some (.int (on_i p0))] (by decide) rfl rfl (fun X => ?_)
  rw [pf_X12_carries]
  refine on_al0 (tk_X12_carries 0 rfl) ?_
  refine on_il1 (tk_X12_carries 1 rfl) ?_
  refine on_cV1v 12 ms_X12_layPosts kw_7_209 rfl rfl (ltc_77 hN) sh_77 (ct_X12_layPosts hN) rfl (tk_X12_carries 2 rfl) fun v1 σ2 => ?_
  refine on_al0 (tk_X12_carries 3 rfl) ?_
  refine on_il1 (tk_X12_carries 4 rfl) ?_
  refine on_al0 (tk_X12_carries 5 rfl) ?_
  refine on_il1 (tk_X12_carries 6 rfl) ?_
  refine on_iconst (tk_X12_carries 7 rfl) ?_
  refine on_cV2i 12 ms_X12_ofNet kw_7_162 rfl rfl (ltc_77 hN) sh_77 (ct_X12_ofNet hN) rfl (tk_X12_carries 8 rfl) fun v3 σ4 => ?_
  refine on_al0 (tk_X12_carries 9 rfl) ?_
  refine on_il1 (tk_X12_carries 10 rfl) ?_
  refine on_iconst (tk_X12_carries 11 rfl) ?_
  refine on_cV2i 12 ms_X12_ofNet kw_7_162 rfl rfl (ltc_77 hN) sh_77 (ct_X12_ofNet hN) rfl (tk_X12_carries 12 rfl) fun v5 σ6 => ?_
  refine on_cV3i 12 ms_X12_carriesBy kw_7_217 rfl rfl (ltc_77 hN) sh_77 (ct_X12_carriesBy hN) rfl (tk_X12_carries 13 rfl) fun v7 σ8 => ?_
  exact on_iret (tk_X12_carries 14 rfl)
def tb_X12_allCarry : List (Nat × Nat × Nat × Instr) := [(0, 1, 1, .iconst 0), (1, 1, 2, .istore_n 1), (2, 1, 3, .iconst 0), (3, 1, 4, .istore_n 2), (4, 1, 5, .iload_n 2), (5, 1, 6, .aload_n 0), (6, 3, 9, .getfield 9), (9, 1, 10, .iconst 4), (10, 1, 11, .iaload), (11, 3, 14, .if_icmp .ge 17), (14, 1, 15, .iload_n 1), (15, 1, 16, .aload_n 0), (16, 1, 17, .iload_n 2), (17, 3, 20, .invokevirtual 286), (20, 1, 21, .iadd), (21, 1, 22, .istore_n 1), (22, 3, 25, .iinc 2 1), (25, 3, 28, .goto (-21)), (28, 1, 29, .iload_n 1), (29, 1, 30, .ireturn)]
set_option maxRecDepth 100000 in
theorem tk_X12_allCarry (k : Nat) {pc n pc2 : Nat} {i : Instr} (hk : tb_X12_allCarry[k]? = some (pc, n, pc2, i)) : on_dq cX12_allCarry pc n pc2 i := on_ta (by decide +kernel) k hk
theorem ms_X12_allCarry : on_Mv yX12_allCarry cX12_allCarry 3 (some .int) 0 := ⟨kw_8_227, kw_8_226, (on_mp (q := (yX12_allCarry, 37)) (by decide +kernel)), kw_1_13, by decide, by decide, by decide +kernel⟩
def pf_X12_allCarry_4 : Nat → Int → Int → on_S → Option on_O
  | 0, _, _, _ => none
  | nf + 1, l1, l2, σ =>
    on_Rd σ 78 687 4 fun v1 =>
    on_Lt l2 v1 (
      on_Cl (pf_X12_carries l2 σ) fun v2 σ3 =>
      pf_X12_allCarry_4 nf (l1 + v2) (l2 + 1) σ3) (
      some (l1, σ))
def pf_X12_allCarry (σ : on_S) : Option on_O :=
  pf_X12_allCarry_4 on_N 0 0 σ
set_option maxRecDepth 100000 in
set_option maxHeartbeats 4000000 in
theorem gl_X12_allCarry_4 {E : on_E} {z n : Nat} (X : on_X) (hN : 100 ≤ n) : ∀ (nf : Nat) (l1 : Int) (l2 : Int) (σ : on_S), on_G X E cX12_allCarry RX12 (some .int) 6 142 3 z n σ (pf_X12_allCarry_4 nf l1 l2 σ) 4 [some (.ref (z + 77)), some (.int (on_i l1)), some (.int (on_i l2))] [] := by
  intro nf
  induction nf with
  | zero => intro l1 l2 σ; exact on_none
  | succ nf ih =>
    intro l1 l2 σ
    rw [pf_X12_allCarry_4]
    refine on_il2 (tk_X12_allCarry 4 rfl) ?_
    refine on_al0 (tk_X12_allCarry 5 rfl) ?_
    refine fg_12_1 hN kw_6_141 (tk_X12_allCarry 6 rfl) ?_
    refine on_iconst (tk_X12_allCarry 7 rfl) ?_
    refine on_iald (ltc_78 hN) sh_78 (tk_X12_allCarry 8 rfl) fun v1 => ?_
    refine on_icmp_ge (tk_X12_allCarry 9 rfl) (tgt := 28) (by decide) ?_ ?_
    · refine on_il1 (tk_X12_allCarry 10 rfl) ?_
      refine on_al0 (tk_X12_allCarry 11 rfl) ?_
      refine on_il2 (tk_X12_allCarry 12 rfl) ?_
      refine on_cV1i 12 ms_X12_carries kw_7_205 rfl rfl (ltc_77 hN) sh_77 (ct_X12_carries hN) rfl (tk_X12_allCarry 13 rfl) fun v2 σ3 => ?_
      refine on_iadd (tk_X12_allCarry 14 rfl) ?_
      refine on_is1 rfl (tk_X12_allCarry 15 rfl) ?_
      refine on_inc2 rfl (tk_X12_allCarry 16 rfl) ?_
      refine on_goto (tk_X12_allCarry 17 rfl) (tgt := 4) (by decide) ?_
      exact ih _ _ _
    · refine on_il1 (tk_X12_allCarry 18 rfl) ?_
      exact on_iret (tk_X12_allCarry 19 rfl)
set_option maxRecDepth 100000 in
set_option maxHeartbeats 4000000 in
theorem ct_X12_allCarry {E : on_E} {z n : Nat} (hN : 100 ≤ n) {σ : on_S} : on_Sp E yX12_allCarry cX12_allCarry 3 (some .int) 6 142 z n [.ref (z + 77)] σ (pf_X12_allCarry  σ) := by
  refine on_met [some (.ref (z + 77)), none, none] (by decide) rfl rfl (fun X => ?_)
  rw [pf_X12_allCarry]
  refine on_iconst (tk_X12_allCarry 0 rfl) ?_
  refine on_is1 rfl (tk_X12_allCarry 1 rfl) ?_
  refine on_iconst (tk_X12_allCarry 2 rfl) ?_
  refine on_is2 rfl (tk_X12_allCarry 3 rfl) ?_
  exact gl_X12_allCarry_4 X  hN on_N _ _ _
def tb_X12_needOf : List (Nat × Nat × Nat × Instr) := [(0, 1, 1, .iconst 0), (1, 1, 2, .istore_n 2), (2, 1, 3, .iconst 0), (3, 1, 4, .istore_n 3), (4, 1, 5, .iload_n 3), (5, 1, 6, .aload_n 0), (6, 3, 9, .getfield 9), (9, 1, 10, .iconst 5), (10, 1, 11, .iaload), (11, 3, 14, .if_icmp .ge 37), (14, 1, 15, .aload_n 0), (15, 1, 16, .iload_n 3), (16, 3, 19, .invokevirtual 105), (19, 1, 20, .aload_n 0), (20, 1, 21, .iload_n 1), (21, 1, 22, .iconst 0), (22, 3, 25, .invokevirtual 94), (25, 3, 28, .if_icmp .ne 15), (28, 1, 29, .iload_n 2), (29, 1, 30, .aload_n 0), (30, 1, 31, .iload_n 3), (31, 3, 34, .invokevirtual 289), (34, 3, 37, .invokestatic 266), (37, 3, 40, .goto 4), (40, 1, 41, .iload_n 2), (41, 1, 42, .istore_n 2), (42, 3, 45, .iinc 3 1), (45, 3, 48, .goto (-41)), (48, 1, 49, .iload_n 2), (49, 1, 50, .ireturn)]
set_option maxRecDepth 100000 in
theorem tk_X12_needOf (k : Nat) {pc n pc2 : Nat} {i : Instr} (hk : tb_X12_needOf[k]? = some (pc, n, pc2, i)) : on_dq cX12_needOf pc n pc2 i := on_ta (by decide +kernel) k hk
theorem ms_X12_needOf : on_Mv yX12_needOf cX12_needOf 4 (some .int) 1 := ⟨kw_7_191, kw_7_190, (on_mp (q := (yX12_needOf, 37)) (by decide +kernel)), kw_1_13, by decide, by decide, by decide +kernel⟩
def pf_X12_needOf_4 : Nat → Int → Int → Int → on_S → Option on_O
  | 0, _, _, _, _ => none
  | nf + 1, l1, l2, l3, σ =>
    on_Rd σ 78 687 5 fun v1 =>
    on_Lt l3 v1 (
      on_Cl (pf_X12_windowOf l3 σ) fun v2 σ3 =>
      on_Cl (pf_X12_ofNet l1 0 σ3) fun v4 σ5 =>
      on_Eq v2 v4 (
        on_Cl (pf_X12_forceOf l3 σ5) fun v6 σ7 =>
        on_Mx l2 v6 fun v8 =>
        pf_X12_needOf_4 nf l1 v8 (l3 + 1) σ7) (
        pf_X12_needOf_4 nf l1 l2 (l3 + 1) σ5)) (
      some (l2, σ))
def pf_X12_needOf (p0 : Int) (σ : on_S) : Option on_O :=
  pf_X12_needOf_4 on_N p0 0 0 σ
set_option maxRecDepth 100000 in
set_option maxHeartbeats 4000000 in
theorem gl_X12_needOf_4 {E : on_E} {z n : Nat} (X : on_X) (hN : 100 ≤ n) : ∀ (nf : Nat) (l1 : Int) (l2 : Int) (l3 : Int) (σ : on_S), on_G X E cX12_needOf RX12 (some .int) 2 42 4 z n σ (pf_X12_needOf_4 nf l1 l2 l3 σ) 4 [some (.ref (z + 77)), some (.int (on_i l1)), some (.int (on_i l2)), some (.int (on_i l3))] [] := by
  intro nf
  induction nf with
  | zero => intro l1 l2 l3 σ; exact on_none
  | succ nf ih =>
    intro l1 l2 l3 σ
    rw [pf_X12_needOf_4]
    refine on_il3 (tk_X12_needOf 4 rfl) ?_
    refine on_al0 (tk_X12_needOf 5 rfl) ?_
    refine fg_12_1 hN kw_6_141 (tk_X12_needOf 6 rfl) ?_
    refine on_iconst (tk_X12_needOf 7 rfl) ?_
    refine on_iald (ltc_78 hN) sh_78 (tk_X12_needOf 8 rfl) fun v1 => ?_
    refine on_icmp_ge (tk_X12_needOf 9 rfl) (tgt := 48) (by decide) ?_ ?_
    · refine on_al0 (tk_X12_needOf 10 rfl) ?_
      refine on_il3 (tk_X12_needOf 11 rfl) ?_
      refine on_cV1i 12 ms_X12_windowOf kw_7_192 rfl rfl (ltc_77 hN) sh_77 (ct_X12_windowOf hN) rfl (tk_X12_needOf 12 rfl) fun v2 σ3 => ?_
      refine on_al0 (tk_X12_needOf 13 rfl) ?_
      refine on_il1 (tk_X12_needOf 14 rfl) ?_
      refine on_iconst (tk_X12_needOf 15 rfl) ?_
      refine on_cV2i 12 ms_X12_ofNet kw_7_162 rfl rfl (ltc_77 hN) sh_77 (ct_X12_ofNet hN) rfl (tk_X12_needOf 16 rfl) fun v4 σ5 => ?_
      refine on_icmp_ne (tk_X12_needOf 17 rfl) (tgt := 40) (by decide) ?_ ?_
      · refine on_il2 (tk_X12_needOf 18 rfl) ?_
        refine on_al0 (tk_X12_needOf 19 rfl) ?_
        refine on_il3 (tk_X12_needOf 20 rfl) ?_
        refine on_cV1i 12 ms_X12_forceOf kw_7_196 rfl rfl (ltc_77 hN) sh_77 (ct_X12_forceOf hN) rfl (tk_X12_needOf 21 rfl) fun v6 σ7 => ?_
        refine on_max kw_7_204 kwM_max_s kwM_i kwM_max_c rfl (tk_X12_needOf 22 rfl) fun v8 => ?_
        refine on_goto (tk_X12_needOf 23 rfl) (tgt := 41) (by decide) ?_
        refine on_is2 rfl (tk_X12_needOf 25 rfl) ?_
        refine on_inc3 rfl (tk_X12_needOf 26 rfl) ?_
        refine on_goto (tk_X12_needOf 27 rfl) (tgt := 4) (by decide) ?_
        exact ih _ _ _ _
      · refine on_il2 (tk_X12_needOf 24 rfl) ?_
        refine on_is2 rfl (tk_X12_needOf 25 rfl) ?_
        refine on_inc3 rfl (tk_X12_needOf 26 rfl) ?_
        refine on_goto (tk_X12_needOf 27 rfl) (tgt := 4) (by decide) ?_
        exact ih _ _ _ _
    · refine on_il2 (tk_X12_needOf 28 rfl) ?_
      exact on_iret (tk_X12_needOf 29 rfl)
set_option maxRecDepth 100000 in
set_option maxHeartbeats 4000000 in
theorem ct_X12_needOf {E : on_E} {z n : Nat} {p0 : Int} (hN : 100 ≤ n) {σ : on_S} : on_Sp E yX12_needOf cX12_needOf 4 (some .int) 2 42 z n [.ref (z + 77), .int (on_i p0)] σ (pf_X12_needOf p0 σ) := by
  refine on_met [some (.ref (z + 77)), some (.int (on_i p0)), none, none] (by decide) rfl rfl (fun X => ?_)
  rw [pf_X12_needOf]
  refine on_iconst (tk_X12_needOf 0 rfl) ?_
  refine on_is2 rfl (tk_X12_needOf 1 rfl) ?_
  refine on_iconst (tk_X12_needOf 2 rfl) ?_
  refine on_is3 rfl (tk_X12_needOf 3 rfl) ?_
  exact gl_X12_needOf_4 X  hN on_N _ _ _ _
def tb_X12_window : List (Nat × Nat × Nat × Instr) := [(0, 1, 1, .aload_n 0), (1, 1, 2, .iload_n 1), (2, 3, 5, .invokevirtual 292), (5, 3, 8, .ifCond .eq 15), (8, 1, 9, .iload_n 2), (9, 1, 10, .i2l), (10, 1, 11, .lconst 0), (11, 3, 14, .ldc2_w 86), (14, 3, 17, .invokestatic 88), (17, 3, 20, .ifCond .ne 6), (20, 2, 22, .bipush (-2)), (22, 1, 23, .ireturn), (23, 1, 24, .iload_n 2), (24, 3, 27, .ifCond .ne 11), (27, 1, 28, .aload_n 0), (28, 1, 29, .iload_n 1), (29, 3, 32, .invokevirtual 253), (32, 3, 35, .goto 21), (35, 1, 36, .iload_n 2), (36, 1, 37, .iconst 1), (37, 3, 40, .if_icmp .ne 11), (40, 1, 41, .aload_n 0), (41, 1, 42, .iload_n 1), (42, 3, 45, .invokevirtual 108), (45, 3, 48, .goto 8), (48, 1, 49, .aload_n 0), (49, 1, 50, .iload_n 1), (50, 3, 53, .invokevirtual 295), (53, 1, 54, .ireturn)]
set_option maxRecDepth 100000 in
theorem tk_X12_window (k : Nat) {pc n pc2 : Nat} {i : Instr} (hk : tb_X12_window[k]? = some (pc, n, pc2, i)) : on_dq cX12_window pc n pc2 i := on_ta (by decide +kernel) k hk
theorem ms_X12_window : on_Mv yX12_window cX12_window 3 (some .int) 2 := ⟨kw_7_145, kw_7_143, kw_7_144, kw_1_13, by decide, by decide, by decide +kernel⟩
def pf_X12_window (p0 : Int) (p1 : Int) (σ : on_S) : Option on_O :=
  on_Cl (pf_X12_isWindow p0 σ) fun v1 σ2 =>
  on_Eq v1 0 (
    some ((-2), σ2)) (
    on_Ck p1 <|
    on_Cl (pf_X12_in p1 0 2 σ2) fun v3 σ4 =>
    on_Eq v3 0 (
      some ((-2), σ4)) (
      on_Eq p1 0 (
        on_Cl (pf_X12_houseOf p0 σ4) fun v5 σ6 =>
        some (v5, σ6)) (
        on_Eq p1 1 (
          on_Cl (pf_X12_storeyOf p0 σ4) fun v7 σ8 =>
          some (v7, σ8)) (
          on_Cl (pf_X12_netAt p0 σ4) fun v9 σ10 =>
          some (v9, σ10)))))
set_option maxRecDepth 100000 in
set_option maxHeartbeats 4000000 in
theorem ct_X12_window {E : on_E} {z n : Nat} {p0 : Int} {p1 : Int} (hN : 100 ≤ n) {σ : on_S} : on_Sp E yX12_window cX12_window 3 (some .int) 2 46 z n [.ref (z + 77), .int (on_i p0), .int (on_i p1)] σ (pf_X12_window p0 p1 σ) := by
  refine on_met [some (.ref (z + 77)), some (.int (on_i p0)), some (.int (on_i p1))] (by decide) rfl rfl (fun X => ?_)
  rw [pf_X12_window]
  refine on_al0 (tk_X12_window 0 rfl) ?_
  refine on_il1 (tk_X12_window 1 rfl) ?_
  refine on_cV1z 12 ms_X12_isWindow kw_7_146 rfl rfl (ltc_77 hN) sh_77 (ct_X12_isWindow hN) rfl (tk_X12_window 2 rfl) fun v1 σ2 => ?_
  refine on_if_eq (tk_X12_window 3 rfl) (tgt := 20) (by decide) ?_ ?_
  · refine on_il2 (tk_X12_window 4 rfl) ?_
    refine on_xi2l (tk_X12_window 5 rfl) ?_
    refine on_lconst0 (tk_X12_window 6 rfl) ?_
    refine on_ldc2 (a := 2) kw_7_17 (by decide +kernel) (tk_X12_window 7 rfl) ?_
    refine on_cS3z ms_X12_in kw_7_18 (ct_X12_in hN) rfl (tk_X12_window 8 rfl) fun v3 σ4 => ?_
    refine on_if_ne (tk_X12_window 9 rfl) (tgt := 23) (by decide) ?_ ?_
    · refine on_bipush (tk_X12_window 10 rfl) bp_m2 ?_
      exact on_iret (tk_X12_window 11 rfl)
    · refine on_il2 (tk_X12_window 12 rfl) ?_
      refine on_if_ne (tk_X12_window 13 rfl) (tgt := 35) (by decide) ?_ ?_
      · refine on_al0 (tk_X12_window 14 rfl) ?_
        refine on_il1 (tk_X12_window 15 rfl) ?_
        refine on_cV1i 12 ms_X12_houseOf kw_7_150 rfl rfl (ltc_77 hN) sh_77 (ct_X12_houseOf hN) rfl (tk_X12_window 16 rfl) fun v5 σ6 => ?_
        refine on_goto (tk_X12_window 17 rfl) (tgt := 53) (by decide) ?_
        exact on_iret (tk_X12_window 28 rfl)
      · refine on_il2 (tk_X12_window 18 rfl) ?_
        refine on_iconst (tk_X12_window 19 rfl) ?_
        refine on_icmp_ne (tk_X12_window 20 rfl) (tgt := 48) (by decide) ?_ ?_
        · refine on_al0 (tk_X12_window 21 rfl) ?_
          refine on_il1 (tk_X12_window 22 rfl) ?_
          refine on_cV1i 12 ms_X12_storeyOf kw_7_154 rfl rfl (ltc_77 hN) sh_77 (ct_X12_storeyOf hN) rfl (tk_X12_window 23 rfl) fun v7 σ8 => ?_
          refine on_goto (tk_X12_window 24 rfl) (tgt := 53) (by decide) ?_
          exact on_iret (tk_X12_window 28 rfl)
        · refine on_al0 (tk_X12_window 25 rfl) ?_
          refine on_il1 (tk_X12_window 26 rfl) ?_
          refine on_cV1i 12 ms_X12_netAt kw_7_158 rfl rfl (ltc_77 hN) sh_77 (ct_X12_netAt hN) rfl (tk_X12_window 27 rfl) fun v9 σ10 => ?_
          exact on_iret (tk_X12_window 28 rfl)
  · refine on_bipush (tk_X12_window 10 rfl) bp_m2 ?_
    exact on_iret (tk_X12_window 11 rfl)
def tb_X12_man : List (Nat × Nat × Nat × Instr) := [(0, 1, 1, .aload_n 0), (1, 1, 2, .iload_n 1), (2, 3, 5, .invokevirtual 298), (5, 3, 8, .ifCond .eq 24), (8, 1, 9, .iload_n 2), (9, 1, 10, .i2l), (10, 1, 11, .lconst 0), (11, 3, 14, .ldc2_w 92), (14, 3, 17, .invokestatic 88), (17, 3, 20, .ifCond .eq 12), (20, 1, 21, .aload_n 0), (21, 1, 22, .iload_n 1), (22, 1, 23, .iload_n 2), (23, 3, 26, .invokevirtual 98), (26, 3, 29, .goto 5), (29, 2, 31, .bipush (-2)), (31, 1, 32, .ireturn)]
set_option maxRecDepth 100000 in
theorem tk_X12_man (k : Nat) {pc n pc2 : Nat} {i : Instr} (hk : tb_X12_man[k]? = some (pc, n, pc2, i)) : on_dq cX12_man pc n pc2 i := on_ta (by decide +kernel) k hk
theorem ms_X12_man : on_Mv yX12_man cX12_man 3 (some .int) 2 := ⟨kw_7_169, kw_7_167, kw_7_168, kw_1_13, by decide, by decide, by decide +kernel⟩
def pf_X12_man_29 (σ : on_S) : Option on_O :=
  some ((-2), σ)
def pf_X12_man (p0 : Int) (p1 : Int) (σ : on_S) : Option on_O :=
  on_Cl (pf_X12_isMan p0 σ) fun v1 σ2 =>
  on_Eq v1 0 (
    pf_X12_man_29 σ2) (
    on_Ck p1 <|
    on_Cl (pf_X12_in p1 0 3 σ2) fun v3 σ4 =>
    on_Eq v3 0 (
      pf_X12_man_29 σ4) (
      on_Cl (pf_X12_ofMan p0 p1 σ4) fun v5 σ6 =>
      some (v5, σ6)))
set_option maxRecDepth 100000 in
set_option maxHeartbeats 4000000 in
theorem gb_X12_man_29 {E : on_E} {z n : Nat} (X : on_X) (hN : 100 ≤ n) (σ : on_S) : on_G X E cX12_man RX12 (some .int) 2 46 3 z n σ (pf_X12_man_29  σ) 29 [none, none, none] [] := by
  rw [pf_X12_man_29]
  refine on_bipush (tk_X12_man 15 rfl) bp_m2 ?_
  exact on_iret (tk_X12_man 16 rfl)
set_option maxRecDepth 100000 in
set_option maxHeartbeats 4000000 in
theorem ct_X12_man {E : on_E} {z n : Nat} {p0 : Int} {p1 : Int} (hN : 100 ≤ n) {σ : on_S} : on_Sp E yX12_man cX12_man 3 (some .int) 2 46 z n [.ref (z + 77), .int (on_i p0), .int (on_i p1)] σ (pf_X12_man p0 p1 σ) := by
  refine on_met [some (.ref (z + 77)), some (.int (on_i p0)), some (.int (on_i p1))] (by decide) rfl rfl (fun X => ?_)
  rw [pf_X12_man]
  refine on_al0 (tk_X12_man 0 rfl) ?_
  refine on_il1 (tk_X12_man 1 rfl) ?_
  refine on_cV1z 12 ms_X12_isMan kw_7_170 rfl rfl (ltc_77 hN) sh_77 (ct_X12_isMan hN) rfl (tk_X12_man 2 rfl) fun v1 σ2 => ?_
  refine on_if_eq (tk_X12_man 3 rfl) (tgt := 29) (by decide) ?_ ?_
  · refine on_il2 (tk_X12_man 4 rfl) ?_
    refine on_xi2l (tk_X12_man 5 rfl) ?_
    refine on_lconst0 (tk_X12_man 6 rfl) ?_
    refine on_ldc2 (a := 3) kw_7_174 (by decide +kernel) (tk_X12_man 7 rfl) ?_
    refine on_cS3z ms_X12_in kw_7_18 (ct_X12_in hN) rfl (tk_X12_man 8 rfl) fun v3 σ4 => ?_
    refine on_if_eq (tk_X12_man 9 rfl) (tgt := 29) (by decide) ?_ ?_
    · refine on_al0 (tk_X12_man 10 rfl) ?_
      refine on_il1 (tk_X12_man 11 rfl) ?_
      refine on_il2 (tk_X12_man 12 rfl) ?_
      refine on_cV2i 12 ms_X12_ofMan kw_7_175 rfl rfl (ltc_77 hN) sh_77 (ct_X12_ofMan hN) rfl (tk_X12_man 13 rfl) fun v5 σ6 => ?_
      refine on_goto (tk_X12_man 14 rfl) (tgt := 31) (by decide) ?_
      exact on_iret (tk_X12_man 16 rfl)
    · refine on_dr0 ?_
      refine on_dr1 ?_
      refine on_dr2 ?_
      exact gb_X12_man_29 X  hN _
  · refine on_dr0 ?_
    refine on_dr1 ?_
    refine on_dr2 ?_
    exact gb_X12_man_29 X  hN _
def tb_X12_net : List (Nat × Nat × Nat × Instr) := [(0, 1, 1, .aload_n 0), (1, 1, 2, .iload_n 1), (2, 1, 3, .i2l), (3, 3, 6, .invokevirtual 301), (6, 3, 9, .ifCond .eq 15), (9, 1, 10, .iload_n 2), (10, 1, 11, .i2l), (11, 1, 12, .lconst 0), (12, 3, 15, .ldc2_w 305), (15, 3, 18, .invokestatic 88), (18, 3, 21, .ifCond .ne 6), (21, 2, 23, .bipush (-2)), (23, 1, 24, .ireturn), (24, 1, 25, .iload_n 2), (25, 1, 26, .iconst 3), (26, 3, 29, .if_icmp .ge 12), (29, 1, 30, .aload_n 0), (30, 1, 31, .iload_n 1), (31, 1, 32, .iload_n 2), (32, 3, 35, .invokevirtual 94), (35, 3, 38, .goto 21), (38, 1, 39, .iload_n 2), (39, 1, 40, .iconst 3), (40, 3, 43, .if_icmp .ne 11), (43, 1, 44, .aload_n 0), (44, 1, 45, .iload_n 1), (45, 3, 48, .invokevirtual 307), (48, 3, 51, .goto 8), (51, 1, 52, .aload_n 0), (52, 1, 53, .iload_n 1), (53, 3, 56, .invokevirtual 286), (56, 1, 57, .ireturn)]
set_option maxRecDepth 100000 in
theorem tk_X12_net (k : Nat) {pc n pc2 : Nat} {i : Instr} (hk : tb_X12_net[k]? = some (pc, n, pc2, i)) : on_dq cX12_net pc n pc2 i := on_ta (by decide +kernel) k hk
theorem ms_X12_net : on_Mv yX12_net cX12_net 3 (some .int) 2 := ⟨kw_7_182, kw_7_180, kw_7_181, kw_1_13, by decide, by decide, by decide +kernel⟩
def pf_X12_net (p0 : Int) (p1 : Int) (σ : on_S) : Option on_O :=
  on_Ck p0 <|
  on_Cl (pf_X12_isNet p0 σ) fun v1 σ2 =>
  on_Eq v1 0 (
    some ((-2), σ2)) (
    on_Ck p1 <|
    on_Cl (pf_X12_in p1 0 4 σ2) fun v3 σ4 =>
    on_Eq v3 0 (
      some ((-2), σ4)) (
      on_Lt p1 3 (
        on_Cl (pf_X12_ofNet p0 p1 σ4) fun v5 σ6 =>
        some (v5, σ6)) (
        on_Eq p1 3 (
          on_Cl (pf_X12_needOf p0 σ4) fun v7 σ8 =>
          some (v7, σ8)) (
          on_Cl (pf_X12_carries p0 σ4) fun v9 σ10 =>
          some (v9, σ10)))))
set_option maxRecDepth 100000 in
set_option maxHeartbeats 4000000 in
theorem ct_X12_net {E : on_E} {z n : Nat} {p0 : Int} {p1 : Int} (hN : 100 ≤ n) {σ : on_S} : on_Sp E yX12_net cX12_net 3 (some .int) 6 142 z n [.ref (z + 77), .int (on_i p0), .int (on_i p1)] σ (pf_X12_net p0 p1 σ) := by
  refine on_met [some (.ref (z + 77)), some (.int (on_i p0)), some (.int (on_i p1))] (by decide) rfl rfl (fun X => ?_)
  rw [pf_X12_net]
  refine on_al0 (tk_X12_net 0 rfl) ?_
  refine on_il1 (tk_X12_net 1 rfl) ?_
  refine on_xi2l (tk_X12_net 2 rfl) ?_
  refine on_cV1z 12 ms_X12_isNet kw_7_183 rfl rfl (ltc_77 hN) sh_77 (ct_X12_isNet hN) rfl (tk_X12_net 3 rfl) fun v1 σ2 => ?_
  refine on_if_eq (tk_X12_net 4 rfl) (tgt := 21) (by decide) ?_ ?_
  · refine on_il2 (tk_X12_net 5 rfl) ?_
    refine on_xi2l (tk_X12_net 6 rfl) ?_
    refine on_lconst0 (tk_X12_net 7 rfl) ?_
    refine on_ldc2 (a := 4) kw_7_187 (by decide +kernel) (tk_X12_net 8 rfl) ?_
    refine on_cS3z ms_X12_in kw_7_18 (ct_X12_in hN) rfl (tk_X12_net 9 rfl) fun v3 σ4 => ?_
    refine on_if_ne (tk_X12_net 10 rfl) (tgt := 24) (by decide) ?_ ?_
    · refine on_bipush (tk_X12_net 11 rfl) bp_m2 ?_
      exact on_iret (tk_X12_net 12 rfl)
    · refine on_il2 (tk_X12_net 13 rfl) ?_
      refine on_iconst (tk_X12_net 14 rfl) ?_
      refine on_icmp_ge (tk_X12_net 15 rfl) (tgt := 38) (by decide) ?_ ?_
      · refine on_al0 (tk_X12_net 16 rfl) ?_
        refine on_il1 (tk_X12_net 17 rfl) ?_
        refine on_il2 (tk_X12_net 18 rfl) ?_
        refine on_cV2i 12 ms_X12_ofNet kw_7_162 rfl rfl (ltc_77 hN) sh_77 (ct_X12_ofNet hN) rfl (tk_X12_net 19 rfl) fun v5 σ6 => ?_
        refine on_goto (tk_X12_net 20 rfl) (tgt := 56) (by decide) ?_
        exact on_iret (tk_X12_net 31 rfl)
      · refine on_il2 (tk_X12_net 21 rfl) ?_
        refine on_iconst (tk_X12_net 22 rfl) ?_
        refine on_icmp_ne (tk_X12_net 23 rfl) (tgt := 51) (by decide) ?_ ?_
        · refine on_al0 (tk_X12_net 24 rfl) ?_
          refine on_il1 (tk_X12_net 25 rfl) ?_
          refine on_cV1i 12 ms_X12_needOf kw_7_188 rfl rfl (ltc_77 hN) sh_77 (ct_X12_needOf hN) rfl (tk_X12_net 26 rfl) fun v7 σ8 => ?_
          refine on_goto (tk_X12_net 27 rfl) (tgt := 56) (by decide) ?_
          exact on_iret (tk_X12_net 31 rfl)
        · refine on_al0 (tk_X12_net 28 rfl) ?_
          refine on_il1 (tk_X12_net 29 rfl) ?_
          refine on_cV1i 12 ms_X12_carries kw_7_205 rfl rfl (ltc_77 hN) sh_77 (ct_X12_carries hN) rfl (tk_X12_net 30 rfl) fun v9 σ10 => ?_
          exact on_iret (tk_X12_net 31 rfl)
  · refine on_bipush (tk_X12_net 11 rfl) bp_m2 ?_
    exact on_iret (tk_X12_net 12 rfl)
